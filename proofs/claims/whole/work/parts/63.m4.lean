/-! The model: counting in rectangles, near, strip. -/
theorem bitsM : ∀ n, n < 128 → sumI (fun k => ((nI n) >>> ((nI k) &&& 31)) &&& 1) 8 = nI (bc n) := by decide +kernel
section M4
variable {d : Nat} {σ : Mem} {Q : Option Value → Mem → Prop} {F : Fl} {S : Ab} {VA : Ar → Prop}
theorem m_bits {n : Nat} (hn : n < 128) (hq : Q (some (.int (nI (bc n)))) σ) : X none d mX8_bits 0 [.int (nI n), Unk, Unk] [] σ Q := by
  refine vX8_bits_0 ?_
  have key : ∀ m k, 8 = k + m → X none d mX8_bits 4 [.int (nI n), .int (sumI (fun k => ((nI n) >>> ((nI k) &&& 31)) &&& 1) k), .int (nI k)] [] σ Q := by
    intro m
    induction m with
    | zero =>
      intro k hk
      refine vX8_bits_4 ⟨fun _ => Qe hq ?_, fun c => absurd (show (8 : Int32) ≤ nI k from nI_le (a := 8) (by omega) (by omega)) c⟩
      rw [← bitsM n hn, show k = 8 by omega]
    | succ m ih =>
      intro k hk
      refine vX8_bits_4 ⟨fun c => absurd c (show ¬ (8 : Int32) ≤ nI k from nI_ge (b := 8) (by omega) (by decide)), fun _ => ?_⟩
      have := ih (k + 1) (by omega)
      rw [nI_1]
      exact this
  have := key 8 0 (by omega)
  rw [nI_0] at this
  exact this
/-- a sum over those of a rectangle -/
theorem sumX (f : Nat → Int32) (F : Fl) (a b c e : Int32) : sumL f (pkX F a b c e) = sumI (fun i => if pX F a b c e i = true then f i else 0) (fn F) := sumL_pik f _ _
theorem q_count (hva : ∀ A, VA A → WA A) (hC : MD σ S) (hw : WS VA S) {a b c e : Int32} (h : OutM σ Q (o_count S a b c e)) : X none (d + 3) mX8_count 0 [.ref 94, .int a, .int b, .int c, .int e, Unk, Unk] [] σ Q := by
  have hZ := MZ_iff.mp hC.1
  have hn := hw.1.n120
  have hg := hw.1.g60
  refine vX8_count_0 ⟨fun c1 => ?_, fun c1 => OutM.bad hva hw h hC (by rw [o_count, if_neg c1])⟩
  rw [o_count, if_pos c1] at h
  rw [hZ.1.1]
  refine m_bits (by omega) ⟨_, rfl, ?_⟩
  rw [hZ.1.2.1]
  refine m_bits (by omega) ⟨_, rfl, fun τ5 e5 => ?_⟩
  have s5 : Sm (fun i k => i = 94 ∧ k = 3) σ τ5 := by rw [e5]; exact Sm.rf.w1 ⟨rfl, rfl⟩
  have hC5 : MD τ5 (setE S (bE S + (nI (bc (fn (bF S))) + nI (bc (fg (bF S)))))) := by
    obtain ⟨h1, h2, h3, h4, ⟨h5, h6⟩, ⟨h7, h8⟩, h9, h10, h11, h12⟩ := hC
    have wa := hva _ hw.2.2.2.1
    have e1 : ∀ i k, i ≠ 94 ∨ k ≠ 3 → τ5.1 i k = σ.1 i k := fun i k q => (s5 i k (by omega)).1
    refine ⟨h1.sm hw.1 (fun k _ _ => e1 95 k (by omega)), MH.sm hw.2.1.2 h2 (e1 94 2 (by omega)) (fun k _ => e1 95 k (by omega)), fun i hi => ⟨?_, fun hk => ⟨?_, ?_⟩⟩, h4.sm ⟨wa.1, wa.2.1⟩ (fun k _ _ => e1 96 k (by omega)), ⟨?_, fun k hk => ?_⟩, ⟨?_, ?_⟩, ?_, ?_, ?_, ?_⟩
    · rw [e1 97 i (by omega)]; exact (h3 i hi).1
    · exact ((h3 i hi).2 hk).1.sm (hw.2.2.1 i hi hk).1 (fun k _ _ => e1 95 k (by omega))
    · have wi := hva _ (hw.2.2.1 i hi hk).2
      exact ((h3 i hi).2 hk).2.sm ⟨wi.1, wi.2.1⟩ (fun k _ _ => e1 96 k (by omega))
    · rw [e1 94 6 (by omega)]; exact h5
    · rw [e1 98 k (by omega)]; exact h6 k hk
    · rw [(s5 94 7 (by omega)).2]; exact h7
    · rw [(s5 94 8 (by omega)).2]; exact h8
    · rw [e5, w1_s, h9]; rfl
    · rw [e1 99 0 (by omega)]; exact h10
    · rw [e1 99 1 (by omega)]; exact h11
    · rw [e1 99 2 (by omega)]; exact h12
  have hQ := h τ5 hC5 (s5.mono (fun i k q => by unfold SM94; omega))
  have hZ5 := MZ_iff.mp hC5.1
  have hZ5' : MZ τ5 (bF S) := hZ5
  have key : ∀ m k, fn (bF S) = k + m → X none (d + 3) mX8_count 50 [.ref 94, .int a, .int b, .int c, .int e, .int (sumI (fun i => if pX (bF S) a b c e i = true then wor (bF S) i else 0) k), .int (nI k)] [] τ5 Q := by
    intro m
    induction m with
    | zero =>
      intro k hk
      refine vX8_count_50 ⟨fun _ => Qe hQ ?_, fun c => absurd (by rw [hZ5'.1.1]; exact nI_le (by omega) (by omega)) c⟩
      show sumL _ _ = _
      rw [sumX, show fn (bF S) = k by omega]
    | succ m ih =>
      intro k hk
      have hlt : k < fn (bF S) := by omega
      obtain ⟨a1, a2, a3, a4, a5⟩ := hZ5'.2.1 k hlt
      have hi := ih (k + 1) (by omega)
      simp only [sumI] at hi
      refine vX8_count_50 ?_
      rw [k494, nI_clamp (n := 494 + k) (by omega), a5, gz, nI_1]
      refine ⟨fun c => absurd c (by rw [hZ5'.1.1]; exact nI_ge hlt (by omega)), fun _ => ⟨vin (by omega) (by decide), fun c2 => ?_, fun c2 => ?_⟩⟩
      · rw [if_neg (by simp [pX, thr, c2])] at hi
        exact hi
      · refine m_isIn (by omega) hZ5' hlt ⟨_, rfl, fun c3 => ?_, fun c3 => ?_⟩
        · rw [if_neg (by simp [pX, b01_z c3])] at hi
          exact hi
        · rw [if_pos (by simp [pX, thr, c2, b01_o c3])] at hi
          exact m_counts (by omega) hZ5' hlt ⟨_, rfl, hi⟩
  have := key (fn (bF S)) 0 (by omega)
  rw [nI_0] at this
  exact this
theorem m_manyIn (hn : fn F ≤ 121) (hM : MZ σ F) {a b c e : Int32} (hq : Q (some (.int (nI (cnt (pX F a b c e) (fn F))))) σ) : X none (d + 2) mX8_manyIn 0 [.ref 94, .int a, .int b, .int c, .int e, Unk, Unk] [] σ Q := by
  refine vX8_manyIn_0 ?_
  have key : ∀ m k, fn F = k + m → X none (d + 2) mX8_manyIn 6 [.ref 94, .int a, .int b, .int c, .int e, .int (nI (cnt (pX F a b c e) k)), .int (nI k)] [] σ Q := by
    intro m
    induction m with
    | zero =>
      intro k hk
      refine vX8_manyIn_6 ⟨fun _ => Qe hq ?_, fun c => absurd (by rw [hM.1.1]; exact nI_le (by omega) (by omega)) c⟩
      rw [show fn F = k by omega]
    | succ m ih =>
      intro k hk
      have hlt : k < fn F := by omega
      obtain ⟨a1, a2, a3, a4, a5⟩ := hM.2.1 k hlt
      have hi := ih (k + 1) (by omega)
      simp only [cnt] at hi
      refine vX8_manyIn_6 ?_
      rw [k494, nI_clamp (n := 494 + k) (by omega), a5, gz, nI_1, nI_1, Int32.add_zero]
      refine ⟨fun c => absurd c (by rw [hM.1.1]; exact nI_ge hlt (by omega)), fun _ => ⟨vin (by omega) (by decide), fun c2 => ?_, fun c2 => ?_⟩⟩
      · rw [if_neg (by simp [pX, thr, c2])] at hi
        exact hi
      · refine m_isIn hn hM hlt ⟨_, rfl, fun c3 => ?_, fun c3 => ?_⟩
        · rw [if_neg (by simp [pX, b01_z c3])] at hi
          exact hi
        · rw [if_pos (by simp [pX, thr, c2, b01_o c3])] at hi
          exact hi
  have := key (fn F) 0 (by omega)
  simp only [cnt, nI_0] at this
  exact this
theorem q_many (hva : ∀ A, VA A → WA A) (hC : MD σ S) (hw : WS VA S) {a b c e : Int32} (h : OutM σ Q (o_many S a b c e)) : X none (d + 3) mX8_many 0 [.ref 94, .int a, .int b, .int c, .int e] [] σ Q := by
  have hZ := MZ_iff.mp hC.1
  have hn := hw.1.n120
  refine vX8_many_0 ⟨fun c1 => OutM.bad hva hw h hC (by rw [o_many, if_neg c1]), fun c1 => ?_⟩
  rw [o_many, if_pos c1, pkX, pik_len] at h
  exact m_manyIn (by omega) hZ ⟨_, rfl, h σ hC Sm.rf⟩
theorem q_below (hva : ∀ A, VA A → WA A) (hC : MD σ S) (hw : WS VA S) {x y : Int32} (h : OutM σ Q (o_below S x y)) : X none (d + 3) mX8_below 0 [.ref 94, .int x, .int y] [] σ Q := by
  have hZ := MZ_iff.mp hC.1
  have hn := hw.1.n120
  refine vX8_below_0 ⟨fun c1 => OutM.bad hva hw h hC (by rw [o_below, if_neg (fun q => c1 q.1)]), fun c1 => ⟨fun c2 => OutM.bad hva hw h hC (by rw [o_below, if_neg (fun q => c2 q.2)]), fun c2 => ?_⟩⟩
  rw [o_below, if_pos ⟨c1, c2⟩, pkX, pik_len] at h
  exact m_manyIn (by omega) hZ ⟨_, rfl, h σ hC Sm.rf⟩
/-- the k-th of the line -/
theorem m_kthL {τ : Mem} (hn : fn F ≤ 121) (hM : MZ τ F) {l : List Nat} (hl : l.length ≤ 60) (hm : ∀ e ∈ l, e < fn F) (hp : LN τ l) {k : Int32} (hk : 0 ≤ k) (hQ : Q (some (.int (nthO (l.map (fnum F)) k))) τ) :
    (τ.1 94 12 ≤ k → Q (some (.int (-2000000001))) τ) ∧ (¬ τ.1 94 12 ≤ k → (vp_in k 60 ∧ (vp_in (6 + τ.1 100 k.toNatClampNeg) 7458 ∧ Q (some (.int (τ.1 95 (6 + τ.1 100 k.toNatClampNeg).toNatClampNeg))) τ))) := by
  rw [hp.1]
  have hk0 : ¬ k < 0 := Int32.not_lt.mpr hk
  rcases pk_ix k (show l.length < 2 ^ 31 by omega) with c1 | c1 | ⟨j, hj, rfl⟩
  · exact absurd c1 hk0
  · refine ⟨fun _ => Qe hQ ?_, fun c2 => absurd c1 c2⟩
    have h0 : l.length ≤ k.toNatClampNeg := by
      obtain ⟨j, hj, rfl⟩ := nI_of hk0
      rw [nI_clamp hj]
      exact (nI_leI (by omega) hj).mp c1
    simp only [nthO, List.length_map]
    rw [if_neg hk0, if_neg (by omega)]
  · have hcl : (nI j).toNatClampNeg = j := nI_clamp (by omega)
    have he := hm _ (getD_mem hj)
    refine ⟨fun c2 => absurd c2 (nI_ge hj (by omega)), fun _ => ⟨vin (by omega) (by decide), ?_⟩⟩
    rw [hcl, hp.2 j hj, k6, nI_clamp (n := 6 + l.getD j 0) (by omega), (hM.2.1 _ he).1]
    refine ⟨vin (by omega) (by decide), Qe hQ ?_⟩
    simp only [nthO, List.length_map, hcl]
    rw [if_neg hk0, if_pos hj]
    simp [List.getD_eq_getElem?_getD, List.getElem?_map, List.getElem?_eq_getElem hj]
theorem q_kth (hva : ∀ A, VA A → WA A) (hC : MD σ S) (hw : WS VA S) {a b c e k : Int32} (h : OutM σ Q (o_kth S a b c e k)) : X none (d + 3) mX8_kth 0 [.ref 94, .int a, .int b, .int c, .int e, .int k] [] σ Q := by
  have hZ := MZ_iff.mp hC.1
  have hn := hw.1.n120
  refine vX8_kth_0 ⟨fun c1 => OutM.bad hva hw h hC (by rw [o_kth, if_neg (fun q => c1 q.1)]), fun c1 => ⟨fun c2 => ?_, fun c2 => OutM.bad hva hw h hC (by rw [o_kth, if_neg (fun q => c2 q.2)])⟩⟩
  rw [o_kth, if_pos ⟨c1, c2⟩] at h
  refine m_lines hw.1 hZ (fun τ hp hs => ⟨rfl, ?_⟩)
  have hh := MD.ln hva hw hC hs
  have hl : (srX (bF S) a b c e).length ≤ 60 := by
    rw [srX, srt_len]
    exact pkX_60 hw.1
  exact m_kthL (l := srX (bF S) a b c e) (by omega) (MZ_iff.mp hh.1.1) hl (fun e he => pikm e ((srt_mem _ _ _).mp he)) hp c2 (h τ hh.1 hh.2)
theorem q_half (hva : ∀ A, VA A → WA A) (hC : MD σ S) (hw : WS VA S) {a b c e : Int32} (h : OutM σ Q (o_half S a b c e)) : X none (d + 3) mX8_half 0 [.ref 94, .int a, .int b, .int c, .int e] [] σ Q := by
  have hZ := MZ_iff.mp hC.1
  have hn := hw.1.n120
  refine vX8_half_0 ⟨fun c1 => ?_, fun c1 => OutM.bad hva hw h hC (by rw [o_half, if_neg c1])⟩
  rw [o_half, if_pos c1] at h
  refine m_lines hw.1 hZ (fun τ hp hs => ⟨rfl, ?_⟩)
  have hh := MD.ln hva hw hC hs
  have hZ2 := MZ_iff.mp hh.1.1
  have hQ : Q (some (.int (halfV (bF S) (srX (bF S) a b c e)))) τ := h τ hh.1 hh.2
  have hl : (srX (bF S) a b c e).length ≤ 60 := by rw [srX, srt_len]; exact pkX_60 hw.1
  have hm : ∀ z ∈ srX (bF S) a b c e, z < fn (bF S) := fun z hz => pikm z ((srt_mem _ _ _).mp hz)
  generalize srX (bF S) a b c e = l at hp hQ hl hm
  rw [hp.1, nI_z (by omega)]
  refine ⟨fun c2 => ?_, fun c2 => Qe hQ ?_⟩
  · have hk : (l.length + 1) / 2 - 1 < l.length := by omega
    have e1 : (nI l.length + 1) / 2 - 1 = nI ((l.length + 1) / 2 - 1) := by
      rw [nI_1, show (2 : Int32) = nI 2 from rfl, pk_div (by omega) (by decide) (by decide), show (l.length + 1) / 2 = ((l.length + 1) / 2 - 1) + 1 by omega, nI_pred]
      rfl
    have he := hm _ (getD_mem hk)
    rw [e1, nI_clamp (n := (l.length + 1) / 2 - 1) (by omega), hp.2 _ hk, k128, nI_clamp (n := 128 + l.getD ((l.length + 1) / 2 - 1) 0) (by omega), (hZ2.2.1 _ he).2.1]
    refine ⟨vin (by omega) (by decide), vin (by omega) (by decide), Qe hQ ?_⟩
    rw [halfV, if_neg (by omega)]
  · rw [halfV, if_pos (by omega)]
theorem maxI_le {a b : Int32} (h : a ≤ b) : maxI a b = b := by
  unfold maxI
  split
  · rfl
  · rename_i q
    exact Int32.le_antisymm h (Int32.not_lt.mp q)
theorem maxI_gt {a b : Int32} (h : ¬ a ≤ b) : maxI a b = a := by
  unfold maxI
  rw [if_neg (fun q => h (Int32.le_of_lt q))]
theorem m_apart (hn : fn F ≤ 121) (hM : MZ σ F) {e : Nat} (he : e < fn F) {x y : Int32} (hq : Q (some (.int (dst F e x y))) σ) : X none (d + 1) mX8_apart 0 [.ref 94, .int (nI e), .int x, .int y, Unk, Unk] [] σ Q := by
  obtain ⟨a1, a2, a3, a4, a5⟩ := hM.2.1 e he
  refine vX8_apart_0 ?_
  rw [k128, k250, nI_clamp (n := 128 + e) (by omega), nI_clamp (n := 250 + e) (by omega), a2, a3]
  have v1 : vp_in (nI (128 + e)) 7458 := vin (by omega) (by decide)
  have v2 : vp_in (nI (250 + e)) 7458 := vin (by omega) (by decide)
  refine ⟨v1, fun c => ⟨v2, fun c1 => ⟨fun c2 => Qe hq ?_, fun c2 => Qe hq ?_⟩, fun c1 => ⟨fun c2 => Qe hq ?_, fun c2 => Qe hq ?_⟩⟩, fun c => ⟨v2, fun c1 => ⟨fun c2 => Qe hq ?_, fun c2 => Qe hq ?_⟩, fun c1 => ⟨fun c2 => Qe hq ?_, fun c2 => Qe hq ?_⟩⟩⟩
  · rw [dst, absI, if_pos c, absI, if_pos c1, maxI_le c2]
  · rw [dst, absI, if_pos c, absI, if_pos c1, maxI_gt c2]
  · rw [dst, absI, if_pos c, absI, if_neg c1, Int32.zero_sub, maxI_le c2]
  · rw [dst, absI, if_pos c, absI, if_neg c1, Int32.zero_sub, maxI_gt c2]
  · rw [dst, absI, if_neg c, Int32.zero_sub, absI, if_pos c1, maxI_le c2]
  · rw [dst, absI, if_neg c, Int32.zero_sub, absI, if_pos c1, maxI_gt c2]
  · rw [dst, absI, if_neg c, Int32.zero_sub, absI, if_neg c1, Int32.zero_sub, maxI_le c2]
  · rw [dst, absI, if_neg c, Int32.zero_sub, absI, if_neg c1, Int32.zero_sub, maxI_gt c2]
theorem absI_I {a : Int32} (h1 : -2147483648 < a.toInt) : (absI a).toInt = if 0 ≤ a.toInt then a.toInt else -a.toInt := by
  unfold absI
  by_cases h : 0 ≤ a
  · have h2 := le_I.mp h
    rw [z_I] at h2
    rw [if_pos h, if_pos h2]
  · have h2 : ¬ 0 ≤ a.toInt := fun q => h (le_I.mpr (by rw [z_I]; exact q))
    rw [if_neg h, if_neg h2, Int32.zero_sub, neg_toI h1]
theorem maxI_I {a b : Int32} : (maxI a b).toInt = if a.toInt < b.toInt then b.toInt else a.toInt := by
  unfold maxI
  by_cases h : a < b
  · rw [if_pos h, if_pos (lt_I.mp h)]
  · rw [if_neg h, if_neg (fun q => h (lt_I.mpr q))]
theorem dst_I (hw : WF F) {e : Nat} (he : e < fn F) {x y : Int32} (hx : onA x) (hy : onA y) : (dst F e x y).toInt = (if (if 0 ≤ (fx F e).toInt - x.toInt then (fx F e).toInt - x.toInt else -((fx F e).toInt - x.toInt)) < (if 0 ≤ (fy F e).toInt - y.toInt then (fy F e).toInt - y.toInt else -((fy F e).toInt - y.toInt)) then (if 0 ≤ (fy F e).toInt - y.toInt then (fy F e).toInt - y.toInt else -((fy F e).toInt - y.toInt)) else (if 0 ≤ (fx F e).toInt - x.toInt then (fx F e).toInt - x.toInt else -((fx F e).toInt - x.toInt))) := by
  obtain ⟨ox, oy⟩ := hw.on he
  have ox := onA_I ox
  have oy := onA_I oy
  have hx := onA_I hx
  have hy := onA_I hy
  have s1 := sub_toI (a := fx F e) (b := x) (by omega) (by omega)
  have s2 := sub_toI (a := fy F e) (b := y) (by omega) (by omega)
  rw [dst, maxI_I, absI_I (by omega), absI_I (by omega), s1, s2]
theorem dst_1000 (hw : WF F) {e : Nat} (he : e < fn F) {x y : Int32} (hx : onA x) (hy : onA y) : 0 ≤ (dst F e x y).toInt ∧ (dst F e x y).toInt ≤ 1000 := by
  obtain ⟨ox, oy⟩ := hw.on he
  have ox := onA_I ox
  have oy := onA_I oy
  have hx' := onA_I hx
  have hy' := onA_I hy
  rw [dst_I hw he hx hy]
  constructor <;> split <;> split <;> omega
theorem near_eq (hw : WF F) {x y : Int32} (hx : onA x) (hy : onA y) {c : Int32} : ∀ (l : List Nat), (∀ e ∈ l, e < fn F) → (nearL F x y l (c, 1001)).1 = (nearL F x y l (c, 2000)).1 := by
  intro l
  cases l with
  | nil => intro _; rfl
  | cons e t =>
    intro hm
    have h1 := dst_1000 hw (hm e List.mem_cons_self) hx hy
    have e1 : (1001 : Int32).toInt = 1001 := by decide
    have e2 : (2000 : Int32).toInt = 2000 := by decide
    have d1 : dst F e x y < 1001 := lt_I.mpr (by omega)
    have d2 : dst F e x y < 2000 := lt_I.mpr (by omega)
    have e3 : nearS F x y (c, 1001) e = nearS F x y (c, 2000) e := by
      unfold nearS
      rw [if_pos d1, if_pos d2]
    show (t.foldl (nearS F x y) (nearS F x y (c, 1001) e)).1 = (t.foldl (nearS F x y) (nearS F x y (c, 2000) e)).1
    rw [e3]
theorem nearL_pik {x y : Int32} {s : Int32 × Int32} {k : Nat} : nearL F x y (pik (thr F) (k + 1)) s = if thr F k = true then nearS F x y (nearL F x y (pik (thr F) k) s) k else nearL F x y (pik (thr F) k) s := by
  simp only [pik]
  split
  · simp [nearL, List.foldl_append]
  · rfl
theorem q_near (hva : ∀ A, VA A → WA A) (hC : MD σ S) (hw : WS VA S) {x y : Int32} (h : OutM σ Q (o_near S x y)) : X none (d + 2) mX8_near 0 [.ref 94, .int x, .int y, Unk, Unk, Unk, Unk] [] σ Q := by
  have hZ := MZ_iff.mp hC.1
  have hn := hw.1.n120
  refine vX8_near_0 ⟨fun c1 => OutM.bad hva hw h hC (by rw [o_near, if_neg (fun q => c1 q.1)]), fun c1 => ⟨fun c2 => ?_, fun c2 => OutM.bad hva hw h hC (by rw [o_near, if_neg (fun q => c2 q.2)])⟩⟩
  rw [o_near, if_pos ⟨c1, c2⟩] at h
  have hQ := h σ hC Sm.rf
  have key : ∀ m k, fn (bF S) = k + m → X none (d + 2) mX8_near 30 [.ref 94, .int x, .int y, .int (nearL (bF S) x y (pik (thr (bF S)) k) (cNONE, 2000)).1, .int (nearL (bF S) x y (pik (thr (bF S)) k) (cNONE, 2000)).2, .int (nI k), Unk] [] σ Q := by
    intro m
    induction m with
    | zero =>
      intro k hk
      refine vX8_near_30 ⟨fun _ => Qe hQ ?_, fun c => absurd (by rw [hZ.1.1]; exact nI_le (by omega) (by omega)) c⟩
      rw [← near_eq hw.1 c1 c2 _ (fun e he => by have := pikm e he; omega), thL, show fn (bF S) = k by omega]
    | succ m ih =>
      intro k hk
      have hlt : k < fn (bF S) := by omega
      obtain ⟨a1, a2, a3, a4, a5⟩ := hZ.2.1 k hlt
      have hi := ih (k + 1) (by omega)
      rw [nearL_pik] at hi
      refine vX8_near_30 ?_
      rw [k494, k6, nI_clamp (n := 494 + k) (by omega), nI_clamp (n := 6 + k) (by omega), a5, gz, nI_1]
      refine ⟨fun c => absurd c (by rw [hZ.1.1]; exact nI_ge hlt (by omega)), fun _ => ⟨vin (by omega) (by decide), fun c3 => ?_, fun c3 => ?_⟩⟩
      · rw [if_neg (by simp [thr, c3])] at hi
        exact hi
      · rw [if_pos (by simp [thr, c3])] at hi
        refine m_apart (by omega) hZ hlt ⟨_, rfl, fun c4 => ?_, fun c4 => ⟨vin (by omega) (by decide), m_apart (by omega) hZ hlt ⟨_, rfl, ?_⟩⟩⟩
        · rw [nearS, if_neg (Int32.not_lt.mpr c4)] at hi
          exact hi
        · rw [nearS, if_pos (Int32.not_le.mp c4)] at hi
          rw [a1]
          exact hi
  have := key (fn (bF S)) 0 (by omega)
  rw [nI_0] at this
  exact this
/-- all points stand in the greatest rectangle -/
theorem pkX_all (hw : WF F) : pkX F (-500) 500 (-500) 500 = thL F := by
  unfold pkX thL
  refine pik_congr (fun e he => ?_)
  obtain ⟨ox, oy⟩ := hw.on he
  simp [pX, inX, ox.1, ox.2, oy.1, oy.2]
end M4
