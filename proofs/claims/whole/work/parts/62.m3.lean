/-! The model's rectangles. -/
theorem bmod_id {x : Int} (h1 : -2147483648 ≤ x) (h2 : x < 2147483648) : x.bmod (2 ^ 32) = x := by
  rw [Int.bmod]
  simp only [Int.reducePow, Nat.reducePow, Int.cast_ofNat_Int]
  omega
theorem sub_toI {a b : Int32} (h1 : -2147483648 ≤ a.toInt - b.toInt) (h2 : a.toInt - b.toInt < 2147483648) : (a - b).toInt = a.toInt - b.toInt := by rw [Int32.toInt_sub, bmod_id h1 h2]
theorem add_toI {a b : Int32} (h1 : -2147483648 ≤ a.toInt + b.toInt) (h2 : a.toInt + b.toInt < 2147483648) : (a + b).toInt = a.toInt + b.toInt := by rw [Int32.toInt_add, bmod_id h1 h2]
theorem neg_toI {a : Int32} (h1 : -2147483648 < a.toInt) : (-a).toInt = -a.toInt := by
  have := a.toInt_lt
  rw [Int32.toInt_neg, bmod_id (by omega) (by omega)]
theorem le_I {a b : Int32} : a ≤ b ↔ a.toInt ≤ b.toInt := Int32.le_iff_toInt_le
theorem lt_I {a b : Int32} : a < b ↔ a.toInt < b.toInt := Int32.lt_iff_toInt_lt
theorem z_I : (0 : Int32).toInt = 0 := by decide
theorem onA_I {x : Int32} (h : onA x) : -500 ≤ x.toInt ∧ x.toInt ≤ 500 := by
  have h1 := le_I.mp h.1
  have h2 := le_I.mp h.2
  have e1 : (-500 : Int32).toInt = -500 := by decide
  have e2 : (500 : Int32).toInt = 500 := by decide
  omega
theorem sub_nn {a b : Int32} (h1 : -2147483648 ≤ a.toInt - b.toInt) (h2 : a.toInt - b.toInt < 2147483648) : 0 ≤ a - b ↔ ¬ a < b := by
  rw [le_I, lt_I, sub_toI h1 h2, z_I]
  omega
theorem WF.on {F : Fl} (h : WF F) {e : Nat} (he : e < fn F) : onA (fx F e) ∧ onA (fy F e) := ⟨(h.2.2.1 e he).2.1, (h.2.2.1 e he).2.2.1⟩
def LN (σ : Mem) (l : List Nat) : Prop := σ.1 94 12 = nI l.length ∧ HL σ 100 l
def SL : Nat → Nat → Prop := fun i k => i = 100 ∨ (i = 94 ∧ k = 12)
theorem MZ.sm {σ τ : Mem} {F : Fl} (h : MZ σ F) (hs : ∀ k, τ.1 95 k = σ.1 95 k) : MZ τ F := by
  obtain ⟨⟨h0, h1, h4, h5, h3, h2⟩, hr, hg⟩ := h
  refine ⟨⟨by rw [hs]; exact h0, by rw [hs]; exact h1, by rw [hs]; exact h4, by rw [hs]; exact h5, by rw [hs]; exact h3, by rw [hs]; exact h2⟩, fun e he => ?_, fun k hk => ?_⟩
  · rw [hs, hs, hs, hs, hs]; exact hr e he
  · obtain ⟨e, q1, q2, q3⟩ := hg k hk
    exact ⟨e, q1, q2, by rw [hs]; exact q3⟩
section M3
variable {d : Nat} {σ : Mem} {Q : Option Value → Mem → Prop} {F : Fl} {S : Ab} {VA : Ar → Prop}
theorem m_isIn (hn : fn F ≤ 121) (hM : MZ σ F) {e : Nat} (he : e < fn F) {a b c k : Int32} (hq : Q (some (.int (if inX a b c k (fx F e) (fy F e) = true then 1 else 0))) σ) : X none (d + 1) mX8_isIn 0 [.ref 94, .int (nI e), .int a, .int b, .int c, .int k] [] σ Q := by
  obtain ⟨a1, a2, a3, a4, a5⟩ := hM.2.1 e he
  refine vX8_isIn_0 ?_
  rw [k128, k250, nI_clamp (n := 128 + e) (by omega), nI_clamp (n := 250 + e) (by omega), a2, a3]
  refine ⟨vin (by omega) (by decide), fun c1 => Qe hq ?_, fun c1 => ⟨vin (by omega) (by decide), fun c2 => Qe hq ?_, fun c2 => Qe hq ?_⟩⟩
  · have : inX a b c k (fx F e) (fy F e) = false := by
      simp only [inX, Bool.and_eq_false_iff, decide_eq_false_iff_not]
      rcases Decidable.not_and_iff_or_not.mp c1 with q | q
      · exact Or.inl (Or.inl (Or.inl q))
      · exact Or.inl (Or.inl (Or.inr q))
    rw [this]; rfl
  · have : inX a b c k (fx F e) (fy F e) = false := by
      simp only [inX, Bool.and_eq_false_iff, decide_eq_false_iff_not]
      rcases Decidable.not_and_iff_or_not.mp c2 with q | q
      · exact Or.inl (Or.inr q)
      · exact Or.inr q
    rw [this]; rfl
  · simp [inX, c1.1, c1.2, c2.1, c2.2]
theorem m_isAhead (hw : WF F) (hM : MZ σ F) {i j : Nat} (hi : i < fn F) (hj : j < fn F) (hq : Q (some (.int (if befB F i j = true then 1 else 0))) σ) : X none d mX8_isAhead 0 [.ref 94, .int (nI i), .int (nI j), Unk] [] σ Q := by
  have hn := hw.n120
  have hnx := hw.1.2.2.1
  obtain ⟨a1, a2, a3, a4, a5⟩ := hM.2.1 i hi
  obtain ⟨b1, b2, b3, b4, b5⟩ := hM.2.1 j hj
  obtain ⟨ox, oy⟩ := hw.on hi
  obtain ⟨px, py⟩ := hw.on hj
  have ox := onA_I ox
  have oy := onA_I oy
  have px := onA_I px
  have py := onA_I py
  have n1 := (hw.2.2.1 i hi).1
  have n2 := (hw.2.2.1 j hj).1
  have t1 := nI_toInt (n := fnum F i) (by omega)
  have t2 := nI_toInt (n := fnum F j) (by omega)
  refine vX8_isAhead_0 ?_
  rw [k128, k128, k250, k250, k6, k6, nI_clamp (n := 128 + i) (by omega), nI_clamp (n := 128 + j) (by omega), nI_clamp (n := 250 + i) (by omega), nI_clamp (n := 250 + j) (by omega), nI_clamp (n := 6 + i) (by omega), nI_clamp (n := 6 + j) (by omega), a1, a2, a3, b1, b2, b3,
    sub_nn (a := fx F i) (b := fx F j) (by omega) (by omega), sub_nn (a := fy F i) (b := fy F j) (by omega) (by omega), sub_nn (a := nI (fnum F i)) (b := nI (fnum F j)) (by omega) (by omega)]
  have v : ∀ k, k < 7458 → vp_in (nI k) 7458 := fun k hk => vin hk (by decide)
  refine ⟨v _ (by omega), v _ (by omega), fun c => ⟨v _ (by omega), v _ (by omega), fun c1 => ⟨v _ (by omega), v _ (by omega), fun c2 => Qe hq ?_, fun c2 => Qe hq ?_⟩, fun c1 => ⟨v _ (by omega), v _ (by omega), fun c2 => Qe hq ?_, fun c2 => Qe hq ?_⟩⟩, fun c => ⟨v _ (by omega), v _ (by omega), fun c2 => Qe hq ?_, fun c2 => Qe hq ?_⟩⟩
  · simp [befB, c, c1, c2]
  · simp [befB, c, c1, Decidable.not_not.mp c2]
  · simp [befB, c, c1, c2]
  · simp [befB, c, c1, Decidable.not_not.mp c2]
  · simp [befB, c, c2]
  · simp [befB, c, Decidable.not_not.mp c2]
theorem m_insert (hw : WF F) (hM : MZ σ F) {l : List Nat} (hl : l.length < 60) (hm : ∀ e ∈ l, e < fn F) {e : Nat} (he : e < fn F) (hp : LN σ l) (h : ∀ τ, LN τ (ins (befB F) e l) → Sm SL σ τ → Q none τ) : X none (d + 1) mX8_insert 0 [.ref 94, .int (nI e), Unk] [] σ Q := by
  have hn := hw.n120
  refine vX8_insert_0 ?_
  rw [hp.1]
  have fin : ∀ t (τ : Mem), t ≤ l.length → Sm SL σ τ → τ.1 94 12 = nI l.length → pos (befB F) e l l.length = t → (∀ k, k < t → τ.1 100 k = nI (l.getD k 0)) → (∀ k, t < k → k ≤ l.length → τ.1 100 k = nI (l.getD (k - 1) 0)) →
      ∀ τ1 : Mem, τ1 = w1 τ 100 t (nI e) → ∀ τ2 : Mem, τ2 = w1 τ1 94 12 (τ1.1 94 12 + 1) → Q none τ2 := by
    intro t τ ht hs hq1 hps hlo hhi τ1 e1 τ2 e2
    have r1 : τ1.1 94 12 = nI l.length := by rw [e1, w1_a _ _ _ _ _ _ (by omega), hq1]
    rw [r1, nI_1] at e2
    refine h τ2 ⟨by rw [e2, w1_s, ins_len], fun k hk => ?_⟩ (by rw [e2, e1]; exact (hs.w1 (Or.inl rfl)).w1 (Or.inr ⟨rfl, rfl⟩))
    rw [ins_len] at hk
    unfold ins
    rw [hps, insAt_getD _ _ _ _ ht, e2, w1_a _ _ _ _ _ _ (by omega), e1]
    by_cases hk1 : k < t
    · rw [if_pos hk1, w1_k _ _ _ _ _ _ (by omega)]
      exact hlo k hk1
    · rw [if_neg hk1]
      by_cases hk2 : k = t
      · rw [if_pos hk2, hk2, w1_s]
      · rw [if_neg hk2, w1_k _ _ _ _ _ _ hk2]
        exact hhi k (by omega) (by omega)
  have key : ∀ t (τ : Mem), t ≤ l.length → Sm SL σ τ → τ.1 94 12 = nI l.length → pos (befB F) e l l.length = pos (befB F) e l t → (∀ k, k < t → τ.1 100 k = nI (l.getD k 0)) → (∀ k, t < k → k ≤ l.length → τ.1 100 k = nI (l.getD (k - 1) 0)) → X none (d + 1) mX8_insert 5 [.ref 94, .int (nI e), .int (nI t)] [] τ Q := by
    intro t
    induction t with
    | zero =>
      intro τ ht hs hq1 hps hlo hhi
      refine vX8_insert_5 ⟨fun _ => ⟨vin (by omega) (by decide), ?_⟩, fun c => absurd (by rw [nI_0]; decide) c⟩
      rw [nI_clamp (n := 0) (by decide)]
      exact fin 0 τ ht hs hq1 hps hlo hhi
    | succ t ih =>
      intro τ ht hs hq1 hps hlo hhi
      have hM' : MZ τ F := hM.sm (fun k => (hs 95 k (by unfold SL; omega)).1)
      have e0 : nI (t + 1) - 1 = nI t := nI_pred t
      have hb : vp_in (nI t) 60 := vin (by omega) (by decide)
      have hb1 : vp_in (nI (t + 1)) 60 := vin (by omega) (by decide)
      refine vX8_insert_5 ?_
      rw [e0, nI_clamp (n := t) (by omega), nI_clamp (n := t + 1) (by omega), hlo t (by omega), pk_m1]
      refine ⟨fun c => absurd c (nI_nle (by omega) (by omega)), fun _ => ⟨hb, ?_⟩⟩
      have het : l.getD t 0 < fn F := hm _ (getD_mem (by omega))
      refine m_isAhead hw hM' he het ⟨_, rfl, fun c => ⟨hb1, ?_⟩, fun c => ⟨hb, hb1, fun τ1 e1 => ?_⟩⟩
      · have hB := b01_z c
        exact fin (t + 1) τ ht hs hq1 (by rw [hps]; simp only [pos]; rw [hB]; rfl) hlo hhi
      · have hB := b01_o c
        rw [hlo t (by omega)] at e1
        refine ih τ1 (by omega) (by rw [e1]; exact hs.w1 (Or.inl rfl)) (by rw [e1, w1_a _ _ _ _ _ _ (by omega)]; exact hq1) (by rw [hps]; simp only [pos]; rw [hB]; rfl) (fun k hk => ?_) (fun k hk1 hk2 => ?_)
        · rw [e1, w1_k _ _ _ _ _ _ (by omega)]
          exact hlo k (by omega)
        · by_cases hk3 : k = t + 1
          · rw [e1, hk3, w1_s]; rfl
          · rw [e1, w1_k _ _ _ _ _ _ hk3]
            exact hhi k (by omega) hk2
  exact key l.length σ (Nat.le_refl _) Sm.rf hp.1 rfl (fun k hk => hp.2 k hk) (fun k h1 h2 => by omega)
theorem m_lines (hw : WF F) (hM : MZ σ F) {a b c e : Int32} (h : ∀ τ, LN τ (srX F a b c e) → Sm SL σ τ → Q none τ) : X none (d + 2) mX8_lines 0 [.ref 94, .int a, .int b, .int c, .int e, Unk] [] σ Q := by
  have hn := hw.n120
  have h60 : cnt (pX F a b c e) (fn F) ≤ 60 := by rw [← pik_len]; exact pkX_60 hw
  refine vX8_lines_0 (fun τ1 e1 => ?_)
  have key : ∀ m i (τ : Mem), fn F = i + m → Sm SL σ τ → LN τ (srt (befB F) (pik (pX F a b c e) i)) → X none (d + 2) mX8_lines 8 [.ref 94, .int a, .int b, .int c, .int e, .int (nI i)] [] τ Q := by
    intro m
    induction m with
    | zero =>
      intro i τ hi hs hp
      have hM' : MZ τ F := hM.sm (fun k => (hs 95 k (by unfold SL; omega)).1)
      refine vX8_lines_8 ⟨fun _ => h τ ?_ hs, fun c => absurd (by rw [hM'.1.1]; exact nI_le (by omega) (by omega)) c⟩
      rw [srX, pkX, show fn F = i by omega]
      exact hp
    | succ m ih =>
      intro i τ hi hs hp
      have hlt : i < fn F := by omega
      have hM' : MZ τ F := hM.sm (fun k => (hs 95 k (by unfold SL; omega)).1)
      obtain ⟨a1, a2, a3, a4, a5⟩ := hM'.2.1 i hlt
      refine vX8_lines_8 ?_
      rw [k494, nI_clamp (n := 494 + i) (by omega), a5, gz, nI_1]
      refine ⟨fun c => absurd c (by rw [hM'.1.1]; exact nI_ge hlt (by omega)), fun _ => ⟨vin (by omega) (by decide), fun c1 => ?_, fun c1 => ?_⟩⟩
      · have hp1 : pX F a b c e i = false := by simp [pX, thr, c1]
        exact ih (i + 1) τ (by omega) hs (by simpa [pik, hp1] using hp)
      · refine m_isIn (by omega) hM' hlt ⟨_, rfl, fun c2 => ?_, fun c2 => ?_⟩
        · have hp1 : pX F a b c e i = false := by simp [pX, b01_z c2]
          exact ih (i + 1) τ (by omega) hs (by simpa [pik, hp1] using hp)
        · have hp1 : pX F a b c e i = true := by simp [pX, thr, c1, b01_o c2]
          have hl := cnt_lt_of (p := pX F a b c e) hlt hp1
          refine m_insert hw hM' (by rw [srt_len, pik_len]; omega) (fun z hz => by have := pikm z ((srt_mem _ _ _).mp hz); omega) hlt hp (fun τ2 hp2 hs2 => ⟨rfl, ?_⟩)
          refine ih (i + 1) τ2 (by omega) (hs.tr hs2) ?_
          simp only [pik, hp1, if_true]
          rw [srt_snoc]
          exact hp2
  rw [← nI_0]
  exact key (fn F) 0 τ1 (by omega) (by rw [e1]; exact Sm.rf.w1 (Or.inr ⟨rfl, rfl⟩)) ⟨by rw [e1, w1_s]; rfl, HL.nil⟩
theorem m_takesLine (hva : ∀ A, VA A → WA A) (hC : MD σ S) (hw : WS VA S) {l : List Nat} (hl : l.length ≤ 60) (hm : ∀ e ∈ l, e < fn (bF S) ∧ thr (bF S) e = true) (hnd : l.Nodup) (hp : LN σ (srt (befB (bF S)) l)) (h : OutM σ Q (o_takeAll S l)) : X none (d + 3) mX8_takesLine 0 [.ref 94, Unk, Unk] [] σ Q := by
  have hwf := hw.1
  have hn := hwf.n120
  have hl0 : (srt (befB (bF S)) l).length = l.length := srt_len _ _
  refine vX8_takesLine_0 ?_
  rw [hp.1, hl0, nI_z (by omega)]
  refine ⟨fun c => ?_, fun c => ?_⟩
  · refine m_minds2 hw hC (fun τ hH hF hs => ⟨rfl, ?_⟩)
    have hm2 : ∀ e ∈ srt (befB (bF S)) l, e < fn (bF S) ∧ thr (bF S) e = true := fun e he => hm e ((srt_mem _ _ _).mp he)
    have hnn := nums_nodup hwf ((srt_perm (befB (bF S)) l).nodup_iff.mpr hnd) (fun e he => (hm2 e he).1)
    have hp1 : LN τ (srt (befB (bF S)) l) := ⟨by rw [(hs 94 12 (by unfold SU; omega)).1]; exact hp.1, fun k hk => by rw [(hs 100 k (by unfold SU; omega)).1]; exact hp.2 k hk⟩
    generalize hsl : srt (befB (bF S)) l = sl at hp1 hm2 hnn hl0
    have e1 : o_takeAll S l = (nI l.length, setF S (takeL (bF S) (sl.map (fnum (bF S))))) := by
      rw [o_takeAll, if_neg (fun q => c (by rw [q]; rfl)), hsl]
    rw [e1] at h
    have hT : ∀ m ∈ sl.map (fnum (bF S)), ThN (bF S) m := fun m hmm => by
      obtain ⟨e, he, rfl⟩ := List.mem_map.mp hmm
      exact ⟨e, (hm2 e he).1, (hm2 e he).2, rfl⟩
    have gm : ∀ k, k < sl.length → (sl.map (fnum (bF S))).getD k 0 = fnum (bF S) (sl.getD k 0) := fun k hk => by simp [List.getD_eq_getElem?_getD, List.getElem?_map, List.getElem?_eq_getElem hk]
    rw [hp1.1, hl0]
    have second : ∀ τ3 : Mem, Sm (fun i k => i = 100) τ τ3 → HL τ3 100 (sl.map (fnum (bF S))) → X none (d + 3) mX8_takesLine 53 [.ref 94, .int (nI l.length), .int 0] [] τ3 Q := by
      intro τ3 hs3 hp3
      have hF3 : MZ τ3 (bF S) := hF.sm (fun k => (hs3 95 k (by omega)).1)
      generalize hns : sl.map (fnum (bF S)) = ns at hp3 hnn hT h
      have hlen : ns.length = l.length := by rw [← hns, List.length_map, hl0]
      have key : ∀ m k (G : Fl) (τ4 : Mem), ns.length = k + m → WF G → MZ τ4 G → takeL G (ns.drop k) = takeL (bF S) ns → (∀ m' ∈ ns.drop k, ThN G m') → Sm S95 τ3 τ4 → X none (d + 3) mX8_takesLine 53 [.ref 94, .int (nI l.length), .int (nI k)] [] τ4 Q := by
        intro m
        induction m with
        | zero =>
          intro k G τ4 hk hG hFG hT1 hT2 hs4
          refine vX8_takesLine_53 ⟨fun _ => ?_, fun c => absurd (nI_le (by omega) (by omega)) c⟩
          have e2 : G = takeL (bF S) ns := by rw [← hT1, List.drop_of_length_le (by omega)]; rfl
          subst e2
          have hh := endF hva hw hC hH hs ((hs3.mono (fun i k q => Or.inl q)).tr (hs4.mono (fun i k q => Or.inr q))) (P := fun i k => i = 100 ∨ S95 i k) (fun i k q => by
            rcases q with q | q
            · exact Or.inr (Or.inl q)
            · exact Or.inl q) hFG
          exact h τ4 hh.1 hh.2
        | succ m ih =>
          intro k G τ4 hk hG hFG hT1 hT2 hs4
          have hlt : k < ns.length := by omega
          have hGn := hG.n120
          have hp4 : τ4.1 100 k = nI (ns.getD k 0) := by rw [(hs4 100 k (by unfold S95; omega)).1]; exact hp3 k hlt
          have hdr : ns.drop k = ns.getD k 0 :: ns.drop (k + 1) := by
            rw [List.drop_eq_getElem_cons hlt]
            simp [List.getD_eq_getElem?_getD, List.getElem?_eq_getElem hlt]
          obtain ⟨e, he, ht, hne⟩ := hT2 _ (by rw [hdr]; exact List.mem_cons_self)
          have hfd : fnd G (nI (ns.getD k 0)) = some e := by rw [← hne]; exact fnd_of hG he ht
          refine vX8_takesLine_53 ⟨fun c => absurd c (nI_ge (by omega) (by omega)), fun _ => ⟨vin (by omega) (by decide), ?_⟩⟩
          rw [nI_clamp (by omega), hp4, nI_1]
          refine m_find (by omega) hFG ⟨_, rfl, ?_⟩
          rw [hfd]
          refine m_goes hG hFG he ht (fun τ5 hF5 hs5 => ⟨rfl, ?_⟩)
          refine ih (k + 1) (goF G e) τ5 (by omega) (hG.go he ht) hF5 ?_ (fun m' hm' => ?_) (hs4.tr hs5)
          · rw [← hT1, hdr]
            simp only [takeL, List.foldl_cons, hfd]
          · have hnd3 : (ns.drop k).Nodup := hnn.sublist (List.drop_sublist k ns)
            rw [hdr] at hnd3
            refine thn_go hG he ht (fun q => (List.nodup_cons.mp hnd3).1 (by rw [← hne, ← q]; exact hm')) (hT2 m' (by rw [hdr]; exact List.mem_cons_of_mem _ hm'))
      rw [← nI_0]
      exact key ns.length 0 (bF S) τ3 (by omega) hwf hF3 (by rw [List.drop_zero]) (by rw [List.drop_zero]; exact hT) Sm.rf
    have first : ∀ m k (τ3 : Mem), sl.length = k + m → Sm (fun i k => i = 100) τ τ3 → (∀ j, j < k → τ3.1 100 j = nI (fnum (bF S) (sl.getD j 0))) → (∀ j, k ≤ j → j < sl.length → τ3.1 100 j = nI (sl.getD j 0)) → X none (d + 3) mX8_takesLine 20 [.ref 94, .int (nI l.length), .int (nI k)] [] τ3 Q := by
      intro m
      induction m with
      | zero =>
        intro k τ3 hk hs3 hlo hhi
        refine vX8_takesLine_20 ⟨fun _ => second τ3 hs3 (fun j hj => ?_), fun c => absurd (nI_le (by omega) (by omega)) c⟩
        rw [List.length_map] at hj
        rw [gm j hj]
        exact hlo j (by omega)
      | succ m ih =>
        intro k τ3 hk hs3 hlo hhi
        have hF3 : MZ τ3 (bF S) := hF.sm (fun k => (hs3 95 k (by omega)).1)
        have hlt : k < sl.length := by omega
        have he := (hm2 _ (getD_mem hlt)).1
        refine vX8_takesLine_20 ⟨fun c => absurd c (nI_ge (by omega) (by omega)), fun _ => ⟨vin (by omega) (by decide), ?_⟩⟩
        rw [nI_clamp (n := k) (by omega), hhi k (Nat.le_refl _) hlt, k6, nI_clamp (n := 6 + sl.getD k 0) (by omega), (hF3.2.1 _ he).1, nI_1]
        refine ⟨vin (by omega) (by decide), vin (by omega) (by decide), fun τ4 e4 => ?_⟩
        refine ih (k + 1) τ4 (by omega) (by rw [e4]; exact hs3.w1 rfl) (fun j hj => ?_) (fun j hj1 hj2 => ?_)
        · by_cases hjk : j = k
          · rw [hjk, e4, w1_s]
          · rw [e4, w1_k _ _ _ _ _ _ hjk]
            exact hlo j (by omega)
        · rw [e4, w1_k _ _ _ _ _ _ (by omega)]
          exact hhi j (by omega) hj2
    rw [← nI_0]
    exact first sl.length 0 τ (by omega) Sm.rf (fun j hj => absurd hj (Nat.not_lt_zero j)) (fun j _ hj => hp1.2 j hj)
  · have e1 : o_takeAll S l = (0, S) := by rw [o_takeAll, if_pos (List.eq_nil_of_length_eq_zero c)]
    rw [e1] at h
    exact h σ hC Sm.rf
theorem MD.ln {τ : Mem} (hva : ∀ A, VA A → WA A) (hw : WS VA S) (hC : MD σ S) (hs : Sm SL σ τ) : MD τ S ∧ Sm SM94 σ τ := ⟨MD.sm hva hw hC hs (fun i k q => by unfold SL at q; unfold SCM; omega), hs.mono (fun i k q => by unfold SL at q; unfold SM94; omega)⟩
theorem q_sweep (hva : ∀ A, VA A → WA A) (hC : MD σ S) (hw : WS VA S) {a b c e : Int32} (h : OutM σ Q (o_sweep S a b c e)) : X none (d + 4) mX8_sweep 0 [.ref 94, .int a, .int b, .int c, .int e] [] σ Q := by
  have hZ := MZ_iff.mp hC.1
  refine vX8_sweep_0 ⟨fun c1 => ?_, fun c1 => OutM.bad hva hw h hC (by rw [o_sweep, if_neg c1])⟩
  rw [o_sweep, if_pos c1] at h
  refine m_lines hw.1 hZ (fun τ hp hs => ⟨rfl, ?_⟩)
  have hh := MD.ln hva hw hC hs
  refine m_takesLine hva hh.1 hw (pkX_60 hw.1) (fun i hi => ?_) (pik_nodup _ _) hp (fun τ2 h1 h2 => ⟨_, rfl, h τ2 h1 (hh.2.tr h2)⟩)
  have := (pik_mem _ _).mp hi
  simp [pX] at this
  exact ⟨this.1, this.2.1⟩
end M3
