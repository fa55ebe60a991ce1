/-! The least ring, on both sides. -/
def nd (F : Fl) (x y : Int32) (e : Nat) : Nat := (dst F e x y).toInt.toNat
def Wn (F : Fl) (x y : Int32) (r : Nat) : Nat := (thL F).countP (fun e => decide (nd F x y e ≤ r))
def lstR (p : Nat → Bool) : Nat → Nat → Nat
  | 0, r => r
  | m + 1, r => if p r = true then r else lstR p m (r + 1)
def rgV (F : Fl) (x y : Int32) (k : Nat) : Int32 := if (thL F).length < k then cNONE else nI (lstR (fun r => decide (k ≤ Wn F x y r)) 1000 0)
def o_ring (S : Ab) (x y k : Int32) : Int32 × Ab := if plP x y ∧ 1 ≤ k ∧ k ≤ 60 then (rgV (bF S) x y k.toNatClampNeg, S) else (cBAD, rf0 S)
theorem lstR_at {p : Nat → Bool} {b : Nat} (hb : p b = true) : ∀ m r, r ≤ b → b ≤ r + m → (∀ s, r ≤ s → s < b → p s = false) → lstR p m r = b := by
  intro m
  induction m with
  | zero => intro r h1 h2 _; show r = b; omega
  | succ m ih =>
    intro r h1 h2 h3
    rw [lstR]
    by_cases c : r = b
    · rw [if_pos (by rw [c]; exact hb)]; exact c
    · rw [if_neg (by rw [h3 r (by omega) (by omega)]; decide)]
      exact ih (r + 1) (by omega) (by omega) (fun s q1 q2 => h3 s (by omega) q2)
theorem cnt_pik (p q : Nat → Bool) : ∀ n, cnt (fun e => p e && q e) n = (pik p n).countP q
  | 0 => rfl
  | n + 1 => by
    rw [cnt, cnt_pik p q n, pik]
    by_cases c : p n = true
    · rw [if_pos c, List.countP_append, c, Bool.true_and]
      simp [List.countP_cons]
    · rw [if_neg c, Bool.eq_false_iff.mpr c]
      simp
section RING
variable {d : Nat} {σ : Mem} {Q : Option Value → Mem → Prop} {F : Fl} {S : Ab} {VA : Ar → Prop}
theorem dst_n (hw : WF F) {e : Nat} (he : e < fn F) {x y : Int32} (hx : onA x) (hy : onA y) : dst F e x y = nI (nd F x y e) ∧ nd F x y e ≤ 1000 := by
  have h := dst_1000 hw he hx hy
  refine ⟨Int32.toInt_inj.mp ?_, by unfold nd; omega⟩
  rw [nI_toInt (by unfold nd; omega), nd]
  omega
theorem inX_nd (hw : WF F) {e : Nat} (he : e < fn F) {x y : Int32} (hx : onA x) (hy : onA y) {r : Nat} (hr : r ≤ 1000) : inX (x - nI r) (x + nI r) (y - nI r) (y + nI r) (fx F e) (fy F e) = decide (nd F x y e ≤ r) := by
  have h := dst_I hw he hx hy
  obtain ⟨ox, oy⟩ := hw.on he
  have ox := onA_I ox
  have oy := onA_I oy
  have hx' := onA_I hx
  have hy' := onA_I hy
  have tr := nI_toInt (n := r) (by omega)
  have e1 : (x - nI r).toInt = x.toInt - r := by rw [sub_toI (by omega) (by omega), tr]
  have e2 : (x + nI r).toInt = x.toInt + r := by rw [add_toI (by omega) (by omega), tr]
  have e3 : (y - nI r).toInt = y.toInt - r := by rw [sub_toI (by omega) (by omega), tr]
  have e4 : (y + nI r).toInt = y.toInt + r := by rw [add_toI (by omega) (by omega), tr]
  rw [Bool.eq_iff_iff]
  simp only [inX, Bool.and_eq_true, decide_eq_true_eq, le_I, e1, e2, e3, e4, nd, h]
  split <;> split <;> omega
theorem Wn_all (hw : WF F) {x y : Int32} (hx : onA x) (hy : onA y) {r : Nat} (hr : 1000 ≤ r) : Wn F x y r = (thL F).length := by
  rw [Wn, List.countP_eq_length]
  intro e he
  have := (dst_n hw (pikm e he) hx hy).2
  exact decide_eq_true (by omega)
/-- who is the outermost within s -/
theorem Wn_out {x y : Int32} : ∀ s, 1 ≤ Wn F x y s → ∃ e ∈ thL F, nd F x y e ≤ s ∧ Wn F x y (nd F x y e) = Wn F x y s := by
  intro s
  induction s with
  | zero =>
    intro h
    obtain ⟨e, he, hp⟩ := List.countP_pos_iff.mp (show 0 < (thL F).countP (fun e => decide (nd F x y e ≤ 0)) from h)
    have hp := of_decide_eq_true hp
    exact ⟨e, he, hp, by rw [show nd F x y e = 0 by omega]⟩
  | succ s ih =>
    intro h
    by_cases c : ∃ e ∈ thL F, nd F x y e = s + 1
    · obtain ⟨e, he, hq⟩ := c
      exact ⟨e, he, by omega, by rw [hq]⟩
    · have e1 : Wn F x y (s + 1) = Wn F x y s := by
        unfold Wn
        refine List.countP_congr (fun e he => ?_)
        have : nd F x y e ≠ s + 1 := fun q => c ⟨e, he, q⟩
        simp only [decide_eq_true_eq]
        omega
      obtain ⟨e, he, h1, h2⟩ := ih (by omega)
      exact ⟨e, he, by omega, by rw [h2, e1]⟩
theorem q_ring (hva : ∀ A, VA A → WA A) (hC : MD σ S) (hw : WS VA S) {x y k : Int32} (h : OutM σ Q (o_ring S x y k)) : X none (d + 3) mX8_ring 0 [.ref 94, .int x, .int y, .int k, Unk] [] σ Q := by
  have hM := MZ_iff.mp hC.1
  have hn := hw.1.n120
  have h60 := hw.1.c60
  have h11 := hw.1.1
  refine vX8_ring_0 ⟨fun c => OutM.bad hva hw h hC (by rw [o_ring, if_neg (fun q => c q.1.1)]), fun hx => ⟨fun c => OutM.bad hva hw h hC (by rw [o_ring, if_neg (fun q => c q.1.2)]), fun hy => ⟨fun c2 => ?_, fun c => OutM.bad hva hw h hC (by rw [o_ring, if_neg (fun q => c q.2)])⟩⟩⟩
  obtain ⟨k', hk', rfl⟩ := nI_of (x := k) (fun q => absurd (Int32.lt_trans q (by decide : (0 : Int32) < 1)) (Int32.not_lt.mpr c2.1))
  rw [o_ring, if_pos ⟨⟨hx, hy⟩, c2⟩, nI_clamp hk'] at h
  have hq : Q (some (.int (rgV (bF S) x y k'))) σ := h σ hC Sm.rf
  have ht : (thL (bF S)).length = fn (bF S) - fg (bF S) := by
    have := hw.1.2.1
    rw [thL, pik_len]; omega
  rw [hM.1.1, hM.1.2.1, thereI hw.1, ← ht, nI_leI hk' (by omega)]
  refine ⟨fun c => ?_, fun c => ?_⟩
  · rw [rgV, if_neg (by omega)] at hq
    have key : ∀ m r, 1000 = r + m → Q (some (.int (nI (lstR (fun r => decide (k' ≤ Wn (bF S) x y r)) m r)))) σ → X none (d + 3) mX8_ring 45 [.ref 94, .int x, .int y, .int (nI k'), .int (nI r)] [] σ Q := by
      intro m
      induction m with
      | zero =>
        intro r hr hQ
        refine vX8_ring_45 (m_manyIn (by omega) hM ⟨_, rfl, fun _ => hQ, fun c5 => absurd ?_ c5⟩)
        have e1 : cnt (pX (bF S) (x - nI r) (x + nI r) (y - nI r) (y + nI r)) (fn (bF S)) = Wn (bF S) x y r := by
          rw [Wn, thL, ← cnt_pik]
          exact cnt_congr (fun e he => by rw [pX, inX_nd hw.1 he hx hy (by omega)])
        rw [e1, Wn_all hw.1 hx hy (by omega)]
        exact nI_le c (by omega)
      | succ m ih =>
        intro r hr hQ
        have e1 : cnt (pX (bF S) (x - nI r) (x + nI r) (y - nI r) (y + nI r)) (fn (bF S)) = Wn (bF S) x y r := by
          rw [Wn, thL, ← cnt_pik]
          exact cnt_congr (fun e he => by rw [pX, inX_nd hw.1 he hx hy (by omega)])
        have hW : Wn (bF S) x y r ≤ 60 := by
          have : Wn (bF S) x y r ≤ (thL (bF S)).length := List.countP_le_length
          omega
        rw [lstR] at hQ
        refine vX8_ring_45 (m_manyIn (by omega) hM ⟨_, rfl, ?_⟩)
        rw [e1, nI_leI hk' (by omega), nI_1]
        refine ⟨fun c5 => ?_, fun c5 => ?_⟩
        · rw [if_pos (decide_eq_true c5)] at hQ
          exact hQ
        · rw [if_neg (fun q => c5 (of_decide_eq_true q))] at hQ
          exact ih (r + 1) (by omega) hQ
    rw [← nI_0]
    exact key 1000 0 (by omega) hq
  · rw [rgV, if_pos (by omega)] at hq
    exact hq
/-- what the class has as its best behind i of the list -/
def RgI (F : Fl) (x y : Int32) (k i : Nat) (v : Int32) : Prop := (v = cNONE ∧ ∀ j, j < i → Wn F x y (nd F x y ((thL F).getD j 0)) < k) ∨ (∃ b, b ≤ 1000 ∧ v = nI b ∧ k ≤ Wn F x y b ∧ ∀ j, j < i → k ≤ Wn F x y (nd F x y ((thL F).getD j 0)) → b ≤ nd F x y ((thL F).getD j 0))
theorem mem_getD {l : List Nat} {e : Nat} (h : e ∈ l) : ∃ j, j < l.length ∧ l.getD j 0 = e := by
  obtain ⟨j, hj, he⟩ := List.mem_iff_getElem.mp h
  exact ⟨j, hj, by rw [List.getD_eq_getElem?_getD, List.getElem?_eq_getElem hj]; exact he⟩
theorem RgI_end (hw : WF F) {x y : Int32} (hx : onA x) (hy : onA y) {k : Nat} (hk : 1 ≤ k) {v : Int32} (h : RgI F x y k (thL F).length v) : v = rgV F x y k := by
  rcases h with ⟨h1, h2⟩ | ⟨b, hb, h1, h2, h3⟩
  · rw [h1, rgV]
    by_cases c : (thL F).length < k
    · rw [if_pos c]
    · have ha := Wn_all hw hx hy (Nat.le_refl 1000)
      obtain ⟨e, he, q1, q2⟩ := Wn_out (F := F) (x := x) (y := y) 1000 (by omega)
      obtain ⟨j, hj, hje⟩ := mem_getD he
      have := h2 j hj
      rw [hje, q2] at this
      omega
  · have hle : Wn F x y b ≤ (thL F).length := List.countP_le_length
    rw [h1, rgV, if_neg (by omega)]
    refine congrArg nI (Eq.symm (lstR_at (decide_eq_true h2) 1000 0 (by omega) (by omega) (fun s _ hs => decide_eq_false (fun c => ?_))))
    obtain ⟨e, he, q1, q2⟩ := Wn_out (F := F) (x := x) (y := y) s (by omega)
    obtain ⟨j, hj, hje⟩ := mem_getD he
    have := h3 j hj (by rw [hje, q2]; exact c)
    rw [hje] at this
    omega
theorem p_ring (hC : CL σ S) (hw : WS VA S) {x y k : Int32} (h : OutC σ Q (o_ring S x y k)) : X none (d + 3) mX7_ring 0 [.ref 0, .int x, .int y, .int k, Unk, Unk, Unk] [] σ Q := by
  have hwf := hw.1
  have hn := hwf.n120
  refine vX7_ring_0 (c_isPlace ⟨_, rfl, fun c1 => h.bad hC (by rw [o_ring, if_neg (fun q => b01_ne c1 q.1)]), fun c1 => ⟨fun c2 => h.bad hC (by rw [o_ring, if_neg (fun q => absurd c2 (Int32.not_lt.mpr q.2.1))]), fun c2 => ⟨fun c3 => ?_, fun c3 => h.bad hC (by rw [o_ring, if_neg (fun q => c3 q.2.2)])⟩⟩⟩)
  obtain ⟨k', hk', rfl⟩ := nI_of (x := k) (fun q => c2 (Int32.lt_trans q (by decide)))
  have hk1 : 1 ≤ k' := (nI_leI (a := 1) (by decide) hk').mp (Int32.not_lt.mp c2)
  have hxy := b01_eq c1
  obtain ⟨hx, hy⟩ := hxy
  have ho : o_ring S x y (nI k') = (rgV (bF S) x y k', S) := by rw [o_ring, if_pos ⟨⟨hx, hy⟩, Int32.not_lt.mp c2, c3⟩, nI_clamp hk']
  refine c_pickAll okP_57 okF_1 (by omega) hwf hC.1 (fun τ hp hs => ⟨rfl, ?_⟩)
  have hF := hC.1.sm hs (fun i k q1 q2 => by unfold SP; omega)
  have hp' : PH τ 57 (thL (bF S)) := hp
  have hl : (thL (bF S)).length ≤ 60 := by rw [thL, pik_len]; exact hwf.c60
  have hQ := h.same hC ho hs (fun i k q => by unfold SP at q; unfold SCR; omega)
  have key : ∀ m i v, (thL (bF S)).length = i + m → RgI (bF S) x y k' i v → X none (d + 3) mX7_ring 44 [.ref 0, .int x, .int y, .int (nI k'), .int v, .int (nI i), Unk] [] τ Q := by
    intro m
    induction m with
    | zero =>
      intro i v hi hI
      refine vX7_ring_44 ⟨fun _ => ?_, fun c => absurd (by rw [hp'.1]; exact nI_le (by omega) (by omega)) c⟩
      rw [show i = (thL (bF S)).length by omega] at hI
      rw [RgI_end hwf hx hy hk1 hI]
      exact hQ
    | succ m ih =>
      intro i v hi hI
      have hlt : i < (thL (bF S)).length := by omega
      have he : (thL (bF S)).getD i 0 < fn (bF S) := pikm _ (getD_mem hlt)
      have hb := inN hlt hl (by decide)
      obtain ⟨hd, hd2⟩ := dst_n hwf he hx hy
      have hWle : Wn (bF S) x y (nd (bF S) x y ((thL (bF S)).getD i 0)) ≤ (thL (bF S)).length := List.countP_le_length
      have eW : (thL (bF S)).countP (fun e => decide (dst (bF S) e x y ≤ nI (nd (bF S) x y ((thL (bF S)).getD i 0)))) = Wn (bF S) x y (nd (bF S) x y ((thL (bF S)).getD i 0)) := by
        unfold Wn
        refine List.countP_congr (fun e2 he2 => ?_)
        obtain ⟨g1, g2⟩ := dst_n hwf (pikm e2 he2) hx hy
        simp only [decide_eq_true_eq]
        rw [g1, nI_leI (by omega) (by omega)]
      have keep : (Wn (bF S) x y (nd (bF S) x y ((thL (bF S)).getD i 0)) < k' ∨ ∃ b, b ≤ 1000 ∧ v = nI b ∧ b ≤ nd (bF S) x y ((thL (bF S)).getD i 0)) → RgI (bF S) x y k' (i + 1) v := fun hor => by
        rcases hI with ⟨q1, q2⟩ | ⟨b, q1, q2, q3, q4⟩
        · refine Or.inl ⟨q1, fun j hj => ?_⟩
          by_cases cj : j = i
          · rw [cj]
            rcases hor with hor | ⟨b, b1, b2, _⟩
            · exact hor
            · rw [q1] at b2
              exact absurd (congrArg Int32.toInt b2) (by rw [nI_toInt (by omega)]; rw [show (cNONE : Int32).toInt = -2000000001 by decide]; omega)
          · exact q2 j (by omega)
        · refine Or.inr ⟨b, q1, q2, q3, fun j hj hkj => ?_⟩
          by_cases cj : j = i
          · rw [cj] at hkj ⊢
            rcases hor with hor | ⟨b2, b1, b3, b4⟩
            · omega
            · rw [q2] at b3
              have := (nI_eq (by omega) (by omega)).mp b3
              omega
          · exact q4 j (by omega) hkj
      have take : k' ≤ Wn (bF S) x y (nd (bF S) x y ((thL (bF S)).getD i 0)) → (v = cNONE ∨ ∃ b, b ≤ 1000 ∧ v = nI b ∧ nd (bF S) x y ((thL (bF S)).getD i 0) ≤ b) → RgI (bF S) x y k' (i + 1) (nI (nd (bF S) x y ((thL (bF S)).getD i 0))) := fun hge hor => by
        refine Or.inr ⟨_, hd2, rfl, hge, fun j hj hkj => ?_⟩
        by_cases cj : j = i
        · rw [cj]; exact Nat.le_refl _
        · rcases hI with ⟨q1, q2⟩ | ⟨b, q1, q2, q3, q4⟩
          · have := q2 j (by omega)
            omega
          · have h4 := q4 j (by omega) hkj
            rcases hor with hor | ⟨b2, b1, b3, b4⟩
            · rw [q2] at hor
              exact absurd (congrArg Int32.toInt hor) (by rw [nI_toInt (by omega)]; rw [show (cNONE : Int32).toInt = -2000000001 by decide]; omega)
            · rw [q2] at b3
              have := (nI_eq (by omega) (by omega)).mp b3
              omega
      refine vX7_ring_44 ⟨fun c => absurd c (by rw [hp'.1]; exact nI_ge hlt (by omega)), fun _ => ⟨hb, ?_⟩⟩
      rw [nI_clamp (by omega), hp'.2 i hlt, nI_1]
      refine c_distance okF_1 (by omega) hF he ⟨_, rfl, ?_⟩
      rw [hd]
      refine ⟨fun cN => c_within okP_57 okF_1 (by omega) hF hl pikm hp' ⟨_, rfl, ?_⟩, fun cN => ?_⟩
      · rw [eW, nI_ltI (by omega) hk']
        exact ⟨fun c5 => ih (i + 1) v (by omega) (keep (Or.inl c5)), fun c5 => ih (i + 1) _ (by omega) (take (by omega) (Or.inl cN))⟩
      · obtain ⟨b, q1, q2, q3, q4⟩ : ∃ b, b ≤ 1000 ∧ v = nI b ∧ k' ≤ Wn (bF S) x y b ∧ ∀ j, j < i → k' ≤ Wn (bF S) x y (nd (bF S) x y ((thL (bF S)).getD j 0)) → b ≤ nd (bF S) x y ((thL (bF S)).getD j 0) := by
          rcases hI with q | q
          · exact absurd q.1 cN
          · exact q
        refine ⟨fun c5 => ?_, fun c5 => c_within okP_57 okF_1 (by omega) hF hl pikm hp' ⟨_, rfl, ?_⟩⟩
        · rw [q2, nI_leI (by omega) (by omega)] at c5
          exact ih (i + 1) v (by omega) (keep (Or.inr ⟨b, q1, q2, c5⟩))
        · rw [q2, nI_leI (by omega) (by omega)] at c5
          rw [eW, nI_ltI (by omega) hk']
          exact ⟨fun c6 => ih (i + 1) v (by omega) (keep (Or.inl c6)), fun c6 => ih (i + 1) _ (by omega) (take (by omega) (Or.inr ⟨b, q1, q2, by omega⟩))⟩
  rw [← nI_0]
  exact key (thL (bF S)).length 0 _ (by omega) (Or.inl ⟨rfl, fun j hj => absurd hj (Nat.not_lt_zero j)⟩)
end RING
