/-! The best square, on both sides. -/
def Wq (F : Fl) (s x y : Int32) : Nat := (thL F).countP (fun e => inX x (x + s) y (y + s) (fx F e) (fy F e))
def SqI (F : Fl) (s : Int32) (T : Int32 → Int32 → Prop) (m : Nat) (x y : Int32) : Prop :=
  (m = 0 ∧ ∀ a b, T a b → Wq F s a b = 0) ∨ (1 ≤ m ∧ m = Wq F s x y ∧ T x y ∧ ∀ a b, T a b → Wq F s a b < m ∨ (Wq F s a b = m ∧ (x.toInt < a.toInt ∨ (x = a ∧ y.toInt ≤ b.toInt))))
def TA (F : Fl) (a b : Int32) : Prop := ∃ e ∈ thL F, ∃ f ∈ thL F, a = fx F e ∧ b = fy F f
def sqA (what : Int32) (m : Nat) (x y : Int32) : Int32 := if m = 0 then cNONE else if what = 0 then nI m else if what = 1 then x else y
def IsSq (F : Fl) (s what v : Int32) : Prop := ∃ m x y, SqI F s (TA F) m x y ∧ v = sqA what m x y
theorem sq_uniq {F : Fl} {s : Int32} {T : Int32 → Int32 → Prop} {m m' : Nat} {x y x' y' : Int32} (h : SqI F s T m x y) (h' : SqI F s T m' x' y') : m = m' ∧ (m ≠ 0 → x = x' ∧ y = y') := by
  rcases h with ⟨h1, h2⟩ | ⟨h1, h2, h3, h4⟩
  · rcases h' with ⟨g1, g2⟩ | ⟨g1, g2, g3, g4⟩
    · exact ⟨by omega, fun c => absurd h1 c⟩
    · have := h2 _ _ g3
      omega
  · rcases h' with ⟨g1, g2⟩ | ⟨g1, g2, g3, g4⟩
    · have := g2 _ _ h3
      omega
    · have a1 := h4 _ _ g3
      have a2 := g4 _ _ h3
      have e : m = m' := by omega
      refine ⟨e, fun _ => ?_⟩
      rcases a1 with a1 | ⟨_, a1⟩
      · omega
      · rcases a2 with a2 | ⟨_, a2⟩
        · omega
        · rcases a1 with a1 | ⟨a1, b1⟩
          · rcases a2 with a2 | ⟨a2, b2⟩
            · omega
            · rw [a2] at a1; omega
          · rcases a2 with a2 | ⟨a2, b2⟩
            · rw [a1] at a2; omega
            · exact ⟨a1, Int32.toInt_inj.mp (by omega)⟩
noncomputable def sqR (F : Fl) (s what : Int32) : Int32 := Classical.epsilon (IsSq F s what)
theorem sqR_of {F : Fl} {s what v : Int32} (h : IsSq F s what v) : sqR F s what = v := by
  obtain ⟨m, x, y, h1, h2⟩ : IsSq F s what (sqR F s what) := Classical.epsilon_spec ⟨v, h⟩
  obtain ⟨m', x', y', g1, g2⟩ := h
  obtain ⟨e1, e2⟩ := sq_uniq h1 g1
  rw [h2, g2, ← e1]
  by_cases c : m = 0
  · rw [sqA, sqA, if_pos c, if_pos c]
  · obtain ⟨e3, e4⟩ := e2 c
    rw [e3, e4]
noncomputable def o_square (S : Ab) (s what : Int32) : Int32 × Ab := if (0 ≤ s ∧ s ≤ 300) ∧ 0 ≤ what ∧ what ≤ 2 then (sqR (bF S) s what, S) else (cBAD, rf0 S)
section SQI
variable {F : Fl} {s : Int32} {T T' C : Int32 → Int32 → Prop} {m : Nat} {x y a0 b0 : Int32}
theorem SqI.take (h : SqI F s T m x y) (hT : ∀ a b, T' a b → T a b ∨ C a b) (hC : T' a0 b0) (hm : m < Wq F s a0 b0) (hmax : ∀ a b, C a b → Wq F s a b < Wq F s a0 b0 ∨ (Wq F s a b = Wq F s a0 b0 ∧ (a0.toInt < a.toInt ∨ (a0 = a ∧ b0.toInt ≤ b.toInt)))) : SqI F s T' (Wq F s a0 b0) a0 b0 := by
  refine Or.inr ⟨by omega, rfl, hC, fun a b t => ?_⟩
  rcases hT a b t with t | t
  · left
    rcases h with ⟨h1, h2⟩ | ⟨h1, h2, h3, h4⟩
    · have := h2 a b t
      omega
    · rcases h4 a b t with q | ⟨q, _⟩ <;> omega
  · exact hmax a b t
theorem SqI.keep (h : SqI F s T m x y) (hT : ∀ a b, T' a b → T a b ∨ C a b) (hT2 : ∀ a b, T a b → T' a b) (hk : ∀ a b, C a b → Wq F s a b < m ∨ (Wq F s a b = m ∧ (m = 0 ∨ x.toInt < a.toInt ∨ (x = a ∧ y.toInt ≤ b.toInt)))) : SqI F s T' m x y := by
  rcases h with ⟨h1, h2⟩ | ⟨h1, h2, h3, h4⟩
  · refine Or.inl ⟨h1, fun a b t => ?_⟩
    rcases hT a b t with t | t
    · exact h2 a b t
    · rcases hk a b t with q | ⟨q, _⟩ <;> omega
  · refine Or.inr ⟨h1, h2, hT2 _ _ h3, fun a b t => ?_⟩
    rcases hT a b t with t | t
    · exact h4 a b t
    · rcases hk a b t with q | ⟨q, z | z⟩
      · exact Or.inl q
      · omega
      · exact Or.inr ⟨q, z⟩
theorem SqI.take2 (h : SqI F s T m x y) (hT : ∀ a b, T' a b → T a b ∨ (a = a0 ∧ b = b0)) (hC : T' a0 b0) (hm : 1 ≤ m) (he : Wq F s a0 b0 = m) (hl : a0.toInt < x.toInt ∨ (a0 = x ∧ b0.toInt < y.toInt)) : SqI F s T' m a0 b0 := by
  rcases h with ⟨h1, h2⟩ | ⟨h1, h2, h3, h4⟩
  · omega
  · refine Or.inr ⟨h1, he.symm, hC, fun a b t => ?_⟩
    rcases hT a b t with t | ⟨t1, t2⟩
    · rcases h4 a b t with q | ⟨q, z⟩
      · exact Or.inl q
      · refine Or.inr ⟨q, ?_⟩
        rcases z with z | ⟨z, z2⟩
        · left
          rcases hl with hl | ⟨hl, _⟩
          · omega
          · rw [hl]; exact z
        · rw [← z]
          rcases hl with hl | ⟨hl, hl2⟩
          · exact Or.inl hl
          · exact Or.inr ⟨hl, by omega⟩
    · rw [t1, t2]
      exact Or.inr ⟨he, Or.inr ⟨rfl, Int.le_refl _⟩⟩
theorem SqI.cong (h : SqI F s T m x y) (hT : ∀ a b, T a b ↔ T' a b) : SqI F s T' m x y := h.keep (C := fun _ _ => False) (fun a b t => Or.inl ((hT a b).mpr t)) (fun a b t => (hT a b).mp t) (fun _ _ t => t.elim)
theorem SqI.le60 (hw : WF F) (h : SqI F s T m x y) : m ≤ 60 := by
  rcases h with ⟨h1, _⟩ | ⟨_, h2, _⟩
  · omega
  · have h3 : Wq F s x y ≤ (thL F).length := List.countP_le_length
    have h4 := hw.c60
    rw [thL, pik_len] at h3
    omega
end SQI
def TT (F : Fl) (i j : Nat) (a b : Int32) : Prop := ∃ e f, e < fn F ∧ f < fn F ∧ thr F e = true ∧ thr F f = true ∧ (e < i ∨ (e = i ∧ f < j)) ∧ a = fx F e ∧ b = fy F f
theorem TT_s {F : Fl} {i j : Nat} (hi : i < fn F) (hj : j < fn F) {a b : Int32} : TT F i (j + 1) a b ↔ TT F i j a b ∨ (thr F i = true ∧ thr F j = true ∧ a = fx F i ∧ b = fy F j) := by
  constructor
  · rintro ⟨e, f, h1, h2, h3, h4, h5, h6, h7⟩
    by_cases c : e = i ∧ f = j
    · obtain ⟨rfl, rfl⟩ := c
      exact Or.inr ⟨h3, h4, h6, h7⟩
    · exact Or.inl ⟨e, f, h1, h2, h3, h4, by omega, h6, h7⟩
  · rintro (⟨e, f, h1, h2, h3, h4, h5, h6, h7⟩ | ⟨h1, h2, h3, h4⟩)
    · exact ⟨e, f, h1, h2, h3, h4, by omega, h6, h7⟩
    · exact ⟨i, j, hi, hj, h1, h2, by omega, h3, h4⟩
theorem TT_n {F : Fl} {i : Nat} (a b : Int32) : TT F i (fn F) a b ↔ TT F (i + 1) 0 a b := by
  constructor
  · rintro ⟨e, f, h1, h2, h3, h4, h5, h6, h7⟩
    exact ⟨e, f, h1, h2, h3, h4, by omega, h6, h7⟩
  · rintro ⟨e, f, h1, h2, h3, h4, h5, h6, h7⟩
    exact ⟨e, f, h1, h2, h3, h4, by omega, h6, h7⟩
theorem TT_e {F : Fl} (a b : Int32) : TT F (fn F) 0 a b ↔ TA F a b := by
  constructor
  · rintro ⟨e, f, h1, h2, h3, h4, h5, h6, h7⟩
    exact ⟨e, (pik_mem _ _).mpr ⟨h1, h3⟩, f, (pik_mem _ _).mpr ⟨h2, h4⟩, h6, h7⟩
  · rintro ⟨e, he, f, hf, h6, h7⟩
    obtain ⟨h1, h3⟩ := (pik_mem _ _).mp he
    obtain ⟨h2, h4⟩ := (pik_mem _ _).mp hf
    exact ⟨e, f, h1, h2, h3, h4, Or.inl h1, h6, h7⟩
/-- the end of both: what the three numbers answer -/
theorem sq_end {Q : Option Value → Mem → Prop} {σ : Mem} {what : Int32} {m : Nat} {x y : Int32} (hm : m ≤ 60) (h : Q (some (.int (sqA what m x y))) σ) : ((¬ nI m = 0 → ((¬ what = 0 → ((¬ what = 1 → Q (some (.int y)) σ) ∧ (what = 1 → Q (some (.int x)) σ))) ∧ (what = 0 → Q (some (.int (nI m))) σ))) ∧ (nI m = 0 → Q (some (.int (-2000000001))) σ)) := by
  have hz : nI m = 0 ↔ m = 0 := nI_z (by omega)
  refine ⟨fun c => ⟨fun c1 => ⟨fun c2 => Qe h ?_, fun c2 => Qe h ?_⟩, fun c1 => Qe h ?_⟩, fun c => Qe h ?_⟩
  · rw [sqA, if_neg (fun q => c (hz.mpr q)), if_neg c1, if_neg c2]
  · rw [sqA, if_neg (fun q => c (hz.mpr q)), if_neg c1, if_pos c2]
  · rw [sqA, if_neg (fun q => c (hz.mpr q)), if_pos c1]
  · rw [sqA, if_pos (hz.mp c)]
section SQM
variable {d : Nat} {σ : Mem} {Q : Option Value → Mem → Prop} {F : Fl} {S : Ab} {VA : Ar → Prop}
theorem q_square (hva : ∀ A, VA A → WA A) (hC : MD σ S) (hw : WS VA S) {s what : Int32} (h : OutM σ Q (o_square S s what)) : X none (d + 3) mX8_square 0 [.ref 94, .int s, .int what, Unk, Unk, Unk, Unk, Unk, Unk, Unk, Unk, Unk] [] σ Q := by
  have hM := MZ_iff.mp hC.1
  have hn := hw.1.n120
  refine vX8_square_0 ⟨fun c => OutM.bad hva hw h hC (by rw [o_square, if_neg (fun q => c q.1)]), fun hs => ⟨fun hwh => ?_, fun c => OutM.bad hva hw h hC (by rw [o_square, if_neg (fun q => c q.2)])⟩⟩
  rw [o_square, if_pos ⟨hs, hwh⟩] at h
  have hq : ∀ m x y, SqI (bF S) s (TA (bF S)) m x y → Q (some (.int (sqA what m x y))) σ := fun m x y hi => by
    have h0 : Q (some (.int (sqR (bF S) s what))) σ := h σ hC Sm.rf
    rw [sqR_of ⟨m, x, y, hi, rfl⟩] at h0
    exact h0
  clear h
  have v : ∀ z, z < 7458 → vp_in (nI z) 7458 := fun z hz => vin hz (by decide)
  have inner : ∀ i, i < fn (bF S) → (∀ m x y, SqI (bF S) s (TT (bF S) (i + 1) 0) m x y → X none (d + 3) mX8_square 40 [.ref 94, .int s, .int what, .int (nI m), .int x, .int y, .int (nI i + 1), Unk, Unk, Unk, Unk, Unk] [] σ Q) → ∀ k j m x y, fn (bF S) = j + k → SqI (bF S) s (TT (bF S) i j) m x y → X none (d + 3) mX8_square 54 [.ref 94, .int s, .int what, .int (nI m), .int x, .int y, .int (nI i), .int (nI j), Unk, Unk, Unk, Unk] [] σ Q := by
    intro i hi kk k
    induction k with
    | zero =>
      intro j m x y hj hI
      refine vX8_square_54 ⟨fun _ => kk m x y ?_, fun c => absurd (by rw [hM.1.1]; exact nI_le (by omega) (by omega)) c⟩
      rw [show j = fn (bF S) by omega] at hI
      exact hI.cong TT_n
    | succ k ih =>
      intro j m x y hj hI
      have hlt : j < fn (bF S) := by omega
      have h60 := hI.le60 hw.1
      obtain ⟨a1, a2, a3, a4, a5⟩ := hM.2.1 i hi
      obtain ⟨b1, b2, b3, b4, b5⟩ := hM.2.1 j hlt
      refine vX8_square_54 ?_
      rw [k494, k494, k128, k250, nI_clamp (n := 494 + i) (by omega), nI_clamp (n := 494 + j) (by omega), nI_clamp (n := 128 + i) (by omega), nI_clamp (n := 250 + j) (by omega), a2, a5, b3, b5, gz, gz, nI_1 j]
      have same : ¬ (thr (bF S) i = true ∧ thr (bF S) j = true) → SqI (bF S) s (TT (bF S) i (j + 1)) m x y := fun c => hI.cong (fun a b => by
        rw [TT_s hi hlt]
        exact ⟨Or.inl, fun q => q.elim id (fun q => absurd ⟨q.1, q.2.1⟩ c)⟩)
      refine ⟨fun c => absurd c (by rw [hM.1.1]; exact nI_ge hlt (by omega)), fun _ => ⟨v _ (by omega), v _ (by omega), v _ (by omega), fun c1 => ⟨fun c2 => absurd c2 (nI_pos (by omega)), fun _ => ?_⟩, fun c1 => ⟨v _ (by omega), fun c2 => ⟨fun c3 => absurd c3 (nI_pos (by omega)), fun _ => ?_⟩, fun c2 => ?_⟩⟩⟩
      · have hs2 := same (fun q => c1 (thr_iff.mp q.1))
        exact ⟨fun _ => ih (j + 1) m x y (by omega) hs2, fun _ => ih (j + 1) m x y (by omega) hs2⟩
      · have hs2 := same (fun q => c2 (thr_iff.mp q.2))
        exact ⟨fun _ => ih (j + 1) m x y (by omega) hs2, fun _ => ih (j + 1) m x y (by omega) hs2⟩
      · have ti := thr_iff.mpr c1
        have tj := thr_iff.mpr c2
        have eW : cnt (pX (bF S) (fx (bF S) i) (fx (bF S) i + s) (fy (bF S) j) (fy (bF S) j + s)) (fn (bF S)) = Wq (bF S) s (fx (bF S) i) (fy (bF S) j) := by
          rw [Wq, thL, ← cnt_pik]
          rfl
        have hW : Wq (bF S) s (fx (bF S) i) (fy (bF S) j) ≤ 60 := by
          have h3 : Wq (bF S) s (fx (bF S) i) (fy (bF S) j) ≤ (thL (bF S)).length := List.countP_le_length
          have h4 := hw.1.c60
          rw [thL, pik_len] at h3
          omega
        have hT : ∀ a b, TT (bF S) i (j + 1) a b → TT (bF S) i j a b ∨ (a = fx (bF S) i ∧ b = fy (bF S) j) := fun a b t => ((TT_s hi hlt).mp t).elim Or.inl (fun q => Or.inr q.2.2)
        have hT2 : ∀ a b, TT (bF S) i j a b → TT (bF S) i (j + 1) a b := fun a b t => (TT_s hi hlt).mpr (Or.inl t)
        have hC0 : TT (bF S) i (j + 1) (fx (bF S) i) (fy (bF S) j) := (TT_s hi hlt).mpr (Or.inr ⟨ti, tj, rfl, rfl⟩)
        have keep : (Wq (bF S) s (fx (bF S) i) (fy (bF S) j) < m ∨ (Wq (bF S) s (fx (bF S) i) (fy (bF S) j) = m ∧ (m = 0 ∨ x.toInt < (fx (bF S) i).toInt ∨ (x = fx (bF S) i ∧ y.toInt ≤ (fy (bF S) j).toInt)))) → X none (d + 3) mX8_square 54 [.ref 94, .int s, .int what, .int (nI m), .int x, .int y, .int (nI i), .int (nI (j + 1)), Unk, Unk, Unk, Unk] [] σ Q := fun hk => ih (j + 1) m x y (by omega) (hI.keep hT hT2 (fun a b q => by rw [q.1, q.2]; exact hk))
        refine m_manyIn (by omega) hM ⟨_, rfl, ?_⟩
        rw [eW, nI_ltI (by omega) (by omega), nI_eq (by omega) (by omega)]
        refine ⟨fun c3 => ?_, fun c3 => ⟨fun c4 => keep (Or.inl (by omega)), fun c4 => ⟨fun c5 => keep (Or.inr ⟨c4, Or.inl ?_⟩), fun c5 => ⟨fun c6 => ?_, fun c6 => ⟨fun c7 => keep (Or.inr ⟨c4, Or.inr (Or.inl ?_)⟩), fun c7 => ⟨fun c8 => keep (Or.inr ⟨c4, Or.inr (Or.inr ⟨c7.symm, le_I.mp c8⟩)⟩), fun c8 => ?_⟩⟩⟩⟩⟩⟩
        · exact ih (j + 1) _ _ _ (by omega) (hI.take hT hC0 c3 (fun a b q => by rw [q.1, q.2]; exact Or.inr ⟨rfl, Or.inr ⟨rfl, Int.le_refl _⟩⟩))
        · rcases Nat.eq_zero_or_pos m with z | z
          · exact z
          · exact absurd c5 (by rw [c4]; exact nI_nle z (by omega))
        · have z : 1 ≤ m := by
            rcases Nat.eq_zero_or_pos m with z | z
            · exact absurd (by rw [c4, z, nI_0]; decide) c5
            · exact z
          rw [c4]
          exact ih (j + 1) m _ _ (by omega) (hI.take2 hT hC0 z c4 (Or.inl (lt_I.mp c6)))
        · have g1 := Int32.not_lt.mp c6
          have g2 := le_I.mp g1
          rcases Int.lt_or_eq_of_le g2 with g | g
          · exact g
          · exact absurd (Int32.toInt_inj.mp g).symm c7
        · have z : 1 ≤ m := by
            rcases Nat.eq_zero_or_pos m with z | z
            · exact absurd (by rw [c4, z, nI_0]; decide) c5
            · exact z
          rw [c4]
          exact ih (j + 1) m _ _ (by omega) (hI.take2 hT hC0 z c4 (Or.inr ⟨c7, lt_I.mp (Int32.not_le.mp c8)⟩))
  have outer : ∀ k i m x y, fn (bF S) = i + k → SqI (bF S) s (TT (bF S) i 0) m x y → X none (d + 3) mX8_square 40 [.ref 94, .int s, .int what, .int (nI m), .int x, .int y, .int (nI i), Unk, Unk, Unk, Unk, Unk] [] σ Q := by
    intro k
    induction k with
    | zero =>
      intro i m x y hi hI
      refine vX8_square_40 ⟨fun _ => ?_, fun c => absurd (by rw [hM.1.1]; exact nI_le (by omega) (by omega)) c⟩
      rw [show i = fn (bF S) by omega] at hI
      exact sq_end (hI.le60 hw.1) (hq m x y (hI.cong TT_e))
    | succ k ih =>
      intro i m x y hi hI
      have hlt : i < fn (bF S) := by omega
      refine vX8_square_40 ⟨fun c => absurd c (by rw [hM.1.1]; exact nI_ge hlt (by omega)), fun _ => ?_⟩
      have := inner i hlt (fun m x y hI' => by rw [nI_1]; exact ih (i + 1) m x y (by omega) hI') (fn (bF S)) 0 m x y (by omega) hI
      rw [nI_0] at this
      exact this
  have := outer (fn (bF S)) 0 0 0 0 (by omega) (Or.inl ⟨rfl, fun a b ⟨e, f, _, _, _, _, h5, _⟩ => absurd h5 (by omega)⟩)
  rw [nI_0] at this
  exact this
end SQM
