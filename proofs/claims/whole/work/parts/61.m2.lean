/-! The model as a whole: what it holds of the abstract state; its calls on points. -/
def sgn (s : Int32) : Int32 := if s = -1 then -4 else if s = -2 then -3 else if s = -3 then -1 else if s = -4 then -2 else s
def MA (σ : Mem) (o : Nat) (A : Ar) : Prop := σ.1 96 o = nI (am A) ∧ σ.1 96 (o + 1) = nI (ar A) ∧ (∀ k, k < am A → σ.1 96 (o + 2 + k) = sgn (ast A k)) ∧ ∀ k, k < 4 * ar A → σ.1 96 (o + 122 + k) = asd A k
def MI (σ : Mem) (i : Nat) (G : Bool × Fl × Ar) : Prop := σ.1 97 i = (if G.1 = true then 1 else 0) ∧ (G.1 = true → MF σ (678 + 678 * i) G.2.1 ∧ MA σ (182 + 182 * i) G.2.2)
def MD (σ : Mem) (S : Ab) : Prop := MF σ 0 (bF S) ∧ MH σ (bH S) ∧ (∀ i, i < 2 → MI σ i (bI S i)) ∧ MA σ 0 (bA S) ∧ (σ.1 94 6 = nI (bT S).1 ∧ ∀ k, k < (bT S).1 → σ.1 98 k = (bT S).2 k) ∧ (σ.2 94 7 = (bR S).1 ∧ σ.2 94 8 = (bR S).2) ∧ σ.1 94 3 = bE S ∧ σ.1 99 0 = (bS S).1 ∧ σ.1 99 1 = (bS S).2.1 ∧ σ.1 99 2 = (bS S).2.2
def SCM : Nat → Nat → Prop := fun i k => i < 94 ∨ (i = 94 ∧ (k = 10 ∨ k = 12 ∨ k = 13 ∨ k = 14 ∨ k = 16 ∨ k = 17 ∨ k = 19)) ∨ i = 100 ∨ i = 101 ∨ i = 102 ∨ (i = 96 ∧ 546 ≤ k)
def SM94 : Nat → Nat → Prop := fun i _ => 94 ≤ i
theorem MA.sm {σ τ : Mem} {o : Nat} {A : Ar} (hw : am A ≤ 120 ∧ ar A ≤ 12) (h : MA σ o A) (hs : ∀ k, o ≤ k → k < o + 182 → τ.1 96 k = σ.1 96 k) : MA τ o A := by
  obtain ⟨h1, h2, h3, h4⟩ := h
  exact ⟨by rw [hs _ (by omega) (by omega)]; exact h1, by rw [hs _ (by omega) (by omega)]; exact h2, fun k hk => by rw [hs _ (by omega) (by omega)]; exact h3 k hk, fun k hk => by rw [hs _ (by omega) (by omega)]; exact h4 k hk⟩
theorem MA.shift {σ τ : Mem} {a b : Nat} {A : Ar} (hw : am A ≤ 120 ∧ ar A ≤ 12) (h : MA σ a A) (hs : ∀ k, k < 182 → τ.1 96 (b + k) = σ.1 96 (a + k)) : MA τ b A := by
  obtain ⟨h1, h2, h3, h4⟩ := h
  refine ⟨?_, by rw [hs 1 (by omega)]; exact h2, fun k hk => ?_, fun k hk => ?_⟩
  · have := hs 0 (by omega); rw [Nat.add_zero, Nat.add_zero] at this; rw [this]; exact h1
  · have := hs (2 + k) (by omega); rw [← Nat.add_assoc, ← Nat.add_assoc] at this; rw [this]; exact h3 k hk
  · have := hs (122 + k) (by omega); rw [← Nat.add_assoc, ← Nat.add_assoc] at this; rw [this]; exact h4 k hk
section M2
variable {d : Nat} {σ : Mem} {Q : Option Value → Mem → Prop} {F : Fl} {S : Ab} {VA : Ar → Prop}
/-- all but the field, what may be undone, and the places of P -/
theorem MD.fh {τ : Mem} {H : Hs} {P : Nat → Nat → Prop} (hva : ∀ A, VA A → WA A) (hw : WS VA S) (h : MD σ S) (hs : Sm P σ τ) (hp : ∀ i k, P i k → SCM i k ∨ (i = 95 ∧ (k < 678 ∨ 2034 ≤ k)) ∨ (i = 94 ∧ k = 2)) (hF : MF τ 0 F) (hH : MH τ H) : MD τ (mkS F H (bI S) (bA S) (bT S) (bR S) (bE S) (bS S)) := by
  obtain ⟨h1, h2, h3, h4, ⟨h5, h6⟩, ⟨h7, h8⟩, h9, h10, h11, h12⟩ := h
  have no : ∀ i k, ¬ (SCM i k ∨ (i = 95 ∧ (k < 678 ∨ 2034 ≤ k)) ∨ (i = 94 ∧ k = 2)) → ¬ P i k := fun i k q z => q (hp i k z)
  have e1 : ∀ i k, ¬ (SCM i k ∨ (i = 95 ∧ (k < 678 ∨ 2034 ≤ k)) ∨ (i = 94 ∧ k = 2)) → τ.1 i k = σ.1 i k := fun i k q => (hs i k (no i k q)).1
  have e2 : ∀ i k, ¬ (SCM i k ∨ (i = 95 ∧ (k < 678 ∨ 2034 ≤ k)) ∨ (i = 94 ∧ k = 2)) → τ.2 i k = σ.2 i k := fun i k q => (hs i k (no i k q)).2
  have wa := hva _ hw.2.2.2.1
  refine ⟨hF, hH, fun i hi => ⟨?_, fun hk => ⟨?_, ?_⟩⟩, h4.sm ⟨wa.1, wa.2.1⟩ (fun k q1 q2 => e1 96 k (by unfold SCM; omega)), ⟨?_, fun k hk => ?_⟩, ⟨?_, ?_⟩, ?_, ?_, ?_, ?_⟩
  · rw [e1 97 i (by unfold SCM; omega)]; exact (h3 i hi).1
  · exact ((h3 i hi).2 hk).1.sm (hw.2.2.1 i hi hk).1 (fun k q1 q2 => e1 95 k (by unfold SCM; omega))
  · have wi := hva _ (hw.2.2.1 i hi hk).2
    exact ((h3 i hi).2 hk).2.sm ⟨wi.1, wi.2.1⟩ (fun k q1 q2 => e1 96 k (by unfold SCM; omega))
  · rw [e1 94 6 (by unfold SCM; omega)]; exact h5
  · rw [e1 98 k (by unfold SCM; omega)]; exact h6 k hk
  · rw [e2 94 7 (by unfold SCM; omega)]; exact h7
  · rw [e2 94 8 (by unfold SCM; omega)]; exact h8
  · rw [e1 94 3 (by unfold SCM; omega)]; exact h9
  · rw [e1 99 0 (by unfold SCM; omega)]; exact h10
  · rw [e1 99 1 (by unfold SCM; omega)]; exact h11
  · rw [e1 99 2 (by unfold SCM; omega)]; exact h12
theorem MH.sm {τ : Mem} {H : Hs} (hw : ∀ j, j < H.1 → WF (H.2 j)) (h : MH σ H) (h1 : τ.1 94 2 = σ.1 94 2) (h2 : ∀ k, 2034 ≤ k → τ.1 95 k = σ.1 95 k) : MH τ H :=
  ⟨by rw [h1]; exact h.1, h.2.1, fun j hj => (h.2.2 j hj).sm (hw j hj) (fun k q1 q2 => h2 k (by omega))⟩
theorem MD.sm {τ : Mem} {P : Nat → Nat → Prop} (hva : ∀ A, VA A → WA A) (hw : WS VA S) (h : MD σ S) (hs : Sm P σ τ) (hp : ∀ i k, P i k → SCM i k) : MD τ S := by
  have e1 : ∀ i k, ¬ SCM i k → τ.1 i k = σ.1 i k := fun i k q => (hs i k (fun z => q (hp i k z))).1
  exact MD.fh hva hw h hs (fun i k q => Or.inl (hp i k q)) (h.1.sm hw.1 (fun k q1 q2 => e1 95 k (by unfold SCM; omega))) (MH.sm hw.2.1.2 h.2.1 (e1 94 2 (by unfold SCM; omega)) (fun k q => e1 95 k (by unfold SCM; omega)))
theorem MD.st {τ : Mem} {z : Nat} (hva : ∀ A, VA A → WA A) (hw : WS VA S) (h : MD σ S) (hz : z < 3) (e : τ = w1 σ 99 z (σ.1 99 z + 1)) : MD τ (mkS (bF S) (bH S) (bI S) (bA S) (bT S) (bR S) (bE S) (if z = 0 then (bS S).1 + 1 else (bS S).1, if z = 1 then (bS S).2.1 + 1 else (bS S).2.1, if z = 2 then (bS S).2.2 + 1 else (bS S).2.2)) ∧ Sm SM94 σ τ := by
  have hs : Sm (fun i k => i = 99 ∧ k = z) σ τ := by rw [e]; exact Sm.rf.w1 ⟨rfl, rfl⟩
  obtain ⟨h1, h2, h3, h4, ⟨h5, h6⟩, ⟨h7, h8⟩, h9, h10, h11, h12⟩ := h
  have wa := hva _ hw.2.2.2.1
  have e1 : ∀ i k, i ≠ 99 → τ.1 i k = σ.1 i k := fun i k q => (hs i k (by omega)).1
  refine ⟨⟨h1.sm hw.1 (fun k _ _ => e1 95 k (by omega)), MH.sm hw.2.1.2 h2 (e1 94 2 (by omega)) (fun k _ => e1 95 k (by omega)), fun i hi => ⟨?_, fun hk => ⟨?_, ?_⟩⟩, h4.sm ⟨wa.1, wa.2.1⟩ (fun k _ _ => e1 96 k (by omega)), ⟨?_, fun k hk => ?_⟩, ⟨?_, ?_⟩, ?_, ?_, ?_, ?_⟩, hs.mono (fun i k q => by unfold SM94; omega)⟩
  · rw [e1 97 i (by omega)]; exact (h3 i hi).1
  · exact ((h3 i hi).2 hk).1.sm (hw.2.2.1 i hi hk).1 (fun k _ _ => e1 95 k (by omega))
  · have wi := hva _ (hw.2.2.1 i hi hk).2
    exact ((h3 i hi).2 hk).2.sm ⟨wi.1, wi.2.1⟩ (fun k _ _ => e1 96 k (by omega))
  · rw [e1 94 6 (by omega)]; exact h5
  · rw [e1 98 k (by omega)]; exact h6 k hk
  · rw [(hs 94 7 (by omega)).2]; exact h7
  · rw [(hs 94 8 (by omega)).2]; exact h8
  · rw [e1 94 3 (by omega)]; exact h9
  · show τ.1 99 0 = if z = 0 then (bS S).1 + 1 else (bS S).1
    by_cases hz0 : z = 0
    · rw [if_pos hz0, e, hz0, w1_s, h10]
    · rw [if_neg hz0, e, w1_k _ _ _ _ _ _ (by omega), h10]
  · show τ.1 99 1 = if z = 1 then (bS S).2.1 + 1 else (bS S).2.1
    by_cases hz0 : z = 1
    · rw [if_pos hz0, e, hz0, w1_s, h11]
    · rw [if_neg hz0, e, w1_k _ _ _ _ _ _ (by omega), h11]
  · show τ.1 99 2 = if z = 2 then (bS S).2.2 + 1 else (bS S).2.2
    by_cases hz0 : z = 2
    · rw [if_pos hz0, e, hz0, w1_s, h12]
    · rw [if_neg hz0, e, w1_k _ _ _ _ _ _ (by omega), h12]
def OutM (σ : Mem) (Q : Option Value → Mem → Prop) (o : Int32 × Ab) : Prop := ∀ τ, MD τ o.2 → Sm SM94 σ τ → Q (some (.int o.1)) τ
theorem OutM.bad {o : Int32 × Ab} (hva : ∀ A, VA A → WA A) (hw : WS VA S) (h : OutM σ Q o) (hC : MD σ S) (e : o = (cBAD, rf0 S)) : ∀ τ : Mem, τ = w1 σ 99 0 (σ.1 99 0 + 1) → Q (some (.int (-2000000002))) τ := fun τ eτ => by
  subst e
  have := MD.st hva hw hC (by omega) eτ
  exact h τ this.1 this.2
theorem OutM.no {o : Int32 × Ab} (hva : ∀ A, VA A → WA A) (hw : WS VA S) (h : OutM σ Q o) (hC : MD σ S) (e : o = (cNO, rf1 S)) : ∀ τ : Mem, τ = w1 σ 99 1 (σ.1 99 1 + 1) → Q (some (.int (-2000000003))) τ := fun τ eτ => by
  subst e
  have := MD.st hva hw hC (by omega) eτ
  exact h τ this.1 this.2
theorem OutM.full {o : Int32 × Ab} (hva : ∀ A, VA A → WA A) (hw : WS VA S) (h : OutM σ Q o) (hC : MD σ S) (e : o = (cFULL, rf2 S)) : ∀ τ : Mem, τ = w1 σ 99 2 (σ.1 99 2 + 1) → Q (some (.int (-2000000004))) τ := fun τ eτ => by
  subst e
  have := MD.st hva hw hC (by omega) eτ
  exact h τ this.1 this.2
theorem e60 (hw : WF F) : nI (fn F) - nI (fg F) = 60 ↔ ¬ fn F < fg F + 60 := by
  have := hw.1
  rw [thereI hw, show (60 : Int32) = nI 60 from rfl, nI_eq (by omega) (by omega)]
  omega
theorem e10000 (hw : WF F) : nI (fnx F) = 10000 ↔ ¬ fnx F < 10000 := by
  have := hw.1
  rw [show (10000 : Int32) = nI 10000 from rfl, nI_eq (by omega) (by omega)]
  omega
/-- behind minds: the field is as it was -/
theorem m_minds2 (hw : WS VA S) (hC : MD σ S) (hq : ∀ τ, MH τ (hpush (bH S) (bF S)) → MZ τ (bF S) → Sm SU σ τ → Q none τ) : X none (d + 1) mX8_minds 0 [.ref 94, Unk] [] σ Q :=
  m_minds hw.1 hw.2.1.2 hC.1 hC.2.1 (fun τ h1 h2 => hq τ h1 (MZ_iff.mp (hC.1.sm hw.1 (fun k q1 q2 => (h2 95 k (by unfold SU; omega)).1))) h2)
theorem hpush_WF (hw : WS VA S) : ∀ j, j < (hpush (bH S) (bF S)).1 → WF ((hpush (bH S) (bF S)).2 j) := by
  intro j hj
  unfold hpush at hj ⊢
  split at hj
  · rename_i hk
    rw [if_pos hk]
    show WF (if j = (bH S).1 then bF S else (bH S).2 j)
    have hj2 : j < (bH S).1 + 1 := hj
    split
    · exact hw.1
    · exact hw.2.1.2 j (by omega)
  · rename_i hk
    rw [if_neg hk]
    show WF (if j = 7 then bF S else (bH S).2 (j + 1))
    have hj2 : j < 8 := hj
    split
    · exact hw.1
    · exact hw.2.1.2 (j + 1) (by omega)
/-- the end of a call that changed the field, behind minds -/
theorem endF {τ1 τ : Mem} {G : Fl} {P : Nat → Nat → Prop} (hva : ∀ A, VA A → WA A) (hw : WS VA S) (hC : MD σ S) (hH : MH τ1 (hpush (bH S) (bF S))) (hs1 : Sm SU σ τ1) (hs2 : Sm P τ1 τ) (hP : ∀ i k, P i k → (i = 95 ∧ k < 678) ∨ i = 100 ∨ (i = 94 ∧ (k = 10 ∨ k = 12))) (hG : MZ τ G) : MD τ (setF S G) ∧ Sm SM94 σ τ := by
  have hs : Sm (fun i k => SU i k ∨ P i k) σ τ := (hs1.mono (fun i k q => Or.inl q)).tr (hs2.mono (fun i k q => Or.inr q))
  refine ⟨MD.fh hva hw hC hs (fun i k q => ?_) (MZ_iff.mpr hG) (MH.sm (hpush_WF hw) hH (hs2 94 2 (fun z => by have := hP _ _ z; omega)).1 (fun k q => (hs2 95 k (fun z => by have := hP _ _ z; omega)).1)), hs.mono (fun i k q => ?_)⟩
  · rcases q with q | q
    · unfold SU at q; unfold SCM; omega
    · have := hP i k q; unfold SCM; omega
  · rcases q with q | q
    · unfold SU at q; unfold SM94; omega
    · have := hP i k q; unfold SM94; omega
theorem q_put (hva : ∀ A, VA A → WA A) (hC : MD σ S) (hw : WS VA S) {x y w : Int32} (h : OutM σ Q (o_put S x y w)) : X none (d + 2) mX8_put 0 [.ref 94, .int x, .int y, .int w] [] σ Q := by
  have hZ := MZ_iff.mp hC.1
  have hn := hw.1.n120
  have hx := hw.1.1
  refine vX8_put_0 ?_
  rw [hZ.1.1, hZ.1.2.1, hZ.1.2.2.2.2.2, e60 hw.1, e10000 hw.1]
  refine ⟨fun c => OutM.bad hva hw h hC ?_, fun c => ⟨fun c1 => OutM.bad hva hw h hC ?_, fun c1 => ⟨fun c2 => ⟨fun c3 => OutM.full hva hw h hC ?_, fun c3 => ⟨fun c4 => ?_, fun c4 => OutM.full hva hw h hC ?_⟩⟩, fun c2 => OutM.bad hva hw h hC ?_⟩⟩⟩
  · rw [o_put, if_neg (fun q => c q.1.1)]
  · rw [o_put, if_neg (fun q => c1 q.1.2)]
  · rw [o_put, if_pos ⟨⟨c, c1⟩, c2⟩, if_neg (fun q => c3 q.1)]
  · have c3' := Decidable.not_not.mp c3
    have c4' := Decidable.not_not.mp c4
    rw [o_put, if_pos ⟨⟨c, c1⟩, c2⟩, if_pos ⟨c3', c4'⟩] at h
    refine m_minds2 hw hC (fun τ hH hF hs => ⟨rfl, m_comes (by omega) hF (fun τ2 hF2 hs2 => ⟨rfl, ?_⟩) (fun _ _ => trivial)⟩)
    have he := endF hva hw hC hH hs hs2 (fun i k q => Or.inl q) hF2
    refine Qe (h τ2 he.1 he.2) ?_
    rw [hF2.1.2.2.2.2.2]
    exact (nI_pred _).symm
  · rw [o_put, if_pos ⟨⟨c, c1⟩, c2⟩, if_neg (fun q => c4 q.2)]
  · rw [o_put, if_neg (fun q => c2 q.2)]
theorem q_take (hva : ∀ A, VA A → WA A) (hC : MD σ S) (hw : WS VA S) {n : Int32} (h : OutM σ Q (o_take S n)) : X none (d + 3) mX8_take 0 [.ref 94, .int n, Unk, Unk] [] σ Q := by
  have hZ := MZ_iff.mp hC.1
  have hn := hw.1.n120
  refine vX8_take_0 (m_find (by omega) hZ ⟨_, rfl, ?_⟩)
  cases hf : fnd (bF S) n with
  | none =>
    refine ⟨fun c => absurd c (Int32.not_le.mpr oi_none), fun _ => OutM.bad hva hw h hC ?_⟩
    rw [o_take, hf]
  | some e =>
    obtain ⟨he, ht, hne⟩ := fnd_some hf
    have e1 : o_take S n = (fw (bF S) e, setF S (goF (bF S) e)) := by rw [o_take, hf]
    rw [e1] at h
    refine ⟨fun _ => ?_, fun c => absurd (Int32.not_lt.mp (oi_some (show e < 2 ^ 31 by omega))) c⟩
    refine m_minds2 hw hC (fun τ hH hF hs => ⟨rfl, ?_⟩)
    show vp_in (372 + nI e) 7458 ∧ X none (d + 2) mX8_goes 0 [.ref 94, .int (nI e)] [] τ (fun r τ4 => r = none ∧ Q (some (.int (τ.1 95 (372 + nI e).toNatClampNeg))) τ4)
    rw [k372, nI_clamp (n := 372 + e) (by omega), (hF.2.1 e he).2.2.2.1]
    refine ⟨vin (by omega) (by decide), m_goes hw.1 hF he ht (fun τ2 hF2 hs2 => ⟨rfl, ?_⟩)⟩
    have hh := endF hva hw hC hH hs hs2 (fun i k q => Or.inl q) hF2
    exact h τ2 hh.1 hh.2
theorem q_move (hva : ∀ A, VA A → WA A) (hC : MD σ S) (hw : WS VA S) {n x y : Int32} (h : OutM σ Q (o_move S n x y)) : X none (d + 3) mX8_move 0 [.ref 94, .int n, .int x, .int y, Unk, Unk] [] σ Q := by
  have hZ := MZ_iff.mp hC.1
  have hn := hw.1.n120
  refine vX8_move_0 (m_find (by omega) hZ ⟨_, rfl, ?_⟩)
  rw [hZ.1.2.2.2.2.2, e10000 hw.1]
  cases hf : fnd (bF S) n with
  | none =>
    refine ⟨fun _ => OutM.bad hva hw h hC ?_, fun c => absurd oi_none c⟩
    rw [o_move, hf]
  | some e =>
    obtain ⟨he, ht, hne⟩ := fnd_some hf
    refine ⟨fun c => absurd c (oi_some (show e < 2 ^ 31 by omega)), fun _ => ⟨fun c => OutM.bad hva hw h hC ?_, fun c => ⟨fun c1 => ⟨fun c4 => ?_, fun c4 => OutM.full hva hw h hC ?_⟩, fun c1 => OutM.bad hva hw h hC ?_⟩⟩⟩
    · simp only [o_move, hf]
      rw [if_neg (fun q => c q.1)]
    · have c4' := Decidable.not_not.mp c4
      have e1 : o_move S n x y = (nI (fnx (bF S)), setF S (comeF (goF (bF S) e) x y (fw (bF S) e))) := by
        simp only [o_move, hf]
        rw [if_pos ⟨c, c1⟩, if_pos c4']
      rw [e1] at h
      have hgn := (hw.1.go he ht).n120
      refine m_minds2 hw hC (fun τ hH hF hs => ⟨rfl, ?_⟩)
      show vp_in (372 + nI e) 7458 ∧ X none (d + 2) mX8_goes 0 [.ref 94, .int (nI e)] [] τ _
      rw [show oi (some e) = nI e from rfl]
      rw [k372, nI_clamp (n := 372 + e) (by omega), (hF.2.1 e he).2.2.2.1]
      refine ⟨vin (by omega) (by decide), m_goes hw.1 hF he ht (fun τ2 hF2 hs2 => ⟨rfl, m_comes (by omega) hF2 (fun τ3 hF3 hs3 => ⟨rfl, ?_⟩) (fun _ _ => trivial)⟩)⟩
      have hh := endF hva hw hC hH hs (hs2.tr hs3) (fun i k q => Or.inl q) hF3
      refine Qe (h τ3 hh.1 hh.2) ?_
      rw [hF3.1.2.2.2.2.2]
      show nI (fnx (bF S)) = nI (fnx (goF (bF S) e) + 1) - 1
      rw [nI_pred, goF_nx]
    · simp only [o_move, hf]
      rw [if_pos ⟨c, c1⟩, if_neg c4]
    · simp only [o_move, hf]
      rw [if_neg (fun q => c1 q.2)]
theorem q_counter (hva : ∀ A, VA A → WA A) (hC : MD σ S) (hw : WS VA S) {k : Int32} (h : OutM σ Q (o_counter S k)) : X none (d + 2) mX8_counter 0 [.ref 94, .int k, Unk] [] σ Q := by
  refine vX8_counter_0 ⟨fun c => ?_, fun c => OutM.bad hva hw h hC (by rw [o_counter, if_neg c])⟩
  rw [o_counter, if_pos c] at h
  refine m_minds2 hw hC (fun τ hH hF hs => ⟨rfl, fun τ3 e3 => ?_⟩)
  have s3 : Sm (fun i k => i = 95 ∧ k = 3) τ τ3 := by rw [e3]; exact Sm.rf.w1 ⟨rfl, rfl⟩
  have hn := hw.1.n120
  have hF3 : MZ τ3 (setK (bF S) k) := by
    obtain ⟨⟨h0, h1, h4, h5, h3, h2⟩, hr, hg⟩ := hF
    have e9 : ∀ j, j ≠ 3 → τ3.1 95 j = τ.1 95 j := fun j hj => (s3 95 j (by omega)).1
    refine ⟨⟨by rw [e9 0 (by omega)]; exact h0, by rw [e9 1 (by omega)]; exact h1, by rw [e9 4 (by omega)]; exact h4, by rw [e9 5 (by omega)]; exact h5, by rw [e3, w1_s]; rfl, by rw [e9 2 (by omega)]; exact h2⟩, fun e he => ?_, fun j hj => ?_⟩
    · rw [e9 _ (by omega), e9 _ (by omega), e9 _ (by omega), e9 _ (by omega), e9 _ (by omega)]
      exact hr e he
    · obtain ⟨e, q1, q2, q3⟩ := hg j hj
      exact ⟨e, q1, q2, by rw [e9 _ (by omega)]; exact q3⟩
  have hh := endF hva hw hC hH hs s3 (fun i k q => Or.inl (by omega)) hF3
  rw [hF.1.2.2.2.2.1]
  exact h τ3 hh.1 hh.2
theorem q_undo (hva : ∀ A, VA A → WA A) (hC : MD σ S) (hw : WS VA S) (h : OutM σ Q (o_undo S)) : X none (d + 1) mX8_undo 0 [.ref 94] [] σ Q := by
  obtain ⟨h1, h2, h3⟩ := hC.2.1
  refine vX8_undo_0 ?_
  rw [h1, nI_z (by omega)]
  refine ⟨fun c τ1 e1 => ?_, fun c => OutM.no hva hw h hC (by rw [o_undo, if_pos c])⟩
  rw [show nI (bH S).1 - 1 = nI ((bH S).1 - 1) by rw [show (bH S).1 = ((bH S).1 - 1) + 1 by omega, nI_pred]; rfl] at e1
  have r1 : τ1.1 94 2 = nI ((bH S).1 - 1) := by rw [e1, w1_s]
  have s1 : Sm (fun i k => i = 94 ∧ k = 2) σ τ1 := by rw [e1]; exact Sm.rf.w1 ⟨rfl, rfl⟩
  rw [r1, k678, k2034, show (0 : Int32) = nI 0 from nI_0.symm]
  refine m_copy (by omega) (by omega) (by omega) (fun τ hcp hs => ⟨rfl, ?_⟩)
  have r2 : τ.1 94 2 = nI ((bH S).1 - 1) := by rw [(hs 94 2 (by unfold Bk; omega)).1, r1]
  rw [r2]
  rw [o_undo, if_neg c] at h
  have hsA : Sm (fun i k => (i = 94 ∧ k = 2) ∨ (i = 95 ∧ k < 678)) σ τ := (s1.mono (fun i k q => Or.inl q)).tr (hs.mono (fun i k q => by unfold Bk at q; omega))
  refine h τ (MD.fh hva hw hC hsA (fun i k q => by unfold SCM; omega) ?_ ⟨r2, by show (bH S).1 - 1 ≤ 8; omega, fun j hj => ?_⟩) (hsA.mono (fun i k q => by unfold SM94; omega))
  · refine (h3 ((bH S).1 - 1) (by omega)).shift (hw.2.1.2 _ (by omega)) (fun k hk => ?_)
    rw [hcp k hk, (s1 95 _ (by omega)).1]
  · have hj2 : j < (bH S).1 - 1 := hj
    exact (h3 j (by omega)).sm (hw.2.1.2 j (by omega)) (fun k q1 q2 => (hsA 95 k (by omega)).1)
theorem m_ofPoint (hn : fn F ≤ 121) (hM : MZ σ F) {e : Nat} (he : e < fn F) {what : Int32} (hq : Q (some (.int (ofV F e what))) σ) : X none (d + 1) mX8_ofPoint 0 [.ref 94, .int (nI e), .int what] [] σ Q := by
  obtain ⟨a1, a2, a3, a4, a5⟩ := hM.2.1 e he
  have i0 : what = 0 ↔ what.toInt = 0 := by rw [← Int32.toInt_inj]; rfl
  have i1 : what = 1 ↔ what.toInt = 1 := by rw [← Int32.toInt_inj]; rfl
  have i2 : what = 2 ↔ what.toInt = 2 := by rw [← Int32.toInt_inj]; rfl
  refine vX8_ofPoint_0 ?_
  rw [k372, k250, k128, nI_clamp (n := 372 + e) (by omega), nI_clamp (n := 250 + e) (by omega), nI_clamp (n := 128 + e) (by omega), a2, a3, a4, i0, i1, i2]
  refine ⟨fun c => ⟨fun c1 => ⟨fun c2 => m_counts hn hM he ⟨_, rfl, Qe hq ?_⟩, fun c2 => ⟨vin (by omega) (by decide), Qe hq ?_⟩⟩, fun c1 => ⟨vin (by omega) (by decide), Qe hq ?_⟩⟩, fun c => ⟨vin (by omega) (by decide), Qe hq ?_⟩⟩
  · simp [ofV, c, c1, c2]
  · simp [ofV, c2]
  · simp [ofV, c1]
  · simp [ofV, c]
theorem q_of (hva : ∀ A, VA A → WA A) (hC : MD σ S) (hw : WS VA S) {n what : Int32} (h : OutM σ Q (o_of S n what)) : X none (d + 2) mX8_of 0 [.ref 94, .int n, .int what, Unk] [] σ Q := by
  have hZ := MZ_iff.mp hC.1
  have hn := hw.1.n120
  refine vX8_of_0 (m_find (by omega) hZ ⟨_, rfl, ?_⟩)
  cases hf : fnd (bF S) n with
  | none =>
    refine ⟨fun _ => OutM.bad hva hw h hC ?_, fun c => absurd oi_none c⟩
    rw [o_of, hf]
  | some e =>
    obtain ⟨he, ht, hne⟩ := fnd_some hf
    refine ⟨fun c => absurd c (oi_some (show e < 2 ^ 31 by omega)), fun _ => ⟨fun c => ?_, fun c => OutM.bad hva hw h hC ?_⟩⟩
    · have e1 : o_of S n what = (ofV (bF S) e what, S) := by
        simp only [o_of, hf]
        rw [if_pos c]
      rw [e1] at h
      exact m_ofPoint (by omega) hZ he ⟨_, rfl, h σ hC Sm.rf⟩
    · simp only [o_of, hf]
      rw [if_neg c]
theorem q_nth (hva : ∀ A, VA A → WA A) (hC : MD σ S) (hw : WS VA S) {k : Int32} (h : OutM σ Q (o_nth S k)) : X none (d + 1) mX8_nth 0 [.ref 94, .int k, Unk, Unk] [] σ Q := by
  have hZ := MZ_iff.mp hC.1
  have hn := hw.1.n120
  refine vX8_nth_0 ⟨fun c => ?_, fun c => OutM.bad hva hw h hC (by rw [o_nth, if_pos (Int32.not_le.mp c)])⟩
  rw [o_nth, if_neg (Int32.not_lt.mpr c)] at h
  have hQ := h σ hC Sm.rf
  obtain ⟨K, hK, rfl⟩ := nI_of (Int32.not_lt.mpr c)
  have hlen : ((pik (thr (bF S)) (fn (bF S))).map (fnum (bF S))).length = cnt (thr (bF S)) (fn (bF S)) := by rw [List.length_map, pik_len]
  have key : ∀ m i, fn (bF S) = i + m → cnt (thr (bF S)) i ≤ K → X none (d + 1) mX8_nth 13 [.ref 94, .int (nI K), .int (nI (K - cnt (thr (bF S)) i)), .int (nI i)] [] σ Q := by
    intro m
    induction m with
    | zero =>
      intro i hi hc
      refine vX8_nth_13 ⟨fun _ => Qe hQ ?_, fun c => absurd (by rw [hZ.1.1]; exact nI_le (by omega) (by omega)) c⟩
      show nthO _ _ = _
      rw [nthO, if_neg (nI_pos hK), nI_clamp hK, hlen, if_neg (by rw [show fn (bF S) = i by omega]; omega)]
    | succ m ih =>
      intro i hi hc
      have hlt : i < fn (bF S) := by omega
      obtain ⟨a1, a2, a3, a4, a5⟩ := hZ.2.1 i hlt
      refine vX8_nth_13 ?_
      rw [k494, k6, nI_clamp (n := 494 + i) (by omega), nI_clamp (n := 6 + i) (by omega), a5, a1, gz, nI_1]
      refine ⟨fun c => absurd c (by rw [hZ.1.1]; exact nI_ge hlt (by omega)), fun _ => ⟨vin (by omega) (by decide), fun c1 => ?_, fun c1 => ?_⟩⟩
      · have hci : cnt (thr (bF S)) (i + 1) = cnt (thr (bF S)) i := by simp [cnt, thr, c1]
        have := ih (i + 1) (by omega) (by rw [hci]; exact hc)
        rw [hci] at this
        exact this
      · have hp : thr (bF S) i = true := by simp [thr, c1]
        have hci : cnt (thr (bF S)) (i + 1) = cnt (thr (bF S)) i + 1 := by simp [cnt, hp]
        rw [nI_z (by omega)]
        refine ⟨fun c2 => ?_, fun c2 => ⟨vin (by omega) (by decide), Qe hQ ?_⟩⟩
        · have := ih (i + 1) (by omega) (by rw [hci]; omega)
          rw [hci] at this
          rw [show K - cnt (thr (bF S)) i = (K - (cnt (thr (bF S)) i + 1)) + 1 by omega, pk_m1]
          exact this
        · have hl := cnt_lt_of (p := thr (bF S)) hlt hp
          show nthO _ _ = _
          rw [nthO, if_neg (nI_pos hK), nI_clamp hK, hlen, if_pos (by omega)]
          have hg := pik_get (thr (bF S)) hlt hp
          rw [show K = cnt (thr (bF S)) i by omega]
          have hl2 : cnt (thr (bF S)) i < (pik (thr (bF S)) (fn (bF S))).length := by rw [pik_len]; exact hl
          rw [List.getD_eq_getElem?_getD, List.getElem?_map, List.getElem?_eq_getElem hl2]
          rw [List.getD_eq_getElem?_getD, List.getElem?_eq_getElem hl2] at hg
          exact congrArg (fun z => nI (fnum (bF S) z)) hg
  have := key (fn (bF S)) 0 (by omega) (Nat.zero_le _)
  simp only [cnt, nI_0, Nat.sub_zero] at this
  exact this
end M2
