/-! The abstract state of the whole object, what the class holds of it, History and Image. -/
abbrev Hs : Type := Nat × (Nat → Fl)
abbrev Ab : Type := Fl × Hs × (Nat → Bool × Fl × Ar) × Ar × (Nat × (Nat → Int32)) × (Int64 × Int64) × Int32 × (Int32 × Int32 × Int32)
def bF (S : Ab) : Fl := S.1
def bH (S : Ab) : Hs := S.2.1
def bI (S : Ab) : Nat → Bool × Fl × Ar := S.2.2.1
def bA (S : Ab) : Ar := S.2.2.2.1
def bT (S : Ab) : Nat × (Nat → Int32) := S.2.2.2.2.1
def bR (S : Ab) : Int64 × Int64 := S.2.2.2.2.2.1
def bE (S : Ab) : Int32 := S.2.2.2.2.2.2.1
def bS (S : Ab) : Int32 × Int32 × Int32 := S.2.2.2.2.2.2.2
def mkS (F : Fl) (H : Hs) (I : Nat → Bool × Fl × Ar) (A : Ar) (T : Nat × (Nat → Int32)) (R : Int64 × Int64) (E : Int32) (Z : Int32 × Int32 × Int32) : Ab := (F, H, I, A, T, R, E, Z)
def hpush (H : Hs) (F : Fl) : Hs := if H.1 < 8 then (H.1 + 1, fun j => if j = H.1 then F else H.2 j) else (8, fun j => if j = 7 then F else H.2 (j + 1))
/-- a changed field, what was ahead of it kept -/
def setF (S : Ab) (F : Fl) : Ab := mkS F (hpush (bH S) (bF S)) (bI S) (bA S) (bT S) (bR S) (bE S) (bS S)
def rf0 (S : Ab) : Ab := mkS (bF S) (bH S) (bI S) (bA S) (bT S) (bR S) (bE S) ((bS S).1 + 1, (bS S).2.1, (bS S).2.2)
def rf1 (S : Ab) : Ab := mkS (bF S) (bH S) (bI S) (bA S) (bT S) (bR S) (bE S) ((bS S).1, (bS S).2.1 + 1, (bS S).2.2)
def rf2 (S : Ab) : Ab := mkS (bF S) (bH S) (bI S) (bA S) (bT S) (bR S) (bE S) ((bS S).1, (bS S).2.1, (bS S).2.2 + 1)
abbrev cBAD : Int32 := -2000000002
abbrev cNO : Int32 := -2000000003
abbrev cFULL : Int32 := -2000000004
abbrev cNONE : Int32 := -2000000001
def HH (σ : Mem) (H : Hs) : Prop := ∃ o, o < 8 ∧ σ.1 7 1 = nI o ∧ σ.1 7 2 = nI H.1 ∧ H.1 ≤ 8 ∧ ∀ j, j < H.1 → CF σ (9 + 6 * ((o + j) % 8)) (H.2 j)
def IG (σ : Mem) (i : Nat) (G : Bool × Fl × Ar) : Prop := σ.1 (74 + 10 * i) 2 = (if G.1 = true then 1 else 0) ∧ (G.1 = true → CF σ (75 + 10 * i) G.2.1 ∧ CS σ (81 + 10 * i) G.2.2)
/-- what the class holds -/
def CL (σ : Mem) (S : Ab) : Prop := CF σ 1 (bF S) ∧ HH σ (bH S) ∧ (∀ i, i < 2 → IG σ i (bI S i)) ∧ CS σ 64 (bA S) ∧ (σ.1 67 2 = nI (bT S).1 ∧ ∀ k, k < (bT S).1 → σ.1 68 k = (bT S).2 k) ∧ (σ.2 72 0 = (bR S).1 ∧ σ.2 72 1 = (bR S).2) ∧ σ.1 0 9 = bE S ∧ σ.1 0 10 = (bS S).1 ∧ σ.1 0 11 = (bS S).2.1 ∧ σ.1 0 12 = (bS S).2.2
/-- what holds of every state that a run can come to; VA: of every area -/
def WS (VA : Ar → Prop) (S : Ab) : Prop := WF (bF S) ∧ ((bH S).1 ≤ 8 ∧ ∀ j, j < (bH S).1 → WF ((bH S).2 j)) ∧ (∀ i, i < 2 → (bI S i).1 = true → WF (bI S i).2.1 ∧ VA (bI S i).2.2) ∧ VA (bA S) ∧ ((bT S).1 ≤ 120 ∧ ∀ k, k < (bT S).1 → 0 ≤ (bT S).2 k ∧ (bT S).2 k ≤ 127)
/-- places that no answer depends on: picks, heights, box, the reader's draft and marks, and all of the model's -/
def SCR : Nat → Nat → Prop := fun i k => (57 ≤ i ∧ i ≤ 63) ∨ (69 ≤ i ∧ i ≤ 71) ∨ (i = 67 ∧ (k = 3 ∨ k = 4)) ∨ 94 ≤ i
def S94 : Nat → Nat → Prop := fun i _ => i < 94
theorem HH.sm {σ τ : Mem} {H : Hs} {S : Nat → Nat → Prop} (h : HH σ H) (hs : Sm S σ τ) (ho : ∀ i k, 7 ≤ i → i ≤ 56 → ¬ S i k) : HH τ H := by
  obtain ⟨o, h1, h2, h3, h4, h5⟩ := h
  refine ⟨o, h1, by rw [(hs 7 1 (ho _ _ (by omega) (by omega))).1]; exact h2, by rw [(hs 7 2 (ho _ _ (by omega) (by omega))).1]; exact h3, h4, fun j hj => (h5 j hj).sm hs (fun i k q1 q2 => ho i k (by omega) (by omega))⟩
theorem IG.sm {σ τ : Mem} {i : Nat} {G : Bool × Fl × Ar} {S : Nat → Nat → Prop} (h : IG σ i G) (hs : Sm S σ τ) (ho : ∀ a k, 74 + 10 * i ≤ a → a ≤ 83 + 10 * i → ¬ S a k) : IG τ i G :=
  ⟨by rw [(hs _ 2 (ho _ _ (by omega) (by omega))).1]; exact h.1, fun hg => ⟨(h.2 hg).1.sm hs (fun a k q1 q2 => ho a k (by omega) (by omega)), (h.2 hg).2.sm hs (fun a k q1 q2 => ho a k (by omega) (by omega))⟩⟩
theorem CL.sm {σ τ : Mem} {S : Ab} {P : Nat → Nat → Prop} (h : CL σ S) (hs : Sm P σ τ) (ho : ∀ i k, P i k → SCR i k) : CL τ S := by
  obtain ⟨h1, h2, h3, h4, ⟨h5, h6⟩, ⟨h7, h8⟩, h9, h10, h11, h12⟩ := h
  have no : ∀ i k, ¬ SCR i k → ¬ P i k := fun i k q z => q (ho i k z)
  have e1 : ∀ i k, ¬ SCR i k → τ.1 i k = σ.1 i k := fun i k q => (hs i k (no i k q)).1
  have e2 : ∀ i k, ¬ SCR i k → τ.2 i k = σ.2 i k := fun i k q => (hs i k (no i k q)).2
  refine ⟨h1.sm hs (fun i k q1 q2 => no i k (by unfold SCR; omega)), h2.sm hs (fun i k q1 q2 => no i k (by unfold SCR; omega)), fun i hi => (h3 i hi).sm hs (fun a k q1 q2 => no a k (by unfold SCR; omega)), h4.sm hs (fun i k q1 q2 => no i k (by unfold SCR; omega)), ⟨?_, fun k hk => ?_⟩, ⟨?_, ?_⟩, ?_, ?_, ?_, ?_⟩
  · rw [e1 67 2 (by unfold SCR; omega)]; exact h5
  · rw [e1 68 k (by unfold SCR; omega)]; exact h6 k hk
  · rw [e2 72 0 (by unfold SCR; omega)]; exact h7
  · rw [e2 72 1 (by unfold SCR; omega)]; exact h8
  · rw [e1 0 9 (by unfold SCR; omega)]; exact h9
  · rw [e1 0 10 (by unfold SCR; omega)]; exact h10
  · rw [e1 0 11 (by unfold SCR; omega)]; exact h11
  · rw [e1 0 12 (by unfold SCR; omega)]; exact h12
/-- the class's own count of refusals -/
theorem CL.r0 {σ τ : Mem} {S : Ab} (h : CL σ S) (e : τ = w1 σ 0 10 (σ.1 0 10 + 1)) : CL τ (rf0 S) ∧ Sm S94 σ τ := by
  have hs : Sm (fun i k => i = 0 ∧ k = 10) σ τ := by rw [e]; exact Sm.rf.w1 ⟨rfl, rfl⟩
  obtain ⟨h1, h2, h3, h4, ⟨h5, h6⟩, ⟨h7, h8⟩, h9, h10, h11, h12⟩ := h
  refine ⟨⟨h1.sm hs (by omega), h2.sm hs (by omega), fun i hi => (h3 i hi).sm hs (by omega), h4.sm hs (by omega), ⟨?_, fun k hk => ?_⟩, ⟨?_, ?_⟩, ?_, ?_, ?_, ?_⟩, hs.mono (fun i k q => by unfold S94; omega)⟩
  · rw [(hs 67 2 (by omega)).1]; exact h5
  · rw [(hs 68 k (by omega)).1]; exact h6 k hk
  · rw [(hs 72 0 (by omega)).2]; exact h7
  · rw [(hs 72 1 (by omega)).2]; exact h8
  · rw [(hs 0 9 (by omega)).1]; exact h9
  · rw [e, w1_s, h10]; rfl
  · rw [(hs 0 11 (by omega)).1]; exact h11
  · rw [(hs 0 12 (by omega)).1]; exact h12
theorem CL.r1 {σ τ : Mem} {S : Ab} (h : CL σ S) (e : τ = w1 σ 0 11 (σ.1 0 11 + 1)) : CL τ (rf1 S) ∧ Sm S94 σ τ := by
  have hs : Sm (fun i k => i = 0 ∧ k = 11) σ τ := by rw [e]; exact Sm.rf.w1 ⟨rfl, rfl⟩
  obtain ⟨h1, h2, h3, h4, ⟨h5, h6⟩, ⟨h7, h8⟩, h9, h10, h11, h12⟩ := h
  refine ⟨⟨h1.sm hs (by omega), h2.sm hs (by omega), fun i hi => (h3 i hi).sm hs (by omega), h4.sm hs (by omega), ⟨?_, fun k hk => ?_⟩, ⟨?_, ?_⟩, ?_, ?_, ?_, ?_⟩, hs.mono (fun i k q => by unfold S94; omega)⟩
  · rw [(hs 67 2 (by omega)).1]; exact h5
  · rw [(hs 68 k (by omega)).1]; exact h6 k hk
  · rw [(hs 72 0 (by omega)).2]; exact h7
  · rw [(hs 72 1 (by omega)).2]; exact h8
  · rw [(hs 0 9 (by omega)).1]; exact h9
  · rw [(hs 0 10 (by omega)).1]; exact h10
  · rw [e, w1_s, h11]; rfl
  · rw [(hs 0 12 (by omega)).1]; exact h12
theorem CL.r2 {σ τ : Mem} {S : Ab} (h : CL σ S) (e : τ = w1 σ 0 12 (σ.1 0 12 + 1)) : CL τ (rf2 S) ∧ Sm S94 σ τ := by
  have hs : Sm (fun i k => i = 0 ∧ k = 12) σ τ := by rw [e]; exact Sm.rf.w1 ⟨rfl, rfl⟩
  obtain ⟨h1, h2, h3, h4, ⟨h5, h6⟩, ⟨h7, h8⟩, h9, h10, h11, h12⟩ := h
  refine ⟨⟨h1.sm hs (by omega), h2.sm hs (by omega), fun i hi => (h3 i hi).sm hs (by omega), h4.sm hs (by omega), ⟨?_, fun k hk => ?_⟩, ⟨?_, ?_⟩, ?_, ?_, ?_, ?_⟩, hs.mono (fun i k q => by unfold S94; omega)⟩
  · rw [(hs 67 2 (by omega)).1]; exact h5
  · rw [(hs 68 k (by omega)).1]; exact h6 k hk
  · rw [(hs 72 0 (by omega)).2]; exact h7
  · rw [(hs 72 1 (by omega)).2]; exact h8
  · rw [(hs 0 9 (by omega)).1]; exact h9
  · rw [(hs 0 10 (by omega)).1]; exact h10
  · rw [(hs 0 11 (by omega)).1]; exact h11
  · rw [e, w1_s, h12]; rfl
/-- the field and what may be undone change, no more -/
theorem CL.fh {σ τ : Mem} {S : Ab} {F : Fl} {H : Hs} (h : CL σ S) (hs : Sm (fun i k => (1 ≤ i ∧ i ≤ 56) ∨ SCR i k) σ τ) (hF : CF τ 1 F) (hH : HH τ H) : CL τ (mkS F H (bI S) (bA S) (bT S) (bR S) (bE S) (bS S)) := by
  obtain ⟨h1, h2, h3, h4, ⟨h5, h6⟩, ⟨h7, h8⟩, h9, h10, h11, h12⟩ := h
  refine ⟨hF, hH, fun i hi => (h3 i hi).sm hs (fun a k q1 q2 => by unfold SCR; omega), h4.sm hs (fun a k q1 q2 => by unfold SCR; omega), ⟨?_, fun k hk => ?_⟩, ⟨?_, ?_⟩, ?_, ?_, ?_, ?_⟩
  · rw [(hs 67 2 (by unfold SCR; omega)).1]; exact h5
  · rw [(hs 68 k (by unfold SCR; omega)).1]; exact h6 k hk
  · rw [(hs 72 0 (by unfold SCR; omega)).2]; exact h7
  · rw [(hs 72 1 (by unfold SCR; omega)).2]; exact h8
  · rw [(hs 0 9 (by unfold SCR; omega)).1]; exact h9
  · rw [(hs 0 10 (by unfold SCR; omega)).1]; exact h10
  · rw [(hs 0 11 (by unfold SCR; omega)).1]; exact h11
  · rw [(hs 0 12 (by unfold SCR; omega)).1]; exact h12
theorem rem8 {a : Nat} (h : a < 2 ^ 31) : nI a - nI a / 8 * 8 = nI (a % 8) := pk_rem (d := 8) h (by decide) (by decide)
section HIST
variable {d : Nat} {σ : Mem} {Q : Option Value → Mem → Prop} {F : Fl} {H : Hs}
def SH : Nat → Nat → Prop := fun i _ => 7 ≤ i ∧ i ≤ 56
theorem c_hkeep (hn : fn F ≤ 121) (hF : CF σ 1 F) (hH : HH σ H) (h : ∀ τ, HH τ (hpush H F) → CF τ 1 F → Sm SH σ τ → Q none τ) : X none (d + 2) mX2_keep 0 [.ref 7, .ref 1] [] σ Q := by
  obtain ⟨o, ho, h1, h2, h3, h4⟩ := hH
  refine vX2_keep_0 okF_1 ?_
  rw [h1, h2, nI_add, rem8 (by omega), nI_clamp (n := (o + H.1) % 8) (by omega)]
  have hs8 : (o + H.1) % 8 < 8 := Nat.mod_lt _ (by omega)
  refine ⟨vp_in_nI hs8 (by decide), ?_⟩
  refine c_copyFrom (slt_okk _ hs8) okF_1 (by omega) hn hF (fun τ hC hs => ⟨rfl, ?_⟩)
  have k7 : ∀ k, τ.1 7 k = σ.1 7 k := fun k => (hs 7 k (by unfold SF; omega)).1
  have hF1 : CF τ 1 F := hF.sm hs (fun i k q1 q2 => by unfold SF; omega)
  rw [k7, k7, h1, h2]
  refine ⟨fun c τ3 e3 => ?_, fun c τ4 e4 => ?_⟩
  · have hk : H.1 = 8 := by
      rcases Nat.lt_or_ge H.1 8 with q | q
      · exact absurd c (show ¬ (8 : Int32) ≤ _ from nI_ge (b := 8) q (by decide))
      · omega
    rw [nI_1, rem8 (by omega)] at e3
    have hs3 : Sm SH σ τ3 := by rw [e3]; exact (hs.mono (fun i k q => by unfold SF at q; unfold SH; omega)).w1 ⟨by omega, by omega⟩
    have off : ∀ i k, i ≠ 7 → τ3.1 i k = τ.1 i k := fun i k hi => by rw [e3, w1_a _ _ _ _ _ _ hi]
    have s3 : Sm (fun i _ => i = 7) τ τ3 := by rw [e3]; exact Sm.rf.w1 rfl
    refine h τ3 ⟨(o + 1) % 8, by omega, by rw [e3, w1_s], ?_, ?_, fun j hj => ?_⟩ (hF1.sm s3 (by omega)) hs3
    · rw [e3, w1_k _ _ _ _ _ _ (by omega), k7, h2]; simp [hpush, hk]
    · simp [hpush, hk]
    · simp only [hpush, hk, Nat.lt_irrefl, if_false] at hj ⊢
      by_cases hj7 : j = 7
      · rw [if_pos hj7, hj7, show ((o + 1) % 8 + 7) % 8 = (o + H.1) % 8 by omega]
        exact hC.sm s3 (by omega)
      · rw [if_neg hj7, show ((o + 1) % 8 + j) % 8 = (o + (j + 1)) % 8 by omega]
        exact ((h4 (j + 1) (by omega)).sm hs (fun i k q1 q2 => by unfold SF; omega)).sm s3 (by omega)
  · have hk : H.1 < 8 := by
      rcases Nat.lt_or_ge H.1 8 with q | q
      · exact q
      · exact absurd (show (8 : Int32) ≤ _ from nI_le (a := 8) q (by omega)) c
    rw [nI_1] at e4
    have s4 : Sm (fun i _ => i = 7) τ τ4 := by rw [e4]; exact Sm.rf.w1 rfl
    have hs4 : Sm SH σ τ4 := by rw [e4]; exact (hs.mono (fun i k q => by unfold SF at q; unfold SH; omega)).w1 ⟨by omega, by omega⟩
    refine h τ4 ⟨o, ho, by rw [e4, w1_k _ _ _ _ _ _ (by omega), k7, h1], by rw [e4, w1_s]; simp [hpush, hk], by simp [hpush, hk]; omega, fun j hj => ?_⟩ (hF1.sm s4 (by omega)) hs4
    simp only [hpush, hk, if_true] at hj ⊢
    by_cases hjk : j = H.1
    · rw [if_pos hjk, hjk]
      exact hC.sm s4 (by omega)
    · rw [if_neg hjk]
      exact ((h4 j (by omega)).sm hs (fun i k q1 q2 => by unfold SF; omega)).sm s4 (by omega)
theorem c_hback (hk : 0 < H.1) (hw : ∀ j, j < H.1 → fn (H.2 j) ≤ 121) (hH : HH σ H) (h : ∀ τ, HH τ (H.1 - 1, H.2) → CF τ 1 (H.2 (H.1 - 1)) → Sm (fun i _ => 1 ≤ i ∧ i ≤ 7) σ τ → Q none τ) : X none (d + 2) mX2_bringBack 0 [.ref 7, .ref 1] [] σ Q := by
  obtain ⟨o, ho, h1, h2, h3, h4⟩ := hH
  refine vX2_bringBack_0 okF_1 ⟨fun c => absurd c (by rw [h2]; exact nI_nle hk (by omega)), fun _ τ1 e1 => ?_⟩
  rw [h2, show nI H.1 - 1 = nI (H.1 - 1) by rw [show H.1 = (H.1 - 1) + 1 by omega, nI_pred]; rfl] at e1
  have r1 : τ1.1 7 1 = nI o := by rw [e1, w1_k _ _ _ _ _ _ (by omega), h1]
  have r2 : τ1.1 7 2 = nI (H.1 - 1) := by rw [e1, w1_s]
  rw [r1, r2, nI_add, rem8 (by omega), nI_clamp (n := (o + (H.1 - 1)) % 8) (by omega)]
  have hs8 : (o + (H.1 - 1)) % 8 < 8 := Nat.mod_lt _ (by omega)
  have s1 : Sm (fun i _ => i = 7) σ τ1 := by rw [e1]; exact Sm.rf.w1 rfl
  refine ⟨vp_in_nI hs8 (by decide), ?_⟩
  refine c_copyFrom okF_1 (slt_okk _ hs8) (by omega) (hw _ (by omega)) ((h4 (H.1 - 1) (by omega)).sm s1 (by omega)) (fun τ hC hs => ⟨rfl, ?_⟩)
  refine h τ ⟨o, ho, by rw [(hs 7 1 (by unfold SF; omega)).1, r1], by rw [(hs 7 2 (by unfold SF; omega)).1, r2], by show H.1 - 1 ≤ 8; omega, fun j hj => ?_⟩ hC ((s1.mono (fun i k q => by omega)).tr (hs.mono (fun i k q => by unfold SF at q; omega)))
  have hj2 : j < H.1 - 1 := hj
  exact ((h4 j (by omega)).sm s1 (by omega)).sm hs (fun i k q1 q2 => by unfold SF; omega)
end HIST
