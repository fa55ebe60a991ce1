/-! Shape and Picks: contracts. -/
abbrev Ar : Type := (Nat × (Nat → Int32)) × (Nat × (Nat → Int32))
def am (A : Ar) : Nat := A.1.1
def ast (A : Ar) : Nat → Int32 := A.1.2
def ar (A : Ar) : Nat := A.2.1
def asd (A : Ar) : Nat → Int32 := A.2.2
def CS (σ : Mem) (q : Nat) (A : Ar) : Prop := σ.1 q 2 = nI (am A) ∧ σ.1 q 3 = nI (ar A) ∧ (∀ k, k < am A → σ.1 (q + 1) k = ast A k) ∧ ∀ k, k < 4 * ar A → σ.1 (q + 2) k = asd A k
def WA (A : Ar) : Prop := am A ≤ 120 ∧ ar A ≤ 12 ∧ ∀ k, k < am A → (∃ j, j < ar A ∧ ast A k = nI j) ∨ ast A k = -1 ∨ ast A k = -2 ∨ ast A k = -3 ∨ ast A k = -4
def inR (A : Ar) (j : Nat) (x y : Int32) : Bool := decide (asd A (4 * j) ≤ x) && decide (x ≤ asd A (4 * j + 1)) && decide (asd A (4 * j + 2) ≤ y) && decide (y ≤ asd A (4 * j + 3))
def hst (A : Ar) (x y h s : Int32) : Int32 := if 0 ≤ s then (h <<< ((1 : Int32) &&& 31)) ||| (if inR A s.toNatClampNeg x y = true then 1 else 0) else if s = -1 then h ^^^ 1 else if s = -2 then (h >>> ((1 : Int32) &&& 31)) &&& ((h &&& 1) ||| (-2)) else if s = -3 then (h >>> ((1 : Int32) &&& 31)) ||| (h &&& 1) else (h >>> ((1 : Int32) &&& 31)) &&& ((h &&& 1) ^^^ (-1))
def hpr (A : Ar) (x y : Int32) : Nat → Int32
  | 0 => 0
  | k + 1 => hst A x y (hpr A x y k) (ast A k)
def hold (A : Ar) (x y : Int32) : Bool := decide (hpr A x y (am A) &&& 1 = 1)
theorem CS.sm {σ τ : Mem} {q : Nat} {A : Ar} {S : Nat → Nat → Prop} (h : CS σ q A) (hs : Sm S σ τ) (ho : ∀ i k, q ≤ i → i ≤ q + 2 → ¬ S i k) : CS τ q A := by
  have e1 : ∀ i k, q ≤ i → i ≤ q + 2 → τ.1 i k = σ.1 i k := fun i k h1 h2 => (hs i k (ho i k h1 h2)).1
  obtain ⟨h1, h2, h3, h4⟩ := h
  exact ⟨by rw [e1 _ _ (by omega) (by omega)]; exact h1, by rw [e1 _ _ (by omega) (by omega)]; exact h2, fun k hk => by rw [e1 _ _ (by omega) (by omega)]; exact h3 k hk, fun k hk => by rw [e1 _ _ (by omega) (by omega)]; exact h4 k hk⟩
theorem i4 (j : Nat) : (4 : Int32) * nI j = nI (4 * j) := by rw [show (4 : Int32) = nI 4 from rfl, pk_mul]
theorem i_2 (j : Nat) : nI j + 2 = nI (j + 2) := by rw [show (2 : Int32) = nI 2 from rfl, nI_add]
theorem i_3 (j : Nat) : nI j + 3 = nI (j + 3) := by rw [show (3 : Int32) = nI 3 from rfl, nI_add]
theorem b01_z {c : Bool} (h : (if c = true then (1 : Int32) else 0) = 0) : c = false := by
  cases c
  · rfl
  · exact absurd h (by decide)
theorem b01_o {c : Bool} (h : ¬ (if c = true then (1 : Int32) else 0) = 0) : c = true := by
  cases c
  · exact absurd rfl h
  · rfl
section SHAPE
variable {d f q b : Nat} {σ : Mem} {Q : Option Value → Mem → Prop} {F : Fl} {A : Ar}
theorem c_inRectangle (hq : OKS q) (hA : CS σ q A) (hr : ar A ≤ 12) {j : Nat} (hj : j < ar A) {x y : Int32} (h : Q (some (.int (if inR A j x y = true then 1 else 0))) σ) : X none d mX6_inRectangle 0 [.ref q, .int (nI j), .int x, .int y, Unk] [] σ Q := by
  obtain ⟨h1, h2, h3, h4⟩ := hA
  refine vX6_inRectangle_0 hq ?_
  rw [i4, nI_1, i_2, i_3, nI_clamp (n := 4 * j) (by omega), nI_clamp (n := 4 * j + 1) (by omega), nI_clamp (n := 4 * j + 2) (by omega), nI_clamp (n := 4 * j + 3) (by omega), h4 _ (by omega), h4 _ (by omega), h4 _ (by omega), h4 _ (by omega)]
  have v0 : vp_in (nI (4 * j)) 48 := vp_in_nI (by omega) (by decide)
  have v1 : vp_in (nI (4 * j + 1)) 48 := vp_in_nI (by omega) (by decide)
  have v2 : vp_in (nI (4 * j + 2)) 48 := vp_in_nI (by omega) (by decide)
  have v3 : vp_in (nI (4 * j + 3)) 48 := vp_in_nI (by omega) (by decide)
  refine ⟨fun _ => ⟨v0, fun c => Qe h ?_, fun c => ⟨v1, fun c1 => Qe h ?_, fun c1 => ⟨v2, fun c2 => Qe h ?_, fun c2 => ⟨v3, fun c3 => Qe h ?_, fun c3 => Qe h ?_⟩⟩⟩⟩, fun c => absurd (by rw [h2]; exact nI_lt hj (by omega)) c⟩
  · simp [inR, Int32.not_le.mpr c]
  · simp [inR, Int32.not_le.mpr c1]
  · simp [inR, Int32.not_le.mpr c2]
  · simp [inR, Int32.not_le.mpr c3]
  · simp [inR, Int32.not_lt.mp c, Int32.not_lt.mp c1, Int32.not_lt.mp c2, Int32.not_lt.mp c3]
theorem c_holds (hq : OKS q) (hA : CS σ q A) (hw : WA A) {x y : Int32} (h : Q (some (.int (if hold A x y = true then 1 else 0))) σ) : X none (d + 1) mX6_holds 0 [.ref q, .int x, .int y, Unk, Unk, Unk] [] σ Q := by
  obtain ⟨w1', w2', w3'⟩ := hw
  refine vX6_holds_0 hq ?_
  have key : ∀ m k, am A = k + m → X none (d + 1) mX6_holds 5 [.ref q, .int x, .int y, .int (hpr A x y k), .int (nI k), Unk] [] σ Q := by
    intro m
    induction m with
    | zero =>
      intro k hk
      refine vX6_holds_5 hq ⟨fun _ => ⟨fun c => Qe h ?_, fun c => Qe h ?_⟩, fun c => ?_⟩
      · simp [hold, show am A = k by omega, c]
      · simp [hold, show am A = k by omega, c]
      · rw [hA.1, show am A = k by omega] at c
        exact absurd (nI_le (Nat.le_refl k) (by omega)) c
    | succ m ih =>
      intro k hk
      have hlt : k < am A := by omega
      have hb : vp_in (nI k) 120 := inN hlt w1' (by decide)
      have hcl : (nI k).toNatClampNeg = k := nI_clamp (by omega)
      have hi := ih (k + 1) (by omega)
      refine vX6_holds_5 hq ?_
      rw [hcl, hA.2.2.1 k hlt, nI_1]
      refine ⟨fun c => absurd c (by rw [hA.1]; exact nI_ge hlt (by omega)), fun _ => ⟨hb, fun c => ⟨fun c1 => ⟨fun c2 => ⟨fun c3 => ?_, fun c3 => ?_⟩, fun c2 => ?_⟩, fun c1 => ?_⟩, fun c => ?_⟩⟩
      · simpa [hpr, hst, Int32.not_le.mpr c, c1, c2, c3] using hi
      · simp only [hpr, hst] at hi
        rw [if_neg (Int32.not_le.mpr c), if_neg c1, if_neg c2, if_pos c3] at hi
        exact hi
      · simp only [hpr, hst] at hi
        rw [if_neg (Int32.not_le.mpr c), if_neg c1, if_pos c2] at hi
        exact hi
      · simp only [hpr, hst] at hi
        rw [if_neg (Int32.not_le.mpr c), if_pos c1] at hi
        exact hi
      · have hc : 0 ≤ ast A k := Int32.not_lt.mp c
        rcases w3' k hlt with ⟨j, hj, ej⟩ | ej | ej | ej | ej
        · rw [ej]
          refine c_inRectangle hq hA w2' hj ⟨_, rfl, fun c1 => ?_, fun c1 => ?_⟩
          · simp only [hpr, hst] at hi
            rw [if_pos hc, ej, nI_clamp (by omega), b01_z c1] at hi
            exact hi
          · simp only [hpr, hst] at hi
            rw [if_pos hc, ej, nI_clamp (by omega), b01_o c1] at hi
            exact hi
        · rw [ej] at hc; exact absurd hc (by decide)
        · rw [ej] at hc; exact absurd hc (by decide)
        · rw [ej] at hc; exact absurd hc (by decide)
        · rw [ej] at hc; exact absurd hc (by decide)
  have := key (am A) 0 (by omega)
  rw [nI_0] at this
  exact this
def SS (q : Nat) : Nat → Nat → Prop := fun i _ => q ≤ i ∧ i ≤ q + 2
/-- the area of one rectangle -/
def boxA (x1 x2 x3 x4 : Int32) : Ar := ((1, fun _ => 0), (1, fun k => if k = 0 then x1 else if k = 1 then x2 else if k = 2 then x3 else x4))
theorem boxA_WA {x1 x2 x3 x4 : Int32} : WA (boxA x1 x2 x3 x4) := ⟨(show 1 ≤ 120 by omega), (show 1 ≤ 12 by omega), fun k hk => Or.inl ⟨0, (show 0 < 1 by omega), rfl⟩⟩
def inX (x1 x2 x3 x4 x y : Int32) : Bool := decide (x1 ≤ x) && decide (x ≤ x2) && decide (x3 ≤ y) && decide (y ≤ x4)
theorem boxA_hold {x1 x2 x3 x4 x y : Int32} : hold (boxA x1 x2 x3 x4) x y = inX x1 x2 x3 x4 x y := by
  have e1 : inR (boxA x1 x2 x3 x4) 0 x y = inX x1 x2 x3 x4 x y := rfl
  show decide (hst (boxA x1 x2 x3 x4) x y 0 0 &&& 1 = 1) = _
  have e2 : hst (boxA x1 x2 x3 x4) x y 0 0 = ((0 : Int32) <<< ((1 : Int32) &&& 31)) ||| (if inX x1 x2 x3 x4 x y = true then 1 else 0) := by
    rw [← e1]; rfl
  rw [e2]
  cases inX x1 x2 x3 x4 x y <;> decide
theorem c_becomeRectangle (hq : OKS q) {x1 x2 x3 x4 : Int32} (h : ∀ τ, CS τ q (boxA x1 x2 x3 x4) → Sm (SS q) σ τ → Q none τ) : X none (d + 2) mX6_becomeRectangle 0 [.ref q, .int x1, .int x2, .int x3, .int x4] [] σ Q := by
  refine vX6_becomeRectangle_0 hq (fun τ1 e1 τ2 e2 => ?_)
  have r3 : τ2.1 q 3 = 0 := by rw [e2, w1_s]
  have r2 : τ2.1 q 2 = 0 := by rw [e2, w1_k _ _ _ _ _ _ (by omega), e1, w1_s]
  refine vX6_addRectangle_0 hq ⟨fun _ => ?_, fun c => absurd (by rw [r3]; decide) c⟩
  rw [r3]
  refine ⟨by unfold vp_in; decide, fun τ3 e3 => ⟨by unfold vp_in; decide, fun τ4 e4 => ⟨by unfold vp_in; decide, fun τ5 e5 => ⟨by unfold vp_in; decide, fun τ6 e6 => ?_⟩⟩⟩⟩
  have z0 : ((4 : Int32) * 0).toNatClampNeg = 0 := by decide
  have z1 : ((4 : Int32) * 0 + 1).toNatClampNeg = 1 := by decide
  have z2 : ((4 : Int32) * 0 + 2).toNatClampNeg = 2 := by decide
  have z3 : ((4 : Int32) * 0 + 3).toNatClampNeg = 3 := by decide
  rw [z0] at e3
  rw [z1] at e4
  rw [z2] at e5
  rw [z3] at e6
  have q6 : ∀ k, τ6.1 q k = τ2.1 q k := fun k => by rw [e6, w1_a _ _ _ _ _ _ (by omega), e5, w1_a _ _ _ _ _ _ (by omega), e4, w1_a _ _ _ _ _ _ (by omega), e3, w1_a _ _ _ _ _ _ (by omega)]
  rw [q6 2, q6 3, r2, r3]
  refine ⟨fun c => absurd c (by decide), fun _ => ⟨by unfold vp_in; decide, fun τ7 e7 τ8 e8 τ9 e9 => ⟨rfl, ?_⟩⟩⟩
  have z : (0 : Int32).toNatClampNeg = 0 := by decide
  rw [z] at e7
  have r72 : τ7.1 q 2 = 0 := by rw [e7, w1_a _ _ _ _ _ _ (by omega), q6, r2]
  rw [r72] at e8
  have r83 : τ8.1 q 3 = 0 := by rw [e8, w1_k _ _ _ _ _ _ (by omega), e7, w1_a _ _ _ _ _ _ (by omega), q6, r3]
  rw [r83] at e9
  have o9 : ∀ i k, i ≠ q → τ9.1 i k = τ7.1 i k := fun i k hi => by rw [e9, w1_a _ _ _ _ _ _ hi, e8, w1_a _ _ _ _ _ _ hi]
  refine h τ9 ⟨?_, ?_, fun k hk => ?_, fun k hk => ?_⟩ ?_
  · rw [e9, w1_k _ _ _ _ _ _ (by omega), e8, w1_s]; rfl
  · rw [e9, w1_s]; rfl
  · have hk0 : k = 0 := by have : k < 1 := hk; omega
    subst hk0
    rw [o9 _ _ (by omega), e7, w1_s]; rfl
  · have hk4 : k < 4 := hk
    rw [o9 _ _ (by omega), e7, w1_a _ _ _ _ _ _ (by omega)]
    subst e3 e4 e5 e6
    rcases (show k = 0 ∨ k = 1 ∨ k = 2 ∨ k = 3 by omega) with rfl | rfl | rfl | rfl <;> simp [w1, boxA, asd]
  · rw [e9, e8, e7, e6, e5, e4, e3, e2, e1]
    exact ((((((((Sm.rf.w1 ⟨by omega, by omega⟩).w1 ⟨by omega, by omega⟩).w1 ⟨by omega, by omega⟩).w1 ⟨by omega, by omega⟩).w1 ⟨by omega, by omega⟩).w1 ⟨by omega, by omega⟩).w1 ⟨by omega, by omega⟩).w1 ⟨by omega, by omega⟩).w1 ⟨by omega, by omega⟩
theorem c_copyFromS (hq : OKS q) (hb : OKS b) (hqb : b + 2 < q ∨ q + 2 < b) (hw : WA A) (hA : CS σ b A) (h : ∀ τ, CS τ q A → Sm (SS q) σ τ → Q none τ) : X none (d + 1) mX6_copyFrom 0 [.ref q, .ref b] [] σ Q := by
  obtain ⟨w1', w2', w3'⟩ := hw
  obtain ⟨h1, h2, h3, h4⟩ := hA
  have hz : (0 : Int32).toNatClampNeg = 0 := by decide
  have c1 : (nI (am A)).toNatClampNeg = am A := nI_clamp (by omega)
  have c2 : (nI (4 * ar A)).toNatClampNeg = 4 * ar A := nI_clamp (by omega)
  refine vX6_copyFrom_0 hq hb ?_
  rw [h1, c1, hz, Nat.zero_add]
  refine ⟨nI_pos (by omega), w1', w1', fun τ1 e1 => ?_⟩
  have r1 : ∀ k, τ1.1 b k = σ.1 b k := fun k => by rw [e1, wc_a _ _ _ _ _ _ _ _ (by omega)]
  rw [r1, h2, i4, c2, Nat.zero_add]
  refine ⟨nI_pos (by omega), by omega, by omega, fun τ2 e2 τ3 e3 τ4 e4 => ?_⟩
  have r2 : ∀ k, τ2.1 b k = σ.1 b k := fun k => by rw [e2, wc_a _ _ _ _ _ _ _ _ (by omega), r1]
  have r3 : ∀ k, τ3.1 b k = σ.1 b k := fun k => by rw [e3, w1_a _ _ _ _ _ _ (by omega), r2]
  rw [r2, h1] at e3
  rw [r3, h2] at e4
  have o4 : ∀ i k, i ≠ q → τ4.1 i k = τ2.1 i k := fun i k hi => by rw [e4, w1_a _ _ _ _ _ _ hi, e3, w1_a _ _ _ _ _ _ hi]
  refine h τ4 ⟨?_, ?_, fun k hk => ?_, fun k hk => ?_⟩ ?_
  · rw [e4, w1_k _ _ _ _ _ _ (by omega), e3, w1_s]
  · rw [e4, w1_s]
  · rw [o4 _ _ (by omega), e2, wc_a _ _ _ _ _ _ _ _ (by omega), e1, wc_lo hk, h3 k hk]
  · rw [o4 _ _ (by omega), e2, wc_lo hk, e1, wc_a _ _ _ _ _ _ _ _ (by omega), h4 k hk]
  · rw [e4, e3, e2, e1]
    exact (((Sm.rf.wc (fun _ => ⟨by omega, by omega⟩)).wc (fun _ => ⟨by omega, by omega⟩)).w1 ⟨by omega, by omega⟩).w1 ⟨by omega, by omega⟩
/-! Picks -/
def PH (σ : Mem) (q : Nat) (l : List Nat) : Prop := σ.1 q 1 = nI l.length ∧ HL σ (q + 1) l
def SP (q : Nat) : Nat → Nat → Prop := fun i _ => q ≤ i ∧ i ≤ q + 1
theorem PH.sm {τ : Mem} {l : List Nat} {S : Nat → Nat → Prop} (h : PH σ q l) (hs : Sm S σ τ) (ho : ∀ i k, q ≤ i → i ≤ q + 1 → ¬ S i k) : PH τ q l :=
  ⟨by rw [(hs q 1 (ho q 1 (by omega) (by omega))).1]; exact h.1, fun k hk => by rw [(hs (q + 1) k (ho _ _ (by omega) (by omega))).1]; exact h.2 k hk⟩
theorem c_pickAll (hq : OKP q) (hf : OKF f) (hqf : q + 1 < f ∨ f + 5 < q) (hw : WF F) (hF : CF σ f F) (h : ∀ τ, PH τ q (pik (thr F) (fn F)) → Sm (SP q) σ τ → Q none τ) : X none (d + 1) mX4_pickAll 0 [.ref q, .ref f, Unk] [] σ Q := by
  have hn := hw.n120
  have h60 := hw.c60
  refine vX4_pickAll_0 hq hf (fun τ1 e1 => ?_)
  have key : ∀ m k (τ : Mem), fn F = k + m → Sm (SP q) σ τ → PH τ q (pik (thr F) k) → X none (d + 1) mX4_pickAll 7 [.ref q, .ref f, .int (nI k)] [] τ Q := by
    intro m
    induction m with
    | zero =>
      intro k τ hk hs hp
      have hF' := hF.sm hs (fun i k h1 h2 hc => by unfold SP at hc; omega)
      refine vX4_pickAll_7 hq hf ⟨fun _ => ?_, fun c => ?_⟩
      · exact h τ (by rw [show fn F = k by omega]; exact hp) hs
      · rw [hF'.1.1, show fn F = k by omega] at c
        exact absurd (nI_le (Nat.le_refl k) (by omega)) c
    | succ m ih =>
      intro k τ hk hs hp
      have hF' := hF.sm hs (fun i k h1 h2 hc => by unfold SP at hc; omega)
      have hlt : k < fn F := by omega
      have hb := inN hlt (show fn F ≤ 121 by omega) (by decide)
      obtain ⟨a1, a2, a3, a4, a5⟩ := hF'.2 k hlt
      have hg := (hw.2.2.1 k hlt).2.2.2.2
      have hg60 := hw.g60
      have hcl : (nI k).toNatClampNeg = k := nI_clamp (by omega)
      refine vX4_pickAll_7 hq hf ?_
      rw [hcl, a5, nI_z (by omega), nI_1]
      refine ⟨fun c => absurd c (by rw [hF'.1.1]; exact nI_ge hlt (by omega)), fun _ => ⟨hb, fun c => ?_, fun c => ?_⟩⟩
      · have hp1 : thr F k = false := by simp [thr, c]
        exact ih (k + 1) τ (by omega) hs (by simpa [pik, hp1] using hp)
      · have hp1 : thr F k = true := by simp [thr, c]
        have hl := cnt_lt_of (p := thr F) hlt hp1
        rw [hp.1, pik_len, nI_clamp (n := cnt (thr F) k) (by omega)]
        refine ⟨fun c => absurd c (show ¬ (60 : Int32) ≤ _ from nI_ge (b := 60) (show cnt (thr F) k < 60 by omega) (by decide)), fun _ => ⟨inN (show cnt (thr F) k < 60 by omega) (Nat.le_refl _) (by decide), fun τ2 e2 τ3 e3 => ?_⟩⟩
        refine ih (k + 1) τ3 (by omega) (by rw [e3, e2]; exact (hs.w1 ⟨by omega, by omega⟩).w1 ⟨by omega, by omega⟩) ?_
        have r2 : τ2.1 q 1 = nI (cnt (thr F) k) := by rw [e2, w1_a _ _ _ _ _ _ (by omega), hp.1, pik_len]
        rw [r2, nI_1] at e3
        have hs2 := HL.snoc (e := k) hp.2
        rw [pik_len] at hs2
        refine ⟨?_, ?_⟩
        · rw [e3, w1_s, pik_len]; simp [cnt, hp1]
        · intro j hj
          rw [e3, w1_a _ _ _ _ _ _ (by omega), e2]
          simp only [pik, hp1, if_true] at hj ⊢
          exact hs2 j hj
  rw [← nI_0]
  refine key (fn F) 0 τ1 (by omega) (by rw [e1]; exact Sm.rf.w1 ⟨by omega, by omega⟩) ⟨by rw [e1, w1_s]; rfl, HL.nil⟩
def pS (F : Fl) (A : Ar) (e : Nat) : Bool := thr F e && hold A (fx F e) (fy F e)
theorem c_pickShape (hq : OKP q) (hf : OKF f) (hb0 : OKS b) (hqf : q + 1 < f ∨ f + 5 < q) (hqb : q + 1 < b ∨ b + 2 < q) (hw : WF F) (hwa : WA A) (hF : CF σ f F) (hA : CS σ b A) (h : ∀ τ, PH τ q (pik (pS F A) (fn F)) → Sm (SP q) σ τ → Q none τ) : X none (d + 2) mX4_pickShape 0 [.ref q, .ref f, .ref b, Unk] [] σ Q := by
  have hn := hw.n120
  have h60 : cnt (pS F A) (fn F) ≤ 60 := Nat.le_trans (cnt_imp (q := thr F) (fun e _ h => by simp [pS] at h; exact h.1)) hw.c60
  refine vX4_pickShape_0 hq hf hb0 (fun τ1 e1 => ?_)
  have key : ∀ m k (τ : Mem), fn F = k + m → Sm (SP q) σ τ → PH τ q (pik (pS F A) k) → X none (d + 2) mX4_pickShape 7 [.ref q, .ref f, .ref b, .int (nI k)] [] τ Q := by
    intro m
    induction m with
    | zero =>
      intro k τ hk hs hp
      have hF' := hF.sm hs (fun i k h1 h2 hc => by unfold SP at hc; omega)
      refine vX4_pickShape_7 hq hf hb0 ⟨fun _ => ?_, fun c => ?_⟩
      · exact h τ (by rw [show fn F = k by omega]; exact hp) hs
      · rw [hF'.1.1, show fn F = k by omega] at c
        exact absurd (nI_le (Nat.le_refl k) (by omega)) c
    | succ m ih =>
      intro k τ hk hs hp
      have hF' := hF.sm hs (fun i k h1 h2 hc => by unfold SP at hc; omega)
      have hA' := hA.sm hs (fun i k h1 h2 hc => by unfold SP at hc; omega)
      have hlt : k < fn F := by omega
      have hb := inN hlt (show fn F ≤ 121 by omega) (by decide)
      obtain ⟨a1, a2, a3, a4, a5⟩ := hF'.2 k hlt
      have hg := (hw.2.2.1 k hlt).2.2.2.2
      have hg60 := hw.g60
      have hcl : (nI k).toNatClampNeg = k := nI_clamp (by omega)
      refine vX4_pickShape_7 hq hf hb0 ?_
      rw [hcl, a5, nI_z (by omega), nI_1, a2, a3]
      refine ⟨fun c => absurd c (by rw [hF'.1.1]; exact nI_ge hlt (by omega)), fun _ => ⟨hb, fun c => ?_, fun c => ⟨hb, hb, ?_⟩⟩⟩
      · have hp1 : pS F A k = false := by simp [pS, thr, c]
        exact ih (k + 1) τ (by omega) hs (by simpa [pik, hp1] using hp)
      · refine c_holds hb0 hA' hwa ⟨_, rfl, fun c1 => ?_, fun c1 => ?_⟩
        · have hp1 : pS F A k = false := by simp [pS, b01_z c1]
          exact ih (k + 1) τ (by omega) hs (by simpa [pik, hp1] using hp)
        · have hp1 : pS F A k = true := by simp [pS, thr, c, b01_o c1]
          have hl := cnt_lt_of (p := pS F A) hlt hp1
          rw [hp.1, pik_len, nI_clamp (n := cnt (pS F A) k) (by omega)]
          refine ⟨fun c => absurd c (show ¬ (60 : Int32) ≤ _ from nI_ge (b := 60) (show cnt (pS F A) k < 60 by omega) (by decide)), fun _ => ⟨inN (show cnt (pS F A) k < 60 by omega) (Nat.le_refl _) (by decide), fun τ2 e2 τ3 e3 => ?_⟩⟩
          refine ih (k + 1) τ3 (by omega) (by rw [e3, e2]; exact (hs.w1 ⟨by omega, by omega⟩).w1 ⟨by omega, by omega⟩) ?_
          have r2 : τ2.1 q 1 = nI (cnt (pS F A) k) := by rw [e2, w1_a _ _ _ _ _ _ (by omega), hp.1, pik_len]
          rw [r2, nI_1] at e3
          have hs2 := HL.snoc (e := k) hp.2
          rw [pik_len] at hs2
          refine ⟨?_, ?_⟩
          · rw [e3, w1_s, pik_len]; simp [cnt, hp1]
          · intro j hj
            rw [e3, w1_a _ _ _ _ _ _ (by omega), e2]
            simp only [pik, hp1, if_true] at hj ⊢
            exact hs2 j hj
  rw [← nI_0]
  refine key (fn F) 0 τ1 (by omega) (by rw [e1]; exact Sm.rf.w1 ⟨by omega, by omega⟩) ⟨by rw [e1, w1_s]; rfl, HL.nil⟩
end SHAPE
