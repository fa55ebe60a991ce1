/-! The class's Field: contracts of its methods. -/
theorem Qe {Q : Option Value → Mem → Prop} {a b : Int32} {σ : Mem} (h : Q (some (.int a)) σ) (e : a = b) : Q (some (.int b)) σ := e ▸ h
theorem inN {k n N : Nat} (h : k < n) (hn : n ≤ N) (hN : N < 2 ^ 31) : vp_in (nI k) N := vp_in_nI (by omega) hN
def oi : Option Nat → Int32
  | none => -1
  | some e => nI e
def pf (F : Fl) (n : Int32) (e : Nat) : Bool := decide (nI (fnum F e) = n) && thr F e
def fnd (F : Fl) (n : Int32) : Option Nat := (pik (pf F n) (fn F)).head?
def lowb (k : Nat) : Int32 := nI k &&& (-(nI k))
def SF (f : Nat) : Nat → Nat → Prop := fun i _ => f ≤ i ∧ i ≤ f + 5
theorem nI_z {n : Nat} (h : n < 2 ^ 31) : nI n = 0 ↔ n = 0 := by rw [← nI_0]; exact nI_eq h (by decide)
section FIELD
variable {d f : Nat} {σ : Mem} {Q : Option Value → Mem → Prop} {F : Fl}
theorem c_find (hf : OKF f) (hn : fn F ≤ 121) (hg : ∀ e, e < fn F → fgo F e < 2 ^ 31) (hF : CF σ f F) {nn : Int32} (hq : Q (some (.int (oi (fnd F nn)))) σ) : X none (d + 1) mX0_find 0 [.ref f, .int nn, Unk] [] σ Q := by
  refine vX0_find_0 hf ?_
  have key : ∀ m k, fn F = k + m → (∀ e, e < k → pf F nn e = false) → X none (d + 1) mX0_find 2 [.ref f, .int nn, .int (nI k)] [] σ Q := by
    intro m
    induction m with
    | zero =>
      intro k hk h0
      refine vX0_find_2 hf ⟨fun _ => ?_, fun hc => ?_⟩
      · refine Qe hq ?_
        rw [fnd, show fn F = k by omega, pik_nil _ h0]
        rfl
      · rw [hF.1.1, show fn F = k by omega] at hc
        exact absurd (nI_le (Nat.le_refl k) (by omega)) hc
    | succ m ih =>
      intro k hk h0
      have hlt : k < fn F := by omega
      have hb := inN hlt hn (by decide)
      obtain ⟨a1, a2, a3, a4, a5⟩ := hF.2 k hlt
      have hcl : (nI k).toNatClampNeg = k := nI_clamp (by omega)
      have hg1 := hg k hlt
      have nx : pf F nn k = false → X none (d + 1) mX0_find 2 [.ref f, .int nn, .int (nI k + 1)] [] σ Q := fun hp => by
        rw [nI_1]
        refine ih (k + 1) (by omega) (fun e he => ?_)
        by_cases hek : e = k
        · rw [hek]; exact hp
        · exact h0 e (by omega)
      refine vX0_find_2 hf ⟨fun hc => ?_, fun _ => ⟨hb, fun h1 => ?_, fun h1 => ⟨hb, fun h2 => ?_, fun h2 => ?_⟩⟩⟩
      · rw [hF.1.1] at hc
        exact absurd hc (nI_ge hlt (by omega))
      · rw [hcl, a1] at h1
        exact nx (by simp [pf, h1])
      · rw [hcl, a5, nI_z hg1] at h2
        exact nx (by simp [pf, thr, h2])
      · rw [hcl, a1] at h1
        rw [hcl, a5, nI_z hg1] at h2
        refine Qe hq ?_
        rw [fnd, pik_head (pf F nn) hlt h0 (by simp [pf, thr, h1, h2])]
        rfl
  rw [← nI_0]
  exact key (fn F) 0 (by omega) (fun e he => absurd he (Nat.not_lt_zero e))
def wsum (F : Fl) : Int32 := sumI (fun e => if thr F e = true then fw F e else 0) (fn F)
theorem c_weightOfAll (hf : OKF f) (hn : fn F ≤ 121) (hg : ∀ e, e < fn F → fgo F e < 2 ^ 31) (hF : CF σ f F) (hq : Q (some (.int (wsum F))) σ) : X none (d + 1) mX0_weightOfAll 0 [.ref f, Unk, Unk] [] σ Q := by
  refine vX0_weightOfAll_0 hf ?_
  have key : ∀ m k, fn F = k + m → X none (d + 1) mX0_weightOfAll 4 [.ref f, .int (sumI (fun e => if thr F e = true then fw F e else 0) k), .int (nI k)] [] σ Q := by
    intro m
    induction m with
    | zero =>
      intro k hk
      refine vX0_weightOfAll_4 hf ⟨fun _ => ?_, fun hc => ?_⟩
      · refine Qe hq ?_
        rw [wsum, show fn F = k by omega]
      · rw [hF.1.1, show fn F = k by omega] at hc
        exact absurd (nI_le (Nat.le_refl k) (by omega)) hc
    | succ m ih =>
      intro k hk
      have hlt : k < fn F := by omega
      have hb := inN hlt hn (by decide)
      obtain ⟨a1, a2, a3, a4, a5⟩ := hF.2 k hlt
      have hcl : (nI k).toNatClampNeg = k := nI_clamp (by omega)
      have hi := ih (k + 1) (by omega)
      refine vX0_weightOfAll_4 hf ⟨fun hc => ?_, fun _ => ⟨hb, fun h1 => ?_, fun h1 => ⟨hb, ?_⟩⟩⟩
      · rw [hF.1.1] at hc
        exact absurd hc (nI_ge hlt (by omega))
      · rw [hcl, a5, nI_z (hg k hlt)] at h1
        rw [nI_1]
        simpa [sumI, thr, h1] using hi
      · rw [hcl, a5, nI_z (hg k hlt)] at h1
        rw [nI_1, hcl, a4]
        simpa [sumI, thr, h1] using hi
  rw [← nI_0]
  exact key (fn F) 0 (by omega)
def remI (x y : Int32) : Int32 := x - x / y * y
def wor (F : Fl) (e : Nat) : Int32 := if (fkd F).toInt = 1 then fw F e else if (fkd F).toInt = 2 then (if remI (fx F e + fy F e) 2 = 0 then 1 else 0) else if (fkd F).toInt = 3 then 2 * fw F e
  else if (fkd F).toInt = 4 then (if fy F e < 0 then 0 else fw F e) else if (fkd F).toInt = 5 then (if fy F e < 0 then 0 else fw F e) + remI (nI (fnum F e)) 10 else 1
theorem c_worth (hf : OKF f) (hn : fn F ≤ 121) (hF : CF σ f F) {e : Nat} (he : e < fn F) (hq : Q (some (.int (wor F e))) σ) : X none (d + 1) mX0_worth 0 [.ref f, .int (nI e)] [] σ Q := by
  have hb := inN he hn (by decide)
  obtain ⟨a1, a2, a3, a4, a5⟩ := hF.2 e he
  have hcl : (nI e).toNatClampNeg = e := nI_clamp (by omega)
  refine vX0_worth_0 hf ?_
  rw [hF.1.2.2.2.2.1, hcl, a1, a2, a3, a4]
  refine ⟨fun h => Qe hq ?_, fun h => ⟨hb, Qe hq ?_⟩, fun h => ⟨hb, hb, fun h1 => Qe hq ?_, fun h1 => Qe hq ?_⟩, fun h => ⟨hb, Qe hq ?_⟩, fun h => ⟨hb, fun h1 => Qe hq ?_, fun h1 => ⟨hb, Qe hq ?_⟩⟩, fun h => ⟨hb, fun h1 => ⟨hb, Qe hq ?_⟩, fun h1 => ⟨hb, hb, Qe hq ?_⟩⟩⟩
  · have q1 : (fkd F).toInt ≠ 1 := by omega
    have q2 : (fkd F).toInt ≠ 2 := by omega
    have q3 : (fkd F).toInt ≠ 3 := by omega
    have q4 : (fkd F).toInt ≠ 4 := by omega
    have q5 : (fkd F).toInt ≠ 5 := by omega
    simp [wor, q1, q2, q3, q4, q5]
  · simp [wor, h]
  · simp [wor, h, remI, h1]
  · simp [wor, h, remI, h1]
  · simp [wor, h]
  · simp [wor, h, h1]
  · simp [wor, h, h1]
  · simp [wor, h, h1, remI]
  · simp [wor, h, h1, remI]
def absI (x : Int32) : Int32 := if 0 ≤ x then x else 0 - x
def maxI (x y : Int32) : Int32 := if x < y then y else x
def dst (F : Fl) (e : Nat) (x y : Int32) : Int32 := maxI (absI (fx F e - x)) (absI (fy F e - y))
theorem c_distance (hf : OKF f) (hn : fn F ≤ 121) (hF : CF σ f F) {e : Nat} (he : e < fn F) {x y : Int32} (hq : Q (some (.int (dst F e x y))) σ) : X none (d + 1) mX0_distance 0 [.ref f, .int (nI e), .int x, .int y] [] σ Q := by
  have hb := inN he hn (by decide)
  obtain ⟨a1, a2, a3, a4, a5⟩ := hF.2 e he
  have hcl : (nI e).toNatClampNeg = e := nI_clamp (by omega)
  refine vX0_distance_0 hf ⟨hb, hb, ?_⟩
  rw [hcl, a2, a3]
  exact hq
def lssB (F : Fl) (i j : Nat) : Bool := decide (fx F i < fx F j) && decide (fy F i < fy F j)
theorem c_isLess (hf : OKF f) (hn : fn F ≤ 121) (hF : CF σ f F) {i j : Nat} (hi : i < fn F) (hj : j < fn F) (hq : Q (some (.int (if lssB F i j = true then 1 else 0))) σ) : X none d mX0_isLess 0 [.ref f, .int (nI i), .int (nI j)] [] σ Q := by
  have hb := inN hi hn (by decide)
  have hb2 := inN hj hn (by decide)
  obtain ⟨a1, a2, a3, a4, a5⟩ := hF.2 i hi
  obtain ⟨b1, b2, b3, b4, b5⟩ := hF.2 j hj
  refine vX0_isLess_0 hf ?_
  rw [nI_clamp (n := i) (by omega), nI_clamp (n := j) (by omega), a2, a3, b2, b3]
  refine ⟨hb, hb2, fun h => Qe hq ?_, fun h => ⟨hb, hb2, fun h1 => Qe hq ?_, fun h1 => Qe hq ?_⟩⟩
  · simp [lssB, Int32.not_lt.mpr h]
  · simp [lssB, Int32.not_lt.mpr h1]
  · simp [lssB, Int32.not_le.mp h, Int32.not_le.mp h1]
def topB (F : Fl) (i j : Nat) : Bool := decide (fx F i ≤ fx F j) && decide (fy F i ≤ fy F j) && !(decide (fx F j = fx F i) && decide (fy F j = fy F i))
theorem c_isTopped (hf : OKF f) (hn : fn F ≤ 121) (hF : CF σ f F) {i j : Nat} (hi : i < fn F) (hj : j < fn F) (hq : Q (some (.int (if topB F i j = true then 1 else 0))) σ) : X none d mX0_isTopped 0 [.ref f, .int (nI i), .int (nI j)] [] σ Q := by
  have hb := inN hi hn (by decide)
  have hb2 := inN hj hn (by decide)
  obtain ⟨a1, a2, a3, a4, a5⟩ := hF.2 i hi
  obtain ⟨b1, b2, b3, b4, b5⟩ := hF.2 j hj
  refine vX0_isTopped_0 hf ?_
  rw [nI_clamp (n := i) (by omega), nI_clamp (n := j) (by omega), a2, a3, b2, b3]
  refine ⟨hb2, hb, fun h => Qe hq ?_, fun h => ⟨hb2, hb, fun h1 => Qe hq ?_, fun h1 => ⟨hb2, hb, fun h2 => Qe hq ?_, fun h2 => ⟨hb2, hb, fun h3 => Qe hq ?_, fun h3 => Qe hq ?_⟩⟩⟩⟩
  · simp [topB, Int32.not_le.mpr h]
  · simp [topB, Int32.not_le.mpr h1]
  · simp [topB, Int32.not_lt.mp h, Int32.not_lt.mp h1, h2]
  · simp [topB, Int32.not_lt.mp h, Int32.not_lt.mp h1, h2, h3]
  · simp [topB, Int32.not_lt.mp h, Int32.not_lt.mp h1, h2, h3]
/-- by place -/
def befB (F : Fl) (i j : Nat) : Bool := if fx F i = fx F j then (if fy F i = fy F j then decide (nI (fnum F i) < nI (fnum F j)) else decide (fy F i < fy F j)) else decide (fx F i < fx F j)
theorem c_isBeforeByPlace (hf : OKF f) (hn : fn F ≤ 121) (hF : CF σ f F) {i j : Nat} (hi : i < fn F) (hj : j < fn F) (hq : Q (some (.int (if befB F i j = true then 1 else 0))) σ) : X none d mX0_isBeforeByPlace 0 [.ref f, .int (nI i), .int (nI j)] [] σ Q := by
  have hb := inN hi hn (by decide)
  have hb2 := inN hj hn (by decide)
  obtain ⟨a1, a2, a3, a4, a5⟩ := hF.2 i hi
  obtain ⟨b1, b2, b3, b4, b5⟩ := hF.2 j hj
  refine vX0_isBeforeByPlace_0 hf ?_
  rw [nI_clamp (n := i) (by omega), nI_clamp (n := j) (by omega), a1, a2, a3, b1, b2, b3]
  refine ⟨hb, hb2, fun h => ⟨hb, hb2, fun h1 => ⟨hb, hb2, fun h2 => Qe hq ?_, fun h2 => Qe hq ?_⟩, fun h1 => ⟨hb, hb2, fun h2 => Qe hq ?_, fun h2 => Qe hq ?_⟩⟩, fun h => ⟨hb, hb2, fun h2 => Qe hq ?_, fun h2 => Qe hq ?_⟩⟩
  · simp [befB, h, h1, Int32.not_lt.mpr h2]
  · simp [befB, h, h1, Int32.not_le.mp h2]
  · simp [befB, h, h1, Int32.not_lt.mpr h2]
  · simp [befB, h, h1, Int32.not_le.mp h2]
  · simp [befB, h, Int32.not_lt.mpr h2]
  · simp [befB, h, Int32.not_le.mp h2]
def upN {α : Type} (g : Nat → α) (k : Nat) (v : α) : Nat → α := fun e => if e = k then v else g e
/-- a point comes -/
def comeF (F : Fl) (x y w : Int32) : Fl := ((fn F + 1, fg F, fnx F + 1), (fcar F + lowb (fn F + 1), fan F, fkd F), upN (fnum F) (fn F) (fnx F), upN (fx F) (fn F) x, upN (fy F) (fn F) y, upN (fw F) (fn F) w, upN (fgo F) (fn F) 0)
theorem c_come (hf : OKF f) (hn : fn F < 121) (hx : fnx F ≤ 10000) (hF : CF σ f F) {x y w : Int32} (hq : ∀ τ, CF τ f (comeF F x y w) → Sm (SF f) σ τ → Q (some (.int (nI (fnx F)))) τ) : X none (d + 1) mX0_come 0 [.ref f, .int x, .int y, .int w] [] σ Q := by
  obtain ⟨⟨h5, h6, h7, h8, h9, h10⟩, hr⟩ := hF
  have hb : vp_in (nI (fn F)) 121 := vp_in_nI hn (by decide)
  have hcl : (nI (fn F)).toNatClampNeg = fn F := nI_clamp (by omega)
  refine vX0_come_0 hf ⟨fun _ => ?_, fun hc => absurd (by rw [h5]; exact nI_lt hn (by decide)) hc⟩
  refine ⟨by rw [h5]; exact hb, fun τ1 e1 => ?_⟩
  have r1 : τ1.1 f 5 = nI (fn F) := by rw [e1, w1_a _ _ _ _ _ _ (by omega), h5]
  refine ⟨by rw [r1]; exact hb, fun τ2 e2 => ?_⟩
  have r2 : τ2.1 f 5 = nI (fn F) := by rw [e2, w1_a _ _ _ _ _ _ (by omega), r1]
  refine ⟨by rw [r2]; exact hb, fun τ3 e3 => ?_⟩
  have r3 : τ3.1 f 5 = nI (fn F) := by rw [e3, w1_a _ _ _ _ _ _ (by omega), r2]
  refine ⟨by rw [r3]; exact hb, fun τ4 e4 => ?_⟩
  have r4 : τ4.1 f 5 = nI (fn F) := by rw [e4, w1_a _ _ _ _ _ _ (by omega), r3]
  refine ⟨by rw [r4]; exact hb, fun τ5 e5 τ6 e6 τ7 e7 τ8 e8 => ?_⟩
  have r5 : τ5.1 f 5 = nI (fn F) := by rw [e5, w1_a _ _ _ _ _ _ (by omega), r4]
  rw [h5, hcl, h10] at e1
  rw [r1, hcl] at e2
  rw [r2, hcl] at e3
  rw [r3, hcl] at e4
  rw [r4, hcl] at e5
  rw [r5, nI_1] at e6
  have s5 : ∀ k, 5 ≤ k → τ5.1 f k = σ.1 f k := fun k _ => by
    rw [e5, w1_a _ _ _ _ _ _ (by omega), e4, w1_a _ _ _ _ _ _ (by omega), e3, w1_a _ _ _ _ _ _ (by omega), e2, w1_a _ _ _ _ _ _ (by omega), e1, w1_a _ _ _ _ _ _ (by omega)]
  have r6 : τ6.1 f 5 = nI (fn F + 1) := by rw [e6, w1_s]
  have r67 : τ6.1 f 7 = fcar F := by rw [e6, w1_k _ _ _ _ _ _ (by omega), s5 7 (by omega), h7]
  rw [r67, r6] at e7
  have r710 : τ7.1 f 10 = nI (fnx F) := by rw [e7, w1_k _ _ _ _ _ _ (by omega), e6, w1_k _ _ _ _ _ _ (by omega), s5 10 (by omega), h10]
  rw [r710, nI_1] at e8
  have r8 : τ8.1 f 10 = nI (fnx F + 1) := by rw [e8, w1_s]
  have hsm : Sm (SF f) σ τ8 := by
    rw [e8, e7, e6, e5, e4, e3, e2, e1]
    exact ((((((((Sm.rf.w1 ⟨by omega, by omega⟩).w1 ⟨by omega, by omega⟩).w1 ⟨by omega, by omega⟩).w1 ⟨by omega, by omega⟩).w1 ⟨by omega, by omega⟩).w1 ⟨by omega, by omega⟩).w1 ⟨by omega, by omega⟩).w1 ⟨by omega, by omega⟩)
  have o8 : ∀ i k, i ≠ f → τ8.1 i k = τ5.1 i k := fun i k hi => by rw [e8, w1_a _ _ _ _ _ _ hi, e7, w1_a _ _ _ _ _ _ hi, e6, w1_a _ _ _ _ _ _ hi]
  refine Qe (hq τ8 ⟨⟨?_, ?_, ?_, ?_, ?_, ?_⟩, fun e he => ?_⟩ hsm) (by rw [r8]; exact (nI_pred _).symm)
  · rw [e8, w1_k _ _ _ _ _ _ (by omega), e7, w1_k _ _ _ _ _ _ (by omega), r6]; rfl
  · rw [e8, w1_k _ _ _ _ _ _ (by omega), e7, w1_k _ _ _ _ _ _ (by omega), e6, w1_k _ _ _ _ _ _ (by omega), s5 6 (by omega), h6]; rfl
  · rw [e8, w1_k _ _ _ _ _ _ (by omega), e7, w1_s]; rfl
  · rw [e8, w1_k _ _ _ _ _ _ (by omega), e7, w1_k _ _ _ _ _ _ (by omega), e6, w1_k _ _ _ _ _ _ (by omega), s5 8 (by omega), h8]; rfl
  · rw [e8, w1_k _ _ _ _ _ _ (by omega), e7, w1_k _ _ _ _ _ _ (by omega), e6, w1_k _ _ _ _ _ _ (by omega), s5 9 (by omega), h9]; rfl
  · rw [r8]; rfl
  · have he2 : e < fn F + 1 := he
    show τ8.1 (f + 1) e = nI (upN (fnum F) (fn F) (fnx F) e) ∧ τ8.1 (f + 2) e = upN (fx F) (fn F) x e ∧ τ8.1 (f + 3) e = upN (fy F) (fn F) y e ∧ τ8.1 (f + 4) e = upN (fw F) (fn F) w e ∧ τ8.1 (f + 5) e = nI (upN (fgo F) (fn F) 0 e)
    rw [o8 (f + 1) e (by omega), o8 (f + 2) e (by omega), o8 (f + 3) e (by omega), o8 (f + 4) e (by omega), o8 (f + 5) e (by omega)]
    by_cases hk : e = fn F
    · subst hk
      subst e1 e2 e3 e4 e5
      simp [w1, upN, nI_0]
    · obtain ⟨a1, a2, a3, a4, a5⟩ := hr e (by omega)
      subst e1 e2 e3 e4 e5
      simp [w1, upN, hk, a1, a2, a3, a4, a5]
end FIELD
