/-! What a layer has, on both sides. -/
def fst0 (n z : Nat) : Nat := n / z / 2 * z * 2
def lyP (F : Fl) (w z b : Nat) (e : Nat) : Bool := if w = 0 then decide (b ≤ e ∧ e < b + z) else decide (b < fgo F e ∧ fgo F e ≤ b + z)
def lyN (F : Fl) (w : Nat) : Nat := if w = 0 then fn F else fg F
def lyQ (F : Fl) (w z b : Nat) (x1 x2 x3 x4 : Int32) (e : Nat) : Bool := lyP F w z b e && inX x1 x2 x3 x4 (fx F e) (fy F e)
def lyV (F : Fl) (z w : Nat) (x1 x2 x3 x4 : Int32) : Int32 := if lyN F w / z % 2 = 0 then cNONE else nI (cnt (lyQ F w z (fst0 (lyN F w) z) x1 x2 x3 x4) (fn F))
def o_inLayer (S : Ab) (z w a b c e : Int32) : Int32 × Ab := if ((1 ≤ z ∧ z ≤ 64) ∧ bc z.toNatClampNeg = 1) ∧ (0 ≤ w ∧ w ≤ 1) ∧ rectP a b c e then (lyV (bF S) z.toNatClampNeg w.toNatClampNeg a b c e, S) else (cBAD, rf0 S)
def lyB (z n : Nat) : Bool := decide (((nI n &&& nI z) = 0 ↔ n / z % 2 = 0) ∧ (nI n &&& (-(2 * nI z))) = nI (fst0 n z) ∧ fst0 n z ≤ n ∧ (n / z % 2 ≠ 0 → fst0 n z + z ≤ n) ∧ ((nI n / nI z - nI n / nI z / 2 * 2) = 0 ↔ n / z % 2 = 0) ∧ ((nI n / nI z / 2) * nI z) * 2 = nI (fst0 n z))
theorem ly_all : ∀ z, z < 65 → bc z = 1 → ∀ n, n < 128 → lyB z n = true := by decide +kernel
theorem ly_and (z : Nat) (hz : z < 65) (hb : bc z = 1) (n : Nat) (hn : n < 128) : ((nI n &&& nI z) = 0 ↔ n / z % 2 = 0) ∧ (nI n &&& (-(2 * nI z))) = nI (fst0 n z) ∧ fst0 n z ≤ n ∧ (n / z % 2 ≠ 0 → fst0 n z + z ≤ n) ∧ ((nI n / nI z - nI n / nI z / 2 * 2) = 0 ↔ n / z % 2 = 0) ∧ ((nI n / nI z / 2) * nI z) * 2 = nI (fst0 n z) := of_decide_eq_true (ly_all z hz hb n hn)
theorem gm1 : ∀ g, g < 128 → ∀ c, c < 200 → ((nI g - 1 < nI c ↔ g ≤ c) ∧ (nI c ≤ nI g - 1 ↔ c < g)) := by decide +kernel
theorem bc_pos {z : Nat} (h : bc z = 1) : 1 ≤ z := by
  cases z with
  | zero => exact absurd h (by decide)
  | succ z => omega
theorem cnt_none {p : Nat → Bool} : ∀ {n : Nat}, (∀ e, e < n → p e = false) → cnt p n = 0
  | 0, _ => rfl
  | n + 1, h => by
    simp only [cnt]
    rw [h n (by omega), cnt_none (fun e he => h e (by omega))]
    rfl
theorem cnt_grow {p q : Nat → Bool} {k : Nat} (hp : p k = false) : ∀ {n : Nat}, k < n → (∀ e, e < n → e ≠ k → q e = p e) → cnt q n = cnt p n + (if q k = true then 1 else 0)
  | n + 1, hk, ho => by
    simp only [cnt]
    by_cases he : k = n
    · subst he
      rw [hp, cnt_congr (p := q) (q := p) (fun e h => ho e (by omega) (by omega))]
      simp
    · have := cnt_grow hp (n := n) (by omega) (fun e h h2 => ho e (by omega) h2)
      rw [ho n (by omega) (by omega), this]
      omega
theorem lyN_le {F : Fl} (hw : WF F) (w : Nat) : lyN F w ≤ fn F ∧ lyN F w < 128 := by
  have h1 := hw.n120
  have h2 := hw.1
  unfold lyN
  split <;> omega
section INL
variable {d : Nat} {σ : Mem} {Q : Option Value → Mem → Prop} {F : Fl} {S : Ab} {VA : Ar → Prop} {f q : Nat}
theorem c_hasInLayer (hf : OKF f) (hq : OKS q) (hw : WF F) (hF : CF σ f F) {x1 x2 x3 x4 : Int32} (hA : CS σ q (boxA x1 x2 x3 x4)) {z w : Nat} (hz : z < 65) (hb : bc z = 1) (hw1 : w ≤ 1) (h : Q (some (.int (lyV F z w x1 x2 x3 x4))) σ) : X none (d + 2) mX0_hasInLayer 0 [.ref f, .int (nI z), .int (nI w), .ref q, Unk, Unk, Unk, Unk, Unk] [] σ Q := by
  have hn := hw.n120
  have hN := lyN_le hw w
  obtain ⟨l1, l2, l3, l4, _, _⟩ := ly_and z hz hb (lyN F w) hN.2
  have key : lyN F w / z % 2 ≠ 0 → ∀ m k, fn F = k + m → X none (d + 2) mX0_hasInLayer 41 [.ref f, .int (nI z), .int (nI w), .ref q, .int (nI (lyN F w)), .int (nI (fst0 (lyN F w) z)), .int (nI (cnt (lyQ F w z (fst0 (lyN F w) z) x1 x2 x3 x4) k)), .int (nI k), Unk] [] σ Q := by
    intro hodd m
    have l4' := l4 hodd
    rw [lyV, if_neg hodd] at h
    induction m with
    | zero =>
      intro k hk
      refine vX0_hasInLayer_41 hf hq ⟨fun _ => ?_, fun c => absurd (by rw [hF.1.1]; exact nI_le (by omega) (by omega)) c⟩
      rw [show fn F = k by omega] at h
      exact h
    | succ m ih =>
      intro k hk
      have hlt : k < fn F := by omega
      have hv : vp_in (nI k) 121 := vin (by omega) (by decide)
      obtain ⟨a1, a2, a3, a4, a5⟩ := hF.2 k hlt
      have hg := hw.go31 k hlt
      have hg2 := (hw.2.2.1 k hlt).2.2.2.2
      have hg60 := hw.g60
      have gm := gm1 (fgo F k) (by omega)
      have hnx := ih (k + 1) (by omega)
      simp only [cnt] at hnx
      have n0 : lyQ F w z (fst0 (lyN F w) z) x1 x2 x3 x4 k = false → X none (d + 2) mX0_hasInLayer 41 [.ref f, .int (nI z), .int (nI w), .ref q, .int (nI (lyN F w)), .int (nI (fst0 (lyN F w) z)), .int (nI (cnt (lyQ F w z (fst0 (lyN F w) z) x1 x2 x3 x4) k)), .int (nI (k + 1)), Unk] [] σ Q := fun e => by
        rw [e] at hnx; exact hnx
      have n1 : lyQ F w z (fst0 (lyN F w) z) x1 x2 x3 x4 k = true → X none (d + 2) mX0_hasInLayer 41 [.ref f, .int (nI z), .int (nI w), .ref q, .int (nI (lyN F w)), .int (nI (fst0 (lyN F w) z)), .int (nI (cnt (lyQ F w z (fst0 (lyN F w) z) x1 x2 x3 x4) k + 1)), .int (nI (k + 1)), Unk] [] σ Q := fun e => by
        rw [e] at hnx; exact hnx
      have np : lyP F w z (fst0 (lyN F w) z) k = false → lyQ F w z (fst0 (lyN F w) z) x1 x2 x3 x4 k = false := fun e => by rw [lyQ, e]; rfl
      refine vX0_hasInLayer_41 hf hq ?_
      rw [nI_clamp (n := k) (by omega), a2, a3, a5, hF.1.1, nI_1, nI_1, nI_add, nI_z (n := w) (by omega)]
      refine ⟨fun c => absurd c (nI_ge hlt (by omega)), fun _ => ⟨fun c => ⟨fun c1 => n0 (np ?_), fun c1 => ⟨fun c2 => n0 (np ?_), fun c2 => ⟨hv, hv, c_holds hq hA boxA_WA ⟨_, rfl, fun c3 => n0 ?_, fun c3 => n1 ?_⟩⟩⟩⟩, fun c => ⟨hv, fun c1 => n0 (np ?_), fun c1 => ⟨fun c2 => n0 (np ?_), fun c2 => ⟨hv, hv, c_holds hq hA boxA_WA ⟨_, rfl, fun c3 => n0 ?_, fun c3 => n1 ?_⟩⟩⟩⟩⟩⟩
      · rw [nI_ltI (by omega) (by omega)] at c1
        rw [lyP, if_pos c]; exact decide_eq_false (by omega)
      · rw [nI_leI (by omega) (by omega)] at c2
        rw [lyP, if_pos c]; exact decide_eq_false (by omega)
      · have := b01_ne c3
        rw [boxA_hold] at this
        rw [lyQ, Bool.eq_false_iff.mpr this, Bool.and_false]
      · have := b01_eq c3
        rw [boxA_hold] at this
        rw [nI_ltI (by omega) (by omega)] at c1
        rw [nI_leI (by omega) (by omega)] at c2
        rw [lyQ, this, lyP, if_pos c, Bool.and_true]; exact decide_eq_true (by omega)
      · rw [(gm _ (by omega)).1] at c1
        rw [lyP, if_neg c]; exact decide_eq_false (by omega)
      · rw [(gm _ (by omega)).2] at c2
        rw [lyP, if_neg c]; exact decide_eq_false (by omega)
      · have := b01_ne c3
        rw [boxA_hold] at this
        rw [lyQ, Bool.eq_false_iff.mpr this, Bool.and_false]
      · have := b01_eq c3
        rw [boxA_hold] at this
        rw [(gm _ (by omega)).1] at c1
        rw [(gm _ (by omega)).2] at c2
        rw [lyQ, this, lyP, if_neg c, Bool.and_true]; exact decide_eq_true (by omega)
  refine vX0_hasInLayer_0 hf hq ?_
  rw [nI_z (n := w) (by omega), hF.1.1, hF.1.2.1]
  refine ⟨fun c => ?_, fun c => ?_⟩
  · have e : lyN F w = fn F := if_pos c
    rw [← e, l1, l2]
    refine ⟨fun c1 => ?_, fun c1 => ?_⟩
    · rw [← nI_0]
      exact key c1 (fn F) 0 (by omega)
    · rw [lyV, if_pos c1] at h
      exact h
  · have e : lyN F w = fg F := if_neg c
    rw [← e, l1, l2]
    refine ⟨fun c1 => ?_, fun c1 => ?_⟩
    · rw [← nI_0]
      exact key c1 (fn F) 0 (by omega)
    · rw [lyV, if_pos c1] at h
      exact h
theorem p_inLayer (hC : CL σ S) (hw : WS VA S) {z w a b c e : Int32} (h : OutC σ Q (o_inLayer S z w a b c e)) : X none (d + 3) mX7_inLayer 0 [.ref 0, .int z, .int w, .int a, .int b, .int c, .int e, Unk] [] σ Q := by
  have hF := hC.1
  refine vX7_inLayer_0 ⟨fun c1 => h.bad hC (by rw [o_inLayer, if_neg (fun k => absurd c1 (Int32.not_lt.mpr k.1.1.1))]), fun c1 => ⟨fun c2 => h.bad hC (by rw [o_inLayer, if_neg (fun k => absurd c2 (Int32.not_lt.mpr k.1.1.2))]), fun c2 => ?_⟩⟩
  obtain ⟨z', hz', rfl⟩ := nI_of (x := z) (fun k => c1 (Int32.lt_trans k (by decide)))
  have hz : z' ≤ 64 := (nI_leI hz' (b := 64) (by decide)).mp (Int32.not_lt.mp c2)
  refine c_bitCount (by omega) ⟨_, rfl, ?_⟩
  have hb : nI (bc z') = 1 ↔ bc z' = 1 := nI_eq (b := 1) (by unfold bc; omega) (by decide)
  rw [hb]
  refine ⟨fun c3 => h.bad hC (by rw [o_inLayer, nI_clamp hz', if_neg (fun k => c3 k.1.2)]), fun c3 => ⟨fun c4 => h.bad hC (by rw [o_inLayer, if_neg (fun k => absurd c4 (Int32.not_lt.mpr k.2.1.1))]), fun c4 => ⟨fun c5 => h.bad hC (by rw [o_inLayer, if_neg (fun k => absurd c5 (Int32.not_lt.mpr k.2.1.2))]), fun c5 => ?_⟩⟩⟩
  refine c_isRectangle ⟨_, rfl, fun c6 => ?_, fun c6 => h.bad hC (by rw [o_inLayer, if_neg (fun k => b01_ne c6 k.2.2)])⟩
  obtain ⟨w', hw', rfl⟩ := nI_of c4
  have hw1 : w' ≤ 1 := (nI_leI hw' (b := 1) (by decide)).mp (Int32.not_lt.mp c5)
  have ho : o_inLayer S (nI z') (nI w') a b c e = (lyV (bF S) z' w' a b c e, S) := by
    rw [o_inLayer, nI_clamp hz', nI_clamp hw', if_pos ⟨⟨⟨Int32.not_lt.mp c1, Int32.not_lt.mp c2⟩, c3⟩, ⟨Int32.not_lt.mp c4, Int32.not_lt.mp c5⟩, b01_eq c6⟩]
  refine c_becomeRectangle okS_61 (fun τ hB hs => ⟨rfl, ?_⟩)
  have hF2 := hF.sm hs (fun i k q1 q2 => by unfold SS; omega)
  have hq := h.same hC ho hs (fun i k q => by unfold SS at q; unfold SCR; omega)
  have e1 : nI w' = 1 ↔ w' = 1 := nI_eq (b := 1) hw' (by decide)
  rw [e1]
  refine ⟨fun c7 => ?_, fun c7 => ?_⟩
  · have : w' = 0 := by omega
    subst this
    exact c_hasInLayer (w := 0) okF_1 okS_61 hw.1 hF2 hB (by omega) c3 (by omega) ⟨_, rfl, hq⟩
  · subst c7
    exact c_hasInLayer (w := 1) okF_1 okS_61 hw.1 hF2 hB (by omega) c3 (by omega) ⟨_, rfl, hq⟩
end INL
