/-! The odds: the class. -/
def powL (b : Int64) : Nat → Int64
  | 0 => 1
  | k + 1 => powL b k * b
def waysL (n : Nat) : Nat → Int64
  | 0 => 1
  | j + 1 => (waysL n j * (nI (n - j)).toInt64) / (nI (j + 1)).toInt64
def sumO (n k p : Nat) : Nat → Int64
  | 0 => 0
  | j + 1 => if j < k then sumO n k p j else sumO n k p j + waysL n j * powL (nI p).toInt64 j * powL (10 - nI p).toInt64 (n - j)
/-- Euclid's steps, at most so many -/
def euc : Nat → Int64 → Int64 → Int64 × Int64
  | 0, a, b => (a, b)
  | m + 1, a, b => if b = 0 then (a, b) else euc m b (a - a / b * b)
def odA (n k p : Nat) : Int64 := sumO n k p (n + 1)
def odG (n k p : Nat) : Int64 × Int64 := euc 60 (odA n k p) (powL 10 n)
def oddB (n k p : Nat) : Bool := decide ((odG n k p).2 = 0) && decide (0 < (odG n k p).1)
theorem odd_all : ∀ n, n < 16 → ∀ k, k < 16 → ∀ p, p < 11 → oddB n k p = true := by decide +kernel
theorem odd_ok {n k p : Nat} (hn : n < 16) (hk : k < 16) (hp : p < 11) : (odG n k p).2 = 0 ∧ 0 < (odG n k p).1 := by
  have h := odd_all n hn k hk p hp
  rw [oddB, Bool.and_eq_true, decide_eq_true_eq, decide_eq_true_eq] at h
  exact h
def oddR (n k p : Nat) : Int64 × Int64 := (odA n k p / (odG n k p).1, powL 10 n / (odG n k p).1)
def setR (S : Ab) (R : Int64 × Int64) : Ab := mkS (bF S) (bH S) (bI S) (bA S) (bT S) R (bE S) (bS S)
def o_odds (S : Ab) (a b c e k p : Int32) : Int32 × Ab := if rectP a b c e ∧ (0 ≤ k ∧ k ≤ 15) ∧ 0 ≤ p ∧ p ≤ 10 then (if (pkX (bF S) a b c e).length ≤ 15 then (1, setR S (oddR (pkX (bF S) a b c e).length k.toNatClampNeg p.toNatClampNeg)) else (cNO, rf1 S)) else (cBAD, rf0 S)
theorem euc_more : ∀ (m : Nat) (a b : Int64) (j : Nat), (euc m a b).2 = 0 → euc (m + j) a b = euc m a b := by
  intro m
  induction m with
  | zero =>
    intro a b j h
    have h : b = 0 := h
    cases j with
    | zero => rfl
    | succ j =>
      rw [Nat.zero_add]
      exact (show (if b = 0 then (a, b) else euc j b (a - a / b * b)) = (a, b) from if_pos h)
  | succ m ih =>
    intro a b j h
    rw [show m + 1 + j = m + j + 1 by omega, euc, euc]
    rw [euc] at h
    by_cases c : b = 0
    · rw [if_pos c, if_pos c]
    · rw [if_neg c] at h
      rw [if_neg c, if_neg c]
      exact ih _ _ j h
theorem j1_ne : ∀ j, j < 20 → ¬ (nI (j + 1)).toInt64 = 0 := by decide
section ODDS
variable {d : Nat} {σ : Mem} {Q : Option Value → Mem → Prop} {F : Fl} {S : Ab} {VA : Ar → Prop}
theorem c_power {b : Int64} {k : Nat} (hk : k < 100) (h : Q (some (.long (powL b k))) σ) : X none d mX1_power 0 [.long b, Unk, .int (nI k), Unk, Unk, Unk] [] σ Q := by
  refine vX1_power_0 ?_
  have key : ∀ m i, k = i + m → X none d mX1_power 5 [.long b, Unk, .int (nI k), .long (powL b i), Unk, .int (nI i)] [] σ Q := by
    intro m
    induction m with
    | zero =>
      intro i hi
      refine vX1_power_5 ⟨fun _ => ?_, fun c => absurd (nI_le (by omega) (by omega)) c⟩
      rw [show i = k by omega]
      exact h
    | succ m ih =>
      intro i hi
      refine vX1_power_5 ⟨fun c => absurd c (nI_ge (by omega) (by omega)), fun _ => ?_⟩
      rw [nI_1]
      exact ih (i + 1) (by omega)
  rw [← nI_0]
  exact key k 0 (by omega)
theorem c_divisorOf {y0 y2 : Int64} (h : Q (some (.long (euc 200 y0 y2).1)) σ) : X none d mX1_divisorOf 0 [.long y0, Unk, .long y2, Unk, Unk, Unk, Unk, Unk, Unk, Unk, Unk] [] σ Q := by
  refine vX1_divisorOf_0 ?_
  have key : ∀ m i a b, 200 = i + m → Q (some (.long (euc m a b).1)) σ → X none d mX1_divisorOf 9 [.long y0, Unk, .long y2, Unk, .long a, Unk, .long b, Unk, .int (nI i), Unk, Unk] [] σ Q := by
    intro m
    induction m with
    | zero =>
      intro i a b hi hQ
      have hi2 : i = 200 := by omega
      subst hi2
      exact vX1_divisorOf_9 ⟨fun _ => hQ, fun c => absurd (show (200 : Int32) ≤ nI 200 by decide) c⟩
    | succ m ih =>
      intro i a b hi hQ
      refine vX1_divisorOf_9 ⟨fun c => absurd c (show ¬ nI 200 ≤ nI i from nI_ge (by omega) (by decide)), fun _ => ?_⟩
      rw [lg_cmp_eq, nI_1]
      rw [euc] at hQ
      refine ⟨fun c => ?_, fun c => ⟨c, ih (i + 1) _ _ (by omega) ?_⟩⟩
      · rw [if_pos c] at hQ
        exact hQ
      · rw [if_neg c] at hQ
        exact hQ
  rw [← nI_0]
  exact key 200 0 y0 y2 (by omega) h
theorem c_becomeOdds {n k p : Nat} (hn : n < 16) (hk : k < 16) (hp : p < 11) (h : ∀ τ : Mem, τ = w2 (w2 σ 72 0 (oddR n k p).1) 72 1 (oddR n k p).2 → Q none τ) : X none (d + 1) mX1_becomeOdds 0 [.ref 72, .int (nI n), .int (nI k), .int (nI p), Unk, Unk, Unk, Unk, Unk, Unk, Unk, Unk] [] σ Q := by
  obtain ⟨g1, g2⟩ := odd_ok hn hk hp
  have e200 : euc 200 (odA n k p) (powL 10 n) = odG n k p := euc_more 60 _ _ 140 g1
  refine vX1_becomeOdds_0 ?_
  have key : ∀ m j, n + 1 = j + m → X none (d + 1) mX1_becomeOdds 9 [.ref 72, .int (nI n), .int (nI k), .int (nI p), .long (waysL n j), Unk, .long (sumO n k p j), Unk, .int (nI j), Unk, Unk, Unk] [] σ Q := by
    intro m
    induction m with
    | zero =>
      intro j hj
      have hj2 : j = n + 1 := by omega
      subst hj2
      refine vX1_becomeOdds_9 ⟨fun _ => c_power (by omega) ⟨_, rfl, c_divisorOf ⟨_, rfl, ?_⟩⟩, fun c => absurd (nI_lt (by omega) (by omega)) c⟩
      rw [show sumO n k p (n + 1) = odA n k p from rfl, e200, lg_cmp_le]
      have hne : ¬ (odG n k p).1 = 0 := fun q => lg_lt_ne g2 q.symm
      exact ⟨fun c => absurd c (lg_lt_not_le g2), fun _ => ⟨hne, fun τ5 e5 => ⟨hne, fun τ6 e6 => h τ6 (by rw [e6, e5]; rfl)⟩⟩⟩
    | succ m ih =>
      intro j hj
      have hnx := ih (j + 1) (by omega)
      simp only [sumO, waysL] at hnx
      refine vX1_becomeOdds_9 ?_
      rw [nI_1, pk_sub (show j ≤ n by omega), nI_ltI (by omega) (by omega), nI_ltI (by omega) (by omega)]
      refine ⟨fun c => absurd c (by omega), fun _ => ⟨fun c => ⟨j1_ne j (by omega), ?_⟩, fun c => c_power (by omega) ⟨_, rfl, c_power (by omega) ⟨_, rfl, j1_ne j (by omega), ?_⟩⟩⟩⟩
      · rw [if_pos c] at hnx
        exact hnx
      · rw [if_neg c] at hnx
        exact hnx
  rw [← nI_0]
  exact key (n + 1) 0 (by omega)
theorem CL.od {τ : Mem} {R : Int64 × Int64} (h : CL σ S) (e : τ = w2 (w2 σ 72 0 R.1) 72 1 R.2) : CL τ (setR S R) ∧ Sm S94 σ τ := by
  obtain ⟨h1, h2, h3, h4, h5, h6, h7⟩ := h
  subst e
  refine ⟨⟨h1, h2, h3, h4, h5, ⟨by simp [w2]; rfl, by simp [w2]; rfl⟩, h7⟩, ?_⟩
  intro i k hk
  have hi : i ≠ 72 := fun q => hk (by unfold S94; omega)
  exact ⟨rfl, by simp [w2, hi]⟩
theorem p_odds (hC : CL σ S) (hw : WS VA S) {a b c e k p : Int32} (h : OutC σ Q (o_odds S a b c e k p)) : X none (d + 4) mX7_odds 0 [.ref 0, .int a, .int b, .int c, .int e, .int k, .int p] [] σ Q := by
  have h60 := pkX_60 hw.1 (a := a) (b := b) (c := c) (e := e)
  refine vX7_odds_0 (c_isRectangle ⟨_, rfl, fun c1 => h.bad hC (by rw [o_odds, if_neg (fun q => b01_ne c1 q.1)]), fun c1 => ⟨fun c2 => h.bad hC (by rw [o_odds, if_neg (fun q => absurd c2 (Int32.not_lt.mpr q.2.1.1))]), fun c2 => ⟨fun c3 => h.bad hC (by rw [o_odds, if_neg (fun q => absurd c3 (Int32.not_lt.mpr q.2.1.2))]), fun c3 => ⟨fun c4 => h.bad hC (by rw [o_odds, if_neg (fun q => absurd c4 (Int32.not_lt.mpr q.2.2.1))]), fun c4 => ⟨fun c5 => ?_, fun c5 => h.bad hC (by rw [o_odds, if_neg (fun q => c5 q.2.2.2)])⟩⟩⟩⟩⟩)
  have hin : rectP a b c e ∧ (0 ≤ k ∧ k ≤ 15) ∧ 0 ≤ p ∧ p ≤ 10 := ⟨b01_eq c1, ⟨Int32.not_lt.mp c2, Int32.not_lt.mp c3⟩, Int32.not_lt.mp c4, c5⟩
  obtain ⟨k', hk', rfl⟩ := nI_of c2
  obtain ⟨p', hp', rfl⟩ := nI_of c4
  have hk16 : k' ≤ 15 := (nI_leI hk' (b := 15) (by decide)).mp hin.2.1.2
  have hp11 : p' ≤ 10 := (nI_leI hp' (b := 10) (by decide)).mp c5
  rw [o_odds, if_pos hin, nI_clamp hk', nI_clamp hp'] at h
  refine c_pickRectangle hC hw (fun τ hC2 hp hs => ⟨rfl, ?_⟩)
  have hs2 : Sm S94 σ τ := hs.mono (fun i k q => by unfold S94; omega)
  have e15 : nI (pkX (bF S) a b c e).length ≤ 15 ↔ (pkX (bF S) a b c e).length ≤ 15 := nI_leI (b := 15) (by omega) (by decide)
  rw [hp.1, e15]
  refine ⟨fun c6 => ?_, fun c6 => ?_⟩
  · rw [if_pos c6] at h
    refine c_becomeOdds (by omega) (by omega) (by omega) (fun τ2 e2 => ⟨rfl, ?_⟩)
    have hh := hC2.od e2
    exact h τ2 hh.1 (hs2.tr hh.2)
  · rw [if_neg c6] at h
    have h2 : OutC τ Q (cNO, rf1 S) := fun τ3 q1 q2 => h τ3 q1 (hs2.tr q2)
    exact h2.no hC2 rfl
end ODDS
