/-! The odds: the model. -/
def prM (w : Int64) (p j : Nat) : Nat → Int64
  | 0 => w
  | i + 1 => if j ≤ i then prM w p j i * (10 - nI p).toInt64 else prM w p j i * (nI p).toInt64
theorem prM_lo (w : Int64) (p j : Nat) : ∀ i, i ≤ j → prM w p j i = w * powL (nI p).toInt64 i := by
  intro i
  induction i with
  | zero => intro _; exact (Int64.mul_one w).symm
  | succ i ih =>
    intro h
    rw [prM, if_neg (by omega), ih (by omega), powL, Int64.mul_assoc]
theorem prM_hi (w : Int64) (p j : Nat) : ∀ m, prM w p j (j + m) = w * powL (nI p).toInt64 j * powL (10 - nI p).toInt64 m := by
  intro m
  induction m with
  | zero => rw [Nat.add_zero, prM_lo w p j j (Nat.le_refl j)]; exact (Int64.mul_one _).symm
  | succ m ih =>
    rw [show j + (m + 1) = j + m + 1 by omega, prM, if_pos (by omega), ih, powL, Int64.mul_assoc]
section ODDM
variable {d : Nat} {σ : Mem} {Q : Option Value → Mem → Prop} {F : Fl} {S : Ab} {VA : Ar → Prop}
theorem m_tells {y1 y3 g : Int64} {m0 : Nat} (h1 : (euc m0 y1 y3).2 = 0) (h2 : (euc m0 y1 y3).1 = g) (hg : ¬ g = 0) (h : ∀ τ : Mem, τ = w2 (w2 σ 94 7 (y1 / g)) 94 8 (y3 / g) → Q (some (.int 1)) τ) : X none d mX8_tells 0 [.ref 94, .long y1, Unk, .long y3, Unk, Unk, Unk, Unk, Unk, Unk, Unk] [] σ Q := by
  refine vX8_tells_0 ?_
  have stop : ∀ a b : Int64, b = 0 → a = g → X none d mX8_tells 6 [.ref 94, .long y1, Unk, .long y3, Unk, .long a, Unk, .long b, Unk, Unk, Unk] [] σ Q := fun a b hb ha => by
    subst ha
    refine vX8_tells_6 ⟨fun _ => ⟨hg, fun τ1 e1 => ⟨hg, fun τ2 e2 => h τ2 (by rw [e2, e1])⟩⟩, fun c => absurd ((lg_cmp_eq b 0).mpr hb) c⟩
  have key : ∀ m a b, (euc m a b).2 = 0 → (euc m a b).1 = g → X none d mX8_tells 6 [.ref 94, .long y1, Unk, .long y3, Unk, .long a, Unk, .long b, Unk, Unk, Unk] [] σ Q := by
    intro m
    induction m with
    | zero => intro a b q1 q2; exact stop a b q1 q2
    | succ m ih =>
      intro a b q1 q2
      rw [euc] at q1 q2
      by_cases c : b = 0
      · rw [if_pos c] at q1 q2
        exact stop a b q1 q2
      · rw [if_neg c] at q1 q2
        exact vX8_tells_6 ⟨fun c2 => absurd ((lg_cmp_eq b 0).mp c2) c, fun _ => ⟨c, ih _ _ q1 q2⟩⟩
  exact key m0 y1 y3 h1 h2
theorem m_oddsL {n k p : Nat} (hn : n < 16) (hk : k < 16) (hp : p < 11) {a b c e : Int32} (h : ∀ τ : Mem, τ = w2 (w2 σ 94 7 (oddR n k p).1) 94 8 (oddR n k p).2 → Q (some (.int 1)) τ) : ∀ m j, n + 1 = j + m → X none (d + 3) mX8_odds 77 [.ref 94, .int a, .int b, .int c, .int e, .int (nI k), .int (nI p), .int (nI n), .long (sumO n k p j), Unk, .long (powL 10 (min j n)), Unk, .long (waysL n j), Unk, .int (nI j), Unk, Unk, Unk] [] σ Q := by
  obtain ⟨g1, g2⟩ := odd_ok hn hk hp
  intro m
  induction m with
  | zero =>
    intro j hj
    have hj2 : j = n + 1 := by omega
    subst hj2
    rw [Nat.min_eq_right (by omega)]
    refine vX8_odds_77 ⟨fun _ => m_tells (m0 := 60) (g := (odG n k p).1) g1 rfl (fun q => lg_lt_ne g2 q.symm) (fun τ e1 => ⟨_, rfl, h τ (by rw [e1]; rfl)⟩), fun c => absurd (nI_lt (by omega) (by omega)) c⟩
  | succ m ih =>
    intro j hj
    have hnx := ih (j + 1) (by omega)
    simp only [sumO, waysL] at hnx
    refine vX8_odds_77 ⟨fun c => absurd ((nI_ltI (by omega) (by omega)).mp c) (by omega), fun _ => ?_⟩
    have inner : ∀ m2 i, n = i + m2 → X none (d + 3) mX8_odds 91 [.ref 94, .int a, .int b, .int c, .int e, .int (nI k), .int (nI p), .int (nI n), .long (sumO n k p j), Unk, .long (powL 10 (min j n)), Unk, .long (waysL n j), Unk, .int (nI j), .long (prM (waysL n j) p j i), Unk, .int (nI i)] [] σ Q := by
      intro m2
      induction m2 with
      | zero =>
        intro i hi
        have hi2 : i = n := by omega
        subst hi2
        have hj1 := j1_ne j (by omega)
        have hpr : prM (waysL i j) p j i = waysL i j * powL (nI p).toInt64 j * powL (10 - nI p).toInt64 (i - j) := by
          have := prM_hi (waysL i j) p j (i - j)
          rw [show j + (i - j) = i by omega] at this
          exact this
        refine vX8_odds_91 ?_
        rw [nI_1, nI_1, pk_sub (show j ≤ i by omega), nI_ltI (by omega) (by omega), nI_leI (a := i) (b := j) (by omega) (by omega), Int64.add_zero, Int64.mul_one, hpr]
        refine ⟨fun _ => ⟨fun c1 => ⟨hj1, fun c2 => ?_, fun c2 => ?_⟩, fun c1 => ⟨hj1, fun c2 => ?_, fun c2 => ?_⟩⟩, fun c1 => absurd (nI_le (Nat.le_refl i) (by omega)) c1⟩
        · rw [if_pos c1, Nat.min_eq_right (show i ≤ j + 1 by omega)] at hnx
          rw [Nat.min_eq_right c2]
          exact hnx
        · rw [if_pos c1, Nat.min_eq_left (show j + 1 ≤ i by omega)] at hnx
          rw [Nat.min_eq_left (show j ≤ i by omega)]
          exact hnx
        · rw [if_neg c1, Nat.min_eq_right (show i ≤ j + 1 by omega)] at hnx
          rw [Nat.min_eq_right c2]
          exact hnx
        · rw [if_neg c1, Nat.min_eq_left (show j + 1 ≤ i by omega)] at hnx
          rw [Nat.min_eq_left (show j ≤ i by omega)]
          exact hnx
      | succ m2 ih2 =>
        intro i hi
        have hnx2 := ih2 (i + 1) (by omega)
        rw [prM] at hnx2
        refine vX8_odds_91 ⟨fun c1 => absurd c1 (nI_ge (by omega) (by omega)), fun _ => ⟨fun c1 => ?_, fun c1 => ?_⟩⟩
        · rw [nI_leI (by omega) (by omega)] at c1
          rw [if_pos c1] at hnx2
          rw [nI_1]
          exact hnx2
        · rw [nI_leI (by omega) (by omega)] at c1
          rw [if_neg c1] at hnx2
          rw [nI_1]
          exact hnx2
    rw [← nI_0]
    exact inner n 0 (by omega)
theorem MD.od {τ : Mem} {R : Int64 × Int64} (h : MD σ S) (e : τ = w2 (w2 σ 94 7 R.1) 94 8 R.2) : MD τ (setR S R) ∧ Sm SM94 σ τ := by
  obtain ⟨h1, h2, h3, h4, h5, h6, h7⟩ := h
  subst e
  refine ⟨⟨h1, h2, h3, h4, h5, ⟨by simp [w2]; rfl, by simp [w2]; rfl⟩, h7⟩, ?_⟩
  intro i k hk
  have hi : i ≠ 94 := fun q => hk (by unfold SM94; omega)
  exact ⟨rfl, by simp [w2, hi]⟩
theorem q_odds (hva : ∀ A, VA A → WA A) (hC : MD σ S) (hw : WS VA S) {a b c e k p : Int32} (h : OutM σ Q (o_odds S a b c e k p)) : X none (d + 3) mX8_odds 0 [.ref 94, .int a, .int b, .int c, .int e, .int k, .int p, Unk, Unk, Unk, Unk, Unk, Unk, Unk, Unk, Unk, Unk, Unk] [] σ Q := by
  have hM := MZ_iff.mp hC.1
  have hn := hw.1.n120
  have h60 := pkX_60 hw.1 (a := a) (b := b) (c := c) (e := e)
  refine vX8_odds_0 ⟨fun c1 => OutM.bad hva hw h hC (by rw [o_odds, if_neg (fun q => c1 q.1)]), fun c1 => ⟨fun c2 => OutM.bad hva hw h hC (by rw [o_odds, if_neg (fun q => c2 q.2.1)]), fun c2 => ⟨fun c3 => ?_, fun c3 => OutM.bad hva hw h hC (by rw [o_odds, if_neg (fun q => c3 q.2.2)])⟩⟩⟩
  obtain ⟨k', hk', rfl⟩ := nI_of (Int32.not_lt.mpr c2.1)
  obtain ⟨p', hp', rfl⟩ := nI_of (Int32.not_lt.mpr c3.1)
  have hk16 : k' ≤ 15 := (nI_leI hk' (b := 15) (by decide)).mp c2.2
  have hp11 : p' ≤ 10 := (nI_leI hp' (b := 10) (by decide)).mp c3.2
  rw [o_odds, if_pos ⟨c1, c2, c3⟩, nI_clamp hk', nI_clamp hp'] at h
  refine m_manyIn (by omega) hM ⟨_, rfl, ?_⟩
  rw [← pik_len, show pik (pX (bF S) a b c e) (fn (bF S)) = pkX (bF S) a b c e from rfl]
  have e15 : nI (pkX (bF S) a b c e).length ≤ 15 ↔ (pkX (bF S) a b c e).length ≤ 15 := nI_leI (b := 15) (by omega) (by decide)
  rw [e15]
  refine ⟨fun c6 => ?_, fun c6 => OutM.no hva hw h hC (if_neg c6)⟩
  rw [if_pos c6] at h
  rw [← nI_0]
  have := m_oddsL (d := d) (σ := σ) (Q := Q) (n := (pkX (bF S) a b c e).length) (k := k') (p := p') (by omega) (by omega) (by omega) (a := a) (b := b) (c := c) (e := e) (fun τ e2 => h τ (hC.od e2).1 (hC.od e2).2) ((pkX (bF S) a b c e).length + 1) 0 (by omega)
  rw [Nat.zero_min] at this
  exact this
end ODDM
