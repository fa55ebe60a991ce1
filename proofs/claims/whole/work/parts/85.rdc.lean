/-! The class's reader meets the pure one. -/
def RT0 (σ : Mem) (T : Tx) : Prop := σ.1 67 2 = nI T.1 ∧ ∀ k, k < T.1 → σ.1 68 k = T.2 k
def SRd : Nat → Nat → Prop := fun i k => (i = 67 ∧ (k = 3 ∨ k = 4)) ∨ (69 ≤ i ∧ i ≤ 71)
def RF (σ : Mem) (T : Tx) (p : Nat) : Prop := RT0 σ T ∧ (∃ a, a ≤ T.1 ∧ σ.1 67 3 = nI a) ∧ (p ≤ T.1 ∧ σ.1 67 4 = nI p) ∧ ∃ m, m ≤ 120 ∧ σ.1 69 2 = nI m
def RO (σ : Mem) (T : Tx) (a : Nat) (A : Ar) : Prop := RT0 σ T ∧ (a ≤ T.1 ∧ am A ≤ 120 ∧ ar A ≤ 12) ∧ σ.1 67 3 = nI a ∧ σ.1 67 4 = -1 ∧ CS σ 69 A
def ST (σ : Mem) (T : Tx) (x : Sum Nat Sx) : Prop := match x with
  | .inl p => RF σ T p
  | .inr s => RO σ T s.1 s.2
def ES (σ : Mem) (T : Tx) (e : Sum Nat Nat) (A : Ar) : Prop := match e with
  | .inl p => RF σ T p
  | .inr a => RO σ T a A
def NS (σ : Mem) (T : Tx) (y : Sum Nat (Nat × Int32)) (A : Ar) (u : Int32) : Prop := match y with
  | .inl p => RF σ T p
  | .inr q => u = q.2 ∧ RO σ T q.1 A
theorem RT0.sm {σ τ : Mem} {T : Tx} (h : RT0 σ T) (hs : Sm SRd σ τ) : RT0 τ T := ⟨by rw [(hs 67 2 (by unfold SRd; omega)).1]; exact h.1, fun k hk => by rw [(hs 68 k (by unfold SRd; omega)).1]; exact h.2 k hk⟩
/-- the draft stays while the reader's own numbers change -/
theorem CS.rd {σ τ : Mem} {A : Ar} (h : CS σ 69 A) (hs : ∀ i k, 69 ≤ i → i ≤ 71 → τ.1 i k = σ.1 i k) : CS τ 69 A := by
  obtain ⟨h1, h2, h3, h4⟩ := h
  exact ⟨by rw [hs _ _ (by omega) (by omega)]; exact h1, by rw [hs _ _ (by omega) (by omega)]; exact h2, fun k hk => by rw [hs _ _ (by omega) (by omega)]; exact h3 k hk, fun k hk => by rw [hs _ _ (by omega) (by omega)]; exact h4 k hk⟩
theorem RO.at {σ τ : Mem} {T : Tx} {a b : Nat} {A : Ar} (h : RO σ T a A) (hb : b ≤ T.1) (e : τ = w1 σ 67 3 (nI b)) : RO τ T b A ∧ Sm SRd σ τ := by
  obtain ⟨h1, ⟨h2, h3, h4⟩, h5, h6, h7⟩ := h
  have hs : Sm SRd σ τ := by rw [e]; exact Sm.rf.w1 (Or.inl ⟨rfl, Or.inl rfl⟩)
  exact ⟨⟨h1.sm hs, ⟨hb, h3, h4⟩, by rw [e, w1_s], by rw [e, w1_k _ _ _ _ _ _ (by omega)]; exact h6, h7.rd (fun i k q1 q2 => by rw [e, w1_a _ _ _ _ _ _ (by omega)])⟩, hs⟩
theorem RO.fl {σ τ : Mem} {T : Tx} {a p : Nat} {A : Ar} (h : RO σ T a A) (hp : p ≤ T.1) (e : τ = w1 σ 67 4 (nI p)) : RF τ T p ∧ Sm SRd σ τ := by
  obtain ⟨h1, ⟨h2, h3, h4⟩, h5, h6, h7⟩ := h
  have hs : Sm SRd σ τ := by rw [e]; exact Sm.rf.w1 (Or.inl ⟨rfl, Or.inr rfl⟩)
  exact ⟨⟨h1.sm hs, ⟨a, h2, by rw [e, w1_k _ _ _ _ _ _ (by omega)]; exact h5⟩, ⟨hp, by rw [e, w1_s]⟩, ⟨am A, h3, by rw [e, w1_a _ _ _ _ _ _ (by omega)]; exact h7.1⟩⟩, hs⟩
theorem RO.neg {σ : Mem} {T : Tx} {a : Nat} {A : Ar} (h : RO σ T a A) : σ.1 67 4 < 0 := by rw [h.2.2.2.1]; decide
theorem RO.nge {σ : Mem} {T : Tx} {a : Nat} {A : Ar} (h : RO σ T a A) : ¬ 0 ≤ σ.1 67 4 := Int32.not_le.mpr h.neg
theorem RF.ge {σ : Mem} {T : Tx} {p : Nat} (hT : T.1 ≤ 120) (h : RF σ T p) : 0 ≤ σ.1 67 4 := by
  have := h.2.2.1.1
  rw [h.2.2.1.2]
  exact nI_pos' (by omega)
theorem rct_eq {T : Tx} {a : Nat} {A : Ar} {u1 u2 u3 u4 : Int32} {e1 e2 e3 e4 e5 : Sum Nat Nat} {y1 y2 y3 y4 : Sum Nat (Nat × Int32)} (h1 : e1 = ex T 91 a) (h2 : y1 = bd e1 (rdN T (-500))) (k1 : ∀ q, y1 = .inr q → u1 = q.2) (h3 : e2 = bd y1 (fun q => ex T 44 q.1)) (h4 : y2 = bd e2 (rdN T u1)) (k2 : ∀ q, y2 = .inr q → u2 = q.2) (h5 : e3 = bd y2 (fun q => ex T 44 q.1)) (h6 : y3 = bd e3 (rdN T (-500))) (k3 : ∀ q, y3 = .inr q → u3 = q.2) (h7 : e4 = bd y3 (fun q => ex T 44 q.1)) (h8 : y4 = bd e4 (rdN T u3)) (k4 : ∀ q, y4 = .inr q → u4 = q.2) (h9 : e5 = bd y4 (fun q => ex T 93 q.1)) : rct T (a, A) = bd e5 (fun a9 => .inr (a9, aR A u1 u2 u3 u4)) := by
  unfold rct
  simp only
  rw [← h1]
  cases e1 with
  | inl p =>
    simp only [bd] at h2
    subst h2
    simp only [bd] at h3
    subst h3
    simp only [bd] at h4
    subst h4
    simp only [bd] at h5
    subst h5
    simp only [bd] at h6
    subst h6
    simp only [bd] at h7
    subst h7
    simp only [bd] at h8
    subst h8
    simp only [bd] at h9
    subst h9
    rfl
  | inr a1 =>
    simp only [bd]
    simp only [bd] at h2
    rw [← h2]
    cases y1 with
    | inl p =>
      simp only [bd] at h3
      subst h3
      simp only [bd] at h4
      subst h4
      simp only [bd] at h5
      subst h5
      simp only [bd] at h6
      subst h6
      simp only [bd] at h7
      subst h7
      simp only [bd] at h8
      subst h8
      simp only [bd] at h9
      subst h9
      rfl
    | inr q1 =>
      have w1 := k1 _ rfl
      subst w1
      simp only [bd]
      simp only [bd] at h3
      rw [← h3]
      cases e2 with
      | inl p =>
        simp only [bd] at h4
        subst h4
        simp only [bd] at h5
        subst h5
        simp only [bd] at h6
        subst h6
        simp only [bd] at h7
        subst h7
        simp only [bd] at h8
        subst h8
        simp only [bd] at h9
        subst h9
        rfl
      | inr a3 =>
        simp only [bd]
        simp only [bd] at h4
        rw [← h4]
        cases y2 with
        | inl p =>
          simp only [bd] at h5
          subst h5
          simp only [bd] at h6
          subst h6
          simp only [bd] at h7
          subst h7
          simp only [bd] at h8
          subst h8
          simp only [bd] at h9
          subst h9
          rfl
        | inr q2 =>
          have w2 := k2 _ rfl
          subst w2
          simp only [bd]
          simp only [bd] at h5
          rw [← h5]
          cases e3 with
          | inl p =>
            simp only [bd] at h6
            subst h6
            simp only [bd] at h7
            subst h7
            simp only [bd] at h8
            subst h8
            simp only [bd] at h9
            subst h9
            rfl
          | inr a5 =>
            simp only [bd]
            simp only [bd] at h6
            rw [← h6]
            cases y3 with
            | inl p =>
              simp only [bd] at h7
              subst h7
              simp only [bd] at h8
              subst h8
              simp only [bd] at h9
              subst h9
              rfl
            | inr q3 =>
              have w3 := k3 _ rfl
              subst w3
              simp only [bd]
              simp only [bd] at h7
              rw [← h7]
              cases e4 with
              | inl p =>
                simp only [bd] at h8
                subst h8
                simp only [bd] at h9
                subst h9
                rfl
              | inr a7 =>
                simp only [bd]
                simp only [bd] at h8
                rw [← h8]
                cases y4 with
                | inl p =>
                  simp only [bd] at h9
                  subst h9
                  rfl
                | inr q4 =>
                  have w4 := k4 _ rfl
                  subst w4
                  simp only [bd]
                  simp only [bd] at h9
                  rw [← h9]
section RDC
variable {d : Nat} {σ : Mem} {Q : Option Value → Mem → Prop} {T : Tx} {a p : Nat} {A : Ar}
theorem c_next (hT : T.1 ≤ 120) (hR : RO σ T a A) (h : ∀ τ, RO τ T (sk T a) A → Sm SRd σ τ → Q (some (.int (nx T a))) τ) : X none d mX5_nextSign 0 [.ref 67] [] σ Q := by
  refine vX5_nextSign_0 ⟨fun _ => ?_, fun c => absurd hR.neg c⟩
  have key : ∀ m b (τ : Mem), T.1 = b + m → RO τ T b A → Sm SRd σ τ → sk T b = sk T a → X none d mX5_nextSign 9 [.ref 67] [] τ Q := by
    intro m
    induction m with
    | zero =>
      intro b τ hb hO hs hk
      have hbT : b = T.1 := by omega
      have e1 : sk T b = b := sk_stop (fun q => by omega)
      have hQ := h τ (by rw [← hk, e1]; exact hO) hs
      have e2 : nx T a = -1 := by rw [nx, ← hk, e1, hr, if_neg (by omega)]
      rw [e2] at hQ
      have hle : τ.1 67 2 ≤ τ.1 67 3 := by rw [hO.1.1, hO.2.2.1]; exact nI_le (by omega) (by omega)
      exact vX5_nextSign_9 ⟨fun _ => ⟨fun _ => hQ, fun c => absurd hle c⟩, fun c => absurd hle c⟩
    | succ m ih =>
      intro b τ hb hO hs hk
      have hlt : b < T.1 := by omega
      refine vX5_nextSign_9 ?_
      rw [hO.1.1, hO.2.2.1, nI_clamp (n := b) (by omega), hO.1.2 b hlt, nI_1]
      have hv : vp_in (nI b) 120 := vin (by omega) (by decide)
      have hgt : ¬ nI T.1 ≤ nI b := nI_ge hlt (by omega)
      refine ⟨fun c => absurd c hgt, fun _ => ⟨hv, fun c1 => ⟨fun c => absurd c hgt, fun _ => ⟨hv, ?_⟩⟩, fun c1 τ1 e1 => ?_⟩⟩
      · have e1 : sk T b = b := sk_stop (fun q => c1 q.2)
        have hQ := h τ (by rw [← hk, e1]; exact hO) hs
        rw [nx, ← hk, e1, hr, if_pos hlt] at hQ
        exact hQ
      · obtain ⟨hO1, hs1⟩ := hO.at (by omega) e1
        exact ih (b + 1) τ1 (by omega) hO1 (hs.tr hs1) (by rw [← hk, sk_step ⟨hlt, c1⟩])
  exact key (T.1 - a) a σ (by have := hR.2.1.1; omega) hR Sm.rf rfl
theorem c_nextF (hT : T.1 ≤ 120) (hR : RF σ T p) (h : Q (some (.int (-1))) σ) : X none d mX5_nextSign 0 [.ref 67] [] σ Q :=
  vX5_nextSign_0 ⟨fun c => absurd (hR.ge hT) (Int32.not_le.mpr c), fun _ => h⟩
theorem c_expect (hT : T.1 ≤ 120) (hR : RO σ T a A) {c : Int32} (hc : c ≠ -1) (h : ∀ τ, ES τ T (ex T c a) A → Sm SRd σ τ → Q none τ) : X none (d + 1) mX5_expect 0 [.ref 67, .int c] [] σ Q := by
  refine vX5_expect_0 (c_next hT hR (fun τ hO hs => ⟨_, rfl, fun c1 => ⟨fun c2 => absurd c2 hO.nge, fun _ τ3 e3 => ?_⟩, fun c1 τ4 e4 => ?_⟩))
  · rw [hO.2.2.1] at e3
    obtain ⟨hF, hs2⟩ := hO.fl (sk_le hR.2.1.1) e3
    refine h τ3 ?_ (hs.tr hs2)
    rw [ex, if_neg c1]
    exact hF
  · rw [hO.2.2.1, nI_1] at e4
    have hlt := nx_lt (T := T) (a := a) (by rw [c1]; exact hc)
    obtain ⟨hF, hs2⟩ := hO.at hlt e4
    refine h τ4 ?_ (hs.tr hs2)
    rw [ex, if_pos c1]
    exact hF
theorem c_expectF (hT : T.1 ≤ 120) (hR : RF σ T p) {c : Int32} (hc : c ≠ -1) (h : Q none σ) : X none (d + 1) mX5_expect 0 [.ref 67, .int c] [] σ Q :=
  vX5_expect_0 (c_nextF hT hR ⟨_, rfl, fun _ => ⟨fun _ => h, fun c2 => absurd (hR.ge hT) c2⟩, fun c1 => absurd c1.symm hc⟩)
def numE (Q : Option Value → Mem → Prop) (σ : Mem) (x1 x2 x3 x4 x5 : Int32) : Prop := ((¬ x5 = 0 → ((x2 = 0 → ((3 < x5 → ((0 ≤ (σ.1 67 4) → Q (some (.int x1)) σ) ∧ (¬ 0 ≤ (σ.1 67 4) → (∀ τ1 : Mem, τ1 = (w1 σ 67 4 x3) → Q (some (.int x1)) τ1)))) ∧ (¬ 3 < x5 → ((x4 < x1 → ((0 ≤ (σ.1 67 4) → Q (some (.int x1)) σ) ∧ (¬ 0 ≤ (σ.1 67 4) → (∀ τ2 : Mem, τ2 = (w1 σ 67 4 x3) → Q (some (.int x1)) τ2)))) ∧ (¬ x4 < x1 → ((x4 ≤ 500 → Q (some (.int x4)) σ) ∧ (¬ x4 ≤ 500 → ((0 ≤ (σ.1 67 4) → Q (some (.int x1)) σ) ∧ (¬ 0 ≤ (σ.1 67 4) → (∀ τ3 : Mem, τ3 = (w1 σ 67 4 x3) → Q (some (.int x1)) τ3)))))))))) ∧ (¬ x2 = 0 → ((3 < x5 → ((0 ≤ (σ.1 67 4) → Q (some (.int x1)) σ) ∧ (¬ 0 ≤ (σ.1 67 4) → (∀ τ4 : Mem, τ4 = (w1 σ 67 4 x3) → Q (some (.int x1)) τ4)))) ∧ (¬ 3 < x5 → (((-x4) < x1 → ((0 ≤ (σ.1 67 4) → Q (some (.int x1)) σ) ∧ (¬ 0 ≤ (σ.1 67 4) → (∀ τ5 : Mem, τ5 = (w1 σ 67 4 x3) → Q (some (.int x1)) τ5)))) ∧ (¬ (-x4) < x1 → (((-x4) ≤ 500 → Q (some (.int (-x4))) σ) ∧ (¬ (-x4) ≤ 500 → ((0 ≤ (σ.1 67 4) → Q (some (.int x1)) σ) ∧ (¬ 0 ≤ (σ.1 67 4) → (∀ τ6 : Mem, τ6 = (w1 σ 67 4 x3) → Q (some (.int x1)) τ6)))))))))))) ∧ (x5 = 0 → ((0 ≤ (σ.1 67 4) → Q (some (.int x1)) σ) ∧ (¬ 0 ≤ (σ.1 67 4) → (∀ τ7 : Mem, τ7 = (w1 σ 67 4 (σ.1 67 3)) → Q (some (.int x1)) τ7)))))
/-- the figures of a number; what is behind them is told by the reader's place alone -/
theorem c_num40 (hT : T.1 ≤ 120) {lo x2 x3 : Int32} : ∀ m b (v : Int32) n (τ : Mem), T.1 = b + m → n ≤ b → RT0 τ T → τ.1 67 3 = nI b → (∀ υ : Mem, RT0 υ T → (∀ i k, ¬ (i = 67 ∧ k = 3) → υ.1 i k = τ.1 i k ∧ υ.2 i k = τ.2 i k) → υ.1 67 3 = nI (dgF 3 T m b v n).1 → numE Q υ lo x2 x3 (dgF 3 T m b v n).2.1 (nI (dgF 3 T m b v n).2.2)) →
    X none (d + 1) mX5_readNumber 40 [.ref 67, .int lo, .int x2, .int x3, .int v, .int (nI n), Unk] [] τ Q := by
  intro m
  induction m with
  | zero =>
    intro b v n τ hb hn hR h3 hE
    have hle : τ.1 67 2 ≤ τ.1 67 3 := by rw [hR.1, h3]; exact nI_le (by omega) (by omega)
    have := hE τ hR (fun i k _ => ⟨rfl, rfl⟩) h3
    exact vX5_readNumber_40 ⟨fun _ => this, fun c => absurd hle c⟩
  | succ m ih =>
    intro b v n τ hb hn hR h3 hE
    have hlt : b < T.1 := by omega
    have hv : vp_in (nI b) 120 := vin (by omega) (by decide)
    have hgt : ¬ τ.1 67 2 ≤ τ.1 67 3 := by rw [hR.1, h3]; exact nI_ge hlt (by omega)
    have er : τ.1 68 (τ.1 67 3).toNatClampNeg = T.2 b := by rw [h3, nI_clamp (n := b) (by omega), hR.2 b hlt]
    rw [dgF] at hE
    have stop : ¬ (b < T.1 ∧ 48 ≤ T.2 b ∧ T.2 b ≤ 57) → numE Q τ lo x2 x3 v (nI n) := fun c => by
      rw [if_neg c] at hE
      exact hE τ hR (fun i k _ => ⟨rfl, rfl⟩) h3
    have go : (b < T.1 ∧ 48 ≤ T.2 b ∧ T.2 b ≤ 57) → ∀ (v' : Int32), v' = (if n < 3 then 10 * v + T.2 b - 48 else v) → ∀ τ1 : Mem, τ1 = w1 τ 67 3 (nI (b + 1)) → X none (d + 1) mX5_readNumber 40 [.ref 67, .int lo, .int x2, .int x3, .int v', .int (nI (n + 1)), Unk] [] τ1 Q := fun c v' ev τ1 e1 => by
      rw [if_pos c, ← ev] at hE
      have hs1 : Sm SRd τ τ1 := by rw [e1]; exact Sm.rf.w1 (Or.inl ⟨rfl, Or.inl rfl⟩)
      refine ih (b + 1) v' (n + 1) τ1 (by omega) (by omega) (hR.sm hs1) (by rw [e1, w1_s]) (fun υ q1 q2 q3 => hE υ q1 (fun i k hik => ?_) q3)
      rw [(q2 i k hik).1, (q2 i k hik).2, e1]
      exact ⟨w1_n _ _ _ _ _ _ hik, rfl⟩
    refine vX5_readNumber_40 ⟨fun c => absurd c hgt, fun _ => ⟨by rw [h3]; exact hv, ?_⟩⟩
    rw [er]
    refine ⟨fun c => stop (fun q => absurd q.2.1 (Int32.not_le.mpr c)), fun c1 => ⟨fun c => stop (fun q => absurd q.2.2 (Int32.not_le.mpr c)), fun c2 => ⟨fun c3 τ1 e1 => ?_, fun c3 => ⟨by rw [h3]; exact hv, fun τ1 e1 => ?_⟩⟩⟩⟩
    · rw [h3, nI_1] at e1
      rw [nI_1]
      refine go ⟨hlt, Int32.not_lt.mp c1, Int32.not_lt.mp c2⟩ v ?_ τ1 e1
      rw [if_neg]
      have := (nI_leI (a := 3) (by decide) (by omega)).mp c3
      omega
    · rw [h3, nI_1] at e1
      rw [nI_1]
      refine go ⟨hlt, Int32.not_lt.mp c1, Int32.not_lt.mp c2⟩ _ ?_ τ1 e1
      rw [if_pos]
      rcases Nat.lt_or_ge n 3 with q | q
      · exact q
      · exact absurd (nI_le (a := 3) q (by omega)) c3
theorem numE_F {x1 x2 x3 x4 x5 : Int32} (hg : 0 ≤ σ.1 67 4) (h : ∀ u, Q (some (.int u)) σ) : numE Q σ x1 x2 x3 x4 x5 :=
  ⟨fun _ => ⟨fun _ => ⟨fun _ => ⟨fun _ => h _, fun c => absurd hg c⟩, fun _ => ⟨fun _ => ⟨fun _ => h _, fun c => absurd hg c⟩, fun _ => ⟨fun _ => h _, fun _ => ⟨fun _ => h _, fun c => absurd hg c⟩⟩⟩⟩, fun _ => ⟨fun _ => ⟨fun _ => h _, fun c => absurd hg c⟩, fun _ => ⟨fun _ => ⟨fun _ => h _, fun c => absurd hg c⟩, fun _ => ⟨fun _ => h _, fun _ => ⟨fun _ => h _, fun c => absurd hg c⟩⟩⟩⟩⟩, fun _ => ⟨fun _ => h _, fun c => absurd hg c⟩⟩
theorem numE_ok (hT : T.1 ≤ 120) {lo : Int32} {b : Nat} {m : Bool} {R : Nat × Int32 × Nat} (hb : b ≤ T.1) (hr2 : R.2.2 ≤ 120) (hR : RO σ T R.1 A) (h : ∀ τ u, NS τ T (numR lo b m R) A u → Sm SRd σ τ → Q (some (.int u)) τ) : numE Q σ lo (if m = true then 1 else 0) (nI b) R.2.1 (nI R.2.2) := by
  have hz : nI R.2.2 = 0 ↔ R.2.2 = 0 := nI_z (by omega)
  have h3 : (3 : Int32) < nI R.2.2 ↔ 3 < R.2.2 := nI_ltI (a := 3) (by decide) (by omega)
  have fail : ∀ q, q ≤ T.1 → numR lo b m R = .inl q → ∀ u : Int32, ∀ τ : Mem, τ = w1 σ 67 4 (nI q) → Q (some (.int u)) τ := fun q hq e u τ eτ => by
    obtain ⟨hF, hs⟩ := hR.fl hq eτ
    exact h τ u (by rw [e]; exact hF) hs
  have good : ∀ w : Int32, numR lo b m R = .inr (R.1, w) → Q (some (.int w)) σ := fun w e => h σ w (by rw [e]; exact ⟨rfl, hR⟩) Sm.rf
  have nr0 : R.2.2 = 0 → numR lo b m R = .inl R.1 := fun c => by rw [numR, if_pos c]
  have nr1 : ¬ R.2.2 = 0 → (3 < R.2.2 ∨ (if m = true then -R.2.1 else R.2.1) < lo ∨ 500 < (if m = true then -R.2.1 else R.2.1)) → numR lo b m R = .inl b := fun c c2 => by rw [numR, if_neg c, if_pos c2]
  have nr2 : ¬ R.2.2 = 0 → ¬ (3 < R.2.2 ∨ (if m = true then -R.2.1 else R.2.1) < lo ∨ 500 < (if m = true then -R.2.1 else R.2.1)) → numR lo b m R = .inr (R.1, if m = true then -R.2.1 else R.2.1) := fun c c2 => by rw [numR, if_neg c, if_neg c2]
  have nge := hR.nge
  unfold numE
  rw [hz, h3, hR.2.2.1]
  cases m
  · simp only [Bool.false_eq_true, if_false] at nr1 nr2 ⊢
    refine ⟨fun c => ⟨fun _ => ⟨fun c1 => ⟨fun q => absurd q nge, fun _ => fail b hb (nr1 c (Or.inl c1)) _⟩, fun c1 => ⟨fun c2 => ⟨fun q => absurd q nge, fun _ => fail b hb (nr1 c (Or.inr (Or.inl c2))) _⟩, fun c2 => ⟨fun c3 => good _ (nr2 c ?_), fun c3 => ⟨fun q => absurd q nge, fun _ => fail b hb (nr1 c (Or.inr (Or.inr (Int32.not_le.mp c3)))) _⟩⟩⟩⟩, fun c1 => absurd trivial c1⟩, fun c => ⟨fun q => absurd q nge, fun _ => fail R.1 hR.2.1.1 (nr0 c) _⟩⟩
    rintro (q | q | q)
    · exact c1 q
    · exact c2 q
    · exact absurd c3 (Int32.not_le.mpr q)
  · simp only [if_true] at nr1 nr2 ⊢
    refine ⟨fun c => ⟨fun c1 => absurd c1 (by decide), fun _ => ⟨fun c1 => ⟨fun q => absurd q nge, fun _ => fail b hb (nr1 c (Or.inl c1)) _⟩, fun c1 => ⟨fun c2 => ⟨fun q => absurd q nge, fun _ => fail b hb (nr1 c (Or.inr (Or.inl c2))) _⟩, fun c2 => ⟨fun c3 => good _ (nr2 c ?_), fun c3 => ⟨fun q => absurd q nge, fun _ => fail b hb (nr1 c (Or.inr (Or.inr (Int32.not_le.mp c3)))) _⟩⟩⟩⟩⟩, fun c => ⟨fun q => absurd q nge, fun _ => fail R.1 hR.2.1.1 (nr0 c) _⟩⟩
    rintro (q | q | q)
    · exact c1 q
    · exact c2 q
    · exact absurd c3 (Int32.not_le.mpr q)
theorem RO.off {υ τ : Mem} {b e : Nat} (h : RO τ T b A) (hR : RT0 υ T) (he : e ≤ T.1) (hs : ∀ i k, ¬ (i = 67 ∧ k = 3) → υ.1 i k = τ.1 i k ∧ υ.2 i k = τ.2 i k) (h3 : υ.1 67 3 = nI e) : RO υ T e A ∧ Sm SRd τ υ :=
  ⟨⟨hR, ⟨he, h.2.1.2⟩, h3, by rw [(hs 67 4 (by omega)).1]; exact h.2.2.2.1, h.2.2.2.2.rd (fun i k q1 q2 => (hs i k (by omega)).1)⟩, fun i k hik => hs i k (fun q => hik (by unfold SRd; omega))⟩
theorem c_num (hT : T.1 ≤ 120) (hR : RO σ T a A) {lo : Int32} (h : ∀ τ u, NS τ T (rdN T lo a) A u → Sm SRd σ τ → Q (some (.int u)) τ) : X none (d + 1) mX5_readNumber 0 [.ref 67, .int lo, Unk, Unk, Unk, Unk, Unk] [] σ Q := by
  have ha := hR.2.1.1
  have k2 := sk_le ha
  refine vX5_readNumber_0 (c_next hT hR (fun τ hO hs => ⟨_, rfl, fun c1 => ?_, fun c1 τ3 e3 => ?_⟩))
  · rw [hO.2.2.1]
    have hb := dgF_b 3 T (T.1 - sk T a) (sk T a) 0 0 k2
    have := c_num40 (Q := Q) (d := d) hT (lo := lo) (x2 := 0) (x3 := nI (sk T a)) (T.1 - sk T a) (sk T a) 0 0 τ (by omega) (Nat.zero_le _) hO.1 hO.2.2.1 (fun υ q1 q2 q3 => by
      obtain ⟨hO2, hs2⟩ := hO.off q1 hb.2.1 q2 q3
      refine numE_ok (m := false) (R := dgF 3 T (T.1 - sk T a) (sk T a) 0 0) hT k2 (by omega) hO2 (fun τ' u hN hs3 => h τ' u ?_ ((hs.tr hs2).tr hs3))
      rw [rdN, decide_eq_false c1, if_neg c1]
      exact hN)
    rw [nI_0] at this
    exact this
  · rw [hO.2.2.1, nI_1] at e3
    rw [hO.2.2.1]
    have hlt := nx_lt (T := T) (a := a) (by rw [c1]; decide)
    obtain ⟨hO1, hs1⟩ := hO.at hlt e3
    have hb := dgF_b 3 T (T.1 - (sk T a + 1)) (sk T a + 1) 0 0 hlt
    have := c_num40 (Q := Q) (d := d) hT (lo := lo) (x2 := 1) (x3 := nI (sk T a)) (T.1 - (sk T a + 1)) (sk T a + 1) 0 0 τ3 (by omega) (Nat.zero_le _) hO1.1 hO1.2.2.1 (fun υ q1 q2 q3 => by
      obtain ⟨hO2, hs2⟩ := hO1.off q1 hb.2.1 q2 q3
      refine numE_ok (m := true) (R := dgF 3 T (T.1 - (sk T a + 1)) (sk T a + 1) 0 0) hT k2 (by omega) hO2 (fun τ' u hN hs3 => h τ' u ?_ (((hs.tr hs1).tr hs2).tr hs3))
      rw [rdN, decide_eq_true c1, if_pos c1]
      exact hN)
    rw [nI_0] at this
    exact this
theorem c_numF (hT : T.1 ≤ 120) (hR : RF σ T p) {lo : Int32} (h : ∀ τ u, RF τ T p → Sm SRd σ τ → Q (some (.int u)) τ) : X none (d + 1) mX5_readNumber 0 [.ref 67, .int lo, Unk, Unk, Unk, Unk, Unk] [] σ Q := by
  obtain ⟨h0, ⟨b, hb, h3⟩, h4, h5⟩ := id hR
  refine vX5_readNumber_0 (c_nextF hT hR ⟨_, rfl, fun _ => ?_, fun c => absurd c (by decide)⟩)
  have hd := dgF_b 3 T (T.1 - b) b 0 0 hb
  have := c_num40 (Q := Q) (d := d) hT (lo := lo) (x2 := 0) (x3 := σ.1 67 3) (T.1 - b) b 0 0 σ (by omega) (Nat.zero_le _) h0 h3 (fun υ q1 q2 q3 => by
    have hF : RF υ T p := ⟨q1, ⟨_, hd.2.1, q3⟩, ⟨h4.1, by rw [(q2 67 4 (by omega)).1]; exact h4.2⟩, by
      obtain ⟨m, hm, e⟩ := h5
      exact ⟨m, hm, by rw [(q2 69 2 (by omega)).1]; exact e⟩⟩
    exact numE_F (hF.ge hT) (fun u => h υ u hF (fun i k hik => q2 i k (fun q => hik (by unfold SRd; omega)))))
  rw [nI_0] at this
  exact this
theorem c_exN {y : Sum Nat (Nat × Int32)} {u : Int32} (hT : T.1 ≤ 120) (hR : NS σ T y A u) {c : Int32} (hc : c ≠ -1) (h : ∀ τ, ES τ T (bd y (fun q => ex T c q.1)) A → Sm SRd σ τ → Q none τ) : X none (d + 1) mX5_expect 0 [.ref 67, .int c] [] σ Q := by
  cases y with
  | inl p => exact c_expectF hT hR hc (h σ hR Sm.rf)
  | inr q => exact c_expect hT hR.2 hc h
theorem c_nmE {e : Sum Nat Nat} (hT : T.1 ≤ 120) (hR : ES σ T e A) {lo : Int32} (h : ∀ τ u, NS τ T (bd e (rdN T lo)) A u → Sm SRd σ τ → Q (some (.int u)) τ) : X none (d + 1) mX5_readNumber 0 [.ref 67, .int lo, Unk, Unk, Unk, Unk, Unk] [] σ Q := by
  cases e with
  | inl p => exact c_numF hT hR h
  | inr b => exact c_num hT hR h
theorem NS.k {y : Sum Nat (Nat × Int32)} {u : Int32} (h : NS σ T y A u) : ∀ q, y = .inr q → u = q.2 := fun q e => by
  subst e
  exact h.1
theorem c_addR (hA : CS σ 69 A) (h1 : am A < 120) (h2 : ar A < 12) {x1 x2 x3 x4 : Int32} (h : ∀ τ, CS τ 69 (aR A x1 x2 x3 x4) → Sm (SS 69) σ τ → Q none τ) : X none (d + 1) mX6_addRectangle 0 [.ref 69, .int x1, .int x2, .int x3, .int x4, Unk] [] σ Q := by
  obtain ⟨g1, g2, g3, g4⟩ := hA
  have e12 : (nI (ar A) < 12) := nI_lt (b := 12) h2 (by decide)
  have v0 : vp_in (nI (4 * ar A)) 48 := vp_in_nI (by omega) (by decide)
  have v1 : vp_in (nI (4 * ar A + 1)) 48 := vp_in_nI (by omega) (by decide)
  have v2 : vp_in (nI (4 * ar A + 2)) 48 := vp_in_nI (by omega) (by decide)
  have v3 : vp_in (nI (4 * ar A + 3)) 48 := vp_in_nI (by omega) (by decide)
  refine vX6_addRectangle_0 okS_69 ?_
  rw [g2, i4, nI_1, i_2, i_3, nI_clamp (n := 4 * ar A) (by omega), nI_clamp (n := 4 * ar A + 1) (by omega), nI_clamp (n := 4 * ar A + 2) (by omega), nI_clamp (n := 4 * ar A + 3) (by omega)]
  refine ⟨fun _ => ⟨v0, fun τ1 e1 => ⟨v1, fun τ2 e2 => ⟨v2, fun τ3 e3 => ⟨v3, fun τ4 e4 => ?_⟩⟩⟩⟩, fun c => absurd e12 c⟩
  have o4 : ∀ i k, i ≠ 71 → τ4.1 i k = σ.1 i k := fun i k hi => by rw [e4, w1_a _ _ _ _ _ _ hi, e3, w1_a _ _ _ _ _ _ hi, e2, w1_a _ _ _ _ _ _ hi, e1, w1_a _ _ _ _ _ _ hi]
  rw [o4 69 2 (by omega), o4 69 3 (by omega), g1, g2, nI_clamp (n := am A) (by omega)]
  refine ⟨fun c => absurd c (nI_ge (b := 120) h1 (by decide)), fun _ => ⟨vp_in_nI h1 (by decide), fun τ6 e6 τ7 e7 τ8 e8 => ?_⟩⟩
  have r6 : τ6.1 69 2 = nI (am A) := by rw [e6, w1_a _ _ _ _ _ _ (by omega), o4 _ _ (by omega), g1]
  rw [r6, nI_1] at e7
  have r7 : τ7.1 69 3 = nI (ar A) := by rw [e7, w1_k _ _ _ _ _ _ (by omega), e6, w1_a _ _ _ _ _ _ (by omega), o4 _ _ (by omega), g2]
  rw [r7, nI_1] at e8
  have o8 : ∀ i k, i ≠ 69 → τ8.1 i k = τ6.1 i k := fun i k hi => by rw [e8, w1_a _ _ _ _ _ _ hi, e7, w1_a _ _ _ _ _ _ hi]
  refine h τ8 ⟨?_, ?_, fun k hk => ?_, fun k hk => ?_⟩ ?_
  · rw [e8, w1_k _ _ _ _ _ _ (by omega), e7, w1_s]; rfl
  · rw [e8, w1_s]; rfl
  · have hk' : k < am A + 1 := hk
    rw [o8 _ _ (by omega), e6]
    by_cases c : k = am A
    · rw [c, w1_s, aR_new]
    · rw [w1_k _ _ _ _ _ _ c, o4 _ _ (by omega), aR_old (by omega)]
      exact g3 k (by omega)
  · have hk' : k < 4 * (ar A + 1) := hk
    rw [o8 _ _ (by omega), e6, w1_a _ _ _ _ _ _ (by omega)]
    show τ4.1 71 k = (if k < 4 * ar A then asd A k else if k = 4 * ar A then x1 else if k = 4 * ar A + 1 then x2 else if k = 4 * ar A + 2 then x3 else x4)
    by_cases c0 : k < 4 * ar A
    · rw [if_pos c0, e4, w1_k _ _ _ _ _ _ (by omega), e3, w1_k _ _ _ _ _ _ (by omega), e2, w1_k _ _ _ _ _ _ (by omega), e1, w1_k _ _ _ _ _ _ (by omega)]
      exact g4 k c0
    · rw [if_neg c0]
      by_cases c1 : k = 4 * ar A
      · rw [if_pos c1, e4, w1_k _ _ _ _ _ _ (by omega), e3, w1_k _ _ _ _ _ _ (by omega), e2, w1_k _ _ _ _ _ _ (by omega), e1, c1, w1_s]
      · rw [if_neg c1]
        by_cases c2 : k = 4 * ar A + 1
        · rw [if_pos c2, e4, w1_k _ _ _ _ _ _ (by omega), e3, w1_k _ _ _ _ _ _ (by omega), e2, c2, w1_s]
        · rw [if_neg c2]
          by_cases c3 : k = 4 * ar A + 2
          · rw [if_pos c3, e4, w1_k _ _ _ _ _ _ (by omega), e3, c3, w1_s]
          · rw [if_neg c3, e4, show k = 4 * ar A + 3 by omega, w1_s]
  · rw [e8, e7, e6, e4, e3, e2, e1]
    exact (((((((Sm.rf.w1 ⟨by omega, by omega⟩).w1 ⟨by omega, by omega⟩).w1 ⟨by omega, by omega⟩).w1 ⟨by omega, by omega⟩).w1 ⟨by omega, by omega⟩).w1 ⟨by omega, by omega⟩).w1 ⟨by omega, by omega⟩)
theorem c_rct (hT : T.1 ≤ 120) (hR : RO σ T a A) (hP : PB T (a, A)) (h : ∀ τ, ST τ T (rct T (a, A)) → Sm SRd σ τ → Q none τ) : X none (d + 2) mX5_readRectangle 0 [.ref 67, Unk, Unk, Unk, Unk] [] σ Q := by
  refine vX5_readRectangle_0 (c_expect hT hR (by decide) (fun τ1 E1 s1 => ⟨rfl, ?_⟩))
  refine c_nmE hT E1 (fun τ2 u1 N1 s2 => ⟨u1, rfl, ?_⟩)
  refine c_exN hT N1 (by decide) (fun τ3 E2 s3 => ⟨rfl, ?_⟩)
  refine c_nmE hT E2 (fun τ4 u2 N2 s4 => ⟨u2, rfl, ?_⟩)
  refine c_exN hT N2 (by decide) (fun τ5 E3 s5 => ⟨rfl, ?_⟩)
  refine c_nmE hT E3 (fun τ6 u3 N3 s6 => ⟨u3, rfl, ?_⟩)
  refine c_exN hT N3 (by decide) (fun τ7 E4 s7 => ⟨rfl, ?_⟩)
  refine c_nmE hT E4 (fun τ8 u4 N4 s8 => ⟨u4, rfl, ?_⟩)
  refine c_exN hT N4 (by decide) (fun τ9 E5 s9 => ⟨rfl, ?_⟩)
  have hs := (((((((s1.tr s2).tr s3).tr s4).tr s5).tr s6).tr s7).tr s8).tr s9
  have he := rct_eq (T := T) (a := a) (A := A) rfl rfl N1.k rfl rfl N2.k rfl rfl N3.k rfl rfl N4.k rfl
  have hg := g_rct hT hP
  rw [he] at h hg
  generalize bd (bd (bd (bd (bd (bd (bd (bd (ex T 91 a) (rdN T (-500))) (fun q => ex T 44 q.1)) (rdN T u1)) (fun q => ex T 44 q.1)) (rdN T (-500))) (fun q => ex T 44 q.1)) (rdN T u3)) (fun q => ex T 93 q.1) = e5 at E5 h hg
  cases e5 with
  | inl p =>
    refine ⟨fun _ => h τ9 E5 hs, fun c => absurd (RF.ge hT E5) c⟩
  | inr a9 =>
    have hO : RO τ9 T a9 A := E5
    obtain ⟨⟨g2, g3, g4, g5⟩, _⟩ := hg
    have g2' : a < a9 := g2
    have g3' : a9 ≤ T.1 := g3
    have g4' : (am A + 1) + a ≤ am A + a9 := g4
    have g5' : 10 * (ar A + 1) + a ≤ 10 * ar A + a9 + 1 := g5
    have p2 : am A ≤ a := hP.2.1
    have p3 : 10 * ar A ≤ a := hP.2.2
    refine ⟨fun c => absurd c hO.nge, fun _ => c_addR hO.2.2.2.2 (by omega) (by omega) (fun τ10 hC hs2 => ⟨rfl, ?_⟩)⟩
    have hs3 : Sm SRd τ9 τ10 := hs2.mono (fun i k q => by unfold SS at q; unfold SRd; omega)
    refine h τ10 ?_ (hs.tr hs3)
    refine ⟨hO.1.sm hs3, ⟨g3', show am A + 1 ≤ 120 by omega, show ar A + 1 ≤ 12 by omega⟩, ?_, ?_, hC⟩
    · rw [(hs2 67 3 (by unfold SS; omega)).1]; exact hO.2.2.1
    · rw [(hs2 67 4 (by unfold SS; omega)).1]; exact hO.2.2.2.1
/-- a step is added to the draft, as far as there is room -/
theorem c_add {x : Sum Nat Sx} {s : Int32} (hR : ST σ T x) (hx : ∀ t, x = .inr t → am t.2 < 120) {K : Mem → Prop} (h : ∀ τ, ST τ T (bd x (fun t => .inr (t.1, aS t.2 s))) → Sm SRd σ τ → K τ) :
    (120 ≤ (σ.1 69 2) → K σ) ∧ (¬ 120 ≤ (σ.1 69 2) → (vp_in (σ.1 69 2) 120 ∧ (∀ τ5 : Mem, τ5 = (w1 σ 70 (σ.1 69 2).toNatClampNeg s) → (∀ τ6 : Mem, τ6 = (w1 τ5 69 2 ((τ5.1 69 2) + 1)) → K τ6)))) := by
  cases x with
  | inl p =>
    obtain ⟨h0, ⟨b, hb, h3⟩, h4, ⟨m, hm, h5⟩⟩ := id hR
    rw [h5]
    refine ⟨fun _ => h σ hR Sm.rf, fun c => ?_⟩
    have hm2 : m < 120 := by
      rcases Nat.lt_or_ge m 120 with q | q
      · exact q
      · exact absurd (nI_le (a := 120) q (by omega)) c
    refine ⟨vp_in_nI hm2 (by decide), fun τ5 e5 τ6 e6 => ?_⟩
    have r5 : τ5.1 69 2 = nI m := by rw [e5, w1_a _ _ _ _ _ _ (by omega), h5]
    rw [r5, nI_1] at e6
    have hs : Sm SRd σ τ6 := by rw [e6, e5]; exact (Sm.rf.w1 (Or.inr ⟨by omega, by omega⟩)).w1 (Or.inr ⟨by omega, by omega⟩)
    have o6 : ∀ k, τ6.1 67 k = σ.1 67 k := fun k => by rw [e6, w1_a _ _ _ _ _ _ (by omega), e5, w1_a _ _ _ _ _ _ (by omega)]
    exact h τ6 ⟨h0.sm hs, ⟨b, hb, by rw [o6]; exact h3⟩, ⟨h4.1, by rw [o6]; exact h4.2⟩, ⟨m + 1, by omega, by rw [e6, w1_s]⟩⟩ hs
  | inr t =>
    have hlt := hx t rfl
    obtain ⟨h0, ⟨b1, b2, b3⟩, h3, h4, g1, g2, g3, g4⟩ := id (show RO σ T t.1 t.2 from hR)
    rw [g1]
    refine ⟨fun c => absurd c (nI_ge (b := 120) hlt (by decide)), fun _ => ⟨vp_in_nI hlt (by decide), fun τ5 e5 τ6 e6 => ?_⟩⟩
    rw [nI_clamp (n := am t.2) (by omega)] at e5
    have r5 : τ5.1 69 2 = nI (am t.2) := by rw [e5, w1_a _ _ _ _ _ _ (by omega), g1]
    rw [r5, nI_1] at e6
    have hs : Sm SRd σ τ6 := by rw [e6, e5]; exact (Sm.rf.w1 (Or.inr ⟨by omega, by omega⟩)).w1 (Or.inr ⟨by omega, by omega⟩)
    have o6 : ∀ k, τ6.1 67 k = σ.1 67 k := fun k => by rw [e6, w1_a _ _ _ _ _ _ (by omega), e5, w1_a _ _ _ _ _ _ (by omega)]
    refine h τ6 ⟨h0.sm hs, ⟨b1, show am t.2 + 1 ≤ 120 by omega, b3⟩, by rw [o6]; exact h3, by rw [o6]; exact h4, ?_, ?_, fun k hk => ?_, fun k hk => ?_⟩ hs
    · rw [e6, w1_s]; rfl
    · rw [e6, w1_k _ _ _ _ _ _ (by omega), e5, w1_a _ _ _ _ _ _ (by omega)]; exact g2
    · have hk' : k < am t.2 + 1 := hk
      rw [e6, w1_a _ _ _ _ _ _ (by omega), e5]
      by_cases c : k = am t.2
      · rw [c, w1_s, aS_new]
      · rw [w1_k _ _ _ _ _ _ c, aS_old (by omega)]; exact g3 k (by omega)
    · rw [e6, w1_a _ _ _ _ _ _ (by omega), e5, w1_a _ _ _ _ _ _ (by omega)]; exact g4 k hk
/-! behind a fault -/
theorem c_spF (hT : T.1 ≤ 120) (hR : RF σ T p) {dv : Int32} (h : Q none σ) : X none (d + 4) mX5_readSpot 0 [.ref 67, .int dv, Unk] [] σ Q :=
  vX5_readSpot_0 (c_nextF hT hR ⟨_, rfl, fun _ => ⟨fun _ => ⟨fun _ => ⟨fun _ => h, fun c => absurd (hR.ge hT) c⟩, fun c => absurd c (by decide)⟩, fun c => absurd c (by decide)⟩, fun c => absurd c (by decide)⟩)
theorem c_lpF (hT : T.1 ≤ 120) (hR : RF σ T p) {dv x2 : Int32} (h : Q none σ) : X none (d + 1) mX5_readPart 7 [.ref 67, .int dv, .int x2] [] σ Q :=
  vX5_readPart_7 ⟨fun _ => h, fun _ => c_nextF hT hR ⟨_, rfl, fun _ => h, fun c => absurd c (by decide)⟩⟩
theorem c_laF (hT : T.1 ≤ 120) (hR : RF σ T p) {dv x2 : Int32} (h : Q none σ) : X none (d + 1) mX5_readArea 7 [.ref 67, .int dv, .int x2, Unk] [] σ Q :=
  vX5_readArea_7 ⟨fun _ => h, fun _ => c_nextF hT hR ⟨_, rfl, fun c => absurd c (by decide), fun _ => c_nextF hT hR ⟨_, rfl, fun _ => h, fun c => absurd c (by decide)⟩⟩⟩
end RDC
/-- a reader of spots meets its pure one -/
def MSp (T : Tx) (sp : Sx → Sum Nat Sx) (d : Nat) (dv : Int32) : Prop := ∀ (a : Nat) (A : Ar) (σ : Mem) (Q : Option Value → Mem → Prop), RO σ T a A → PB T (a, A) → (∀ τ, ST τ T (sp (a, A)) → Sm SRd σ τ → Q none τ) → X none d mX5_readSpot 0 [.ref 67, .int dv, Unk] [] σ Q
section RDL
variable {d : Nat} {σ : Mem} {Q : Option Value → Mem → Prop} {T : Tx} {sp : Sx → Sum Nat Sx} {dv : Int32}
theorem c_lp (hT : T.1 ≤ 120) (hsp : MSp T sp d dv) (hg : ∀ s, PB T s → GB T s (sp s)) : ∀ n (s : Sx) (σ : Mem), n ≤ 120 → RO σ T s.1 s.2 → am s.2 ≤ s.1 → 10 * ar s.2 ≤ s.1 + 1 → (∀ τ, ST τ T (lpP T sp n s) → Sm SRd σ τ → Q none τ) → X none (d + 1) mX5_readPart 7 [.ref 67, .int dv, .int (nI (120 - n))] [] σ Q := by
  intro n
  induction n with
  | zero =>
    intro s σ hn hR b1 b2 h
    exact vX5_readPart_7 ⟨fun _ => h σ hR Sm.rf, fun c => absurd (nI_le (a := 120) (b := 120 - 0) (by omega) (by omega)) c⟩
  | succ n ih =>
    intro s σ hn hR b1 b2 h
    rw [lpP] at h
    have k1 := sk_ge T s.1
    refine vX5_readPart_7 ⟨fun c => absurd c (nI_ge (a := 120 - (n + 1)) (b := 120) (by omega) (by decide)), fun _ => c_next hT hR (fun τ1 hO s1 => ⟨_, rfl, fun c => ?_, fun c τ3 e3 => ?_⟩)⟩
    · rw [if_neg c] at h
      exact h τ1 hO s1
    · rw [if_pos c] at h
      have hlt := nx_lt (T := T) (a := s.1) (by rw [c]; decide)
      rw [hO.2.2.1, nI_1] at e3
      obtain ⟨hO3, s3⟩ := hO.at hlt e3
      have hP : PB T (sk T s.1 + 1, s.2) := ⟨hlt, by show am s.2 ≤ sk T s.1 + 1; omega, by show 10 * ar s.2 ≤ sk T s.1 + 1; omega⟩
      have g := hg _ hP
      refine hsp _ _ τ3 _ hO3 hP (fun τ4 S4 s4 => ⟨rfl, ?_⟩)
      have hs := (s1.tr s3).tr s4
      rw [nI_1, show 120 - (n + 1) + 1 = 120 - n by omega]
      cases e : sp (sk T s.1 + 1, s.2) with
      | inl p =>
        rw [e] at S4 h
        exact c_add (x := .inl p) S4 (fun t q => by cases q) (fun τ6 S6 s6 => c_lpF hT S6 (h τ6 S6 (hs.tr s6)))
      | inr t =>
        rw [e] at S4 g h
        obtain ⟨⟨g2, g3, g4, g5⟩, _⟩ := g
        simp only at g2 g4 g5
        refine c_add (x := .inr t) (s := -2) (K := fun τ => X none (d + 1) mX5_readPart 7 [.ref 67, .int dv, .int (nI (120 - n))] [] τ Q) S4 (fun t' q => by cases q; omega) (fun τ6 S6 s6 => ?_)
        exact ih (t.1, aS t.2 (-2)) τ6 (by omega) S6 (by show am t.2 + 1 ≤ t.1; omega) (by show 10 * ar t.2 ≤ t.1 + 1; omega) (fun τ q1 q2 => h τ q1 ((hs.tr s6).tr q2))
theorem c_pt (hT : T.1 ≤ 120) (hsp : MSp T sp d dv) (hg : ∀ s, PB T s → GB T s (sp s)) {s : Sx} (hR : RO σ T s.1 s.2) (hP : PB T s) (h : ∀ τ, ST τ T (ptP T sp s) → Sm SRd σ τ → Q none τ) : X none (d + 1) mX5_readPart 0 [.ref 67, .int dv, Unk] [] σ Q := by
  have g := hg s hP
  unfold ptP at h
  refine vX5_readPart_0 (hsp s.1 s.2 σ _ hR hP (fun τ1 S1 s1 => ⟨rfl, ?_⟩))
  have S1' : ST τ1 T (sp s) := S1
  cases e : sp s with
  | inl p =>
    rw [e] at S1' h
    exact c_lpF hT S1' (h τ1 S1' s1)
  | inr t =>
    rw [e] at S1' g h
    obtain ⟨⟨g2, g3, g4, g5⟩, _⟩ := g
    have p2 := hP.2.1
    have p3 := hP.2.2
    have := c_lp hT hsp hg 120 t τ1 (Nat.le_refl _) S1' (by omega) (by omega) (Q := Q) (fun τ q1 q2 => h τ q1 (s1.tr q2))
    rw [show 120 - 120 = 0 from rfl, nI_0] at this
    exact this
theorem c_la (hT : T.1 ≤ 120) (hsp : MSp T sp d dv) (hg : ∀ s, PB T s → GB T s (sp s)) : ∀ n (s : Sx) (σ : Mem), n ≤ 120 → RO σ T s.1 s.2 → am s.2 ≤ s.1 → 10 * ar s.2 ≤ s.1 + 1 → (∀ τ, ST τ T (laP T sp n s) → Sm SRd σ τ → Q none τ) → X none (d + 1 + 1) mX5_readArea 7 [.ref 67, .int dv, .int (nI (120 - n)), Unk] [] σ Q := by
  intro n
  induction n with
  | zero =>
    intro s σ hn hR b1 b2 h
    exact vX5_readArea_7 ⟨fun _ => h σ hR Sm.rf, fun c => absurd (nI_le (a := 120) (b := 120 - 0) (by omega) (by omega)) c⟩
  | succ n ih =>
    intro s σ hn hR b1 b2 h
    rw [laP] at h
    have k1 := sk_ge T s.1
    -- a part behind a sign, and its step
    have body : ∀ (z : Int32) (τ0 : Mem), nx T s.1 ≠ -1 → RO τ0 T (sk T s.1) s.2 → Sm SRd σ τ0 → (∀ τ, ST τ T (bd (ptP T sp (sk T s.1 + 1, s.2)) (fun t => laP T sp n (t.1, aS t.2 z))) → Sm SRd σ τ → Q none τ) → ∀ τ3 : Mem, τ3 = w1 τ0 67 3 (τ0.1 67 3 + 1) → X none (d + 1) mX5_readPart 0 [.ref 67, .int dv, Unk] [] τ3 (fun r τ6 => r = none ∧ ((120 ≤ (τ6.1 69 2) → X none (d + 1 + 1) mX5_readArea 7 [.ref 67, .int dv, .int (nI (120 - (n + 1)) + 1), Unk] [] τ6 Q) ∧ (¬ 120 ≤ (τ6.1 69 2) → (vp_in (τ6.1 69 2) 120 ∧ (∀ τ7 : Mem, τ7 = (w1 τ6 70 (τ6.1 69 2).toNatClampNeg z) → (∀ τ8 : Mem, τ8 = (w1 τ7 69 2 ((τ7.1 69 2) + 1)) → X none (d + 1 + 1) mX5_readArea 7 [.ref 67, .int dv, .int (nI (120 - (n + 1)) + 1), Unk] [] τ8 Q)))))) := by
      intro z τ0 c hO s0 h τ3 e3
      have hlt := nx_lt (T := T) (a := s.1) c
      rw [hO.2.2.1, nI_1] at e3
      obtain ⟨hO3, s3⟩ := hO.at hlt e3
      have hP : PB T (sk T s.1 + 1, s.2) := ⟨hlt, by show am s.2 ≤ sk T s.1 + 1; omega, by show 10 * ar s.2 ≤ sk T s.1 + 1; omega⟩
      have g := g_pt hT hg hP
      refine c_pt hT hsp hg (s := (sk T s.1 + 1, s.2)) hO3 hP (fun τ4 S4 s4 => ⟨rfl, ?_⟩)
      have hs := (s0.tr s3).tr s4
      rw [nI_1, show 120 - (n + 1) + 1 = 120 - n by omega]
      cases e : ptP T sp (sk T s.1 + 1, s.2) with
      | inl p =>
        rw [e] at S4 h
        exact c_add (x := .inl p) S4 (fun t q => by cases q) (fun τ6 S6 s6 => c_laF hT S6 (h τ6 S6 (hs.tr s6)))
      | inr t =>
        rw [e] at S4 g h
        obtain ⟨⟨g2, g3, g4, g5⟩, _⟩ := g
        simp only at g2 g4 g5
        refine c_add (x := .inr t) (s := z) (K := fun τ => X none (d + 1 + 1) mX5_readArea 7 [.ref 67, .int dv, .int (nI (120 - n)), Unk] [] τ Q) S4 (fun t' q => by cases q; omega) (fun τ6 S6 s6 => ?_)
        exact ih (t.1, aS t.2 z) τ6 (by omega) S6 (by show am t.2 + 1 ≤ t.1; omega) (by show 10 * ar t.2 ≤ t.1 + 1; omega) (fun τ q1 q2 => h τ q1 ((hs.tr s6).tr q2))
    refine vX5_readArea_7 ⟨fun c => absurd c (nI_ge (a := 120 - (n + 1)) (b := 120) (by omega) (by decide)), fun _ => c_next hT hR (fun τ1 hO s1 => ⟨_, rfl, fun c => ?_, fun c => ?_⟩)⟩
    · rw [if_pos c] at h
      refine c_next hT hO (fun τ2 hO2 s2 => ⟨_, rfl, ?_⟩)
      rw [nx_idem]
      rw [sk_idem] at hO2
      exact ⟨fun c2 => absurd c c2, fun _ => body (-3) τ2 (by rw [c]; decide) hO2 (s1.tr s2) h⟩
    · rw [if_neg c] at h
      refine c_next hT hO (fun τ2 hO2 s2 => ⟨_, rfl, ?_⟩)
      rw [nx_idem]
      rw [sk_idem] at hO2
      refine ⟨fun c2 => ?_, fun c2 => ?_⟩
      · rw [if_neg c2] at h
        exact h τ2 hO2 (s1.tr s2)
      · rw [if_pos c2] at h
        refine c_next hT hO2 (fun τ3 hO3 s3 => ⟨_, rfl, ?_⟩)
        rw [nx_idem]
        rw [sk_idem] at hO3
        exact ⟨fun _ => body (-4) τ3 (by rw [c2]; decide) hO3 ((s1.tr s2).tr s3) h, fun c3 => absurd c3 c⟩
theorem c_ar (hT : T.1 ≤ 120) (hsp : MSp T sp d dv) (hg : ∀ s, PB T s → GB T s (sp s)) {s : Sx} (hR : RO σ T s.1 s.2) (hP : PB T s) (h : ∀ τ, ST τ T (arP T sp s) → Sm SRd σ τ → Q none τ) : X none (d + 1 + 1) mX5_readArea 0 [.ref 67, .int dv, Unk, Unk] [] σ Q := by
  have g := g_pt hT hg hP
  unfold arP at h
  refine vX5_readArea_0 (c_pt hT hsp hg hR hP (fun τ1 S1 s1 => ⟨rfl, ?_⟩))
  cases e : ptP T sp s with
  | inl p =>
    rw [e] at S1 h
    exact c_laF hT S1 (h τ1 S1 s1)
  | inr t =>
    rw [e] at S1 g h
    obtain ⟨⟨g2, g3, g4, g5⟩, _⟩ := g
    have p2 := hP.2.1
    have p3 := hP.2.2
    have := c_la hT hsp hg 120 t τ1 (Nat.le_refl _) S1 (by omega) (by omega) (Q := Q) (fun τ q1 q2 => h τ q1 (s1.tr q2))
    rw [show 120 - 120 = 0 from rfl, nI_0] at this
    exact this
theorem c_sp (hT : T.1 ≤ 120) : ∀ r, r ≤ 12 → ∀ d, MSp T (spP T r) (d + 3 * r + 4) (nI (12 - r)) := by
  intro r
  induction r with
  | zero =>
    intro _ d a A σ Q hR hP h
    rw [spP] at h
    have k1 := sk_ge T a
    have p2 : am A ≤ a := hP.2.1
    have p3 : 10 * ar A ≤ a := hP.2.2
    have hle : (12 : Int32) ≤ nI (12 - 0) := nI_le (a := 12) (by omega) (by omega)
    refine vX5_readSpot_0 (d := d + 3 * 0) (c_next hT hR (fun τ1 hO s1 => ⟨_, rfl, fun c1 => ?_, fun c1 => ?_⟩))
    · rw [if_neg c1] at h
      have fl : ∀ τ3 : Mem, τ3 = w1 τ1 67 4 (τ1.1 67 3) → Q none τ3 := fun τ3 e3 => by
        rw [hO.2.2.1] at e3
        obtain ⟨hF, s3⟩ := hO.fl (sk_le hR.2.1.1) e3
        exact h τ3 hF (s1.tr s3)
      exact ⟨fun _ => ⟨fun _ => ⟨fun q => absurd q hO.nge, fun _ => fl⟩, fun _ => ⟨fun _ => ⟨fun q => absurd q hO.nge, fun _ => fl⟩, fun q => absurd hle q⟩⟩, fun _ => ⟨fun _ => ⟨fun _ => ⟨fun q => absurd q hO.nge, fun _ => fl⟩, fun _ => ⟨fun _ => ⟨fun q => absurd q hO.nge, fun _ => fl⟩, fun q => absurd hle q⟩⟩, fun q => absurd hle q⟩⟩
    · rw [if_pos c1] at h
      exact c_rct hT hO ⟨hO.2.1.1, by show am A ≤ sk T a; omega, by show 10 * ar A ≤ sk T a; omega⟩ (fun τ2 S2 s2 => ⟨rfl, h τ2 S2 (s1.tr s2)⟩)
  | succ r ih =>
    intro hr d a A σ Q hR hP h
    rw [spP] at h
    have k1 := sk_ge T a
    have p2 : am A ≤ a := hP.2.1
    have p3 : 10 * ar A ≤ a := hP.2.2
    have ngt : ¬ (12 : Int32) ≤ nI (12 - (r + 1)) := nI_ge (b := 12) (by omega) (by decide)
    have hi := ih (by omega) d
    have hi2 : MSp T (spP T r) (d + 3 * r + 3 + 3) (nI (12 - r)) := by
      have := ih (by omega) (d + 2)
      rw [show d + 2 + 3 * r + 4 = d + 3 * r + 3 + 3 by omega] at this
      exact this
    have hP1 : sk T a < T.1 → PB T (sk T a + 1, A) := fun hlt => ⟨hlt, by show am A ≤ sk T a + 1; omega, by show 10 * ar A ≤ sk T a + 1; omega⟩
    refine vX5_readSpot_0 (d := d + 3 * r + 3) (c_next hT hR (fun τ1 hO s1 => ⟨_, rfl, fun c1 => ?_, fun c1 => ?_⟩))
    · rw [if_neg c1] at h
      rw [nI_1, show 12 - (r + 1) + 1 = 12 - r by omega]
      refine ⟨fun c2 => ?_, fun c2 => ⟨fun q => absurd q ngt, fun _ τ5 e5 => ?_⟩⟩
      · rw [if_neg c2] at h
        refine ⟨fun c3 => ⟨fun q => absurd q hO.nge, fun _ τ3 e3 => ?_⟩, fun c3 => ⟨fun q => absurd q ngt, fun _ τ5 e5 => ?_⟩⟩
        · rw [if_neg c3] at h
          rw [hO.2.2.1] at e3
          obtain ⟨hF, s3⟩ := hO.fl (sk_le hR.2.1.1) e3
          exact h τ3 hF (s1.tr s3)
        · rw [if_pos c3] at h
          have hlt := nx_lt (T := T) (a := a) (by rw [c3]; decide)
          rw [hO.2.2.1, nI_1] at e5
          obtain ⟨hO5, s5⟩ := hO.at hlt e5
          have g := g_sp hT r _ (hP1 hlt)
          refine hi2 _ _ τ5 _ hO5 (hP1 hlt) (fun τ6 S6 s6 => ⟨rfl, ?_⟩)
          refine c_add S6 (fun t q => ?_) (fun τ7 S7 s7 => h τ7 S7 (((s1.tr s5).tr s6).tr s7))
          rw [q] at g
          obtain ⟨⟨g2, g3, g4, g5⟩, _⟩ := g
          simp only at g2 g4 g5
          omega
      · rw [if_pos c2] at h
        have hlt := nx_lt (T := T) (a := a) (by rw [c2]; decide)
        rw [hO.2.2.1, nI_1] at e5
        obtain ⟨hO5, s5⟩ := hO.at hlt e5
        refine c_ar hT hi (g_sp hT r) (s := (sk T a + 1, A)) hO5 (hP1 hlt) (fun τ6 S6 s6 => ⟨rfl, ?_⟩)
        cases e : arP T (spP T r) (sk T a + 1, A) with
        | inl p =>
          rw [e] at S6 h
          exact c_expectF hT S6 (by decide) ⟨rfl, h τ6 S6 ((s1.tr s5).tr s6)⟩
        | inr t =>
          rw [e] at S6 h
          refine c_expect hT S6 (by decide) (fun τ7 E7 s7 => ⟨rfl, h τ7 ?_ (((s1.tr s5).tr s6).tr s7)⟩)
          simp only [bd]
          cases e2 : ex T 41 t.1 with
          | inl p => rw [e2] at E7; exact E7
          | inr b => rw [e2] at E7; exact E7
    · rw [if_pos c1] at h
      exact c_rct hT hO ⟨hO.2.1.1, by show am A ≤ sk T a; omega, by show 10 * ar A ≤ sk T a; omega⟩ (fun τ2 S2 s2 => ⟨rfl, h τ2 S2 (s1.tr s2)⟩)
theorem c_read (hT : T.1 ≤ 120) (h0 : RT0 σ T) (h1 : ∀ p, rdP T = .inl p → ∀ τ, Sm SRd σ τ → Q (some (.int (nI p))) τ) (h2 : ∀ t, rdP T = .inr t → ∀ τ, Sm SRd σ τ → CS τ 69 t.2 → Q (some (.int (-1))) τ) : X none (d + 43) mX5_read 0 [.ref 67] [] σ Q := by
  refine vX5_read_0 (d := d + 40) (fun τ1 e1 τ2 e2 τ3 e3 τ4 e4 => ?_)
  have s4 : Sm SRd σ τ4 := by
    rw [e4, e3, e2, e1]
    exact (((Sm.rf.w1 (Or.inl ⟨rfl, Or.inl rfl⟩)).w1 (Or.inl ⟨rfl, Or.inr rfl⟩)).w1 (Or.inr ⟨by omega, by omega⟩)).w1 (Or.inr ⟨by omega, by omega⟩)
  have hO : RO τ4 T 0 eA := by
    refine ⟨h0.sm s4, ⟨Nat.zero_le _, Nat.zero_le _, Nat.zero_le _⟩, ?_, ?_, ?_, ?_, fun k hk => absurd hk (Nat.not_lt_zero k), fun k hk => absurd hk (Nat.not_lt_zero k)⟩
    · rw [e4, w1_a _ _ _ _ _ _ (by omega), e3, w1_a _ _ _ _ _ _ (by omega), e2, w1_k _ _ _ _ _ _ (by omega), e1, w1_s, nI_0]
    · rw [e4, w1_a _ _ _ _ _ _ (by omega), e3, w1_a _ _ _ _ _ _ (by omega), e2, w1_s]
    · rw [e4, w1_k _ _ _ _ _ _ (by omega), e3, w1_s]; exact nI_0.symm
    · rw [e4, w1_s]; exact nI_0.symm
  have hP : PB T (0, eA) := ⟨Nat.zero_le _, Nat.le_refl _, Nat.le_refl _⟩
  unfold rdP at h1 h2
  have fault : ∀ p (τ5 : Mem), (∀ τ, Sm SRd σ τ → Q (some (.int (nI p))) τ) → Sm SRd σ τ5 → RF τ5 T p → X none (d + 40 + 2) mX5_nextSign 0 [.ref 67] [] τ5 (fun r τ7 => ∃ u8 : Int32, r = some (.int u8) ∧ ((u8 = (-1) → Q (some (.int (τ7.1 67 4))) τ7) ∧ (¬ u8 = (-1) → ((0 ≤ (τ7.1 67 4) → Q (some (.int (τ7.1 67 4))) τ7) ∧ (¬ 0 ≤ (τ7.1 67 4) → (∀ τ9 : Mem, τ9 = (w1 τ7 67 4 (τ7.1 67 3)) → Q (some (.int (τ9.1 67 4))) τ9)))))) := fun p τ5 hq s5 hF => c_nextF hT hF ⟨_, rfl, fun _ => by rw [hF.2.2.1.2]; exact hq τ5 s5, fun c => absurd rfl c⟩
  have hsp := c_sp (T := T) hT 12 (Nat.le_refl _) d
  rw [show 12 - 12 = 0 from rfl, nI_0] at hsp
  refine c_ar hT hsp (g_sp hT 12) (s := (0, eA)) hO hP (fun τ5 S5 s5 => ⟨rfl, ?_⟩)
  have hs5 := s4.tr s5
  cases e : arP T (spP T 12) (0, eA) with
  | inl p =>
    rw [e] at S5 h1
    exact c_expectF hT S5 (by decide) ⟨rfl, fault p τ5 (h1 p rfl) hs5 S5⟩
  | inr t =>
    rw [e] at S5 h1 h2
    simp only [bd] at h1 h2
    refine c_expect hT S5 (by decide) (fun τ6 E6 s6 => ⟨rfl, ?_⟩)
    have hs6 := hs5.tr s6
    cases e6 : ex T 59 t.1 with
    | inl p =>
      rw [e6] at E6 h1
      exact fault p τ6 (h1 p rfl) hs6 E6
    | inr a =>
      rw [e6] at E6 h1 h2
      simp only at h1 h2
      have hO6 : RO τ6 T a t.2 := E6
      refine c_next hT hO6 (fun τ7 hO7 s7 => ⟨_, rfl, fun c => ?_, fun c => ⟨fun q => absurd q hO7.nge, fun _ τ9 e9 => ?_⟩⟩)
      · rw [if_pos c] at h2
        rw [hO7.2.2.2.1]
        exact h2 _ rfl τ7 (hs6.tr s7) hO7.2.2.2.2
      · rw [if_neg c] at h1
        rw [hO7.2.2.1] at e9
        obtain ⟨hF, s9⟩ := hO7.fl (sk_le hO6.2.1.1) e9
        rw [hF.2.2.1.2]
        exact h1 _ rfl τ9 ((hs6.tr s7).tr s9)
end RDL
def setA (S : Ab) (A : Ar) : Ab := mkS (bF S) (bH S) (bI S) A (bT S) (bR S) (bE S) (bS S)
def o_area (S : Ab) : Int32 × Ab := match rdP (bT S) with
  | .inl p => ((-10) - nI p, S)
  | .inr t => (nI (ar t.2), setA S t.2)
section ARC
variable {d : Nat} {σ : Mem} {Q : Option Value → Mem → Prop} {S : Ab}
theorem ws_area (hw : WS VA0 S) : WS VA0 (o_area S).2 := by
  have g := g_rd (T := bT S) hw.2.2.2.2.1
  unfold o_area
  cases e : rdP (bT S) with
  | inl p => exact hw
  | inr t =>
    rw [e] at g
    exact ⟨hw.1, hw.2.1, hw.2.2.1, g, hw.2.2.2.2⟩
theorem CL.ar {τ : Mem} {A : Ar} (h : CL σ S) (hs : Sm (fun i k => (64 ≤ i ∧ i ≤ 66) ∨ SCR i k) σ τ) (hA : CS τ 64 A) : CL τ (setA S A) := by
  obtain ⟨h1, h2, h3, h4, ⟨h5, h6⟩, ⟨h7, h8⟩, h9, h10, h11, h12⟩ := h
  refine ⟨h1.sm hs (fun i k q1 q2 => by unfold SCR; omega), h2.sm hs (fun i k q1 q2 => by unfold SCR; omega), fun i hi => (h3 i hi).sm hs (fun a k q1 q2 => by unfold SCR; omega), hA, ⟨?_, fun k hk => ?_⟩, ⟨?_, ?_⟩, ?_, ?_, ?_, ?_⟩
  · rw [(hs 67 2 (by unfold SCR; omega)).1]; exact h5
  · rw [(hs 68 k (by unfold SCR; omega)).1]; exact h6 k hk
  · rw [(hs 72 0 (by unfold SCR; omega)).2]; exact h7
  · rw [(hs 72 1 (by unfold SCR; omega)).2]; exact h8
  · rw [(hs 0 9 (by unfold SCR; omega)).1]; exact h9
  · rw [(hs 0 10 (by unfold SCR; omega)).1]; exact h10
  · rw [(hs 0 11 (by unfold SCR; omega)).1]; exact h11
  · rw [(hs 0 12 (by unfold SCR; omega)).1]; exact h12
theorem p_area (hC : CL σ S) (hw : WS VA0 S) (h : OutC σ Q (o_area S)) : X none (d + 44) mX7_area 0 [.ref 0, Unk] [] σ Q := by
  have hT := hw.2.2.2.2.1
  have g := g_rd (T := bT S) hT
  have hR : RT0 σ (bT S) := hC.2.2.2.2.1
  refine vX7_area_0 (d := d + 41) (c_read hT hR (fun p e τ s => ⟨_, rfl, fun c => ?_, fun _ => ?_⟩) (fun t e τ s hA => ⟨_, rfl, fun _ => ?_, fun c => absurd (by decide) c⟩))
  · rw [e] at g
    have g' : p ≤ (bT S).1 := g
    exact absurd c (nI_pos (by omega))
  · refine h.same hC (r := (-10) - nI p) (by rw [o_area, e]) s (fun i k q => ?_)
    unfold SRd at q
    unfold SCR
    omega
  · rw [e] at g
    have g' : VA0 t.2 := g
    rw [o_area, e] at h
    refine c_copyFromS okS_64 okS_69 (by omega) g'.1 hA (fun τ2 hA2 s2 => ⟨rfl, ?_⟩)
    rw [hA2.2.1]
    have hs : Sm (fun i k => (64 ≤ i ∧ i ≤ 66) ∨ SCR i k) σ τ2 := (s.mono (fun i k q => by unfold SRd at q; unfold SCR; omega)).tr (s2.mono (fun i k q => by unfold SS at q; omega))
    exact h τ2 (hC.ar hs hA2) ((s.mono (fun i k q => by unfold SRd at q; unfold S94; omega)).tr (s2.mono (fun i k q => by unfold SS at q; unfold S94; omega)))
end ARC
