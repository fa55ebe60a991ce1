/-! The model's reader: contracts of what it takes, over the pure words. -/
def MT0 (σ : Mem) (T : Tx) : Prop := σ.1 94 6 = nI T.1 ∧ ∀ k, k < T.1 → σ.1 98 k = T.2 k
def KS (σ : Mem) : List Int32 → Prop
  | [] => True
  | z :: t => σ.1 101 t.length = z ∧ KS σ t
def SMr : Nat → Nat → Prop := fun i k => (i = 94 ∧ (k = 13 ∨ k = 14 ∨ k = 16 ∨ k = 17)) ∨ i = 101 ∨ (i = 96 ∧ 546 ≤ k)
def SNm : Nat → Nat → Prop := fun i k => i = 94 ∧ (k = 13 ∨ k = 14 ∨ k = 17)
def SDo : Nat → Nat → Prop := fun i k => (i = 94 ∧ k = 16) ∨ (i = 96 ∧ 546 ≤ k)
def MR (σ : Mem) (T : Tx) (a : Nat) (A : Ar) (K : List Int32) : Prop := MT0 σ T ∧ (a ≤ T.1 ∧ am A + K.length ≤ a ∧ 10 * ar A ≤ a + 1) ∧ σ.1 94 13 = nI a ∧ σ.1 94 16 = nI K.length ∧ KS σ K ∧ MA σ 546 A
theorem SNm.r {σ τ : Mem} (h : Sm SNm σ τ) : Sm SMr σ τ := h.mono (fun i k q => by unfold SNm at q; unfold SMr; omega)
theorem SDo.r {σ τ : Mem} (h : Sm SDo σ τ) : Sm SMr σ τ := h.mono (fun i k q => by unfold SDo at q; unfold SMr; omega)
theorem MT0.sm {σ τ : Mem} {T : Tx} (h : MT0 σ T) (hs : Sm SMr σ τ) : MT0 τ T := ⟨by rw [(hs 94 6 (by unfold SMr; omega)).1]; exact h.1, fun k hk => by rw [(hs 98 k (by unfold SMr; omega)).1]; exact h.2 k hk⟩
theorem KS.sm {σ τ : Mem} : ∀ {K : List Int32}, KS σ K → (∀ k, k < K.length → τ.1 101 k = σ.1 101 k) → KS τ K
  | [], _, _ => trivial
  | z :: t, h, hs => ⟨by rw [hs _ (by rw [List.length_cons]; omega)]; exact h.1, KS.sm h.2 (fun k hk => hs k (by rw [List.length_cons]; omega))⟩
theorem MR.nm {σ τ : Mem} {T : Tx} {a b : Nat} {A : Ar} {K : List Int32} (h : MR σ T a A K) (hs : Sm SNm σ τ) (hab : a ≤ b) (hb : b ≤ T.1) (h13 : τ.1 94 13 = nI b) : MR τ T b A K := by
  obtain ⟨h0, ⟨b1, b2, b3⟩, h1, h2, h3, h4⟩ := h
  exact ⟨h0.sm (SNm.r hs), ⟨hb, by omega, by omega⟩, h13, by rw [(hs 94 16 (by unfold SNm; omega)).1]; exact h2, h3.sm (fun k _ => (hs 101 k (by unfold SNm; omega)).1), h4.off (fun k => (hs 96 k (by unfold SNm; omega)).1)⟩
theorem sm_13 {σ τ : Mem} {v : Int32} (e : τ = w1 σ 94 13 v) : Sm SNm σ τ := by rw [e]; exact Sm.rf.w1 ⟨rfl, Or.inl rfl⟩
theorem sm_14 {σ τ : Mem} {v : Int32} (e : τ = w1 σ 94 14 v) : Sm SNm σ τ := by rw [e]; exact Sm.rf.w1 ⟨rfl, Or.inr (Or.inl rfl)⟩
theorem sm_17 {σ τ : Mem} {v : Int32} (e : τ = w1 σ 94 17 v) : Sm SNm σ τ := by rw [e]; exact Sm.rf.w1 ⟨rfl, Or.inr (Or.inr rfl)⟩
def numT (Q : Option Value → Mem → Prop) (τ1 : Mem) (x1 x3 x4 : Int32) : Prop := ((¬ x4 = 0 → (∀ τ2 : Mem, τ2 = (w1 τ1 94 14 x3) → ((¬ (1 ≤ x4 ∧ x4 ≤ 3) → Q (some (.int 0)) τ2) ∧ ((1 ≤ x4 ∧ x4 ≤ 3) → ((¬ (x1 ≤ (τ2.1 94 17) ∧ (τ2.1 94 17) ≤ 500) → Q (some (.int 0)) τ2) ∧ ((x1 ≤ (τ2.1 94 17) ∧ (τ2.1 94 17) ≤ 500) → Q (some (.int 1)) τ2)))))) ∧ (x4 = 0 → (∀ τ3 : Mem, τ3 = (w1 τ1 94 14 (τ1.1 94 13)) → ((¬ (1 ≤ x4 ∧ x4 ≤ 3) → Q (some (.int 0)) τ3) ∧ ((1 ≤ x4 ∧ x4 ≤ 3) → ((¬ (x1 ≤ (τ3.1 94 17) ∧ (τ3.1 94 17) ≤ 500) → Q (some (.int 0)) τ3) ∧ ((x1 ≤ (τ3.1 94 17) ∧ (τ3.1 94 17) ≤ 500) → Q (some (.int 1)) τ3)))))))
def numM (Q : Option Value → Mem → Prop) (σ : Mem) (x1 x2 x3 x4 : Int32) : Prop := ((x2 = 0 → (∀ τ1 : Mem, τ1 = (w1 σ 94 17 (σ.1 94 17)) → numT Q τ1 x1 x3 x4)) ∧ (¬ x2 = 0 → (∀ τ4 : Mem, τ4 = (w1 σ 94 17 (-(σ.1 94 17))) → numT Q τ4 x1 x3 x4)))
section RDM
variable {d : Nat} {σ : Mem} {Q : Option Value → Mem → Prop} {T : Tx} {a : Nat} {A : Ar} {K : List Int32}
theorem m_next (hT : T.1 ≤ 120) (hR : MR σ T a A K) (h : ∀ τ, MR τ T (sk T a) A K → τ.1 94 14 = nI (sk T a) → Sm SNm σ τ → Q (some (.int (nx T a))) τ) : X none (d + 1) mX8_next 0 [.ref 94] [] σ Q := by
  have key : ∀ m b (τ : Mem), T.1 = b + m → a ≤ b → MR τ T b A K → Sm SNm σ τ → sk T b = sk T a → X none (d + 1) mX8_next 0 [.ref 94] [] τ Q := by
    intro m
    induction m with
    | zero =>
      intro b τ hb hab hO hs hk
      have hbT : b = T.1 := by omega
      have e1 : sk T b = b := sk_stop (fun q => by omega)
      have e2 : nx T a = -1 := by rw [nx, ← hk, e1, hr, if_neg (by omega)]
      have hle : τ.1 94 6 ≤ τ.1 94 13 := by rw [hO.1.1, hO.2.2.1]; exact nI_le (by omega) (by omega)
      refine vX8_next_0 ⟨fun _ τ1 e => ?_, fun c => absurd hle c⟩
      have s1 := sm_14 e
      have h13 : τ1.1 94 13 = nI b := by rw [e, w1_k _ _ _ _ _ _ (by omega)]; exact hO.2.2.1
      have hO1 := hO.nm s1 (Nat.le_refl _) (by omega) h13
      have hQ := h τ1 (by rw [← hk, e1]; exact hO1) (by rw [e, w1_s, hO.2.2.1, ← hk, e1]) (hs.tr s1)
      rw [e2] at hQ
      have hle1 : τ1.1 94 6 ≤ τ1.1 94 13 := by rw [hO1.1.1, hO1.2.2.1]; exact nI_le (by omega) (by omega)
      exact ⟨fun _ => hQ, fun c => absurd hle1 c⟩
    | succ m ih =>
      intro b τ hb hab hO hs hk
      have hlt : b < T.1 := by omega
      have hgt : ¬ τ.1 94 6 ≤ τ.1 94 13 := by rw [hO.1.1, hO.2.2.1]; exact nI_ge hlt (by omega)
      have hv : vp_in (nI b) 120 := vin (by omega) (by decide)
      have er : τ.1 98 (τ.1 94 13).toNatClampNeg = T.2 b := by rw [hO.2.2.1, nI_clamp (n := b) (by omega), hO.1.2 b hlt]
      refine vX8_next_0 ⟨fun c => absurd c hgt, fun _ => ⟨by rw [hO.2.2.1]; exact hv, ?_⟩⟩
      rw [er]
      refine ⟨fun c1 τ2 e => ?_, fun c1 τ3 e => ?_⟩
      · have e1 : sk T b = b := sk_stop (fun q => c1 q.2)
        have s1 := sm_14 e
        have h13 : τ2.1 94 13 = nI b := by rw [e, w1_k _ _ _ _ _ _ (by omega)]; exact hO.2.2.1
        have hO1 := hO.nm s1 (Nat.le_refl _) (by omega) h13
        have hQ := h τ2 (by rw [← hk, e1]; exact hO1) (by rw [e, w1_s, hO.2.2.1, ← hk, e1]) (hs.tr s1)
        rw [nx, ← hk, e1, hr, if_pos hlt] at hQ
        have hgt1 : ¬ τ2.1 94 6 ≤ τ2.1 94 13 := by rw [hO1.1.1, hO1.2.2.1]; exact nI_ge hlt (by omega)
        refine ⟨fun c => absurd c hgt1, fun _ => ⟨by rw [h13]; exact hv, ?_⟩⟩
        rw [h13, nI_clamp (n := b) (by omega), hO1.1.2 b hlt]
        exact hQ
      · rw [hO.2.2.1, nI_1] at e
        have s1 := sm_13 e
        have hO1 := hO.nm s1 (Nat.le_succ b) (by omega) (by rw [e, w1_s])
        exact ih (b + 1) τ3 (by omega) (by omega) hO1 (hs.tr s1) (by rw [← hk, sk_step ⟨hlt, c1⟩])
  exact key (T.1 - a) a σ (by have := hR.2.1.1; omega) (Nat.le_refl _) hR Sm.rf rfl
theorem m_takes (hT : T.1 ≤ 120) (hR : MR σ T a A K) {c : Int32} (hc : c ≠ -1) (h0 : ∀ p, ex T c a = .inl p → ∀ τ, τ.1 94 14 = nI p → Sm SNm σ τ → Q (some (.int 0)) τ) (h1 : ∀ b, ex T c a = .inr b → ∀ τ, MR τ T b A K → Sm SNm σ τ → Q (some (.int 1)) τ) : X none (d + 2) mX8_takes 0 [.ref 94, .int c, Unk] [] σ Q := by
  refine vX8_takes_0 (m_next hT hR (fun τ hO hf hs => ⟨_, rfl, fun c1 τ3 e => ?_, fun c1 τ4 e => ?_⟩))
  · exact h0 (sk T a) (by rw [ex, if_neg c1]) τ3 (by rw [e, w1_k _ _ _ _ _ _ (by omega)]; exact hf) (hs.tr (sm_13 e))
  · have hlt := nx_lt (T := T) (a := a) (by rw [c1]; exact hc)
    rw [hO.2.2.1, nI_1] at e
    exact h1 (sk T a + 1) (by rw [ex, if_pos c1]) τ4 (hO.nm (sm_13 e) (Nat.le_succ _) hlt (by rw [e, w1_s])) (hs.tr (sm_13 e))
theorem m_num46 (hT : T.1 ≤ 120) {lo x2 x3 : Int32} : ∀ m b (v : Int32) n (τ : Mem), T.1 = b + m → n ≤ b → MT0 τ T → τ.1 94 13 = nI b → τ.1 94 17 = v → (∀ υ : Mem, Sm SNm τ υ → υ.1 94 13 = nI (dgF 4 T m b v n).1 → υ.1 94 17 = (dgF 4 T m b v n).2.1 → numM Q υ lo x2 x3 (nI (dgF 4 T m b v n).2.2)) →
    X none (d + 2) mX8_takesNumber 46 [.ref 94, .int lo, .int x2, .int x3, .int (nI n)] [] τ Q := by
  intro m
  induction m with
  | zero =>
    intro b v n τ hb hn hR h3 h17 hE
    have hle : τ.1 94 6 ≤ τ.1 94 13 := by rw [hR.1, h3]; exact nI_le (by omega) (by omega)
    have := hE τ Sm.rf h3 h17
    exact vX8_takesNumber_46 ⟨fun _ => ⟨fun _ => this, fun c => absurd c (by decide)⟩, fun c => absurd hle c⟩
  | succ m ih =>
    intro b v n τ hb hn hR h3 h17 hE
    have hlt : b < T.1 := by omega
    have hgt : ¬ τ.1 94 6 ≤ τ.1 94 13 := by rw [hR.1, h3]; exact nI_ge hlt (by omega)
    have hv : vp_in (τ.1 94 13) 120 := by rw [h3]; exact vin (by omega) (by decide)
    have er : τ.1 98 (τ.1 94 13).toNatClampNeg = T.2 b := by rw [h3, nI_clamp (n := b) (by omega), hR.2 b hlt]
    rw [dgF] at hE
    refine vX8_takesNumber_46 ⟨fun c => absurd c hgt, fun _ => ⟨hv, ?_⟩⟩
    rw [er]
    refine ⟨fun c => ?_, fun c => ?_⟩
    · rw [if_neg (fun q => c q.2)] at hE
      exact hE τ Sm.rf h3 h17
    · rw [if_pos ⟨hlt, c⟩] at hE
      have go : ∀ (v' : Int32), v' = (if n < 4 then 10 * v + T.2 b - 48 else v) → ∀ τ1 : Mem, τ1 = w1 τ 94 17 v' → ∀ τ2 : Mem, τ2 = w1 τ1 94 13 (τ1.1 94 13 + 1) → X none (d + 2) mX8_takesNumber 46 [.ref 94, .int lo, .int x2, .int x3, .int (nI n + 1)] [] τ2 Q := fun v' ev τ1 e1 τ2 e2 => by
        rw [← ev] at hE
        have r1 : τ1.1 94 13 = nI b := by rw [e1, w1_k _ _ _ _ _ _ (by omega)]; exact h3
        rw [r1, nI_1] at e2
        have s2 := (sm_17 e1).tr (sm_13 e2)
        rw [nI_1]
        exact ih (b + 1) v' (n + 1) τ2 (by omega) (by omega) (hR.sm (SNm.r s2)) (by rw [e2, w1_s]) (by rw [e2, w1_k _ _ _ _ _ _ (by omega), e1, w1_s]) (fun υ q1 q2 q3 => hE υ (s2.tr q1) q2 q3)
      refine ⟨fun c3 τ1 e1 => ?_, fun c3 => ⟨fun c4 => absurd c4 hgt, fun _ => ⟨hv, fun τ1 e1 => ?_⟩⟩⟩
      · rw [h17] at e1
        refine go v ?_ τ1 e1
        rw [if_neg]
        have := (nI_leI (a := 4) (by decide) (by omega)).mp c3
        omega
      · rw [h17] at e1
        refine go _ ?_ τ1 e1
        rw [if_pos]
        rcases Nat.lt_or_ge n 4 with q | q
        · exact q
        · exact absurd (nI_le (a := 4) q (by omega)) c3
theorem numT_ok (hT : T.1 ≤ 120) {lo w : Int32} {b e n : Nat} {y : Sum Nat (Nat × Int32)} (hn : n ≤ 120) (h13 : σ.1 94 13 = nI e) (h17 : σ.1 94 17 = w) (hy0 : n = 0 → y = .inl e) (hy1 : ¬ n = 0 → 3 < n → y = .inl b) (hy2 : ¬ n = 0 → ¬ 3 < n → ¬ (lo ≤ w ∧ w ≤ 500) → y = .inl b) (hy3 : ¬ n = 0 → ¬ 3 < n → (lo ≤ w ∧ w ≤ 500) → y = .inr (e, w))
    (h0 : ∀ p, y = .inl p → ∀ τ, τ.1 94 14 = nI p → Sm SNm σ τ → Q (some (.int 0)) τ) (h1 : ∀ q, y = .inr q → ∀ τ, τ.1 94 13 = nI q.1 → τ.1 94 17 = q.2 → Sm SNm σ τ → Q (some (.int 1)) τ) : numT Q σ lo (nI b) (nI n) := by
  have hz : nI n = 0 ↔ n = 0 := nI_z (by omega)
  have e1 : (1 : Int32) ≤ nI n ↔ 1 ≤ n := nI_leI (a := 1) (by decide) (by omega)
  have e3 : nI n ≤ (3 : Int32) ↔ n ≤ 3 := nI_leI (b := 3) (by omega) (by decide)
  unfold numT
  rw [hz, e1, e3]
  refine ⟨fun c τ2 e2 => ?_, fun c τ3 e3' => ?_⟩
  · have r17 : τ2.1 94 17 = w := by rw [e2, w1_k _ _ _ _ _ _ (by omega)]; exact h17
    have r14 : τ2.1 94 14 = nI b := by rw [e2, w1_s]
    have r13 : τ2.1 94 13 = nI e := by rw [e2, w1_k _ _ _ _ _ _ (by omega)]; exact h13
    rw [r17]
    refine ⟨fun c1 => h0 b (hy1 c (by omega)) τ2 r14 (sm_14 e2), fun c1 => ⟨fun c2 => h0 b (hy2 c (by omega) c2) τ2 r14 (sm_14 e2), fun c2 => h1 _ (hy3 c (by omega) c2) τ2 r13 r17 (sm_14 e2)⟩⟩
  · rw [h13] at e3'
    refine ⟨fun c1 => h0 e (hy0 c) τ3 (by rw [e3', w1_s]) (sm_14 e3'), fun c1 => absurd c1.1 (by omega)⟩
theorem m_num (hT : T.1 ≤ 120) (hR : MR σ T a A K) {lo : Int32} (h0 : ∀ p, rdN T lo a = .inl p → ∀ τ, τ.1 94 14 = nI p → Sm SNm σ τ → Q (some (.int 0)) τ) (h1 : ∀ q, rdN T lo a = .inr q → ∀ τ, MR τ T q.1 A K → τ.1 94 17 = q.2 → Sm SNm σ τ → Q (some (.int 1)) τ) : X none (d + 2) mX8_takesNumber 0 [.ref 94, .int lo, Unk, Unk, Unk] [] σ Q := by
  have ha := hR.2.1.1
  have k1 := sk_ge T a
  have k2 := sk_le ha
  -- behind the sign
  have tail : ∀ (m : Bool) (b : Nat) (τ0 : Mem), b ≤ T.1 → sk T a ≤ b → Sm SNm σ τ0 → MR τ0 T b A K → τ0.1 94 17 = 0 → rdN T lo a = numR lo (sk T a) m (dgF 3 T (T.1 - b) b 0 0) → X none (d + 2) mX8_takesNumber 46 [.ref 94, .int lo, .int (if m = true then 1 else 0), .int (nI (sk T a)), .int 0] [] τ0 Q := by
    intro m b τ0 hb hkb s0 hO h17 hN
    have hbb := dgF_b 3 T (T.1 - b) b 0 0 hb
    obtain ⟨f1, f2, f3⟩ := dgF_34 T (T.1 - b) b 0 0 0 (fun _ => rfl)
    have := m_num46 (Q := Q) (d := d) hT (lo := lo) (x2 := if m = true then 1 else 0) (x3 := nI (sk T a)) (T.1 - b) b 0 0 τ0 (by omega) (Nat.zero_le _) hO.1 hO.2.2.1 h17 (fun υ q1 q2 q3 => by
      rw [f1] at q2
      rw [f2]
      generalize hR4 : (dgF 4 T (T.1 - b) b 0 0).2.1 = v4 at q3 f3
      generalize dgF 3 T (T.1 - b) b 0 0 = R at hbb f1 f2 f3 q2 hN
      have hv : ¬ 3 < R.2.2 → v4 = R.2.1 := fun c => f3 (by omega)
      have sgnw : ∀ w : Int32, w = (if m = true then -v4 else v4) → ∀ τ1 : Mem, τ1 = w1 υ 94 17 w → numT Q τ1 lo (nI (sk T a)) (nI R.2.2) := fun w ew τ1 e1 => by
        have hw3 : ¬ 3 < R.2.2 → w = (if m = true then -R.2.1 else R.2.1) := fun c => by rw [ew, hv c]
        have s1 := q1.tr (sm_17 e1)
        refine numT_ok (e := R.1) (w := w) (y := rdN T lo a) hT (by omega) (by rw [e1, w1_k _ _ _ _ _ _ (by omega)]; exact q2) (by rw [e1, w1_s]) (fun c => ?_) (fun c c2 => ?_) (fun c c2 c3 => ?_) (fun c c2 c3 => ?_) (fun p e τ t1 t2 => h0 p e τ t1 ((s0.tr s1).tr t2)) (fun q e τ t1 t2 t3 => ?_)
        · rw [hN, numR, if_pos c]
        · rw [hN, numR, if_neg c, if_pos (Or.inl c2)]
        · rw [hN, numR, if_neg c, if_pos]
          right
          rw [← hw3 c2]
          rcases Decidable.not_and_iff_or_not.mp c3 with z | z
          · exact Or.inl (Int32.not_le.mp z)
          · exact Or.inr (Int32.not_le.mp z)
        · rw [hN, numR, if_neg c, if_neg, ← hw3 c2]
          rw [← hw3 c2]
          rintro (z | z | z)
          · exact c2 z
          · exact absurd c3.1 (Int32.not_le.mpr z)
          · exact absurd c3.2 (Int32.not_le.mpr z)
        · have hb2 := rdN_b (T := T) (lo := lo) ha
          rw [e] at hb2
          have hb3 : a < q.1 ∧ q.1 ≤ T.1 := hb2
          exact h1 q e τ (hR.nm ((s0.tr s1).tr t3) (by omega) hb3.2 t1) t2 ((s0.tr s1).tr t3)
      unfold numM
      rw [q3]
      cases m
      · exact ⟨fun _ => sgnw v4 rfl, fun c => absurd rfl c⟩
      · exact ⟨fun c => absurd c (by decide), fun _ => sgnw (-v4) rfl⟩)
    rw [nI_0] at this
    exact this
  refine vX8_takesNumber_0 (m_next hT hR (fun τ hO hf hs => ⟨_, rfl, fun c1 τ3 e3 τ4 e4 => ?_, fun c1 τ3 e3 τ4 e4 => ?_⟩))
  · rw [hO.2.2.1] at e3 ⊢
    rw [Int32.add_zero] at e3
    have s34 := (sm_13 e3).tr (sm_17 e4)
    have hO4 := hO.nm s34 (Nat.le_refl _) k2 (by rw [e4, w1_k _ _ _ _ _ _ (by omega), e3, w1_s])
    exact tail false (sk T a) τ4 k2 (Nat.le_refl _) (hs.tr s34) hO4 (by rw [e4, w1_s]) (by rw [rdN, decide_eq_false c1, if_neg c1, dg])
  · have hlt := nx_lt (T := T) (a := a) (by rw [c1]; decide)
    rw [hO.2.2.1] at e3 ⊢
    rw [nI_1] at e3
    have s34 := (sm_13 e3).tr (sm_17 e4)
    have hO4 := hO.nm s34 (Nat.le_succ _) hlt (by rw [e4, w1_k _ _ _ _ _ _ (by omega), e3, w1_s])
    exact tail true (sk T a + 1) τ4 hlt (Nat.le_succ _) (hs.tr s34) hO4 (by rw [e4, w1_s]) (by rw [rdN, decide_eq_true c1, if_pos c1, dg])
/-- a step behind those that are read -/
theorem MA.push {τ2 τ3 : Mem} {s : Int32} (h : MA σ 546 A) (hm : am A < 120) (e2 : τ2 = w1 σ 96 (548 + am A) (sgn s)) (e3 : τ3 = w1 τ2 96 546 (nI (am A + 1))) : MA τ3 546 (aS A s) := by
  obtain ⟨h1, h2, h3, h4⟩ := h
  refine ⟨by rw [e3, w1_s]; rfl, ?_, fun k hk => ?_, fun k hk => ?_⟩
  · rw [e3, w1_k _ _ _ _ _ _ (by omega), e2, w1_k _ _ _ _ _ _ (by omega)]; exact h2
  · have hk' : k < am A + 1 := hk
    rw [e3, w1_k _ _ _ _ _ _ (by omega), e2]
    by_cases c : k = am A
    · rw [c, aS_new, show 546 + 2 + am A = 548 + am A by omega, w1_s]
    · rw [w1_k _ _ _ _ _ _ (by omega), aS_old (by omega)]; exact h3 k (by omega)
  · rw [e3, w1_k _ _ _ _ _ _ (by omega), e2, w1_k _ _ _ _ _ _ (by omega)]; exact h4 k hk
theorem k548 (e : Nat) : (548 : Int32) + nI e = nI (548 + e) := nI_add 548 e
theorem k668 (e : Nat) : (668 : Int32) + nI e = nI (668 + e) := nI_add 668 e
/-- the numbers of a rectangle that is being read, as far as they are there -/
theorem MR.side {τ : Mem} {j : Nat} {v : Int32} (h : MR σ T a A K) (e : τ = w1 σ 96 (668 + 4 * ar A + j) v) (hm : am A ≤ 120) : MR τ T a A K ∧ Sm SMr σ τ := by
  obtain ⟨h0, hb, h1, h2, h3, g1, g2, g3, g4⟩ := h
  have hs : Sm SMr σ τ := by rw [e]; exact Sm.rf.w1 (Or.inr (Or.inr ⟨rfl, by omega⟩))
  refine ⟨⟨h0.sm hs, hb, by rw [e, w1_a _ _ _ _ _ _ (by omega)]; exact h1, by rw [e, w1_a _ _ _ _ _ _ (by omega)]; exact h2, h3.sm (fun k _ => by rw [e, w1_a _ _ _ _ _ _ (by omega)]), ?_, ?_, fun k hk => ?_, fun k hk => ?_⟩, hs⟩
  · rw [e, w1_k _ _ _ _ _ _ (by omega)]; exact g1
  · rw [e, w1_k _ _ _ _ _ _ (by omega)]; exact g2
  · rw [e, w1_k _ _ _ _ _ _ (by omega)]; exact g3 k hk
  · rw [e, w1_k _ _ _ _ _ _ (by omega)]; exact g4 k hk
theorem m_rect (hT : T.1 ≤ 120) (hR : MR σ T a A K) (hP : 10 * ar A ≤ a) (h0 : ∀ p, rct T (a, A) = .inl p → ∀ τ, τ.1 94 14 = nI p → Sm SMr σ τ → Q (some (.int 0)) τ) (h1 : ∀ t, rct T (a, A) = .inr t → ∀ τ, MR τ T t.1 t.2 K → Sm SMr σ τ → Q (some (.int 1)) τ) : X none (d + 3) mX8_takesRect 0 [.ref 94, Unk, Unk, Unk] [] σ Q := by
  have hb := hR.2.1
  have hm : am A ≤ 120 := by omega
  have har : ar A ≤ 12 := by omega
  have hg := g_rct hT (s := (a, A)) ⟨hb.1, by show am A ≤ a; omega, hP⟩
  have e547 : σ.1 96 547 = nI (ar A) := hR.2.2.2.2.2.2.1
  have v : ∀ z, z < 728 → vp_in (nI z) 728 := fun z hz => vin hz (by decide)
  have cl : ∀ z, z < 728 → (nI z).toNatClampNeg = z := fun z hz => nI_clamp (by omega)
  refine vX8_takesRect_0 ?_
  rw [e547, i4, k668]
  -- the first number
  refine vX8_takesRect_17 ⟨fun c => absurd c (by decide), fun _ => ⟨fun c => absurd rfl c, fun _ => ?_⟩⟩
  refine m_takes hT hR (c := 91) (by decide) (fun p e τ t1 t2 => ⟨_, rfl, fun _ => h0 p (by simp only [rct, e, bd]) τ t1 (SNm.r t2), fun c => absurd rfl c⟩) (fun a1 e1 τ1 R1 s1 => ⟨_, rfl, fun c => absurd c (by decide), fun _ => ⟨fun c => absurd (by decide) c, fun _ => ?_⟩⟩)
  refine m_num hT R1 (lo := -500) (fun p e τ t1 t2 => ⟨_, rfl, fun _ => h0 p (by simp only [rct, e1, e, bd]) τ t1 (SNm.r (s1.tr t2)), fun c => absurd rfl c⟩) (fun q1 e2 τ2 R2 n2 s2 => ⟨_, rfl, fun c => absurd c (by decide), fun _ => ?_⟩)
  rw [Int32.add_zero, cl _ (by omega), n2, show (0 : Int32) + 1 = 1 by decide]
  refine ⟨v _ (by omega), fun τ3 w3 => ?_⟩
  obtain ⟨R3, s3⟩ := R2.side (j := 0) w3 hm
  have S3 : Sm SMr σ τ3 := (SNm.r (s1.tr s2)).tr s3
  have f0 : τ3.1 96 (668 + 4 * ar A) = q1.2 := by rw [w3, w1_s]
  -- the second
  refine vX8_takesRect_17 ⟨fun c => absurd c (by decide), fun _ => ⟨fun _ => ?_, fun c => absurd c (by decide)⟩⟩
  refine m_takes hT R3 (c := 44) (by decide) (fun p e τ t1 t2 => ⟨_, rfl, fun _ => h0 p (by simp only [rct, e1, e2, e, bd]) τ t1 (S3.tr (SNm.r t2)), fun c => absurd rfl c⟩) (fun a3 e3 τ4 R4 s4 => ⟨_, rfl, fun c => absurd c (by decide), fun _ => ⟨fun _ => ?_, fun c => absurd c (by decide)⟩⟩)
  have f0' : τ4.1 96 (668 + 4 * ar A) = q1.2 := by rw [(s4 96 _ (by unfold SNm; omega)).1]; exact f0
  rw [nI_1, nI_pred, cl _ (by omega), cl _ (by omega), f0']
  refine ⟨v _ (by omega), ?_⟩
  refine m_num hT R4 (lo := q1.2) (fun p e τ t1 t2 => ⟨_, rfl, fun _ => h0 p (by simp only [rct, e1, e2, e3, e, bd]) τ t1 (S3.tr (SNm.r (s4.tr t2))), fun c => absurd rfl c⟩) (fun q2 e4 τ5 R5 n5 s5 => ⟨_, rfl, fun c => absurd c (by decide), fun _ => ?_⟩)
  rw [n5, show (1 : Int32) + 1 = 2 by decide]
  refine ⟨v _ (by omega), fun τ6 w6 => ?_⟩
  obtain ⟨R6, s6⟩ := R5.side (j := 1) w6 hm
  have S6 : Sm SMr σ τ6 := (S3.tr (SNm.r (s4.tr s5))).tr s6
  have f0 : τ6.1 96 (668 + 4 * ar A) = q1.2 := by rw [w6, w1_k _ _ _ _ _ _ (by omega), (s5 96 _ (by unfold SNm; omega)).1]; exact f0'
  have f1 : τ6.1 96 (668 + 4 * ar A + 1) = q2.2 := by rw [w6, w1_s]
  -- the third
  refine vX8_takesRect_17 ⟨fun c => absurd c (by decide), fun _ => ⟨fun _ => ?_, fun c => absurd c (by decide)⟩⟩
  refine m_takes hT R6 (c := 44) (by decide) (fun p e τ t1 t2 => ⟨_, rfl, fun _ => h0 p (by simp only [rct, e1, e2, e3, e4, e, bd]) τ t1 (S6.tr (SNm.r t2)), fun c => absurd rfl c⟩) (fun a5 e5 τ7 R7 s7 => ⟨_, rfl, fun c => absurd c (by decide), fun _ => ⟨fun c => absurd (by decide) c, fun _ => ?_⟩⟩)
  refine m_num hT R7 (lo := -500) (fun p e τ t1 t2 => ⟨_, rfl, fun _ => h0 p (by simp only [rct, e1, e2, e3, e4, e5, e, bd]) τ t1 (S6.tr (SNm.r (s7.tr t2))), fun c => absurd rfl c⟩) (fun q3 e6 τ8 R8 n8 s8 => ⟨_, rfl, fun c => absurd c (by decide), fun _ => ?_⟩)
  rw [i_2, cl _ (by omega), n8, show (2 : Int32) + 1 = 3 by decide]
  refine ⟨v _ (by omega), fun τ9 w9 => ?_⟩
  obtain ⟨R9, s9⟩ := R8.side (j := 2) w9 hm
  have S9 : Sm SMr σ τ9 := (S6.tr (SNm.r (s7.tr s8))).tr s9
  have f0 : τ9.1 96 (668 + 4 * ar A) = q1.2 := by rw [w9, w1_k _ _ _ _ _ _ (by omega), ((s7.tr s8) 96 _ (by unfold SNm; omega)).1]; exact f0
  have f1 : τ9.1 96 (668 + 4 * ar A + 1) = q2.2 := by rw [w9, w1_k _ _ _ _ _ _ (by omega), ((s7.tr s8) 96 _ (by unfold SNm; omega)).1]; exact f1
  have f2 : τ9.1 96 (668 + 4 * ar A + 2) = q3.2 := by rw [w9, w1_s]
  -- the fourth
  refine vX8_takesRect_17 ⟨fun c => absurd c (by decide), fun _ => ⟨fun _ => ?_, fun c => absurd c (by decide)⟩⟩
  refine m_takes hT R9 (c := 44) (by decide) (fun p e τ t1 t2 => ⟨_, rfl, fun _ => h0 p (by simp only [rct, e1, e2, e3, e4, e5, e6, e, bd]) τ t1 (S9.tr (SNm.r t2)), fun c => absurd rfl c⟩) (fun a7 e7 τ10 R10 s10 => ⟨_, rfl, fun c => absurd c (by decide), fun _ => ⟨fun _ => ?_, fun c => absurd c (by decide)⟩⟩)
  have f2' : τ10.1 96 (668 + 4 * ar A + 2) = q3.2 := by rw [(s10 96 _ (by unfold SNm; omega)).1]; exact f2
  rw [i_3, nI_pred, cl _ (by omega), cl _ (by omega), f2']
  refine ⟨v _ (by omega), ?_⟩
  refine m_num hT R10 (lo := q3.2) (fun p e τ t1 t2 => ⟨_, rfl, fun _ => h0 p (by simp only [rct, e1, e2, e3, e4, e5, e6, e7, e, bd]) τ t1 (S9.tr (SNm.r (s10.tr t2))), fun c => absurd rfl c⟩) (fun q4 e8 τ11 R11 n11 s11 => ⟨_, rfl, fun c => absurd c (by decide), fun _ => ?_⟩)
  rw [n11, show (3 : Int32) + 1 = 4 by decide]
  refine ⟨v _ (by omega), fun τ12 w12 => ?_⟩
  obtain ⟨R12, s12⟩ := R11.side (j := 3) w12 hm
  have S12 : Sm SMr σ τ12 := (S9.tr (SNm.r (s10.tr s11))).tr s12
  have f0 : τ12.1 96 (668 + 4 * ar A) = q1.2 := by rw [w12, w1_k _ _ _ _ _ _ (by omega), ((s10.tr s11) 96 _ (by unfold SNm; omega)).1]; exact f0
  have f1 : τ12.1 96 (668 + 4 * ar A + 1) = q2.2 := by rw [w12, w1_k _ _ _ _ _ _ (by omega), ((s10.tr s11) 96 _ (by unfold SNm; omega)).1]; exact f1
  have f2 : τ12.1 96 (668 + 4 * ar A + 2) = q3.2 := by rw [w12, w1_k _ _ _ _ _ _ (by omega), ((s10.tr s11) 96 _ (by unfold SNm; omega)).1]; exact f2
  have f3 : τ12.1 96 (668 + 4 * ar A + 3) = q4.2 := by rw [w12, w1_s]
  -- the end
  refine vX8_takesRect_17 ⟨fun _ => ?_, fun c => absurd (by decide) c⟩
  refine m_takes hT R12 (c := 93) (by decide) (fun p e τ t1 t2 => ⟨_, rfl, fun c => absurd rfl c, fun _ => h0 p (by simp only [rct, e1, e2, e3, e4, e5, e6, e7, e8, e, bd]) τ t1 (S12.tr (SNm.r t2))⟩) (fun a9 e9 τ13 R13 s13 => ⟨_, rfl, fun _ => ?_, fun c => absurd c (by decide)⟩)
  have hrc : rct T (a, A) = .inr (a9, aR A q1.2 q2.2 q3.2 q4.2) := by simp only [rct, e1, e2, e3, e4, e5, e6, e7, e8, e9, bd]
  rw [hrc] at hg
  obtain ⟨⟨g2, g3, g4, g5⟩, _⟩ := hg
  have g2' : a < a9 := g2
  have g3' : a9 ≤ T.1 := g3
  have g4' : (am A + 1) + a ≤ am A + a9 := g4
  have g5' : 10 * (ar A + 1) + a ≤ 10 * ar A + a9 + 1 := g5
  have S13 : Sm SMr σ τ13 := S12.tr (SNm.r s13)
  obtain ⟨r0, rb, r1, r2, r3, m1, m2, m3, m4⟩ := id R13
  have m2' : τ13.1 96 547 = nI (ar A) := m2
  have m3' : ∀ k, k < am A → τ13.1 96 (548 + k) = sgn (ast A k) := m3
  have m4' : ∀ k, k < 4 * ar A → τ13.1 96 (668 + k) = asd A k := m4
  rw [m1, m2', k548, cl _ (by omega)]
  refine ⟨v _ (by omega), fun τ14 w14 τ15 w15 τ16 w16 => ?_⟩
  rw [w14, w1_k _ _ _ _ _ _ (by omega), m1, nI_1, ← w14] at w15
  have x15 : τ15.1 96 547 = nI (ar A) := by rw [w15, w1_k _ _ _ _ _ _ (by omega), w14, w1_k _ _ _ _ _ _ (by omega)]; exact m2'
  rw [x15, nI_1] at w16
  have s16 : Sm SMr τ13 τ16 := by
    rw [w16, w15, w14]
    exact ((Sm.rf.w1 (Or.inr (Or.inr ⟨rfl, by omega⟩))).w1 (Or.inr (Or.inr ⟨rfl, by omega⟩))).w1 (Or.inr (Or.inr ⟨rfl, by omega⟩))
  have o16 : ∀ i k, i ≠ 96 → τ16.1 i k = τ13.1 i k := fun i k hi => by rw [w16, w1_a _ _ _ _ _ _ hi, w15, w1_a _ _ _ _ _ _ hi, w14, w1_a _ _ _ _ _ _ hi]
  have o96 : ∀ k, k ≠ 546 → k ≠ 547 → k ≠ 548 + am A → τ16.1 96 k = τ13.1 96 k := fun k q1 q2 q3 => by rw [w16, w1_k _ _ _ _ _ _ q2, w15, w1_k _ _ _ _ _ _ q1, w14, w1_k _ _ _ _ _ _ q3]
  have y : ∀ j, τ13.1 96 (668 + 4 * ar A + j) = τ12.1 96 (668 + 4 * ar A + j) := fun j => (s13 96 _ (by unfold SNm; omega)).1
  refine h1 _ hrc τ16 ⟨r0.sm s16, ⟨g3', show am A + 1 + K.length ≤ a9 by omega, show 10 * (ar A + 1) ≤ a9 + 1 by omega⟩, by rw [o16 _ _ (by omega)]; exact r1, by rw [o16 _ _ (by omega)]; exact r2, r3.sm (fun k _ => o16 _ _ (by omega)), ?_, ?_, fun k hk => ?_, fun k hk => ?_⟩ (S13.tr s16)
  · rw [w16, w1_k _ _ _ _ _ _ (by omega), w15, w1_s]; rfl
  · rw [w16, w1_s]; rfl
  · have hk' : k < am A + 1 := hk
    rw [show 546 + 2 + k = 548 + k by omega]
    by_cases c : k = am A
    · rw [c, aR_new, sgn_n (by omega), w16, w1_k _ _ _ _ _ _ (by omega), w15, w1_k _ _ _ _ _ _ (by omega), w14, w1_s]
    · rw [aR_old (by omega), o96 _ (by omega) (by omega) (by omega)]; exact m3' k (by omega)
  · have hk' : k < 4 * (ar A + 1) := hk
    rw [show 546 + 122 + k = 668 + k by omega, o96 _ (by omega) (by omega) (by omega)]
    show τ13.1 96 (668 + k) = (if k < 4 * ar A then asd A k else if k = 4 * ar A then q1.2 else if k = 4 * ar A + 1 then q2.2 else if k = 4 * ar A + 2 then q3.2 else q4.2)
    by_cases c0 : k < 4 * ar A
    · rw [if_pos c0]; exact m4' k c0
    · rw [if_neg c0]
      by_cases c1 : k = 4 * ar A
      · rw [if_pos c1, c1]; exact (y 0).trans f0
      · rw [if_neg c1]
        by_cases c2 : k = 4 * ar A + 1
        · rw [if_pos c2, c2, ← Nat.add_assoc]; exact (y 1).trans f1
        · rw [if_neg c2]
          by_cases c3 : k = 4 * ar A + 2
          · rw [if_pos c3, c3, ← Nat.add_assoc]; exact (y 2).trans f2
          · rw [if_neg c3, show k = 4 * ar A + 3 by omega, ← Nat.add_assoc]; exact (y 3).trans f3
/-! what is open -/
def ntA : List Int32 → Ar → Ar
  | z :: t, A => if z = -4 then ntA t (aS A (-1)) else A
  | [], A => A
def ntK : List Int32 → List Int32
  | z :: t => if z = -4 then ntK t else z :: t
  | [] => []
def usg (z : Int32) : Int32 := if z = -3 then -2 else if z = -1 then -3 else -4
def dsb (b : Bool) (z : Int32) : Bool := (z == -3 || (!b && (z == -1 || z == -2)))
def dsA (b : Bool) : List Int32 → Ar → Ar
  | z :: t, A => if dsb b z = true then dsA b t (aS A (usg z)) else A
  | [], A => A
def dsK (b : Bool) : List Int32 → List Int32
  | z :: t => if dsb b z = true then dsK b t else z :: t
  | [] => []
def dpK (K : List Int32) : Nat := K.countP (fun z => z == -4 || z == -5)
/-- one is taken off and put behind the steps -/
theorem MR.pop {τ1 τ2 τ3 : Mem} {z s : Int32} {t : List Int32} (hT : T.1 ≤ 120) (h : MR σ T a A (z :: t)) (hz : sgn s = z) (e1 : τ1 = w1 σ 94 16 (nI t.length)) (e2 : τ2 = w1 τ1 96 (548 + am A) z) (e3 : τ3 = w1 τ2 96 546 (nI (am A + 1))) : MR τ3 T a (aS A s) t ∧ Sm SDo σ τ3 := by
  obtain ⟨h0, ⟨b1, b2, b3⟩, h1, h2, h3, h4⟩ := h
  rw [List.length_cons] at b2
  have hs : Sm SDo σ τ3 := by
    rw [e3, e2, e1]
    exact ((Sm.rf.w1 (Or.inl ⟨rfl, rfl⟩)).w1 (Or.inr ⟨rfl, by omega⟩)).w1 (Or.inr ⟨rfl, by omega⟩)
  have o : ∀ i k, i ≠ 96 → τ3.1 i k = τ1.1 i k := fun i k hi => by rw [e3, w1_a _ _ _ _ _ _ hi, e2, w1_a _ _ _ _ _ _ hi]
  have hA1 : MA τ1 546 A := h4.off (fun k => by rw [e1, w1_a _ _ _ _ _ _ (by omega)])
  rw [← hz] at e2
  exact ⟨⟨h0.sm (SDo.r hs), ⟨b1, show am A + 1 + t.length ≤ a by omega, b3⟩, by rw [o _ _ (by omega), e1, w1_k _ _ _ _ _ _ (by omega)]; exact h1, by rw [o _ _ (by omega), e1, w1_s], h3.2.sm (fun k _ => by rw [o _ _ (by omega), e1, w1_a _ _ _ _ _ _ (by omega)]), hA1.push (by omega) e2 e3⟩, hs⟩
theorem m_notes (hT : T.1 ≤ 120) : ∀ (K : List Int32) (A : Ar) (σ : Mem), MR σ T a A K → (∀ τ, MR τ T a (ntA K A) (ntK K) → Sm SDo σ τ → Q none τ) → X none (d + 1) mX8_notes 0 [.ref 94] [] σ Q := by
  intro K
  induction K with
  | nil =>
    intro A σ hR h
    refine vX8_notes_0 ⟨fun _ => h σ hR Sm.rf, fun c => absurd (by rw [hR.2.2.2.1]; show nI 0 ≤ 0; rw [nI_0]; decide) c⟩
  | cons z t ih =>
    intro A σ hR h
    have b2 := hR.2.1.2.1
    have b1 := hR.2.1.1
    rw [List.length_cons] at b2
    have hl : σ.1 94 16 = nI (t.length + 1) := hR.2.2.2.1
    have hz : σ.1 101 t.length = z := hR.2.2.2.2.1.1
    refine vX8_notes_0 ?_
    rw [hl, nI_pred, nI_clamp (n := t.length) (by omega), hz]
    refine ⟨fun c => absurd c (nI_nle (by omega) (by omega)), fun _ => ⟨vin (by omega) (by decide), fun c => ?_, fun c τ1 e1 => ?_⟩⟩
    · rw [ntA, ntK, if_neg c, if_neg c] at h
      exact h σ hR Sm.rf
    · rw [ntA, ntK, if_pos c, if_pos c] at h
      have m1 : τ1.1 96 546 = nI (am A) := by rw [e1, w1_a _ _ _ _ _ _ (by omega)]; exact hR.2.2.2.2.2.1
      rw [m1, k548, nI_clamp (n := 548 + am A) (by omega)]
      refine ⟨vin (by omega) (by decide), fun τ2 e2 τ3 e3 => ?_⟩
      have m2 : τ2.1 96 546 = nI (am A) := by rw [e2, w1_k _ _ _ _ _ _ (by omega)]; exact m1
      rw [m2, nI_1] at e3
      rw [← c] at e2
      obtain ⟨R3, s3⟩ := hR.pop (s := -1) hT (by rw [c]; decide) e1 e2 e3
      exact ih _ τ3 R3 (fun τ q1 q2 => h τ q1 (s3.tr q2))
theorem m_does (hT : T.1 ≤ 120) (b : Bool) : ∀ (K : List Int32) (A : Ar) (σ : Mem), MR σ T a A K → (∀ τ, MR τ T a (dsA b K A) (dsK b K) → Sm SDo σ τ → Q none τ) → X none (d + 1) mX8_does 0 [.ref 94, .int (if b = true then 1 else 0)] [] σ Q := by
  intro K
  induction K with
  | nil =>
    intro A σ hR h
    refine vX8_does_0 ⟨fun _ => h σ hR Sm.rf, fun c => absurd (by rw [hR.2.2.2.1]; show nI 0 ≤ 0; rw [nI_0]; decide) c⟩
  | cons z t ih =>
    intro A σ hR h
    have b2 := hR.2.1.2.1
    have b1 := hR.2.1.1
    rw [List.length_cons] at b2
    have hl : σ.1 94 16 = nI (t.length + 1) := hR.2.2.2.1
    have hz : σ.1 101 t.length = z := hR.2.2.2.2.1.1
    have hv : vp_in (nI t.length) 128 := vin (by omega) (by decide)
    rw [dsA, dsK] at h
    -- one is popped
    have pop : dsb b z = true → sgn (usg z) = z → ∀ τ1 : Mem, τ1 = w1 σ 94 16 (nI t.length) → (vp_in (τ1.1 94 16) 128 ∧ (vp_in (548 + (τ1.1 96 546)) 728 ∧ (∀ τ2 : Mem, τ2 = (w1 τ1 96 (548 + (τ1.1 96 546)).toNatClampNeg (τ1.1 101 (τ1.1 94 16).toNatClampNeg)) → ((∀ τ3 : Mem, τ3 = (w1 τ2 96 546 ((τ2.1 96 546) + 1)) → X none (d + 1) mX8_does 0 [.ref 94, .int (if b = true then 1 else 0)] [] τ3 Q))))) := by
      intro c cs τ1 e1
      rw [if_pos c, if_pos c] at h
      have m1 : τ1.1 96 546 = nI (am A) := by rw [e1, w1_a _ _ _ _ _ _ (by omega)]; exact hR.2.2.2.2.2.1
      have m16 : τ1.1 94 16 = nI t.length := by rw [e1, w1_s]
      have m101 : τ1.1 101 t.length = z := by rw [e1, w1_a _ _ _ _ _ _ (by omega)]; exact hz
      rw [m1, m16, k548, nI_clamp (n := 548 + am A) (by omega), nI_clamp (n := t.length) (by omega), m101]
      refine ⟨hv, vin (by omega) (by decide), fun τ2 e2 τ3 e3 => ?_⟩
      have m2 : τ2.1 96 546 = nI (am A) := by rw [e2, w1_k _ _ _ _ _ _ (by omega)]; exact m1
      rw [m2, nI_1] at e3
      obtain ⟨R3, s3⟩ := hR.pop (s := usg z) hT cs e1 e2 e3
      exact ih _ τ3 R3 (fun τ q1 q2 => h τ q1 (s3.tr q2))
    have stop : ¬ dsb b z = true → Q none σ := fun c => by
      rw [if_neg c, if_neg c] at h
      exact h σ hR Sm.rf
    refine vX8_does_0 ?_
    rw [hl, nI_pred, nI_clamp (n := t.length) (by omega), hz]
    refine ⟨fun c => absurd c (nI_nle (by omega) (by omega)), fun _ => ⟨hv, fun c1 => ?_, fun c1 => ⟨fun c2 => ?_, fun c2 => ⟨hv, fun c3 => ?_, fun c3 => ⟨hv, fun c4 => ?_, fun c4 => ?_⟩⟩⟩⟩⟩
    · exact pop (by rw [c1]; cases b <;> decide) (by rw [c1]; decide)
    · refine stop ?_
      cases b
      · exact absurd rfl c2
      · simp [dsb, c1]
    · cases b
      · exact pop (by rw [c3]; decide) (by rw [c3]; decide)
      · exact absurd c2 (by decide)
    · refine stop ?_
      cases b
      · simp [dsb, c1, c3, c4]
      · exact absurd c2 (by decide)
    · cases b
      · exact pop (by rw [c4]; decide) (by rw [c4]; decide)
      · exact absurd c2 (by decide)
theorem KS.drop : ∀ {K : List Int32} (m : Nat), KS σ K → KS σ (K.drop m)
  | K, 0, h => h
  | [], m + 1, h => trivial
  | z :: t, m + 1, h => KS.drop (K := t) m h.2
theorem m_deep (hT : T.1 ≤ 120) (hR : MR σ T a A K) (h : Q (some (.int (nI (dpK K)))) σ) : X none d mX8_deep 0 [.ref 94, Unk, Unk] [] σ Q := by
  have b2 := hR.2.1.2.1
  have b1 := hR.2.1.1
  refine vX8_deep_0 ?_
  have key : ∀ m, m ≤ K.length → X none d mX8_deep 4 [.ref 94, .int (nI (dpK (K.drop m))), .int (nI (K.length - m))] [] σ Q := by
    intro m
    induction m with
    | zero =>
      intro _
      refine vX8_deep_4 ⟨fun _ => h, fun c => absurd (by rw [hR.2.2.2.1]; exact nI_le (by omega) (by omega)) c⟩
    | succ m ih =>
      intro hm
      have hi := ih (by omega)
      have hdr : K.drop m = K[m] :: K.drop (m + 1) := List.drop_eq_getElem_cons (by omega)
      have hk := KS.drop (σ := σ) m hR.2.2.2.2.1
      rw [hdr] at hi hk
      have hz := hk.1
      rw [List.length_drop] at hz
      have hv : vp_in (nI (K.length - (m + 1))) 128 := vin (by omega) (by decide)
      refine vX8_deep_4 ?_
      rw [nI_clamp (n := K.length - (m + 1)) (by omega), hz, nI_1, nI_1, Int32.add_zero, show K.length - (m + 1) + 1 = K.length - m by omega]
      rw [dpK, List.countP_cons] at hi
      refine ⟨fun c => absurd c (by rw [hR.2.2.2.1]; exact nI_ge (by omega) (by omega)), fun _ => ⟨hv, fun c1 => ?_, fun c1 => ⟨hv, fun c2 => ?_, fun c2 => ?_⟩⟩⟩
      · rw [if_pos (by simp [c1])] at hi
        exact hi
      · rw [if_neg (by simp [c1, c2])] at hi
        exact hi
      · rw [if_pos (by simp [c2])] at hi
        exact hi
  have := key K.length (Nat.le_refl _)
  rw [List.drop_length, Nat.sub_self, nI_0] at this
  exact this
end RDM
