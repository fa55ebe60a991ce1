/-! The model's reader runs beside the pure one. -/
section SIM
variable {d : Nat} {σ0 : Mem} {Q : Option Value → Mem → Prop} {T : Tx}
def G2 (T : Tx) (d : Nat) (σ0 : Mem) (Q : Option Value → Mem → Prop) (a : Nat) (A : Ar) (K : List Int32) : Prop := ∀ τ, MR τ T a A K → 10 * ar A ≤ a → Sm SMr σ0 τ → X none (d + 5) mX8_area 30 [.ref 94, .int 2] [] τ Q
def G1 (T : Tx) (d : Nat) (σ0 : Mem) (Q : Option Value → Mem → Prop) (a : Nat) (A : Ar) (K : List Int32) : Prop := ∀ τ, MR τ T a A K → Sm SMr σ0 τ → X none (d + 5) mX8_area 30 [.ref 94, .int 1] [] τ Q
def G3 (T : Tx) (d : Nat) (σ0 : Mem) (Q : Option Value → Mem → Prop) (a : Nat) (A : Ar) : Prop := ∀ τ, MR τ T a A [] → Sm SMr σ0 τ → X none (d + 5) mX8_area 30 [.ref 94, .int 3] [] τ Q
def GF (σ0 : Mem) (Q : Option Value → Mem → Prop) (p : Nat) : Prop := ∀ τ, τ.1 94 14 = nI p → Sm SMr σ0 τ → Q (some (.int ((-10) - nI p))) τ
theorem x_fault {p : Nat} {τ : Mem} (h : GF σ0 Q p) (hf : τ.1 94 14 = nI p) (hs : Sm SMr σ0 τ) : X none (d + 5) mX8_area 30 [.ref 94, .int 0] [] τ Q := by
  refine vX8_area_30 ⟨fun c => absurd c (by decide), fun _ => ⟨fun _ => ⟨fun _ => ?_, fun c => absurd rfl c⟩, fun c => absurd c (by decide)⟩⟩
  rw [hf]
  exact h τ hf hs
theorem MR.opn {σ τ : Mem} {b : Nat} {A : Ar} {K : List Int32} {z : Int32} (h : MR σ T b A K) (hb : b < T.1) (hs : Sm SMr σ τ) (h13 : τ.1 94 13 = nI (b + 1)) (h16 : τ.1 94 16 = nI (K.length + 1)) (h101 : τ.1 101 K.length = z) (hr : ∀ k, k < K.length → τ.1 101 k = σ.1 101 k) (h96 : ∀ k, τ.1 96 k = σ.1 96 k) : MR τ T (b + 1) A (z :: K) := by
  obtain ⟨h0, ⟨b1, b2, b3⟩, h1, h2, h3, h4⟩ := h
  exact ⟨h0.sm hs, ⟨hb, by rw [List.length_cons]; omega, by omega⟩, h13, by rw [List.length_cons]; exact h16, ⟨h101, h3.sm hr⟩, h4.off h96⟩
theorem dpK_le (K : List Int32) : dpK K ≤ K.length := List.countP_le_length
theorem g_spot (hT : T.1 ≤ 120) {a : Nat} {A : Ar} {K : List Int32} (h91 : nx T a = 91 → (∀ p, rct T (sk T a, A) = .inl p → GF σ0 Q p) ∧ (∀ t, rct T (sk T a, A) = .inr t → G1 T d σ0 Q t.1 (ntA K t.2) (ntK K)))
    (h40 : nx T a = 40 → dpK K ≠ 12 → G2 T d σ0 Q (sk T a + 1) A (-5 :: K)) (h33 : nx T a = 33 → dpK K ≠ 12 → G2 T d σ0 Q (sk T a + 1) A (-4 :: K)) (hbad : nx T a ≠ 91 → (nx T a = 40 ∨ nx T a = 33 → dpK K = 12) → GF σ0 Q (sk T a)) : G2 T d σ0 Q a A K := by
  intro τ hR hP hS
  have k1 := sk_ge T a
  refine vX8_area_30 ⟨fun c => absurd c (by decide), fun _ => ⟨fun c => absurd rfl c, fun _ => ⟨fun c => absurd rfl c, fun _ => ?_⟩⟩⟩
  refine vX8_spot_0 (m_next hT hR (fun τ1 R1 f1 s1 => ⟨_, rfl, fun c1 => ?_, fun c1 => ?_⟩))
  · have S1 := hS.tr (SNm.r s1)
    have hK : K.length ≤ 120 := by have := R1.2.1; omega
    have hdp : nI (dpK K) = 12 ↔ dpK K = 12 := nI_eq (b := 12) (by have := dpK_le K; omega) (by decide)
    have opn : ∀ (z : Int32) (τ5 : Mem), nx T a ≠ -1 → G2 T d σ0 Q (sk T a + 1) A (z :: K) → τ5 = w1 τ1 94 13 (τ1.1 94 13 + 1) → (vp_in (τ5.1 94 16) 128 ∧ (∀ τ6 : Mem, τ6 = (w1 τ5 101 (τ5.1 94 16).toNatClampNeg z) → (∀ τ7 : Mem, τ7 = (w1 τ6 94 16 ((τ6.1 94 16) + 1)) → ∃ u4 : Int32, some (Value.int 2) = some (.int u4) ∧ X none (d + 5) mX8_area 30 [.ref 94, .int u4] [] τ7 Q))) := by
      intro z τ5 hne hG e5
      have hlt := nx_lt hne
      rw [R1.2.2.1, nI_1] at e5
      have m16 : τ5.1 94 16 = nI K.length := by rw [e5, w1_k _ _ _ _ _ _ (by omega)]; exact R1.2.2.2.1
      rw [m16, nI_clamp (n := K.length) (by omega)]
      refine ⟨vin (by omega) (by decide), fun τ6 e6 τ7 e7 => ⟨2, rfl, ?_⟩⟩
      have m16' : τ6.1 94 16 = nI K.length := by rw [e6, w1_a _ _ _ _ _ _ (by omega)]; exact m16
      rw [m16', nI_1] at e7
      have s7 : Sm SMr τ1 τ7 := by
        rw [e7, e6, e5]
        exact ((Sm.rf.w1 (Or.inl ⟨rfl, Or.inl rfl⟩)).w1 (Or.inr (Or.inl rfl))).w1 (Or.inl ⟨rfl, Or.inr (Or.inr (Or.inl rfl))⟩)
      refine hG τ7 (R1.opn hlt s7 ?_ ?_ ?_ (fun k hk => ?_) (fun k => ?_)) (by omega) (S1.tr s7)
      · rw [e7, w1_k _ _ _ _ _ _ (by omega), e6, w1_a _ _ _ _ _ _ (by omega), e5, w1_s]
      · rw [e7, w1_s]
      · rw [e7, w1_a _ _ _ _ _ _ (by omega), e6, w1_s]
      · rw [e7, w1_a _ _ _ _ _ _ (by omega), e6, w1_k _ _ _ _ _ _ (by omega), e5, w1_a _ _ _ _ _ _ (by omega)]
      · rw [e7, w1_a _ _ _ _ _ _ (by omega), e6, w1_a _ _ _ _ _ _ (by omega), e5, w1_a _ _ _ _ _ _ (by omega)]
    refine ⟨fun c2 => m_deep hT R1 ⟨_, rfl, fun c3 τ5 e5 => ⟨fun c4 => ?_, fun c4 => absurd (c2.symm.trans c4) (by decide)⟩, fun c3 => ⟨_, rfl, ?_⟩⟩, fun c2 => ⟨fun c3 => ⟨_, rfl, ?_⟩, fun c3 => m_deep hT R1 ⟨_, rfl, fun c4 τ5 e5 => ⟨fun c5 => absurd c3 c5, fun c5 => ?_⟩, fun c4 => ⟨_, rfl, ?_⟩⟩⟩⟩
    · exact opn (-5) τ5 (by rw [c2]; decide) (h40 c2 (fun q => c3 (hdp.mpr q))) e5
    · exact x_fault (hbad c1 (fun _ => hdp.mp c3)) f1 S1
    · exact x_fault (hbad c1 (fun q => q.elim (fun q => absurd q c2) (fun q => absurd q c3))) f1 S1
    · exact opn (-4) τ5 (by rw [c3]; decide) (h33 c3 (fun q => c4 (hdp.mpr q))) e5
    · exact x_fault (hbad c1 (fun _ => hdp.mp c4)) f1 S1
  · have S1 := hS.tr (SNm.r s1)
    obtain ⟨g1, g2⟩ := h91 c1
    refine m_rect hT R1 (by omega) (fun p e τ2 f2 s2 => ⟨_, rfl, fun c => absurd rfl c, fun _ => ⟨_, rfl, x_fault (g1 p e) f2 (S1.tr s2)⟩⟩) (fun t e τ2 R2 s2 => ⟨_, rfl, fun _ => ?_, fun c => absurd c (by decide)⟩)
    exact m_notes hT K t.2 τ2 R2 (fun τ3 R3 s3 => ⟨rfl, _, rfl, g2 t e τ3 R3 ((S1.tr s2).tr (SDo.r s3))⟩)
theorem dsA_ar (b : Bool) : ∀ (K : List Int32) (A : Ar), ar (dsA b K A) = ar A
  | [], A => rfl
  | z :: t, A => by
    rw [dsA]
    split
    · rw [dsA_ar b t]; rfl
    · rfl
theorem MR.drp {σ τ : Mem} {a : Nat} {A : Ar} {z : Int32} {t : List Int32} (h : MR σ T a A (z :: t)) (e : τ = w1 σ 94 16 (nI t.length)) : MR τ T a A t ∧ Sm SDo σ τ := by
  obtain ⟨h0, ⟨b1, b2, b3⟩, h1, h2, h3, h4⟩ := h
  rw [List.length_cons] at b2
  have hs : Sm SDo σ τ := by rw [e]; exact Sm.rf.w1 (Or.inl ⟨rfl, rfl⟩)
  exact ⟨⟨h0.sm (SDo.r hs), ⟨b1, by omega, b3⟩, by rw [e, w1_k _ _ _ _ _ _ (by omega)]; exact h1, by rw [e, w1_s], h3.2.sm (fun k _ => by rw [e, w1_a _ _ _ _ _ _ (by omega)]), h4.off (fun k => by rw [e, w1_a _ _ _ _ _ _ (by omega)])⟩, hs⟩
theorem g_behind (hT : T.1 ≤ 120) {a : Nat} {A : Ar} {K : List Int32} (h38 : nx T a = 38 → G2 T d σ0 Q (sk T a + 1) (dsA true K A) (-3 :: dsK true K)) (h43 : nx T a = 43 → G2 T d σ0 Q (sk T a + 1) (dsA false K A) (-1 :: dsK false K)) (h45 : nx T a = 45 → G2 T d σ0 Q (sk T a + 1) (dsA false K A) (-2 :: dsK false K))
    (h41 : nx T a = 41 → (∀ z t, dsK false K = z :: t → G1 T d σ0 Q (sk T a + 1) (ntA t (dsA false K A)) (ntK t)) ∧ (dsK false K = [] → GF σ0 Q (sk T a))) (h59 : nx T a = 59 → (dsK false K = [] → G3 T d σ0 Q (sk T a + 1) (dsA false K A)) ∧ (dsK false K ≠ [] → GF σ0 Q (sk T a)))
    (hbad : nx T a ≠ 38 → nx T a ≠ 43 → nx T a ≠ 45 → nx T a ≠ 41 → nx T a ≠ 59 → GF σ0 Q (sk T a)) : G1 T d σ0 Q a A K := by
  intro τ hR hS
  have k1 := sk_ge T a
  refine vX8_area_30 ⟨fun _ => ⟨fun _ => ?_, fun c => absurd c (by decide)⟩, fun c => absurd rfl c⟩
  refine vX8_behind_0 (d := d + 2) (m_next hT hR (fun τ1 R1 f1 s1 => ⟨_, rfl, ?_⟩))
  have S1 := hS.tr (SNm.r s1)
  have b3 := hR.2.1.2.2
  -- another spot is awaited behind a sign
  have opn : ∀ (b : Bool) (z : Int32) (τ3 : Mem), nx T a ≠ -1 → nx T a ≠ 59 → nx T a ≠ 41 → MR τ3 T (sk T a) (dsA b K A) (dsK b K) → Sm SDo τ1 τ3 → G2 T d σ0 Q (sk T a + 1) (dsA b K A) (z :: dsK b K) → (vp_in (τ3.1 94 16) 128 ∧ (∀ τ7 : Mem, τ7 = (w1 τ3 101 (τ3.1 94 16).toNatClampNeg z) → (∀ τ8 : Mem, τ8 = (w1 τ7 94 16 ((τ7.1 94 16) + 1)) → (∀ τ9 : Mem, τ9 = (w1 τ8 94 13 ((τ8.1 94 13) + 1)) → ((¬ nx T a = 59 → ((¬ nx T a = 41 → ∃ u2 : Int32, some (Value.int 2) = some (.int u2) ∧ X none (d + 5) mX8_area 30 [.ref 94, .int u2] [] τ9 Q) ∧ (nx T a = 41 → ∃ u2 : Int32, some (Value.int 1) = some (.int u2) ∧ X none (d + 5) mX8_area 30 [.ref 94, .int u2] [] τ9 Q))) ∧ (nx T a = 59 → ∃ u2 : Int32, some (Value.int 3) = some (.int u2) ∧ X none (d + 5) mX8_area 30 [.ref 94, .int u2] [] τ9 Q)))))) := by
    intro b z τ3 hne h59' h41' R3 s3 hG
    have hlt := nx_lt hne
    have hK : (dsK b K).length ≤ 120 := by have := R3.2.1; omega
    rw [R3.2.2.2.1, nI_clamp (n := (dsK b K).length) (by omega)]
    refine ⟨vin (by omega) (by decide), fun τ7 e7 τ8 e8 τ9 e9 => ⟨fun _ => ⟨fun _ => ⟨2, rfl, ?_⟩, fun c => absurd c h41'⟩, fun c => absurd c h59'⟩⟩
    have m16 : τ7.1 94 16 = nI (dsK b K).length := by rw [e7, w1_a _ _ _ _ _ _ (by omega)]; exact R3.2.2.2.1
    rw [m16, nI_1] at e8
    have m13 : τ8.1 94 13 = nI (sk T a) := by rw [e8, w1_k _ _ _ _ _ _ (by omega), e7, w1_a _ _ _ _ _ _ (by omega)]; exact R3.2.2.1
    rw [m13, nI_1] at e9
    have s9 : Sm SMr τ3 τ9 := by
      rw [e9, e8, e7]
      exact ((Sm.rf.w1 (Or.inr (Or.inl rfl))).w1 (Or.inl ⟨rfl, Or.inr (Or.inr (Or.inl rfl))⟩)).w1 (Or.inl ⟨rfl, Or.inl rfl⟩)
    refine hG τ9 (R3.opn hlt s9 ?_ ?_ ?_ (fun k hk => ?_) (fun k => ?_)) (by rw [dsA_ar]; omega) ((S1.tr (SDo.r s3)).tr s9)
    · rw [e9, w1_s]
    · rw [e9, w1_k _ _ _ _ _ _ (by omega), e8, w1_s]
    · rw [e9, w1_a _ _ _ _ _ _ (by omega), e8, w1_a _ _ _ _ _ _ (by omega), e7, w1_s]
    · rw [e9, w1_a _ _ _ _ _ _ (by omega), e8, w1_a _ _ _ _ _ _ (by omega), e7, w1_k _ _ _ _ _ _ (by omega)]
    · rw [e9, w1_a _ _ _ _ _ _ (by omega), e8, w1_a _ _ _ _ _ _ (by omega), e7, w1_a _ _ _ _ _ _ (by omega)]
  have d0 : ∀ {Q' : Option Value → Mem → Prop}, (∀ τ3, MR τ3 T (sk T a) (dsA false K A) (dsK false K) → Sm SDo τ1 τ3 → Q' none τ3) → X none (d + 2 + 1) mX8_does 0 [.ref 94, .int 0] [] τ1 Q' := fun h => m_does hT false K A τ1 R1 h
  have d1 : ∀ {Q' : Option Value → Mem → Prop}, (∀ τ3, MR τ3 T (sk T a) (dsA true K A) (dsK true K) → Sm SDo τ1 τ3 → Q' none τ3) → X none (d + 2 + 1) mX8_does 0 [.ref 94, .int 1] [] τ1 Q' := fun h => m_does hT true K A τ1 R1 h
  have flt14 : ∀ τ3, Sm SDo τ1 τ3 → τ3.1 94 14 = nI (sk T a) := fun τ3 s => by rw [(s 94 14 (by unfold SDo; omega)).1]; exact f1
  refine ⟨fun c38 => ⟨fun c43 => d0 (fun τ3 R3 s3 => ⟨rfl, fun c => absurd c43 c, fun _ => opn false (-1) τ3 (by rw [c43]; decide) (by rw [c43]; decide) (by rw [c43]; decide) R3 s3 (h43 c43)⟩), fun c43 => ⟨fun c45 => ⟨fun c41 => ?_, fun c41 => ⟨fun c59 => ⟨_, rfl, x_fault (hbad c38 c43 c45 c41 c59) f1 S1⟩, fun c59 => ?_⟩⟩, fun c45 => d0 (fun τ3 R3 s3 => ⟨rfl, fun _ => opn false (-2) τ3 (by rw [c45]; decide) (by rw [c45]; decide) (by rw [c45]; decide) R3 s3 (h45 c45), fun c => absurd c c43⟩)⟩⟩, fun c38 => d1 (fun τ3 R3 s3 => ⟨rfl, opn true (-3) τ3 (by rw [c38]; decide) (by rw [c38]; decide) (by rw [c38]; decide) R3 s3 (h38 c38)⟩)⟩
  · obtain ⟨g1, g2⟩ := h41 c41
    have hlt := nx_lt (T := T) (a := a) (by rw [c41]; decide)
    have n59 : ¬ nx T a = 59 := by rw [c41]; decide
    refine d0 (fun τ3 R3 s3 => ⟨rfl, ?_⟩)
    have S3 := S1.tr (SDo.r s3)
    have f3 := flt14 τ3 s3
    cases hk : dsK false K with
    | nil =>
      rw [hk] at R3
      have h16 : τ3.1 94 16 ≤ 0 := by rw [R3.2.2.2.1]; show nI 0 ≤ 0; rw [nI_0]; decide
      exact ⟨fun _ => ⟨fun c => absurd c41 c, fun _ => ⟨_, rfl, x_fault (g2 hk) f3 S3⟩⟩, fun c => absurd h16 c⟩
    | cons z t =>
      rw [hk] at R3
      have hb2 := R3.2.1
      rw [List.length_cons] at hb2
      have h16 : τ3.1 94 16 = nI (t.length + 1) := R3.2.2.2.1
      have hn16 : ¬ τ3.1 94 16 ≤ 0 := by rw [h16]; exact nI_nle (by omega) (by omega)
      refine ⟨fun c => absurd c hn16, fun _ => ⟨fun c => absurd c41 c, fun _ => ⟨fun c => absurd c hn16, fun _ τ4 e4 => ?_⟩⟩⟩
      rw [h16, nI_pred] at e4
      obtain ⟨R4, s4⟩ := R3.drp e4
      refine m_notes hT t _ τ4 R4 (fun τ5 R5 s5 => ⟨rfl, fun τ6 e6 => ⟨fun _ => ⟨fun c => absurd c41 c, fun _ => ⟨1, rfl, ?_⟩⟩, fun c => absurd c n59⟩⟩)
      rw [R5.2.2.1, nI_1] at e6
      have s6 := sm_13 e6
      exact g1 z t hk τ6 (R5.nm s6 (Nat.le_succ _) hlt (by rw [e6, w1_s])) (((S3.tr (SDo.r s4)).tr (SDo.r s5)).tr (SNm.r s6))
  · obtain ⟨g1, g2⟩ := h59 c59
    have hlt := nx_lt (T := T) (a := a) (by rw [c59]; decide)
    refine d0 (fun τ3 R3 s3 => ⟨rfl, ?_⟩)
    have S3 := S1.tr (SDo.r s3)
    have f3 := flt14 τ3 s3
    cases hk : dsK false K with
    | nil =>
      rw [hk] at R3
      have h16 : τ3.1 94 16 = nI 0 := R3.2.2.2.1
      have hl16 : τ3.1 94 16 ≤ 0 := by rw [h16, nI_0]; decide
      refine ⟨fun _ => ⟨fun _ => ⟨fun _ τ4 e4 => ?_, fun c => absurd hl16 c⟩, fun c => absurd c c41⟩, fun c => absurd hl16 c⟩
      rw [h16, Int32.sub_zero] at e4
      have s4 : Sm SDo τ3 τ4 := by rw [e4]; exact Sm.rf.w1 (Or.inl ⟨rfl, rfl⟩)
      have R4 : MR τ4 T (sk T a) (dsA false K A) [] := by
        obtain ⟨h0, hb, h1, h2, h3, h4⟩ := R3
        exact ⟨h0.sm (SDo.r s4), hb, by rw [e4, w1_k _ _ _ _ _ _ (by omega)]; exact h1, by rw [e4, w1_s]; rfl, trivial, h4.off (fun k => by rw [e4, w1_a _ _ _ _ _ _ (by omega)])⟩
      refine m_notes hT [] _ τ4 R4 (fun τ5 R5 s5 => ⟨rfl, fun τ6 e6 => ⟨fun c => absurd c59 c, fun _ => ⟨3, rfl, ?_⟩⟩⟩)
      rw [R5.2.2.1, nI_1] at e6
      have s6 := sm_13 e6
      exact g1 hk τ6 (R5.nm s6 (Nat.le_succ _) hlt (by rw [e6, w1_s])) (((S3.tr (SDo.r s4)).tr (SDo.r s5)).tr (SNm.r s6))
    | cons z t =>
      rw [hk] at R3
      have hb2 := R3.2.1
      rw [List.length_cons] at hb2
      have h16 : τ3.1 94 16 = nI (t.length + 1) := R3.2.2.2.1
      have hn16 : ¬ τ3.1 94 16 ≤ 0 := by rw [h16]; exact nI_nle (by omega) (by omega)
      exact ⟨fun c => absurd c hn16, fun _ => ⟨fun _ => ⟨_, rfl, x_fault (g2 (by rw [hk]; exact List.cons_ne_nil z t)) f3 S3⟩, fun c => absurd c c41⟩⟩
theorem ds_tf : ∀ (K : List Int32) (A : Ar), dsK false (dsK true K) = dsK false K ∧ dsA false (dsK true K) (dsA true K A) = dsA false K A
  | [], A => ⟨rfl, rfl⟩
  | z :: t, A => by
    by_cases c : z = -3
    · have e1 : dsb true z = true := by rw [c]; decide
      have e2 : dsb false z = true := by rw [c]; decide
      have := ds_tf t (aS A (usg z))
      rw [dsK, dsA, if_pos e1, if_pos e1, dsK, dsA, if_pos e2, if_pos e2]
      exact this
    · have e1 : ¬ dsb true z = true := by simp [dsb, c]
      rw [dsK, dsA, if_neg e1, if_neg e1]
      exact ⟨rfl, rfl⟩
/-- a part may begin over these -/
def Kp (K : List Int32) : Prop := ntK K = K ∧ (∀ A, ntA K A = A) ∧ dsK true K = K ∧ ∀ A, dsA true K A = A
theorem Kp_nil : Kp [] := ⟨rfl, fun _ => rfl, rfl, fun _ => rfl⟩
theorem Kp_cons {z : Int32} {t : List Int32} (h : z = -5 ∨ z = -1 ∨ z = -2) : Kp (z :: t) := by
  have e1 : ¬ z = -4 := by rcases h with rfl | rfl | rfl <;> decide
  have e2 : ¬ dsb true z = true := by rcases h with rfl | rfl | rfl <;> decide
  exact ⟨by rw [ntK, if_neg e1], fun A => by rw [ntA, if_neg e1], by rw [dsK, if_neg e2], fun A => by rw [dsA, if_neg e2]⟩
/-- a spot's reader: the model comes from awaiting one to having one told -/
def SSp (T : Tx) (d : Nat) (σ0 : Mem) (Q : Option Value → Mem → Prop) (sp : Sx → Sum Nat Sx) (n : Nat) : Prop := ∀ a A K, dpK K = n → (∀ p, sp (a, A) = .inl p → GF σ0 Q p) → (∀ t, sp (a, A) = .inr t → G1 T d σ0 Q t.1 (ntA K t.2) (ntK K)) → G2 T d σ0 Q a A K
theorem nx_sk {a b : Nat} (h : sk T a = sk T b) : nx T a = nx T b := by rw [nx, nx, h]
theorem nx_far (hT : T.1 ≤ 120) {a : Nat} (h : 120 ≤ a) : nx T a = -1 := by
  have := sk_ge T a
  rw [nx, hr, if_neg (by omega)]
variable {sp : Sx → Sum Nat Sx} {n0 : Nat}
theorem sim_lp (hT : T.1 ≤ 120) (hsp : SSp T d σ0 Q sp n0) (hpos : ∀ s t, sp s = .inr t → s.1 < t.1) {K : List Int32} (hK : Kp K) (hn : dpK K = n0) : ∀ n (s : Sx) a A Y, dsK true Y = K → dsA true Y A = s.2 → sk T a = sk T s.1 → 120 ≤ s.1 + n → (∀ p, lpP T sp n s = .inl p → GF σ0 Q p) →
    (∀ t a' A' Y', lpP T sp n s = .inr t → sk T a' = sk T t.1 → nx T a' ≠ 38 → s.1 ≤ t.1 → dsK true Y' = K → dsA true Y' A' = t.2 → G1 T d σ0 Q a' A' Y') → G1 T d σ0 Q a A Y := by
  intro n
  induction n with
  | zero =>
    intro s a A Y h1 h2 h3 h4 hF hO
    have : nx T a = -1 := by rw [nx_sk h3]; exact nx_far hT (by omega)
    exact hO s a A Y rfl h3 (by rw [this]; decide) (Nat.le_refl _) h1 h2
  | succ n ih =>
    intro s a A Y h1 h2 h3 h4 hF hO
    have k1 := sk_ge T s.1
    rw [lpP] at hF hO
    by_cases c : nx T s.1 = 38
    · rw [if_pos c] at hF hO
      have ca : nx T a = 38 := by rw [nx_sk h3]; exact c
      refine g_behind hT (fun _ => ?_) (fun c2 => absurd (ca.symm.trans c2) (by decide)) (fun c2 => absurd (ca.symm.trans c2) (by decide)) (fun c2 => absurd (ca.symm.trans c2) (by decide)) (fun c2 => absurd (ca.symm.trans c2) (by decide)) (fun c2 => absurd ca c2)
      rw [h1, h2, h3]
      have e5 : dpK (-3 :: K) = n0 := by rw [← hn]; exact List.countP_cons_of_neg (by decide)
      refine hsp _ _ _ e5 (fun p e => hF p (by rw [e]; rfl)) (fun t e => ?_)
      have hlt := hpos _ _ e
      have hlt' : sk T s.1 + 1 < t.1 := hlt
      rw [e] at hF hO
      have e6 : ntA (-3 :: K) t.2 = t.2 := by rw [ntA, if_neg (by decide)]
      have e7 : ntK (-3 :: K) = -3 :: K := by rw [ntK, if_neg (by decide)]
      rw [e6, e7]
      refine ih (t.1, aS t.2 (-2)) t.1 t.2 (-3 :: K) ?_ ?_ rfl (by show 120 ≤ t.1 + n; omega) hF (fun t' a' A' Y' q1 q2 q3 q4 q5 q6 => hO t' a' A' Y' q1 q2 q3 (by have q4' : t.1 ≤ t'.1 := q4; omega) q5 q6)
      · rw [dsK, if_pos (by decide)]; exact hK.2.2.1
      · rw [dsA, if_pos (by decide), hK.2.2.2]; rfl
    · rw [if_neg c] at hO
      exact hO _ a A Y rfl (by rw [h3]; exact (sk_idem T s.1).symm) (by rw [nx_sk h3]; exact c) k1 h1 h2
theorem sim_pt (hT : T.1 ≤ 120) (hsp : SSp T d σ0 Q sp n0) (hpos : ∀ s t, sp s = .inr t → s.1 < t.1) {K : List Int32} (hK : Kp K) (hn : dpK K = n0) {s : Sx} (hF : ∀ p, ptP T sp s = .inl p → GF σ0 Q p) (hO : ∀ t a' A' Y', ptP T sp s = .inr t → sk T a' = sk T t.1 → nx T a' ≠ 38 → s.1 < t.1 → dsK true Y' = K → dsA true Y' A' = t.2 → G1 T d σ0 Q a' A' Y') : G2 T d σ0 Q s.1 s.2 K := by
  unfold ptP at hF hO
  refine hsp _ _ _ hn (fun p e => hF p (by rw [show sp s = .inl p from e]; rfl)) (fun t e => ?_)
  have e' : sp s = .inr t := e
  have hlt := hpos _ _ e'
  rw [e'] at hF hO
  rw [hK.1, hK.2.1]
  exact sim_lp hT hsp hpos hK hn 120 t t.1 t.2 K hK.2.2.1 (hK.2.2.2 _) rfl (by omega) hF (fun t' a' A' Y' q1 q2 q3 q4 q5 q6 => hO t' a' A' Y' q1 q2 q3 (by omega) q5 q6)
theorem sim_la (hT : T.1 ≤ 120) (hsp : SSp T d σ0 Q sp n0) (hpos : ∀ s t, sp s = .inr t → s.1 < t.1) {K : List Int32} (hK : Kp K) (hf1 : dsK false K = K) (hf2 : ∀ A, dsA false K A = A) (hn : dpK K = n0) : ∀ n (s : Sx) a A Y, dsK false Y = K → dsA false Y A = s.2 → sk T a = sk T s.1 → nx T a ≠ 38 → 120 ≤ s.1 + n → (∀ p, laP T sp n s = .inl p → GF σ0 Q p) →
    (∀ t a' A' Y', laP T sp n s = .inr t → sk T a' = sk T t.1 → nx T a' ≠ 38 → nx T a' ≠ 43 → nx T a' ≠ 45 → dsK false Y' = K → dsA false Y' A' = t.2 → G1 T d σ0 Q a' A' Y') → G1 T d σ0 Q a A Y := by
  intro n
  induction n with
  | zero =>
    intro s a A Y h1 h2 h3 h38 h4 hF hO
    have : nx T a = -1 := by rw [nx_sk h3]; exact nx_far hT (by omega)
    exact hO s a A Y rfl h3 h38 (by rw [this]; decide) (by rw [this]; decide) h1 h2
  | succ n ih =>
    intro s a A Y h1 h2 h3 h38 h4 hF hO
    have k1 := sk_ge T s.1
    rw [laP] at hF hO
    -- a part behind + or -
    have body : ∀ (z w : Int32), (z = -1 ∨ z = -2) → usg z = w → (∀ p, bd (ptP T sp (sk T s.1 + 1, s.2)) (fun t => laP T sp n (t.1, aS t.2 w)) = .inl p → GF σ0 Q p) → (∀ t a' A' Y', bd (ptP T sp (sk T s.1 + 1, s.2)) (fun t => laP T sp n (t.1, aS t.2 w)) = .inr t → sk T a' = sk T t.1 → nx T a' ≠ 38 → nx T a' ≠ 43 → nx T a' ≠ 45 → dsK false Y' = K → dsA false Y' A' = t.2 → G1 T d σ0 Q a' A' Y') → G2 T d σ0 Q (sk T a + 1) (dsA false Y A) (z :: dsK false Y) := by
      intro z w hz hw hF hO
      rw [h1, h2, h3]
      have e5 : dpK (z :: K) = n0 := by rw [← hn]; exact List.countP_cons_of_neg (by rcases hz with rfl | rfl <;> decide)
      refine sim_pt hT hsp hpos (Kp_cons (Or.inr hz)) e5 (s := (sk T s.1 + 1, s.2)) (fun p e => hF p (by rw [e]; rfl)) (fun t a' A' Y' e q2 q3 q4 q5 q6 => ?_)
      rw [e] at hF hO
      have q4' : sk T s.1 + 1 < t.1 := q4
      obtain ⟨u1, u2⟩ := ds_tf Y' A'
      rw [q5] at u1 u2
      rw [q6] at u2
      have ez : dsb false z = true := by rcases hz with rfl | rfl <;> decide
      rw [dsK, if_pos ez, hf1] at u1
      rw [dsA, if_pos ez, hf2, hw] at u2
      exact ih (t.1, aS t.2 w) a' A' Y' u1.symm u2.symm q2 q3 (by show 120 ≤ t.1 + n; omega) hF hO
    by_cases c : nx T s.1 = 43
    · rw [if_pos c] at hF hO
      have ca : nx T a = 43 := by rw [nx_sk h3]; exact c
      exact g_behind hT (fun c2 => absurd c2 h38) (fun _ => body (-1) (-3) (Or.inl rfl) (by decide) hF hO) (fun c2 => absurd (ca.symm.trans c2) (by decide)) (fun c2 => absurd (ca.symm.trans c2) (by decide)) (fun c2 => absurd (ca.symm.trans c2) (by decide)) (fun _ c2 => absurd ca c2)
    · rw [if_neg c] at hF hO
      by_cases c2 : nx T s.1 = 45
      · rw [if_pos c2] at hF hO
        have ca : nx T a = 45 := by rw [nx_sk h3]; exact c2
        exact g_behind hT (fun c3 => absurd c3 h38) (fun c3 => absurd (ca.symm.trans c3) (by decide)) (fun _ => body (-2) (-4) (Or.inr rfl) (by decide) hF hO) (fun c3 => absurd (ca.symm.trans c3) (by decide)) (fun c3 => absurd (ca.symm.trans c3) (by decide)) (fun _ _ c3 => absurd ca c3)
      · rw [if_neg c2] at hO
        exact hO _ a A Y rfl (by rw [h3]; exact (sk_idem T s.1).symm) h38 (by rw [nx_sk h3]; exact c) (by rw [nx_sk h3]; exact c2) h1 h2
theorem sim_ar (hT : T.1 ≤ 120) (hsp : SSp T d σ0 Q sp n0) (hpos : ∀ s t, sp s = .inr t → s.1 < t.1) {K : List Int32} (hK : Kp K) (hf1 : dsK false K = K) (hf2 : ∀ A, dsA false K A = A) (hn : dpK K = n0) {s : Sx} (hF : ∀ p, arP T sp s = .inl p → GF σ0 Q p)
    (hO : ∀ t a' A' Y', arP T sp s = .inr t → sk T a' = sk T t.1 → nx T a' ≠ 38 → nx T a' ≠ 43 → nx T a' ≠ 45 → dsK false Y' = K → dsA false Y' A' = t.2 → G1 T d σ0 Q a' A' Y') : G2 T d σ0 Q s.1 s.2 K := by
  unfold arP at hF hO
  refine sim_pt hT hsp hpos hK hn (fun p e => hF p (by rw [e]; rfl)) (fun t a' A' Y' e q2 q3 q4 q5 q6 => ?_)
  rw [e] at hF hO
  obtain ⟨u1, u2⟩ := ds_tf Y' A'
  rw [q5, hf1] at u1
  rw [q5, q6, hf2] at u2
  exact sim_la hT hsp hpos hK hf1 hf2 hn 120 t a' A' Y' u1.symm u2.symm q2 q3 (by omega) hF hO
theorem dgF_ge (L : Nat) (T : Tx) : ∀ f a v n, a ≤ (dgF L T f a v n).1
  | 0, a, v, n => Nat.le_refl a
  | f + 1, a, v, n => by
    rw [dgF]
    split
    · exact Nat.le_trans (Nat.le_succ a) (dgF_ge L T f (a + 1) _ (n + 1))
    · exact Nat.le_refl a
theorem ex_pos {c : Int32} {a b : Nat} (h : ex T c a = .inr b) : a < b := by
  have := sk_ge T a
  unfold ex at h
  split at h
  · cases h; omega
  · cases h
theorem rdN_pos {lo : Int32} {a : Nat} {q : Nat × Int32} (h : rdN T lo a = .inr q) : a ≤ q.1 := by
  have k1 := sk_ge T a
  have h1 : a ≤ (if nx T a = 45 then sk T a + 1 else sk T a) := by split <;> omega
  have h2 : a ≤ (dg 3 T (if nx T a = 45 then sk T a + 1 else sk T a)).1 := Nat.le_trans h1 (dgF_ge 3 T _ _ _ _)
  unfold rdN at h
  generalize dg 3 T (if nx T a = 45 then sk T a + 1 else sk T a) = R at h h2
  generalize decide (nx T a = 45) = m at h
  unfold numR at h
  by_cases c1 : R.2.2 = 0
  · rw [if_pos c1] at h
    cases h
  · rw [if_neg c1] at h
    by_cases c2 : 3 < R.2.2 ∨ (if m = true then -R.2.1 else R.2.1) < lo ∨ 500 < (if m = true then -R.2.1 else R.2.1)
    · rw [if_pos c2] at h
      cases h
    · rw [if_neg c2] at h
      cases h
      exact h2
theorem bd_inr {α β : Type} {x : Sum Nat α} {f : α → Sum Nat β} {t : β} (h : bd x f = .inr t) : ∃ a, x = .inr a ∧ f a = .inr t := by
  cases x with
  | inl p => cases h
  | inr a => exact ⟨a, rfl, h⟩
theorem rct_pos {s t : Sx} (h : rct T s = .inr t) : s.1 < t.1 := by
  unfold rct at h
  obtain ⟨a1, e1, h⟩ := bd_inr h
  obtain ⟨q1, e2, h⟩ := bd_inr h
  obtain ⟨a3, e3, h⟩ := bd_inr h
  obtain ⟨q2, e4, h⟩ := bd_inr h
  obtain ⟨a5, e5, h⟩ := bd_inr h
  obtain ⟨q3, e6, h⟩ := bd_inr h
  obtain ⟨a7, e7, h⟩ := bd_inr h
  obtain ⟨q4, e8, h⟩ := bd_inr h
  obtain ⟨a9, e9, h⟩ := bd_inr h
  cases h
  have := ex_pos e1
  have := rdN_pos e2
  have := ex_pos e3
  have := rdN_pos e4
  have := ex_pos e5
  have := rdN_pos e6
  have := ex_pos e7
  have := rdN_pos e8
  have := ex_pos e9
  show s.1 < a9
  omega
theorem lp_pos (hpos : ∀ s t, sp s = .inr t → s.1 < t.1) : ∀ n s t, lpP T sp n s = .inr t → s.1 ≤ t.1 := by
  intro n
  induction n with
  | zero => intro s t h; cases h; exact Nat.le_refl _
  | succ n ih =>
    intro s t h
    have k1 := sk_ge T s.1
    rw [lpP] at h
    split at h
    · obtain ⟨u, e1, h⟩ := bd_inr h
      have h1 : sk T s.1 + 1 < u.1 := hpos _ _ e1
      have h2 : u.1 ≤ t.1 := ih (u.1, aS u.2 (-2)) t h
      omega
    · cases h; exact k1
theorem pt_pos (hpos : ∀ s t, sp s = .inr t → s.1 < t.1) {s t : Sx} (h : ptP T sp s = .inr t) : s.1 < t.1 := by
  obtain ⟨u, e1, h⟩ := bd_inr h
  exact Nat.lt_of_lt_of_le (hpos _ _ e1) (lp_pos hpos _ _ _ h)
theorem la_pos (hpos : ∀ s t, sp s = .inr t → s.1 < t.1) : ∀ n s t, laP T sp n s = .inr t → s.1 ≤ t.1 := by
  intro n
  induction n with
  | zero => intro s t h; cases h; exact Nat.le_refl _
  | succ n ih =>
    intro s t h
    have k1 := sk_ge T s.1
    rw [laP] at h
    split at h
    · obtain ⟨u, e1, h⟩ := bd_inr h
      have h1 : sk T s.1 + 1 < u.1 := pt_pos hpos e1
      have h2 : u.1 ≤ t.1 := ih (u.1, aS u.2 (-3)) t h
      omega
    · split at h
      · obtain ⟨u, e1, h⟩ := bd_inr h
        have h1 : sk T s.1 + 1 < u.1 := pt_pos hpos e1
        have h2 : u.1 ≤ t.1 := ih (u.1, aS u.2 (-4)) t h
        omega
      · cases h; exact k1
theorem ar_pos (hpos : ∀ s t, sp s = .inr t → s.1 < t.1) {s t : Sx} (h : arP T sp s = .inr t) : s.1 < t.1 := by
  obtain ⟨u, e1, h⟩ := bd_inr h
  exact Nat.lt_of_lt_of_le (pt_pos hpos e1) (la_pos hpos _ _ _ h)
theorem sp_pos : ∀ r s t, spP T r s = .inr t → s.1 < t.1 := by
  intro r
  induction r with
  | zero =>
    intro s t h
    have k1 := sk_ge T s.1
    rw [spP] at h
    split at h
    · have : sk T s.1 < t.1 := rct_pos h
      omega
    · cases h
  | succ r ih =>
    intro s t h
    have k1 := sk_ge T s.1
    rw [spP] at h
    split at h
    · have : sk T s.1 < t.1 := rct_pos h
      omega
    · split at h
      · obtain ⟨u, e1, h⟩ := bd_inr h
        obtain ⟨b, e2, h⟩ := bd_inr h
        cases h
        have h1 : sk T s.1 + 1 < u.1 := ar_pos ih e1
        have h2 := ex_pos e2
        show s.1 < b
        omega
      · split at h
        · obtain ⟨u, e1, h⟩ := bd_inr h
          cases h
          have h1 : sk T s.1 + 1 < u.1 := ih _ _ e1
          show s.1 < u.1
          omega
        · cases h
theorem sim_sp (hT : T.1 ≤ 120) : ∀ r, r ≤ 12 → SSp T d σ0 Q (spP T r) (12 - r) := by
  intro r
  induction r with
  | zero =>
    intro _ a A K hn hF hO
    rw [spP] at hF hO
    refine g_spot hT (fun c => ⟨fun p e => hF p (by rw [if_pos c]; exact e), fun t e => hO t (by rw [if_pos c]; exact e)⟩) (fun _ c => absurd hn c) (fun _ c => absurd hn c) (fun c _ => hF _ (by rw [if_neg c]))
  | succ r ih =>
    intro hr a A K hn hF hO
    have hi := ih (by omega)
    rw [spP] at hF hO
    have hn12 : dpK K ≠ 12 := by omega
    have dpc : ∀ z : Int32, (z = -4 ∨ z = -5) → dpK (z :: K) = 12 - r := fun z hz => by
      have : dpK (z :: K) = dpK K + 1 := List.countP_cons_of_pos (by rcases hz with rfl | rfl <;> decide)
      omega
    refine g_spot hT (fun c => ⟨fun p e => hF p (by rw [if_pos c]; exact e), fun t e => hO t (by rw [if_pos c]; exact e)⟩) (fun c _ => ?_) (fun c _ => ?_) (fun c c2 => hF _ ?_)
    · have n91 : ¬ nx T a = 91 := by rw [c]; decide
      simp only [if_neg n91, if_pos c] at hF hO
      have f1 : dsK false (-5 :: K) = -5 :: K := by rw [dsK, if_neg (by decide)]
      have f2 : ∀ A, dsA false (-5 :: K) A = A := fun A => by rw [dsA, if_neg (by decide)]
      refine sim_ar hT hi (sp_pos r) (Kp_cons (Or.inl rfl)) f1 f2 (dpc (-5) (Or.inr rfl)) (s := (sk T a + 1, A)) (fun p e => hF p (by rw [e]; rfl)) (fun t a' A' Y' e q2 q38 q43 q45 q5 q6 => ?_)
      rw [e] at hF hO
      simp only [bd] at hF hO
      have hx : nx T a' = nx T t.1 := nx_sk q2
      by_cases c41 : nx T t.1 = 41
      · have e2 : ex T 41 t.1 = .inr (sk T t.1 + 1) := by rw [ex, if_pos c41]
        have c41' : nx T a' = 41 := hx.trans c41
        rw [e2] at hO
        refine g_behind hT (fun c2 => absurd c2 q38) (fun c2 => absurd c2 q43) (fun c2 => absurd c2 q45) (fun _ => ⟨fun z t' ek => ?_, fun ek => ?_⟩) (fun c2 => absurd (c41'.symm.trans c2) (by decide)) (fun _ _ _ c2 => absurd c41' c2)
        · rw [q5] at ek
          cases ek
          rw [q6, q2]
          exact hO _ rfl
        · rw [q5] at ek
          cases ek
      · have e2 : ex T 41 t.1 = .inl (sk T t.1) := by rw [ex, if_neg c41]
        rw [e2] at hF
        have hG : GF σ0 Q (sk T a') := by rw [q2]; exact hF _ rfl
        exact g_behind hT (fun c2 => absurd c2 q38) (fun c2 => absurd c2 q43) (fun c2 => absurd c2 q45) (fun c2 => absurd (hx.symm.trans c2) c41) (fun _ => ⟨fun ek => (by rw [q5] at ek; cases ek), fun _ => hG⟩) (fun _ _ _ _ _ => hG)
    · have n91 : ¬ nx T a = 91 := by rw [c]; decide
      have n40 : ¬ nx T a = 40 := by rw [c]; decide
      simp only [if_neg n91, if_neg n40, if_pos c] at hF hO
      refine hi _ _ _ (dpc (-4) (Or.inl rfl)) (fun p e => hF p (by rw [e]; rfl)) (fun t e => ?_)
      rw [e] at hO
      have := hO _ rfl
      rw [ntA, ntK, if_pos rfl, if_pos rfl]
      exact this
    · have n40 : ¬ nx T a = 40 := fun q => hn12 (c2 (Or.inl q))
      have n33 : ¬ nx T a = 33 := fun q => hn12 (c2 (Or.inr q))
      rw [if_neg c, if_neg n40, if_neg n33]
theorem g_end (hT : T.1 ≤ 120) (hby : ∀ k, k < T.1 → 0 ≤ T.2 k) {a : Nat} {A : Ar} (h1 : nx T a = -1 → ∀ τ, MR τ T (sk T a) A [] → Sm SMr σ0 τ → X none (d + 4) mX8_copyArea 0 [.ref 94, .int 546, .int 0, Unk] [] τ (fun r τ7 => r = none ∧ Q (some (.int (τ7.1 96 1))) τ7)) (h2 : nx T a ≠ -1 → GF σ0 Q (sk T a)) : G3 T d σ0 Q a A := by
  intro τ hR hS
  refine vX8_area_30 ⟨fun c => absurd c (by decide), fun _ => ⟨fun _ => ⟨fun c => absurd c (by decide), fun _ => ?_⟩, fun c => absurd c (by decide)⟩⟩
  refine m_next hT hR (fun τ1 R1 f1 s1 => ⟨_, rfl, fun c => ?_, fun c => ?_⟩)
  · refine h1 ?_ τ1 R1 (hS.tr (SNm.r s1))
    rw [nx, hr] at c ⊢
    by_cases q : sk T a < T.1
    · rw [if_pos q] at c
      exact absurd (hby _ q) (Int32.not_le.mpr c)
    · rw [if_neg q]
  · have hne : nx T a ≠ -1 := fun q => c (by rw [q]; decide)
    rw [f1]
    exact h2 hne τ1 f1 (hS.tr (SNm.r s1))
end SIM
section ARM
variable {d : Nat} {σ : Mem} {Q : Option Value → Mem → Prop} {S : Ab} {VA : Ar → Prop}
theorem MD.ar {τ : Mem} {A : Ar} (hva : ∀ A, VA A → WA A) (hw : WS VA S) (h : MD σ S) (hs : Sm (fun i k => SCM i k ∨ (i = 96 ∧ k < 182)) σ τ) (hA : MA τ 0 A) : MD τ (setA S A) := by
  obtain ⟨g1, g2, g3, g4, ⟨g5, g6⟩, ⟨g7, g8⟩, g9, g10, g11, g12⟩ := h
  refine ⟨g1.sm hw.1 (fun k _ _ => (hs 95 k (by unfold SCM; omega)).1), MH.sm hw.2.1.2 g2 (hs 94 2 (by unfold SCM; omega)).1 (fun k _ => (hs 95 k (by unfold SCM; omega)).1), fun i hi => ⟨?_, fun hk => ⟨?_, ?_⟩⟩, hA, ⟨?_, fun k hk => ?_⟩, ⟨?_, ?_⟩, ?_, ?_, ?_, ?_⟩
  · rw [(hs 97 i (by unfold SCM; omega)).1]; exact (g3 i hi).1
  · exact ((g3 i hi).2 hk).1.sm (hw.2.2.1 i hi hk).1 (fun k _ _ => (hs 95 k (by unfold SCM; omega)).1)
  · have wi := hva _ (hw.2.2.1 i hi hk).2
    exact ((g3 i hi).2 hk).2.sm ⟨wi.1, wi.2.1⟩ (fun k q1 q2 => (hs 96 k (by unfold SCM; omega)).1)
  · rw [(hs 94 6 (by unfold SCM; omega)).1]; exact g5
  · rw [(hs 98 k (by unfold SCM; omega)).1]; exact g6 k hk
  · rw [(hs 94 7 (by unfold SCM; omega)).2]; exact g7
  · rw [(hs 94 8 (by unfold SCM; omega)).2]; exact g8
  · rw [(hs 94 3 (by unfold SCM; omega)).1]; exact g9
  · rw [(hs 99 0 (by unfold SCM; omega)).1]; exact g10
  · rw [(hs 99 1 (by unfold SCM; omega)).1]; exact g11
  · rw [(hs 99 2 (by unfold SCM; omega)).1]; exact g12
theorem smr_scm : ∀ i k : Nat, SMr i k → SCM i k := fun i k q => by unfold SMr at q; unfold SCM; omega
theorem smr_94 : ∀ i k : Nat, SMr i k → SM94 i k := fun i k q => by unfold SMr at q; unfold SM94; omega
theorem q_area (hC : MD σ S) (hw : WS VA0 S) (h : OutM σ Q (o_area S)) : X none (d + 5) mX8_area 0 [.ref 94, Unk] [] σ Q := by
  have hva : ∀ A, VA0 A → WA A := fun A q => q.1
  have hT := hw.2.2.2.2.1
  have hby : ∀ k, k < (bT S).1 → 0 ≤ (bT S).2 k := fun k hk => (hw.2.2.2.2.2 k hk).1
  have g := g_rd (T := bT S) hT
  have hR0 : MT0 σ (bT S) := hC.2.2.2.2.1
  refine vX8_area_0 (fun τ1 e1 τ2 e2 τ3 e3 τ4 e4 => ?_)
  have s4 : Sm SMr σ τ4 := by
    rw [e4, e3, e2, e1]
    exact (((Sm.rf.w1 (Or.inr (Or.inr ⟨rfl, by omega⟩))).w1 (Or.inr (Or.inr ⟨rfl, by omega⟩))).w1 (Or.inl ⟨rfl, Or.inl rfl⟩)).w1 (Or.inl ⟨rfl, Or.inr (Or.inr (Or.inl rfl))⟩)
  have R4 : MR τ4 (bT S) 0 eA [] := by
    refine ⟨hR0.sm s4, ⟨Nat.zero_le _, Nat.le_refl _, Nat.zero_le _⟩, ?_, ?_, trivial, ?_, ?_, fun k hk => absurd hk (Nat.not_lt_zero k), fun k hk => absurd hk (Nat.not_lt_zero k)⟩
    · rw [e4, w1_k _ _ _ _ _ _ (by omega), e3, w1_s, nI_0]
    · rw [e4, w1_s]; exact nI_0.symm
    · rw [e4, w1_a _ _ _ _ _ _ (by omega), e3, w1_a _ _ _ _ _ _ (by omega), e2, w1_k _ _ _ _ _ _ (by omega), e1, w1_s]; exact nI_0.symm
    · rw [e4, w1_a _ _ _ _ _ _ (by omega), e3, w1_a _ _ _ _ _ _ (by omega), e2]; exact (w1_s _ _ _ _).trans nI_0.symm
  have flt : ∀ p, rdP (bT S) = .inl p → GF σ Q p := fun p e τ _ s => by
    rw [o_area, e] at h
    exact h τ (hC.sm hva hw s smr_scm) (s.mono smr_94)
  have good : ∀ t, rdP (bT S) = .inr t → ∀ τ a, MR τ (bT S) a t.2 [] → Sm SMr σ τ → X none (d + 4) mX8_copyArea 0 [.ref 94, .int 546, .int 0, Unk] [] τ (fun r τ7 => r = none ∧ Q (some (.int (τ7.1 96 1))) τ7) := fun t e τ a R s => by
    rw [o_area, e] at h
    rw [e] at g
    have g' : VA0 t.2 := g
    have := m_copyArea (σ := τ) (Q := fun r τ7 => r = none ∧ Q (some (.int (τ7.1 96 1))) τ7) (d := d + 4) (a := 546) (b := 0) (by omega) (by omega) (by omega) (fun τ2 hc hs2 => ⟨rfl, ?_⟩)
    · rw [nI_0] at this
      exact this
    · have hA2 : MA τ2 0 t.2 := R.2.2.2.2.2.shift ⟨g'.1.1, g'.1.2.1⟩ hc
      have e1 : τ2.1 96 1 = nI (ar t.2) := hA2.2.1
      rw [e1]
      have hs : Sm (fun i k => SCM i k ∨ (i = 96 ∧ k < 182)) σ τ2 := (s.mono (fun i k q => Or.inl (smr_scm i k q))).tr (hs2.mono (fun i k q => by unfold Bk6 at q; omega))
      exact h τ2 (MD.ar hva hw hC hs hA2) ((s.mono smr_94).tr (hs2.mono (fun i k q => by unfold Bk6 at q; unfold SM94; omega)))
  unfold rdP at flt good
  refine sim_ar (σ0 := σ) hT (sim_sp hT 12 (Nat.le_refl _)) (sp_pos 12) Kp_nil rfl (fun _ => rfl) rfl (s := (0, eA)) (fun p e => flt p (by rw [e]; rfl)) (fun t a' A' Y' e q2 q38 q43 q45 q5 q6 => ?_) τ4 R4 (Nat.le_refl _) s4
  rw [e] at flt good
  simp only [bd] at flt good
  have hx : nx (bT S) a' = nx (bT S) t.1 := nx_sk q2
  by_cases c59 : nx (bT S) t.1 = 59
  · have e2 : ex (bT S) 59 t.1 = .inr (sk (bT S) t.1 + 1) := by rw [ex, if_pos c59]
    have c59' : nx (bT S) a' = 59 := hx.trans c59
    rw [e2] at flt good
    simp only at flt good
    refine g_behind hT (fun c2 => absurd c2 q38) (fun c2 => absurd c2 q43) (fun c2 => absurd c2 q45) (fun c2 => absurd (c59'.symm.trans c2) (by decide)) (fun _ => ⟨fun _ => ?_, fun ek => absurd q5 ek⟩) (fun _ _ _ _ c2 => absurd c59' c2)
    rw [q6, q2]
    refine g_end hT hby (fun c τ R s => ?_) (fun c => ?_)
    · rw [if_pos c] at good
      exact good _ rfl τ _ R s
    · rw [if_neg c] at flt
      exact flt _ rfl
  · have e2 : ex (bT S) 59 t.1 = .inl (sk (bT S) t.1) := by rw [ex, if_neg c59]
    rw [e2] at flt
    have hG : GF σ Q (sk (bT S) a') := by rw [q2]; exact flt _ rfl
    exact g_behind hT (fun c2 => absurd c2 q38) (fun c2 => absurd c2 q43) (fun c2 => absurd c2 q45) (fun c2 => ⟨fun z t' ek => (by rw [q5] at ek; cases ek), fun _ => hG⟩) (fun c2 => absurd (hx.symm.trans c2) c59) (fun _ _ _ _ _ => hG)
end ARM
