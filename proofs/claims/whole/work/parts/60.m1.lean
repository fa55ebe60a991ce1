/-! The model's row of numbers: contracts of what moves points in it. -/
theorem k6 (e : Nat) : (6 : Int32) + nI e = nI (6 + e) := nI_add 6 e
theorem k128 (e : Nat) : (128 : Int32) + nI e = nI (128 + e) := nI_add 128 e
theorem k250 (e : Nat) : (250 : Int32) + nI e = nI (250 + e) := nI_add 250 e
theorem k372 (e : Nat) : (372 : Int32) + nI e = nI (372 + e) := nI_add 372 e
theorem k494 (e : Nat) : (494 : Int32) + nI e = nI (494 + e) := nI_add 494 e
theorem k616 (e : Nat) : (616 : Int32) + nI e = nI (616 + e) := nI_add 616 e
theorem k2034 (e : Nat) : (2034 : Int32) + nI e = nI (2034 + e) := nI_add 2034 e
theorem k678 (e : Nat) : (678 : Int32) * nI e = nI (678 * e) := pk_mul 678 e
theorem k678' (e : Nat) : nI e + (678 : Int32) = nI (e + 678) := nI_add e 678
/-- the model's own points, at the row's beginning -/
def MZ (σ : Mem) (F : Fl) : Prop := (σ.1 95 0 = nI (fn F) ∧ σ.1 95 1 = nI (fg F) ∧ σ.1 95 4 = fcar F ∧ σ.1 95 5 = fan F ∧ σ.1 95 3 = fkd F ∧ σ.1 95 2 = nI (fnx F)) ∧
  (∀ e, e < fn F → σ.1 95 (6 + e) = nI (fnum F e) ∧ σ.1 95 (128 + e) = fx F e ∧ σ.1 95 (250 + e) = fy F e ∧ σ.1 95 (372 + e) = fw F e ∧ σ.1 95 (494 + e) = (if fgo F e = 0 then 0 else 1)) ∧
  ∀ k, k < fg F → ∃ e, e < fn F ∧ fgo F e = k + 1 ∧ σ.1 95 (616 + k) = nI e
theorem MZ_iff {σ : Mem} {F : Fl} : MF σ 0 F ↔ MZ σ F := by
  simp only [MF, MZ, Nat.zero_add]
theorem gz {g : Nat} : (if g = 0 then (0 : Int32) else 1) = 0 ↔ g = 0 := by
  split
  · simp [*]
  · rename_i h
    simp [h]
theorem vin {k n : Nat} (h : k < n) (hn : n < 2 ^ 31) : vp_in (nI k) n := vp_in_nI h hn
def S95 : Nat → Nat → Prop := fun i k => i = 95 ∧ k < 678
section M1
variable {d : Nat} {σ : Mem} {Q : Option Value → Mem → Prop} {F : Fl}
theorem m_find (hn : fn F ≤ 121) (hM : MZ σ F) {nn : Int32} (hq : Q (some (.int (oi (fnd F nn)))) σ) : X none (d + 1) mX8_find 0 [.ref 94, .int nn, Unk] [] σ Q := by
  refine vX8_find_0 ?_
  have key : ∀ m k, fn F = k + m → (∀ e, e < k → pf F nn e = false) → X none (d + 1) mX8_find 2 [.ref 94, .int nn, .int (nI k)] [] σ Q := by
    intro m
    induction m with
    | zero =>
      intro k hk h0
      refine vX8_find_2 ⟨fun _ => Qe hq ?_, fun hc => absurd (by rw [hM.1.1]; exact nI_le (by omega) (by omega)) hc⟩
      rw [fnd, show fn F = k by omega, pik_nil _ h0]
      rfl
    | succ m ih =>
      intro k hk h0
      have hlt : k < fn F := by omega
      obtain ⟨a1, a2, a3, a4, a5⟩ := hM.2.1 k hlt
      have nx : pf F nn k = false → X none (d + 1) mX8_find 2 [.ref 94, .int nn, .int (nI k + 1)] [] σ Q := fun hp => by
        rw [nI_1]
        refine ih (k + 1) (by omega) (fun e he => ?_)
        by_cases hek : e = k
        · rw [hek]; exact hp
        · exact h0 e (by omega)
      refine vX8_find_2 ?_
      rw [k6, k494, nI_clamp (n := 6 + k) (by omega), nI_clamp (n := 494 + k) (by omega), a1, a5, gz]
      refine ⟨fun hc => absurd hc (by rw [hM.1.1]; exact nI_ge hlt (by omega)), fun _ => ⟨vin (by omega) (by decide), fun h1 => nx (by simp [pf, h1]), fun h1 => ⟨vin (by omega) (by decide), fun h2 => nx (by simp [pf, thr, h2]), fun h2 => Qe hq ?_⟩⟩⟩
      rw [fnd, pik_head (pf F nn) hlt h0 (by simp [pf, thr, h1, h2])]
      rfl
  rw [← nI_0]
  exact key (fn F) 0 (by omega) (fun e he => absurd he (Nat.not_lt_zero e))
theorem m_counts (hn : fn F ≤ 121) (hM : MZ σ F) {e : Nat} (he : e < fn F) (hq : Q (some (.int (wor F e))) σ) : X none d mX8_counts 0 [.ref 94, .int (nI e), Unk, Unk] [] σ Q := by
  obtain ⟨a1, a2, a3, a4, a5⟩ := hM.2.1 e he
  refine vX8_counts_0 ?_
  rw [k372, k250, k128, k6, nI_clamp (n := 372 + e) (by omega), nI_clamp (n := 250 + e) (by omega), nI_clamp (n := 128 + e) (by omega), nI_clamp (n := 6 + e) (by omega), a1, a2, a3, a4, hM.1.2.2.2.2.1]
  have v1 : vp_in (nI (372 + e)) 7458 := vin (by omega) (by decide)
  have v2 : vp_in (nI (250 + e)) 7458 := vin (by omega) (by decide)
  have v3 : vp_in (nI (128 + e)) 7458 := vin (by omega) (by decide)
  have v4 : vp_in (nI (6 + e)) 7458 := vin (by omega) (by decide)
  have dflt : (fkd F).toInt < 1 ∨ 5 < (fkd F).toInt → wor F e = 1 := fun h => by
    have q1 : (fkd F).toInt ≠ 1 := by omega
    have q2 : (fkd F).toInt ≠ 2 := by omega
    have q3 : (fkd F).toInt ≠ 3 := by omega
    have q4 : (fkd F).toInt ≠ 4 := by omega
    have q5 : (fkd F).toInt ≠ 5 := by omega
    simp [wor, q1, q2, q3, q4, q5]
  refine ⟨v1, v2, fun c => ⟨fun h => Qe hq (dflt h), fun h => Qe hq ?_, fun h => ⟨v3, v2, fun h1 => Qe hq ?_, fun h1 => Qe hq ?_⟩, fun h => Qe hq ?_, fun h => Qe hq ?_, fun h => ⟨v4, Qe hq ?_⟩⟩, fun c => ⟨fun h => Qe hq (dflt h), fun h => Qe hq ?_, fun h => ⟨v3, v2, fun h1 => Qe hq ?_, fun h1 => Qe hq ?_⟩, fun h => Qe hq ?_, fun h => Qe hq ?_, fun h => ⟨v4, Qe hq ?_⟩⟩⟩
  · simp [wor, h]
  · simp [wor, h, remI, h1]
  · simp [wor, h, remI, h1]
  · simp [wor, h]
  · simp [wor, h, c]
  · simp [wor, h, c, remI]
  · simp [wor, h]
  · simp [wor, h, remI, h1]
  · simp [wor, h, remI, h1]
  · simp [wor, h]
  · simp [wor, h, c]
  · simp [wor, h, c, remI]
def tro : Nat → Nat → Nat
  | 0, _ => 1
  | f + 1, r => if r % 2 = 1 then 2 * tro f (r / 2) else 1
theorem tro_lowb : ∀ n, n < 128 → nI (tro 8 n) = lowb (n + 1) := by decide +kernel
theorem m_carriedBy {n : Nat} (hn : n < 128) (hq : Q (some (.int (lowb (n + 1)))) σ) : X none d mX8_carriedBy 0 [.int (nI n), Unk, Unk] [] σ Q := by
  refine vX8_carriedBy_0 ?_
  have key : ∀ f r a, r < 2 ^ f → f ≤ 8 → a * tro f r = tro 8 n → X none d mX8_carriedBy 4 [.int (nI n), .int (nI a), .int (nI r)] [] σ Q := by
    intro f
    induction f with
    | zero =>
      intro r a hr hf ha
      have hr0 : r = 0 := by simpa using hr
      subst hr0
      refine vX8_carriedBy_4 ⟨fun _ => Qe hq ?_, fun c => absurd c (by rw [nI_0]; decide)⟩
      rw [← tro_lowb n hn, ← ha]
      simp [tro]
    | succ f ih =>
      intro r a hr hf ha
      have hr31 : r < 2 ^ 31 := Nat.lt_of_lt_of_le hr (Nat.pow_le_pow_right (by decide) (by omega))
      have e1 : nI r - nI r / 2 * 2 = nI (r % 2) := pk_rem (d := 2) hr31 (by decide) (by decide)
      have e2 : nI r / 2 = nI (r / 2) := pk_div (d := 2) hr31 (by decide) (by decide)
      have e3 : nI a * 2 = nI (a * 2) := pk_mul a 2
      refine vX8_carriedBy_4 ?_
      rw [e1, e2, e3, show (1 : Int32) = nI 1 from rfl, nI_eq (by omega) (by decide)]
      refine ⟨fun c => Qe hq ?_, fun c => ?_⟩
      · rw [← tro_lowb n hn, ← ha]
        simp [tro, c]
      · refine ih (r / 2) (a * 2) ?_ (by omega) ?_
        · rw [Nat.pow_succ] at hr; omega
        · rw [← ha]
          simp only [tro, c, if_true]
          rw [Nat.mul_assoc]
  exact key 8 n 1 (by omega) (Nat.le_refl _) (Nat.one_mul _)
theorem m_comes (hn : fn F < 121) (hM : MZ σ F) {x y w : Int32} (hq : ∀ τ, MZ τ (comeF F x y w) → Sm S95 σ τ → Q none τ) (hgo : ∀ k, k < fg F → True) : X none (d + 1) mX8_comes 0 [.ref 94, .int x, .int y, .int w, Unk] [] σ Q := by
  obtain ⟨⟨h0, h1, h4, h5, h3, h2⟩, hr, hg⟩ := hM
  refine vX8_comes_0 ?_
  rw [h0, k6, k128, k250, k372, k494, nI_clamp (n := 6 + fn F) (by omega), nI_clamp (n := 128 + fn F) (by omega), nI_clamp (n := 250 + fn F) (by omega), nI_clamp (n := 372 + fn F) (by omega), nI_clamp (n := 494 + fn F) (by omega)]
  refine m_carriedBy (by omega) ⟨_, rfl, fun τ3 e3 => ⟨vin (by omega) (by decide), fun τ4 e4 => ⟨vin (by omega) (by decide), fun τ5 e5 => ⟨vin (by omega) (by decide), fun τ6 e6 => ⟨vin (by omega) (by decide), fun τ7 e7 => ⟨vin (by omega) (by decide), fun τ8 e8 τ9 e9 τ10 e10 => ?_⟩⟩⟩⟩⟩⟩
  have lo : ∀ k, k < 6 → τ8.1 95 k = τ3.1 95 k := fun k hk => by rw [e8, w1_k _ _ _ _ _ _ (by omega), e7, w1_k _ _ _ _ _ _ (by omega), e6, w1_k _ _ _ _ _ _ (by omega), e5, w1_k _ _ _ _ _ _ (by omega), e4, w1_k _ _ _ _ _ _ (by omega)]
  have r80 : τ8.1 95 0 = nI (fn F) := by rw [lo 0 (by omega), e3, w1_k _ _ _ _ _ _ (by omega), h0]
  have r82 : τ8.1 95 2 = nI (fnx F) := by rw [lo 2 (by omega), e3, w1_k _ _ _ _ _ _ (by omega), h2]
  have r32 : τ3.1 95 2 = nI (fnx F) := by rw [e3, w1_k _ _ _ _ _ _ (by omega), h2]
  rw [r80, nI_1] at e9
  have r92 : τ9.1 95 2 = nI (fnx F) := by rw [e9, w1_k _ _ _ _ _ _ (by omega), r82]
  rw [r92, nI_1] at e10
  rw [r32] at e4
  rw [h4] at e3
  have hi : ∀ k, 6 ≤ k → τ10.1 95 k = τ8.1 95 k := fun k hk => by rw [e10, w1_k _ _ _ _ _ _ (by omega), e9, w1_k _ _ _ _ _ _ (by omega)]
  refine hq τ10 ⟨⟨?_, ?_, ?_, ?_, ?_, ?_⟩, fun e he => ?_, fun k hk => ?_⟩ ?_
  · rw [e10, w1_k _ _ _ _ _ _ (by omega), e9, w1_s]; rfl
  · rw [e10, w1_k _ _ _ _ _ _ (by omega), e9, w1_k _ _ _ _ _ _ (by omega), lo 1 (by omega), e3, w1_k _ _ _ _ _ _ (by omega), h1]; rfl
  · rw [e10, w1_k _ _ _ _ _ _ (by omega), e9, w1_k _ _ _ _ _ _ (by omega), lo 4 (by omega), e3, w1_s]; rfl
  · rw [e10, w1_k _ _ _ _ _ _ (by omega), e9, w1_k _ _ _ _ _ _ (by omega), lo 5 (by omega), e3, w1_k _ _ _ _ _ _ (by omega), h5]; rfl
  · rw [e10, w1_k _ _ _ _ _ _ (by omega), e9, w1_k _ _ _ _ _ _ (by omega), lo 3 (by omega), e3, w1_k _ _ _ _ _ _ (by omega), h3]; rfl
  · rw [e10, w1_s]; rfl
  · have he2 : e < fn F + 1 := he
    rw [hi _ (by omega), hi _ (by omega), hi _ (by omega), hi _ (by omega), hi _ (by omega)]
    show τ8.1 95 (6 + e) = nI (upN (fnum F) (fn F) (fnx F) e) ∧ τ8.1 95 (128 + e) = upN (fx F) (fn F) x e ∧ τ8.1 95 (250 + e) = upN (fy F) (fn F) y e ∧ τ8.1 95 (372 + e) = upN (fw F) (fn F) w e ∧ τ8.1 95 (494 + e) = (if upN (fgo F) (fn F) 0 e = 0 then 0 else 1)
    by_cases hk : e = fn F
    · subst hk
      subst e4 e5 e6 e7 e8
      refine ⟨?_, ?_, ?_, ?_, ?_⟩
      · rw [w1_k _ _ _ _ _ _ (by omega), w1_k _ _ _ _ _ _ (by omega), w1_k _ _ _ _ _ _ (by omega), w1_k _ _ _ _ _ _ (by omega), w1_s, upN, if_pos rfl]
      · rw [w1_k _ _ _ _ _ _ (by omega), w1_k _ _ _ _ _ _ (by omega), w1_k _ _ _ _ _ _ (by omega), w1_s, upN, if_pos rfl]
      · rw [w1_k _ _ _ _ _ _ (by omega), w1_k _ _ _ _ _ _ (by omega), w1_s, upN, if_pos rfl]
      · rw [w1_k _ _ _ _ _ _ (by omega), w1_s, upN, if_pos rfl]
      · rw [w1_s, upN, if_pos rfl]; rfl
    · obtain ⟨a1, a2, a3, a4, a5⟩ := hr e (by omega)
      have up : ∀ k, k < 494 + fn F → k ≠ 6 + fn F → k ≠ 128 + fn F → k ≠ 250 + fn F → k ≠ 372 + fn F → k ≠ 4 → τ8.1 95 k = σ.1 95 k := fun k q0 q1 q2 q3 q4 q5 => by rw [e8, w1_k _ _ _ _ _ _ (by omega), e7, w1_k _ _ _ _ _ _ q4, e6, w1_k _ _ _ _ _ _ q3, e5, w1_k _ _ _ _ _ _ q2, e4, w1_k _ _ _ _ _ _ q1, e3, w1_k _ _ _ _ _ _ q5]
      rw [up (6 + e) (by omega) (by omega) (by omega) (by omega) (by omega) (by omega), up (128 + e) (by omega) (by omega) (by omega) (by omega) (by omega) (by omega), up (250 + e) (by omega) (by omega) (by omega) (by omega) (by omega) (by omega), up (372 + e) (by omega) (by omega) (by omega) (by omega) (by omega) (by omega), up (494 + e) (by omega) (by omega) (by omega) (by omega) (by omega) (by omega)]
      simp only [upN, if_neg hk]
      exact ⟨a1, a2, a3, a4, a5⟩
  · obtain ⟨e, q1, q2, q3⟩ := hg k hk
    refine ⟨e, ?_, ?_, ?_⟩
    · show e < fn F + 1; omega
    · show upN (fgo F) (fn F) 0 e = k + 1
      rw [upN, if_neg (by omega)]; exact q2
    · rw [hi _ (by omega), e8, w1_k _ _ _ _ _ _ (by omega), e7, w1_k _ _ _ _ _ _ (by omega), e6, w1_k _ _ _ _ _ _ (by omega), e5, w1_k _ _ _ _ _ _ (by omega), e4, w1_k _ _ _ _ _ _ (by omega), e3, w1_k _ _ _ _ _ _ (by omega)]
      exact q3
  · rw [e10, e9, e8, e7, e6, e5, e4, e3]
    exact (((((((Sm.rf.w1 ⟨rfl, by omega⟩).w1 ⟨rfl, by omega⟩).w1 ⟨rfl, by omega⟩).w1 ⟨rfl, by omega⟩).w1 ⟨rfl, by omega⟩).w1 ⟨rfl, by omega⟩).w1 ⟨rfl, by omega⟩).w1 ⟨rfl, by omega⟩
theorem m_laysAnew (hn : fn F ≤ 121) (hM : MZ σ F) (hq : ∀ τ, MZ τ (anewF F) → Sm S95 σ τ → Q none τ) : X none (d + 1) mX8_laysAnew 0 [.ref 94, Unk, Unk] [] σ Q := by
  obtain ⟨⟨h0, h1, h4, h5, h3, h2⟩, hr, hg⟩ := hM
  refine vX8_laysAnew_0 ?_
  have second : ∀ m i (τ : Mem), fn F = i + m → Sm S95 σ τ → (∀ k, k < 6 → τ.1 95 k = σ.1 95 k) →
      (∀ j, j < cnt (thr F) (fn F) → τ.1 95 (6 + j) = nI (fnum F ((pik (thr F) (fn F)).getD j 0)) ∧ τ.1 95 (128 + j) = fx F ((pik (thr F) (fn F)).getD j 0) ∧ τ.1 95 (250 + j) = fy F ((pik (thr F) (fn F)).getD j 0) ∧ τ.1 95 (372 + j) = fw F ((pik (thr F) (fn F)).getD j 0)) →
      (∀ j, j < i → τ.1 95 (494 + j) = 0) → X none (d + 1) mX8_laysAnew 111 [.ref 94, .int (nI (cnt (thr F) (fn F))), .int (nI i)] [] τ Q := by
    intro m
    induction m with
    | zero =>
      intro i τ hi hs hlo hrow hz
      refine vX8_laysAnew_111 ⟨fun _ τ1 e1 τ2 e2 τ3 e3 => ?_, fun c => absurd (by rw [hlo 0 (by omega), h0]; exact nI_le (by omega) (by omega)) c⟩
      have hc := cnt_le (thr F) (fn F)
      have up : ∀ k, 6 ≤ k → τ3.1 95 k = τ.1 95 k := fun k hk => by rw [e3, w1_k _ _ _ _ _ _ (by omega), e2, w1_k _ _ _ _ _ _ (by omega), e1, w1_k _ _ _ _ _ _ (by omega)]
      refine hq τ3 ⟨⟨?_, ?_, ?_, ?_, ?_, ?_⟩, fun e he => ?_, fun k hk => absurd hk (Nat.not_lt_zero k)⟩ ?_
      · rw [e3, w1_k _ _ _ _ _ _ (by omega), e2, w1_k _ _ _ _ _ _ (by omega), e1, w1_s]; rfl
      · rw [e3, w1_k _ _ _ _ _ _ (by omega), e2, w1_s]; exact nI_0.symm
      · rw [e3, w1_k _ _ _ _ _ _ (by omega), e2, w1_k _ _ _ _ _ _ (by omega), e1, w1_k _ _ _ _ _ _ (by omega), hlo 4 (by omega), h4]; rfl
      · rw [e3, w1_s, e2, w1_k _ _ _ _ _ _ (by omega), e1, w1_k _ _ _ _ _ _ (by omega), hlo 5 (by omega), h5]; rfl
      · rw [e3, w1_k _ _ _ _ _ _ (by omega), e2, w1_k _ _ _ _ _ _ (by omega), e1, w1_k _ _ _ _ _ _ (by omega), hlo 3 (by omega), h3]; rfl
      · rw [e3, w1_k _ _ _ _ _ _ (by omega), e2, w1_k _ _ _ _ _ _ (by omega), e1, w1_k _ _ _ _ _ _ (by omega), hlo 2 (by omega), h2]; rfl
      · have he2 : e < cnt (thr F) (fn F) := he
        obtain ⟨a1, a2, a3, a4⟩ := hrow e he2
        rw [up _ (by omega), up _ (by omega), up _ (by omega), up _ (by omega), up _ (by omega)]
        exact ⟨a1, a2, a3, a4, by rw [hz e (by omega)]; rfl⟩
      · rw [e3, e2, e1]
        exact ((hs.w1 ⟨rfl, by omega⟩).w1 ⟨rfl, by omega⟩).w1 ⟨rfl, by omega⟩
    | succ m ih =>
      intro i τ hi hs hlo hrow hz
      have hlt : i < fn F := by omega
      have hc := cnt_le (thr F) (fn F)
      refine vX8_laysAnew_111 ?_
      rw [k494, nI_clamp (n := 494 + i) (by omega), nI_1]
      refine ⟨fun c => absurd c (by rw [hlo 0 (by omega), h0]; exact nI_ge hlt (by omega)), fun _ => ⟨vin (by omega) (by decide), fun τ4 e4 => ?_⟩⟩
      refine ih (i + 1) τ4 (by omega) (by rw [e4]; exact hs.w1 ⟨rfl, by omega⟩) (fun k hk => by rw [e4, w1_k _ _ _ _ _ _ (by omega)]; exact hlo k hk) (fun j hj => ?_) (fun j hj => ?_)
      · rw [e4, w1_k _ _ _ _ _ _ (by omega), w1_k _ _ _ _ _ _ (by omega), w1_k _ _ _ _ _ _ (by omega), w1_k _ _ _ _ _ _ (by omega)]
        exact hrow j hj
      · by_cases hji : j = i
        · rw [e4, hji, w1_s]
        · rw [e4, w1_k _ _ _ _ _ _ (by omega)]
          exact hz j (by omega)
  have first : ∀ m i (τ : Mem), fn F = i + m → Sm S95 σ τ → (∀ k, k < 6 → τ.1 95 k = σ.1 95 k) → (∀ k, 494 ≤ k → τ.1 95 k = σ.1 95 k) →
      (∀ j, j < cnt (thr F) i → τ.1 95 (6 + j) = nI (fnum F ((pik (thr F) (fn F)).getD j 0)) ∧ τ.1 95 (128 + j) = fx F ((pik (thr F) (fn F)).getD j 0) ∧ τ.1 95 (250 + j) = fy F ((pik (thr F) (fn F)).getD j 0) ∧ τ.1 95 (372 + j) = fw F ((pik (thr F) (fn F)).getD j 0)) →
      (∀ j, cnt (thr F) i ≤ j → j < fn F → τ.1 95 (6 + j) = σ.1 95 (6 + j) ∧ τ.1 95 (128 + j) = σ.1 95 (128 + j) ∧ τ.1 95 (250 + j) = σ.1 95 (250 + j) ∧ τ.1 95 (372 + j) = σ.1 95 (372 + j)) →
      X none (d + 1) mX8_laysAnew 4 [.ref 94, .int (nI (cnt (thr F) i)), .int (nI i)] [] τ Q := by
    intro m
    induction m with
    | zero =>
      intro i τ hi hs hlo hgo hrow hrest
      have hin : fn F = i := by omega
      refine vX8_laysAnew_4 ⟨fun _ => ?_, fun c => absurd (by rw [hlo 0 (by omega), h0]; exact nI_le (by omega) (by omega)) c⟩
      have := second (fn F) 0 τ (by omega) hs hlo (by rw [hin] at hrow ⊢; exact hrow) (fun j hj => absurd hj (Nat.not_lt_zero j))
      rw [nI_0] at this
      rw [← hin]
      exact this
    | succ m ih =>
      intro i τ hi hs hlo hgo hrow hrest
      have hlt : i < fn F := by omega
      have hc := cnt_le (thr F) i
      obtain ⟨a1, a2, a3, a4, a5⟩ := hr i hlt
      obtain ⟨b1, b2, b3, b4⟩ := hrest i hc hlt
      refine vX8_laysAnew_4 ?_
      rw [k494, nI_clamp (n := 494 + i) (by omega), hgo (494 + i) (by omega), a5, gz, nI_1, nI_1, k6, k6, k128, k128, k250, k250, k372, k372, nI_clamp (n := 6 + i) (by omega), nI_clamp (n := 128 + i) (by omega), nI_clamp (n := 250 + i) (by omega), nI_clamp (n := 372 + i) (by omega), nI_clamp (n := 6 + cnt (thr F) i) (by omega), nI_clamp (n := 128 + cnt (thr F) i) (by omega), nI_clamp (n := 250 + cnt (thr F) i) (by omega), nI_clamp (n := 372 + cnt (thr F) i) (by omega)]
      refine ⟨fun c => absurd c (by rw [hlo 0 (by omega), h0]; exact nI_ge hlt (by omega)), fun _ => ⟨vin (by omega) (by decide), fun c => ?_, fun c => ⟨vin (by omega) (by decide), vin (by omega) (by decide), fun τ1 e1 => ⟨vin (by omega) (by decide), vin (by omega) (by decide), fun τ2 e2 => ⟨vin (by omega) (by decide), vin (by omega) (by decide), fun τ3 e3 => ⟨vin (by omega) (by decide), vin (by omega) (by decide), fun τ4 e4 => ?_⟩⟩⟩⟩⟩⟩
      · have hp : thr F i = false := by simp [thr, c]
        have hci : cnt (thr F) (i + 1) = cnt (thr F) i := by simp [cnt, hp]
        have := ih (i + 1) τ (by omega) hs hlo hgo (by rw [hci]; exact hrow) (by rw [hci]; exact hrest)
        rw [hci] at this
        exact this
      · have hp : thr F i = true := by simp [thr, c]
        have hci : cnt (thr F) (i + 1) = cnt (thr F) i + 1 := by simp [cnt, hp]
        have hgi := pik_get (thr F) hlt hp
        rw [b1, a1] at e1
        have q2 : τ1.1 95 (128 + i) = fx F i := by rw [e1, w1_k _ _ _ _ _ _ (by omega), b2, a2]
        rw [q2] at e2
        have q3 : τ2.1 95 (250 + i) = fy F i := by rw [e2, w1_k _ _ _ _ _ _ (by omega), e1, w1_k _ _ _ _ _ _ (by omega), b3, a3]
        rw [q3] at e3
        have q4 : τ3.1 95 (372 + i) = fw F i := by rw [e3, w1_k _ _ _ _ _ _ (by omega), e2, w1_k _ _ _ _ _ _ (by omega), e1, w1_k _ _ _ _ _ _ (by omega), b4, a4]
        rw [q4] at e4
        have up : ∀ k, k ≠ 6 + cnt (thr F) i → k ≠ 128 + cnt (thr F) i → k ≠ 250 + cnt (thr F) i → k ≠ 372 + cnt (thr F) i → τ4.1 95 k = τ.1 95 k := fun k z1 z2 z3 z4 => by rw [e4, w1_k _ _ _ _ _ _ z4, e3, w1_k _ _ _ _ _ _ z3, e2, w1_k _ _ _ _ _ _ z2, e1, w1_k _ _ _ _ _ _ z1]
        have := ih (i + 1) τ4 (by omega) (by rw [e4, e3, e2, e1]; exact (((hs.w1 ⟨rfl, by omega⟩).w1 ⟨rfl, by omega⟩).w1 ⟨rfl, by omega⟩).w1 ⟨rfl, by omega⟩)
          (fun k hk => by rw [up k (by omega) (by omega) (by omega) (by omega)]; exact hlo k hk)
          (fun k hk => by rw [up k (by omega) (by omega) (by omega) (by omega)]; exact hgo k hk)
          (fun j hj => by
            rw [hci] at hj
            by_cases hjk : j = cnt (thr F) i
            · subst hjk
              rw [hgi]
              refine ⟨?_, ?_, ?_, ?_⟩
              · rw [e4, w1_k _ _ _ _ _ _ (by omega), e3, w1_k _ _ _ _ _ _ (by omega), e2, w1_k _ _ _ _ _ _ (by omega), e1, w1_s]
              · rw [e4, w1_k _ _ _ _ _ _ (by omega), e3, w1_k _ _ _ _ _ _ (by omega), e2, w1_s]
              · rw [e4, w1_k _ _ _ _ _ _ (by omega), e3, w1_s]
              · rw [e4, w1_s]
            · rw [up (6 + j) (by omega) (by omega) (by omega) (by omega), up (128 + j) (by omega) (by omega) (by omega) (by omega), up (250 + j) (by omega) (by omega) (by omega) (by omega), up (372 + j) (by omega) (by omega) (by omega) (by omega)]
              exact hrow j (by omega))
          (fun j hj hj2 => by
            rw [hci] at hj
            rw [up (6 + j) (by omega) (by omega) (by omega) (by omega), up (128 + j) (by omega) (by omega) (by omega) (by omega), up (250 + j) (by omega) (by omega) (by omega) (by omega), up (372 + j) (by omega) (by omega) (by omega) (by omega)]
            exact hrest j (by omega) hj2)
        rw [hci] at this
        exact this
  have := first (fn F) 0 σ (by omega) Sm.rf (fun _ _ => rfl) (fun _ _ => rfl) (fun j hj => absurd hj (Nat.not_lt_zero j)) (fun j _ _ => ⟨rfl, rfl, rfl, rfl⟩)
  simp only [cnt, nI_0] at this
  exact this
theorem m_goes (hw : WF F) (hM : MZ σ F) {e : Nat} (he : e < fn F) (ht : thr F e = true) (hq : ∀ τ, MZ τ (goF F e) → Sm S95 σ τ → Q none τ) : X none (d + 2) mX8_goes 0 [.ref 94, .int (nI e)] [] σ Q := by
  have hn := hw.n120
  have hg60 := hw.g60
  have hgn := hw.1.2.1
  have hcnt := hw.2.1
  have hpos : 0 < cnt (thr F) (fn F) := by have := cnt_lt_of (p := thr F) he ht; omega
  obtain ⟨⟨h0, h1, h4, h5, h3, h2⟩, hr, hg⟩ := hM
  refine vX8_goes_0 ?_
  rw [h1, k494, nI_clamp (n := 494 + e) (by omega)]
  refine m_carriedBy (by omega) ⟨_, rfl, fun τ3 e3 => ⟨vin (by omega) (by decide), fun τ4 e4 => ?_⟩⟩
  rw [h4] at e3
  have r41 : τ4.1 95 1 = nI (fg F) := by rw [e4, w1_k _ _ _ _ _ _ (by omega), e3, w1_k _ _ _ _ _ _ (by omega), h1]
  rw [r41, k616, nI_clamp (n := 616 + fg F) (by omega)]
  refine ⟨vin (by omega) (by decide), fun τ5 e5 τ6 e6 => ?_⟩
  have r51 : τ5.1 95 1 = nI (fg F) := by rw [e5, w1_k _ _ _ _ _ _ (by omega), r41]
  rw [r51, nI_1] at e6
  have up : ∀ k, k ≠ 4 → k ≠ 494 + e → k ≠ 616 + fg F → k ≠ 1 → τ6.1 95 k = σ.1 95 k := fun k z1 z2 z3 z4 => by rw [e6, w1_k _ _ _ _ _ _ z4, e5, w1_k _ _ _ _ _ _ z3, e4, w1_k _ _ _ _ _ _ z2, e3, w1_k _ _ _ _ _ _ z1]
  have r61 : τ6.1 95 1 = nI (fg F + 1) := by rw [e6, w1_s]
  have r60 : τ6.1 95 0 = nI (fn F) := by rw [up 0 (by omega) (by omega) (by omega) (by omega), h0]
  have hsm : Sm S95 σ τ6 := by
    rw [e6, e5, e4, e3]
    exact (((Sm.rf.w1 ⟨rfl, by omega⟩).w1 ⟨rfl, by omega⟩).w1 ⟨rfl, by omega⟩).w1 ⟨rfl, by omega⟩
  have hG : MZ τ6 (goneF F e) := by
    refine ⟨⟨r60, r61, ?_, ?_, ?_, ?_⟩, fun j hj => ?_, fun k hk => ?_⟩
    · rw [e6, w1_k _ _ _ _ _ _ (by omega), e5, w1_k _ _ _ _ _ _ (by omega), e4, w1_k _ _ _ _ _ _ (by omega), e3, w1_s]; rfl
    · rw [up 5 (by omega) (by omega) (by omega) (by omega), h5]; rfl
    · rw [up 3 (by omega) (by omega) (by omega) (by omega), h3]; rfl
    · rw [up 2 (by omega) (by omega) (by omega) (by omega), h2]; rfl
    · have hj2 : j < fn F := hj
      obtain ⟨c1, c2, c3, c4, c5⟩ := hr j hj2
      rw [up (6 + j) (by omega) (by omega) (by omega) (by omega), up (128 + j) (by omega) (by omega) (by omega) (by omega), up (250 + j) (by omega) (by omega) (by omega) (by omega), up (372 + j) (by omega) (by omega) (by omega) (by omega)]
      refine ⟨c1, c2, c3, c4, ?_⟩
      show τ6.1 95 (494 + j) = (if upN (fgo F) e (fg F + 1) j = 0 then 0 else 1)
      by_cases hje : j = e
      · subst hje
        rw [e6, w1_k _ _ _ _ _ _ (by omega), e5, w1_k _ _ _ _ _ _ (by omega), e4, w1_s, upN, if_pos rfl, if_neg (by omega)]
      · rw [up (494 + j) (by omega) (by omega) (by omega) (by omega), upN, if_neg hje]
        exact c5
    · have hk2 : k < fg F + 1 := hk
      by_cases hkg : k = fg F
      · subst hkg
        refine ⟨e, he, ?_, ?_⟩
        · show upN (fgo F) e (fg F + 1) e = fg F + 1
          rw [upN, if_pos rfl]
        · rw [e6, w1_k _ _ _ _ _ _ (by omega), e5, w1_s]
      · obtain ⟨i, q1, q2, q3⟩ := hg k (by omega)
        have hie : i ≠ e := fun q => by
          rw [q, thr_iff.mp ht] at q2
          exact absurd q2 (by omega)
        refine ⟨i, q1, ?_, ?_⟩
        · show upN (fgo F) e (fg F + 1) i = k + 1
          rw [upN, if_neg hie]; exact q2
        · rw [up (616 + k) (by omega) (by omega) (by omega) (by omega)]; exact q3
  have hcond : (τ6.1 95 1 ≤ τ6.1 95 0 - τ6.1 95 1) ↔ ¬ fn F < 2 * (fg F + 1) := by
    rw [r61, r60, pk_sub (by omega), nI_leI (by omega) (by omega)]
    omega
  refine ⟨fun hc => ?_, fun hc => ?_⟩
  · have h2 : goF F e = goneF F e := by rw [goF, if_neg (hcond.mp hc)]
    exact hq τ6 (by rw [h2]; exact hG) hsm
  · have h1 : fn F < 2 * (fg F + 1) := by
      rcases Nat.lt_or_ge (fn F) (2 * (fg F + 1)) with q | q
      · exact q
      · exact absurd (hcond.mpr (by omega)) hc
    have h2 : goF F e = anewF (goneF F e) := by rw [goF, if_pos h1]
    exact m_laysAnew (F := goneF F e) (show fn F ≤ 121 by omega) hG (fun τ hA hs => ⟨rfl, hq τ (by rw [h2]; exact hA) (hsm.tr hs)⟩)
def Bk (b n : Nat) : Nat → Nat → Prop := fun i k => i = 95 ∧ b ≤ k ∧ k < b + n
theorem m_copy {a b : Nat} (ha : a + 678 ≤ 7458) (hb : b + 678 ≤ 7458) (hab : a + 678 ≤ b ∨ b + 678 ≤ a) (hq : ∀ τ, (∀ k, k < 678 → τ.1 95 (b + k) = σ.1 95 (a + k)) → Sm (Bk b 678) σ τ → Q none τ) : X none d mX8_copy 0 [.ref 94, .int (nI a), .int (nI b), Unk] [] σ Q := by
  refine vX8_copy_0 ?_
  have key : ∀ m k (τ : Mem), 678 = k + m → Sm (Bk b 678) σ τ → (∀ j, j < k → τ.1 95 (b + j) = σ.1 95 (a + j)) → X none d mX8_copy 2 [.ref 94, .int (nI a), .int (nI b), .int (nI k)] [] τ Q := by
    intro m
    induction m with
    | zero =>
      intro k τ hk hs h
      refine vX8_copy_2 ⟨fun _ => hq τ (fun j hj => h j (by omega)) hs, fun c => absurd (show (678 : Int32) ≤ nI k from nI_le (a := 678) (by omega) (by omega)) c⟩
    | succ m ih =>
      intro k τ hk hs h
      refine vX8_copy_2 ?_
      rw [nI_add, nI_add, nI_clamp (n := a + k) (by omega), nI_clamp (n := b + k) (by omega), nI_1]
      refine ⟨fun c => absurd c (show ¬ (678 : Int32) ≤ nI k from nI_ge (b := 678) (by omega) (by decide)), fun _ => ⟨vin (by omega) (by decide), vin (by omega) (by decide), fun τ1 e1 => ?_⟩⟩
      have ra : τ.1 95 (a + k) = σ.1 95 (a + k) := (hs 95 (a + k) (by unfold Bk; omega)).1
      rw [ra] at e1
      refine ih (k + 1) τ1 (by omega) (by rw [e1]; exact hs.w1 ⟨rfl, by omega, by omega⟩) (fun j hj => ?_)
      by_cases hjk : j = k
      · rw [e1, hjk, w1_s]
      · rw [e1, w1_k _ _ _ _ _ _ (by omega)]
        exact h j (by omega)
  rw [← nI_0]
  exact key 678 0 σ (by omega) Sm.rf (fun j hj => absurd hj (Nat.not_lt_zero j))
theorem MF.shift {τ : Mem} {a b : Nat} (hw : WF F) (h : MF σ a F) (hs : ∀ k, k < 678 → τ.1 95 (b + k) = σ.1 95 (a + k)) : MF τ b F := by
  have hn := hw.n120
  have hg := hw.g60
  have e : ∀ c e, c + e < 678 → τ.1 95 (b + c + e) = σ.1 95 (a + c + e) := fun c e q => by
    have := hs (c + e) q
    rwa [← Nat.add_assoc, ← Nat.add_assoc] at this
  obtain ⟨⟨h1, h2, h3, h4, h5, h6⟩, h7, h8⟩ := h
  refine ⟨⟨?_, ?_, ?_, ?_, ?_, ?_⟩, fun i hi => ?_, fun k hk => ?_⟩
  · have := hs 0 (by omega); rw [Nat.add_zero, Nat.add_zero] at this; rw [this]; exact h1
  · rw [hs 1 (by omega)]; exact h2
  · rw [hs 4 (by omega)]; exact h3
  · rw [hs 5 (by omega)]; exact h4
  · rw [hs 3 (by omega)]; exact h5
  · rw [hs 2 (by omega)]; exact h6
  · obtain ⟨a1, a2, a3, a4, a5⟩ := h7 i hi
    rw [e 6 i (by omega), e 128 i (by omega), e 250 i (by omega), e 372 i (by omega), e 494 i (by omega)]
    exact ⟨a1, a2, a3, a4, a5⟩
  · obtain ⟨i, q1, q2, q3⟩ := h8 k hk
    exact ⟨i, q1, q2, by rw [e 616 k (by omega)]; exact q3⟩
def MH (σ : Mem) (H : Hs) : Prop := σ.1 94 2 = nI H.1 ∧ H.1 ≤ 8 ∧ ∀ j, j < H.1 → MF σ (2034 + 678 * j) (H.2 j)
def SU : Nat → Nat → Prop := fun i k => (i = 94 ∧ k = 2) ∨ (i = 95 ∧ 2034 ≤ k)
theorem m_minds {H : Hs} (hw : WF F) (hwh : ∀ j, j < H.1 → WF (H.2 j)) (hM : MF σ 0 F) (hH : MH σ H) (hq : ∀ τ, MH τ (hpush H F) → Sm SU σ τ → Q none τ) : X none (d + 1) mX8_minds 0 [.ref 94, Unk] [] σ Q := by
  obtain ⟨h1, h2, h3⟩ := hH
  refine vX8_minds_0 ?_
  rw [h1, show (8 : Int32) = nI 8 from rfl, nI_eq (by omega) (by decide), k678, k2034]
  refine ⟨fun c => ?_, fun c => ?_⟩
  · rw [show (0 : Int32) = nI 0 from nI_0.symm]
    refine m_copy (by omega) (by omega) (by omega) (fun τ hcp hs => ⟨rfl, fun τ2 e2 => ?_⟩)
    have r1 : τ.1 94 2 = nI H.1 := by rw [(hs 94 2 (by unfold Bk; omega)).1, h1]
    rw [r1, nI_1] at e2
    have s2 : Sm (fun i k => i = 94 ∧ k = 2) τ τ2 := by rw [e2]; exact Sm.rf.w1 ⟨rfl, rfl⟩
    have r95 : ∀ k, τ2.1 95 k = τ.1 95 k := fun k => (s2 95 k (by omega)).1
    refine hq τ2 ⟨?_, ?_, fun j hj => ?_⟩ ((hs.mono (fun i k q => by unfold Bk at q; unfold SU; omega)).tr (s2.mono (fun i k q => by unfold SU; omega)))
    · rw [e2, w1_s]; simp [hpush, show H.1 < 8 by omega]
    · simp [hpush, show H.1 < 8 by omega]; omega
    · simp only [hpush, show H.1 < 8 by omega, if_true] at hj ⊢
      by_cases hjk : j = H.1
      · rw [if_pos hjk, hjk]
        exact hM.shift hw (fun k hk => by rw [r95, hcp k hk])
      · rw [if_neg hjk]
        refine (h3 j (by omega)).sm (hwh j (by omega)) (fun k q1 q2 => ?_)
        rw [r95, (hs 95 k (by unfold Bk; omega)).1]
  · have key : ∀ m i (τ : Mem), 4746 = i + m → Sm (fun a k => a = 95 ∧ 2034 ≤ k ∧ k < 6780) σ τ → (∀ j, j < i → τ.1 95 (2034 + j) = σ.1 95 (2034 + j + 678)) → (∀ j, i ≤ j → τ.1 95 (2034 + j) = σ.1 95 (2034 + j)) → X none (d + 1) mX8_minds 11 [.ref 94, .int (nI i)] [] τ Q := by
      intro m
      induction m with
      | zero =>
        intro i τ hi hs hlo hhi
        have hi2 : i = 4746 := by omega
        subst hi2
        refine vX8_minds_11 ⟨fun _ τ1 e1 => ?_, fun c => absurd (show (4746 : Int32) ≤ nI 4746 from nI_le (a := 4746) (by omega) (by omega)) c⟩
        have r0 : τ.1 94 2 = nI 8 := by rw [(hs 94 2 (by omega)).1, h1, c]
        rw [r0, show nI 8 - 1 = nI 7 from nI_pred 7] at e1
        have r1 : τ1.1 94 2 = nI 7 := by rw [e1, w1_s]
        have s1 : Sm (fun a k => a = 94 ∧ k = 2) τ τ1 := by rw [e1]; exact Sm.rf.w1 ⟨rfl, rfl⟩
        rw [r1, k678, k2034, show (0 : Int32) = nI 0 from nI_0.symm]
        refine m_copy (by omega) (by omega) (by omega) (fun τ2 hcp hs2 => ⟨rfl, fun τ3 e3 => ?_⟩)
        have r2 : τ2.1 94 2 = nI 7 := by rw [(hs2 94 2 (by unfold Bk; omega)).1, r1]
        rw [r2, nI_1] at e3
        have s3 : Sm (fun a k => a = 94 ∧ k = 2) τ2 τ3 := by rw [e3]; exact Sm.rf.w1 ⟨rfl, rfl⟩
        have r95 : ∀ k, τ3.1 95 k = τ2.1 95 k := fun k => (s3 95 k (by omega)).1
        have r951 : ∀ k, τ1.1 95 k = τ.1 95 k := fun k => (s1 95 k (by omega)).1
        refine hq τ3 ⟨?_, ?_, fun j hj => ?_⟩ ((((hs.mono (fun a k q => by unfold SU; omega)).tr (s1.mono (fun a k q => by unfold SU; omega))).tr (hs2.mono (fun a k q => by unfold Bk at q; unfold SU; omega))).tr (s3.mono (fun a k q => by unfold SU; omega)))
        · rw [e3, w1_s]; simp [hpush, c]
        · simp [hpush, c]
        · simp only [hpush, c, Nat.lt_irrefl, if_false] at hj ⊢
          by_cases hj7 : j = 7
          · rw [if_pos hj7, hj7]
            refine hM.shift hw (fun k hk => ?_)
            rw [r95, hcp k hk, r951, (hs 95 (0 + k) (by omega)).1]
          · rw [if_neg hj7]
            refine (h3 (j + 1) (by omega)).shift (hwh (j + 1) (by omega)) (fun k hk => ?_)
            have e5 := hlo (678 * j + k) (by omega)
            rw [r95, (hs2 95 (2034 + 678 * j + k) (by unfold Bk; omega)).1, r951, show 2034 + 678 * j + k = 2034 + (678 * j + k) by omega, e5, show 2034 + (678 * j + k) + 678 = 2034 + 678 * (j + 1) + k by omega]
      | succ m ih =>
        intro i τ hi hs hlo hhi
        refine vX8_minds_11 ?_
        rw [k2034, k678', nI_clamp (n := 2034 + i) (by omega), nI_clamp (n := 2034 + i + 678) (by omega), nI_1]
        refine ⟨fun c => absurd c (show ¬ (4746 : Int32) ≤ nI i from nI_ge (b := 4746) (by omega) (by decide)), fun _ => ⟨vin (by omega) (by decide), vin (by omega) (by decide), fun τ4 e4 => ?_⟩⟩
        have e5 := hhi (i + 678) (by omega)
        rw [← Nat.add_assoc] at e5
        rw [e5] at e4
        refine ih (i + 1) τ4 (by omega) (by rw [e4]; exact hs.w1 ⟨rfl, by omega, by omega⟩) (fun j hj => ?_) (fun j hj => ?_)
        · by_cases hji : j = i
          · rw [e4, hji, w1_s]
          · rw [e4, w1_k _ _ _ _ _ _ (by omega)]
            exact hlo j (by omega)
        · rw [e4, w1_k _ _ _ _ _ _ (by omega)]
          exact hhi j (by omega)
    rw [← nI_0]
    exact key 4746 0 σ (by omega) Sm.rf (fun j hj => absurd hj (Nat.not_lt_zero j)) (fun _ _ => rfl)
end M1
