/-! The model: images, status, sizes, digest. -/
def mx (h v : Int64) : Int64 := 31 * h + v
def dg8 (S : Ab) : Nat → Int64
  | 0 => 1901
  | k + 1 => mx (dg8 S k) (sizV S k).toInt64
def dg5 (S : Ab) : Nat → Int64
  | 0 => dg8 S 8
  | k + 1 => mx (dg5 S k) (layV S (nI k)).toInt64
def dgP (F : Fl) (h : Int64) (e : Nat) : Int64 := mx (mx (mx (mx (mx h (nI (fnum F e)).toInt64) (fx F e).toInt64) (fy F e).toInt64) (fw F e).toInt64) (wor F e).toInt64
def dgL (S : Ab) : Nat → Int64
  | 0 => dg5 S 5
  | k + 1 => if thr (bF S) k = true then dgP (bF S) (dgL S k) k else dgL S k
def o_digest (S : Ab) : Int64 × Ab := (mx (mx (dgL S (fn (bF S))) (bR S).1) (bR S).2, S)
def OutML (σ : Mem) (Q : Option Value → Mem → Prop) (o : Int64 × Ab) : Prop := ∀ τ, MD τ o.2 → Sm SM94 σ τ → Q (some (.long o.1)) τ
section M6
variable {d : Nat} {σ : Mem} {Q : Option Value → Mem → Prop} {F : Fl} {S : Ab} {VA : Ar → Prop}
def Bk6 (b n : Nat) : Nat → Nat → Prop := fun i k => i = 96 ∧ b ≤ k ∧ k < b + n
theorem m_copyArea {a b : Nat} (ha : a + 182 ≤ 728) (hb : b + 182 ≤ 728) (hab : a + 182 ≤ b ∨ b + 182 ≤ a) (hq : ∀ τ, (∀ k, k < 182 → τ.1 96 (b + k) = σ.1 96 (a + k)) → Sm (Bk6 b 182) σ τ → Q none τ) : X none d mX8_copyArea 0 [.ref 94, .int (nI a), .int (nI b), Unk] [] σ Q := by
  refine vX8_copyArea_0 ?_
  have key : ∀ m k (τ : Mem), 182 = k + m → Sm (Bk6 b 182) σ τ → (∀ j, j < k → τ.1 96 (b + j) = σ.1 96 (a + j)) → X none d mX8_copyArea 2 [.ref 94, .int (nI a), .int (nI b), .int (nI k)] [] τ Q := by
    intro m
    induction m with
    | zero =>
      intro k τ hk hs h
      refine vX8_copyArea_2 ⟨fun _ => hq τ (fun j hj => h j (by omega)) hs, fun c => absurd (show (182 : Int32) ≤ nI k from nI_le (a := 182) (by omega) (by omega)) c⟩
    | succ m ih =>
      intro k τ hk hs h
      refine vX8_copyArea_2 ?_
      rw [nI_add, nI_add, nI_clamp (n := a + k) (by omega), nI_clamp (n := b + k) (by omega), nI_1]
      refine ⟨fun c => absurd c (show ¬ (182 : Int32) ≤ nI k from nI_ge (b := 182) (by omega) (by decide)), fun _ => ⟨vin (by omega) (by decide), vin (by omega) (by decide), fun τ1 e1 => ?_⟩⟩
      have ra : τ.1 96 (a + k) = σ.1 96 (a + k) := (hs 96 (a + k) (by unfold Bk6; omega)).1
      rw [ra] at e1
      refine ih (k + 1) τ1 (by omega) (by rw [e1]; exact hs.w1 ⟨rfl, by omega, by omega⟩) (fun j hj => ?_)
      by_cases hjk : j = k
      · rw [e1, hjk, w1_s]
      · rw [e1, w1_k _ _ _ _ _ _ (by omega)]
        exact h j (by omega)
  rw [← nI_0]
  exact key 182 0 σ (by omega) Sm.rf (fun j hj => absurd hj (Nat.not_lt_zero j))
theorem q_part (hva : ∀ A, VA A → WA A) (hC : MD σ S) (hw : WS VA S) {what : Int32} (h : OutML σ Q (o_part S what)) : X none (d + 1) mX8_part 0 [.ref 94, .int what] [] σ Q := by
  refine vX8_part_0 ?_
  rw [rng 0 1 (by decide) (by decide), i_of (n := 0) 0 (by decide), hC.2.2.2.2.2.1.1, hC.2.2.2.2.2.1.2]
  refine ⟨fun c => ⟨fun c0 => ?_, fun c0 => ?_⟩, fun c τ e => ?_⟩
  · rw [o_part, if_neg c0, if_pos (by omega)] at h
    exact h σ hC Sm.rf
  · rw [o_part, if_pos c0] at h
    exact h σ hC Sm.rf
  · rw [o_part, if_neg (by omega), if_neg (by omega)] at h
    have := MD.st hva hw hC (by omega) e
    exact h τ this.1 this.2
theorem j01 {x : Int32} (h : 0 ≤ x ∧ x ≤ 1) : ∃ j : Nat, j < 2 ∧ x = nI j := by
  rcases i01 (Int32.not_lt.mpr h.1) (lt2.mpr h.2) with q | q
  · exact ⟨0, by omega, q⟩
  · exact ⟨1, by omega, q⟩
theorem kI (j : Nat) : (678 : Int32) + 678 * nI j = nI (678 + 678 * j) := by rw [k678]; exact nI_add 678 _
theorem kA (j : Nat) : (182 : Int32) * (1 + nI j) = nI (182 + 182 * j) := by
  rw [show (1 : Int32) + nI j = nI (1 + j) from nI_add 1 j, show (182 : Int32) = nI 182 from rfl, pk_mul, Nat.mul_add]
theorem q_image (hva : ∀ A, VA A → WA A) (hC : MD σ S) (hw : WS VA S) {i : Int32} (h : OutM σ Q (o_image S i)) : X none (d + 1) mX8_image 0 [.ref 94, .int i] [] σ Q := by
  refine vX8_image_0 ⟨fun c => ?_, fun c => OutM.bad hva hw h hC (by rw [o_image, if_neg c])⟩
  rw [o_image, if_pos c] at h
  obtain ⟨j, hj, rfl⟩ := j01 c
  rw [nI_clamp (by omega)] at h
  rw [kI, kA, nI_clamp (n := j) (by omega), show (0 : Int32) = nI 0 from nI_0.symm]
  refine m_copy (by omega) (by omega) (by omega) (fun τ1 hc1 hs1 => ⟨rfl, m_copyArea (by omega) (by omega) (by omega) (fun τ2 hc2 hs2 => ⟨rfl, vin hj (by decide), fun τ3 e3 => ?_⟩)⟩)
  have s3 : Sm (fun a k => a = 97 ∧ k = j) τ2 τ3 := by rw [e3]; exact Sm.rf.w1 ⟨rfl, rfl⟩
  have hs : Sm (fun a k => (a = 95 ∧ 678 + 678 * j ≤ k ∧ k < 1356 + 678 * j) ∨ (a = 96 ∧ 182 + 182 * j ≤ k ∧ k < 364 + 182 * j) ∨ (a = 97 ∧ k = j)) σ τ3 := ((hs1.mono (fun a k q => by unfold Bk at q; omega)).tr (hs2.mono (fun a k q => by unfold Bk6 at q; omega))).tr (s3.mono (fun a k q => by omega))
  obtain ⟨g1, g2, g3, g4, ⟨g5, g6⟩, ⟨g7, g8⟩, g9, g10, g11, g12⟩ := hC
  have wa := hva _ hw.2.2.2.1
  refine h τ3 ⟨g1.sm hw.1 (fun k _ _ => (hs 95 k (by omega)).1), MH.sm hw.2.1.2 g2 (hs 94 2 (by omega)).1 (fun k _ => (hs 95 k (by omega)).1), fun i hi => ?_, g4.sm ⟨wa.1, wa.2.1⟩ (fun k _ _ => (hs 96 k (by omega)).1), ⟨?_, fun k hk => ?_⟩, ⟨?_, ?_⟩, ?_, ?_, ?_, ?_⟩ (hs.mono (fun a k q => by unfold SM94; omega))
  · show MI τ3 i (upN (bI S) j (true, bF S, bA S) i)
    by_cases hij : i = j
    · subst hij
      rw [upN, if_pos rfl]
      refine ⟨by rw [e3, w1_s]; rfl, fun _ => ⟨g1.shift hw.1 (fun k hk => ?_), g4.shift ⟨wa.1, wa.2.1⟩ (fun k hk => ?_)⟩⟩
      · rw [(s3 95 _ (by omega)).1, (hs2 95 _ (by unfold Bk6; omega)).1, hc1 k hk]
      · rw [(s3 96 _ (by omega)).1, hc2 k hk, (hs1 96 _ (by unfold Bk; omega)).1]
    · rw [upN, if_neg hij]
      refine ⟨by rw [(hs 97 i (by omega)).1]; exact (g3 i hi).1, fun hk => ⟨((g3 i hi).2 hk).1.sm (hw.2.2.1 i hi hk).1 (fun k _ _ => (hs 95 k (by omega)).1), ?_⟩⟩
      have wi := hva _ (hw.2.2.1 i hi hk).2
      exact ((g3 i hi).2 hk).2.sm ⟨wi.1, wi.2.1⟩ (fun k _ _ => (hs 96 k (by omega)).1)
  · rw [(hs 94 6 (by omega)).1]; exact g5
  · rw [(hs 98 k (by omega)).1]; exact g6 k hk
  · rw [(hs 94 7 (by omega)).2]; exact g7
  · rw [(hs 94 8 (by omega)).2]; exact g8
  · rw [(hs 94 3 (by omega)).1]; exact g9
  · rw [(hs 99 0 (by omega)).1]; exact g10
  · rw [(hs 99 1 (by omega)).1]; exact g11
  · rw [(hs 99 2 (by omega)).1]; exact g12
theorem q_from (hva : ∀ A, VA A → WA A) (hC : MD σ S) (hw : WS VA S) {i : Int32} (h : OutM σ Q (o_from S i)) : X none (d + 1) mX8_from 0 [.ref 94, .int i] [] σ Q := by
  refine vX8_from_0 ⟨fun c => ?_, fun c => OutM.bad hva hw h hC (by rw [o_from, if_neg c])⟩
  rw [o_from, if_pos c] at h
  obtain ⟨j, hj, rfl⟩ := j01 c
  rw [nI_clamp (by omega)] at h
  have hI := hC.2.2.1 j hj
  rw [kI, kA, nI_clamp (n := j) (by omega), hI.1]
  refine ⟨vin hj (by decide), fun c2 => ?_, fun c2 => ?_⟩
  · have hk := b01_o c2
    rw [if_pos hk] at h
    obtain ⟨hMF, hMA⟩ := hI.2 hk
    obtain ⟨hWFj, hVAj⟩ := hw.2.2.1 j hj hk
    have wj := hva _ hVAj
    rw [show (0 : Int32) = nI 0 from nI_0.symm]
    refine m_copy (by omega) (by omega) (by omega) (fun τ1 hc1 hs1 => ⟨rfl, m_copyArea (by omega) (by omega) (by omega) (fun τ2 hc2 hs2 => ⟨rfl, fun τ3 e3 => ?_⟩)⟩)
    have s3 : Sm (fun a k => a = 94 ∧ k = 2) τ2 τ3 := by rw [e3]; exact Sm.rf.w1 ⟨rfl, rfl⟩
    have hs : Sm (fun a k => (a = 95 ∧ k < 678) ∨ (a = 96 ∧ k < 182) ∨ (a = 94 ∧ k = 2)) σ τ3 := ((hs1.mono (fun a k q => by unfold Bk at q; omega)).tr (hs2.mono (fun a k q => by unfold Bk6 at q; omega))).tr (s3.mono (fun a k q => by omega))
    obtain ⟨g1, g2, g3, g4, ⟨g5, g6⟩, ⟨g7, g8⟩, g9, g10, g11, g12⟩ := hC
    refine h τ3 ⟨hMF.shift hWFj (fun k hk => ?_), ⟨by rw [e3, w1_s]; rfl, Nat.zero_le _, fun k hk => absurd hk (Nat.not_lt_zero k)⟩, fun i hi => ⟨?_, fun hk => ⟨?_, ?_⟩⟩, hMA.shift ⟨wj.1, wj.2.1⟩ (fun k hk => ?_), ⟨?_, fun k hk => ?_⟩, ⟨?_, ?_⟩, ?_, ?_, ?_, ?_⟩ (hs.mono (fun a k q => by unfold SM94; omega))
    · rw [(s3 95 _ (by omega)).1, (hs2 95 _ (by unfold Bk6; omega)).1, hc1 k hk]
    · rw [(hs 97 i (by omega)).1]; exact (g3 i hi).1
    · exact ((g3 i hi).2 hk).1.sm (hw.2.2.1 i hi hk).1 (fun k _ _ => (hs 95 k (by omega)).1)
    · have wi := hva _ (hw.2.2.1 i hi hk).2
      exact ((g3 i hi).2 hk).2.sm ⟨wi.1, wi.2.1⟩ (fun k _ _ => (hs 96 k (by omega)).1)
    · rw [(s3 96 _ (by omega)).1, hc2 k hk, (hs1 96 _ (by unfold Bk; omega)).1]
    · rw [(hs 94 6 (by omega)).1]; exact g5
    · rw [(hs 98 k (by omega)).1]; exact g6 k hk
    · rw [(hs 94 7 (by omega)).2]; exact g7
    · rw [(hs 94 8 (by omega)).2]; exact g8
    · rw [(hs 94 3 (by omega)).1]; exact g9
    · rw [(hs 99 0 (by omega)).1]; exact g10
    · rw [(hs 99 1 (by omega)).1]; exact g11
    · rw [(hs 99 2 (by omega)).1]; exact g12
  · refine OutM.no (S := S) hva hw h hC ?_
    rw [b01_z c2]; rfl
theorem q_status (hva : ∀ A, VA A → WA A) (hC : MD σ S) (hw : WS VA S) {what : Int32} (h : OutM σ Q (o_status S what)) : X none (d + 1) mX8_status 0 [.ref 94, .int what] [] σ Q := by
  refine vX8_status_0 ⟨fun c => ?_, fun c τ e => ?_⟩
  · have c' := (rng (x := what) 0 2 (by decide : (0 : Int32).toInt = 0) (by decide : (2 : Int32).toInt = 2)).mp c
    rw [o_status, if_neg c'] at h
    have hQ := h σ hC Sm.rf
    obtain ⟨j, hj, rfl⟩ := nI_of (Int32.not_lt.mpr c.1)
    rw [nI_toInt hj] at c' hQ
    rw [nI_clamp hj]
    refine ⟨vin (by omega) (by decide), Qe hQ ?_⟩
    rcases (show j = 0 ∨ j = 1 ∨ j = 2 by omega) with rfl | rfl | rfl
    · rw [hC.2.2.2.2.2.2.2.1]; rfl
    · rw [hC.2.2.2.2.2.2.2.2.1]; rfl
    · rw [hC.2.2.2.2.2.2.2.2.2]; rfl
  · have c' : what.toInt < 0 ∨ 2 < what.toInt := by
      rw [rng (x := what) 0 2 (by decide : (0 : Int32).toInt = 0) (by decide : (2 : Int32).toInt = 2)] at c
      exact Decidable.not_not.mp c
    rw [o_status, if_pos c'] at h
    have := MD.st hva hw hC (by omega) e
    exact h τ this.1 this.2
theorem m_weights (hn : fn F ≤ 121) (hM : MZ σ F) (hq : Q (some (.int (wsum F))) σ) : X none (d + 1) mX8_weights 0 [.ref 94, Unk, Unk] [] σ Q := by
  refine vX8_weights_0 ?_
  have key : ∀ m k, fn F = k + m → X none (d + 1) mX8_weights 4 [.ref 94, .int (sumI (fun e => if thr F e = true then fw F e else 0) k), .int (nI k)] [] σ Q := by
    intro m
    induction m with
    | zero =>
      intro k hk
      refine vX8_weights_4 ⟨fun _ => Qe hq ?_, fun c => absurd (by rw [hM.1.1]; exact nI_le (by omega) (by omega)) c⟩
      rw [wsum, show fn F = k by omega]
    | succ m ih =>
      intro k hk
      have hlt : k < fn F := by omega
      obtain ⟨a1, a2, a3, a4, a5⟩ := hM.2.1 k hlt
      have hi := ih (k + 1) (by omega)
      simp only [sumI] at hi
      refine vX8_weights_4 ?_
      rw [k494, k372, nI_clamp (n := 494 + k) (by omega), nI_clamp (n := 372 + k) (by omega), a4, a5, gz, nI_1]
      refine ⟨fun c => absurd c (by rw [hM.1.1]; exact nI_ge hlt (by omega)), fun _ => ⟨vin (by omega) (by decide), fun c1 => ?_, fun c1 => ⟨vin (by omega) (by decide), ?_⟩⟩⟩
      · rw [if_neg (by simp [thr, c1])] at hi
        exact hi
      · rw [if_pos (by simp [thr, c1])] at hi
        exact hi
  have := key (fn F) 0 (by omega)
  rw [nI_0] at this
  exact this
theorem m_sizeOf (hC : MD σ S) (hw : WS VA S) {what : Int32} (h0 : 0 ≤ what.toInt) (h7 : what.toInt ≤ 7) (hQ : Q (some (.int (sizV S what.toInt))) σ) : X none (d + 2) mX8_sizeOf 0 [.ref 94, .int what] [] σ Q := by
  have hZ := MZ_iff.mp hC.1
  have hn := hw.1.n120
  refine vX8_sizeOf_0 ?_
  rw [hZ.1.1, hZ.1.2.1, hZ.1.2.2.2.2.2, hZ.1.2.2.2.2.1, hC.2.1.1, hC.2.2.2.2.1.1, hC.2.2.2.1.2.1, thereI hw.1]
  refine ⟨fun c => Qe hQ ?_, fun c => Qe hQ ?_, fun c => Qe hQ ?_, fun c => Qe hQ ?_, fun c => Qe hQ ?_, fun c => m_weights (by omega) hZ ⟨_, rfl, Qe hQ ?_⟩, fun c => Qe hQ ?_, fun c => Qe hQ ?_⟩
  · rw [show what.toInt = 7 by omega]; simp [sizV]
  · rw [c]; simp [sizV]
  · rw [c]; simp [sizV]
  · rw [c]; simp [sizV]
  · rw [c]; simp [sizV]
  · rw [c]; simp [sizV]
  · rw [c]; simp [sizV]
  · rw [c]; simp [sizV]
theorem q_size (hva : ∀ A, VA A → WA A) (hC : MD σ S) (hw : WS VA S) {what : Int32} (h : OutM σ Q (o_size S what)) : X none (d + 3) mX8_size 0 [.ref 94, .int what] [] σ Q := by
  refine vX8_size_0 ?_
  rw [rng 0 7 (by decide) (by decide)]
  refine ⟨fun c => OutM.bad hva hw h hC (by rw [o_size, if_pos (Decidable.not_not.mp c)]), fun c => ?_⟩
  rw [o_size, if_neg c] at h
  exact m_sizeOf hC hw (by omega) (by omega) ⟨_, rfl, h σ hC Sm.rf⟩
theorem w2_22 (σ : Mem) (a k : Nat) (v w : Int64) : w2 (w2 σ a k v) a k w = w2 σ a k w := by
  unfold w2
  congr 1
  funext i j
  by_cases h : i = a ∧ j = k
  · simp [h]
  · simp [h]
theorem q_digest (hva : ∀ A, VA A → WA A) (hC : MD σ S) (hw : WS VA S) (h : OutML σ Q (o_digest S)) : X none (d + 3) mX8_digest 0 [.ref 94, Unk, Unk] [] σ Q := by
  have hn := hw.1.n120
  have sm : ∀ v, Sm (fun i k => i = 94 ∧ k = 19) σ (w2 σ 94 19 v) := fun v => Sm.rf.w2 ⟨rfl, rfl⟩
  have md : ∀ v, MD (w2 σ 94 19 v) S := fun v => MD.sm hva hw hC (sm v) (fun i k q => by unfold SCM; omega)
  have rd : ∀ v, (w2 σ 94 19 v).2 94 19 = v := fun v => w2_s _ _ _ _
  refine vX8_digest_0 (fun τ1 e1 => ?_)
  subst e1
  -- the points
  have pts : ∀ m i, fn (bF S) = i + m → X none (d + 3) mX8_digest 56 [.ref 94, .int (nI i), Unk] [] (w2 σ 94 19 (dgL S i)) Q := by
    intro m
    induction m with
    | zero =>
      intro i hi
      have hM := MZ_iff.mp (md (dgL S i)).1
      have hR := (md (dgL S i)).2.2.2.2.2.1
      refine vX8_digest_56 ⟨fun _ τ1 e1 τ2 e2 => ?_, fun c => absurd (by rw [hM.1.1]; exact nI_le (by omega) (by omega)) c⟩
      rw [rd, hR.1, w2_22] at e1
      subst e1
      have hR2 := (md (31 * dgL S i + (bR S).1)).2.2.2.2.2.1
      rw [rd, hR2.2, w2_22] at e2
      subst e2
      rw [rd]
      have := h _ (md (31 * (31 * dgL S i + (bR S).1) + (bR S).2)) ((sm _).mono (fun a k q => by unfold SM94; omega))
      rw [o_digest, show fn (bF S) = i by omega] at this
      exact this
    | succ m ih =>
      intro i hi
      have hlt : i < fn (bF S) := by omega
      have hM := MZ_iff.mp (md (dgL S i)).1
      obtain ⟨a1, a2, a3, a4, a5⟩ := hM.2.1 i hlt
      have hnx := ih (i + 1) (by omega)
      simp only [dgL] at hnx
      refine vX8_digest_56 ?_
      rw [k494, k6, nI_clamp (n := 494 + i) (by omega), nI_clamp (n := 6 + i) (by omega), a1, a5, gz, nI_1, rd, w2_22]
      refine ⟨fun c => absurd c (by rw [hM.1.1]; exact nI_ge hlt (by omega)), fun _ => ⟨vin (by omega) (by decide), fun c => ?_, fun c => ⟨vin (by omega) (by decide), fun τ3 e3 => ?_⟩⟩⟩
      · rw [if_neg (by simp [thr, c])] at hnx
        exact hnx
      · subst e3
        rw [if_pos (by simp [thr, c])] at hnx
        have ofs : ∀ (k : Nat) (v : Int64), k < 4 → (X none (d + 3) mX8_digest 90 [.ref 94, .int (nI i), .int (nI (k + 1))] [] (w2 σ 94 19 (31 * v + (ofV (bF S) i (nI k)).toInt64)) Q) → X none (d + 3) mX8_digest 90 [.ref 94, .int (nI i), .int (nI k)] [] (w2 σ 94 19 v) Q := fun k v hk kk => by
          refine vX8_digest_90 ⟨fun c => absurd c (show ¬ (4 : Int32) ≤ nI k from nI_ge (b := 4) hk (by decide)), fun _ => ?_⟩
          refine m_ofPoint (by omega) (MZ_iff.mp (md v).1) hlt ⟨_, rfl, fun τ3 e3 => ?_⟩
          rw [rd, w2_22] at e3
          subst e3
          rw [nI_1]
          exact kk
        rw [← nI_0]
        refine ofs 0 _ (by omega) (ofs 1 _ (by omega) (ofs 2 _ (by omega) (ofs 3 _ (by omega) ?_)))
        refine vX8_digest_90 ⟨fun _ => ?_, fun c => absurd (show (4 : Int32) ≤ nI 4 from nI_le (a := 4) (by omega) (by omega)) c⟩
        rw [nI_1]
        exact hnx
  have lay : ∀ m i, 5 = i + m → X none (d + 3) mX8_digest 33 [.ref 94, .int (nI i), Unk] [] (w2 σ 94 19 (dg5 S i)) Q := by
    intro m
    induction m with
    | zero =>
      intro i hi
      have hi5 : i = 5 := by omega
      subst hi5
      refine vX8_digest_33 ⟨fun _ => ?_, fun c => absurd (show (5 : Int32) ≤ nI 5 from nI_le (a := 5) (by omega) (by omega)) c⟩
      rw [← nI_0]
      exact pts (fn (bF S)) 0 (by omega)
    | succ m ih =>
      intro i hi
      have hM := MZ_iff.mp (md (dg5 S i)).1
      have hE := (md (dg5 S i)).2.2.2.2.2.2.1
      have hnx := ih (i + 1) (by omega)
      have ht := nI_toInt (n := i) (by omega)
      refine vX8_digest_33 ?_
      rw [i_of (n := 0) 0 (by decide), i_of (n := 1) 1 (by decide), i_of (n := 2) 2 (by decide), i_of (n := 3) 3 (by decide), hM.1.1, hM.1.2.1, hM.1.2.2.1, hM.1.2.2.2.1, hE, ht, rd, w2_22, w2_22, w2_22, w2_22, w2_22, nI_1]
      have go : ∀ v : Int32, v = layV S (nI i) → ∀ τ : Mem, τ = w2 σ 94 19 (31 * dg5 S i + v.toInt64) → X none (d + 3) mX8_digest 33 [.ref 94, .int (nI (i + 1)), Unk] [] τ Q := fun v ev τ eτ => by
        subst ev eτ
        exact hnx
      refine ⟨fun c => absurd c (show ¬ (5 : Int32) ≤ nI i from nI_ge (b := 5) (by omega) (by decide)), fun _ => ⟨fun c0 => ⟨fun c1 => ⟨fun c2 => ⟨fun c3 => go _ ?_, fun c3 => go _ ?_⟩, fun c2 => go _ ?_⟩, fun c1 => go _ ?_⟩, fun c0 => go _ ?_⟩⟩
      · simp [layV, ht, show i ≠ 0 by omega, c1, c2, c3]
      · simp [layV, ht, c3]
      · simp [layV, ht, c2]
      · simp [layV, ht, c1]
      · simp [layV, ht, c0]
  have siz : ∀ m i, 8 = i + m → X none (d + 3) mX8_digest 9 [.ref 94, .int (nI i), Unk] [] (w2 σ 94 19 (dg8 S i)) Q := by
    intro m
    induction m with
    | zero =>
      intro i hi
      have hi8 : i = 8 := by omega
      subst hi8
      refine vX8_digest_9 ⟨fun _ => ?_, fun c => absurd (show (8 : Int32) ≤ nI 8 from nI_le (a := 8) (by omega) (by omega)) c⟩
      rw [← nI_0]
      exact lay 5 0 (by omega)
    | succ m ih =>
      intro i hi
      have ht := nI_toInt (n := i) (by omega)
      refine vX8_digest_9 ⟨fun c => absurd c (show ¬ (8 : Int32) ≤ nI i from nI_ge (b := 8) (by omega) (by decide)), fun _ => ?_⟩
      refine m_sizeOf (md (dg8 S i)) hw (by omega) (by omega) ⟨_, rfl, fun τ3 e3 => ?_⟩
      rw [rd, w2_22, ht] at e3
      subst e3
      rw [nI_1]
      exact ih (i + 1) (by omega)
  rw [← nI_0]
  exact siz 8 0 (by omega)
end M6
