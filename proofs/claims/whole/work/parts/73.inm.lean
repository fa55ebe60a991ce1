/-! What a layer has: the model. -/
section INM
variable {d : Nat} {σ : Mem} {Q : Option Value → Mem → Prop} {F : Fl} {S : Ab} {VA : Ar → Prop}
theorem ly_step {F : Fl} (hw : WF F) {w k b e : Nat} (he : e < fn F) (h0 : w = 0 → e = b + k) (h1 : w ≠ 0 → fgo F e = b + k + 1) (x1 x2 x3 x4 : Int32) : cnt (lyQ F w (k + 1) b x1 x2 x3 x4) (fn F) = cnt (lyQ F w k b x1 x2 x3 x4) (fn F) + (if inX x1 x2 x3 x4 (fx F e) (fy F e) = true then 1 else 0) := by
  have hp : lyP F w k b e = false := by
    unfold lyP
    split
    · rename_i c; have := h0 c; exact decide_eq_false (by omega)
    · rename_i c; have := h1 c; exact decide_eq_false (by omega)
  have hq : lyP F w (k + 1) b e = true := by
    unfold lyP
    split
    · rename_i c; have := h0 c; exact decide_eq_true (by omega)
    · rename_i c; have := h1 c; exact decide_eq_true (by omega)
  have ho : ∀ j, j < fn F → j ≠ e → lyP F w (k + 1) b j = lyP F w k b j := fun j hj hne => by
    unfold lyP
    split
    · rename_i c; have := h0 c; exact decide_eq_decide.mpr (by omega)
    · rename_i c
      have h2 := h1 c
      have h3 : fgo F j ≠ b + k + 1 := fun q => hne (hw.2.2.2.2 j e hj he (by omega) (by omega))
      exact decide_eq_decide.mpr (by omega)
  have h5 := cnt_grow (p := lyQ F w k b x1 x2 x3 x4) (q := lyQ F w (k + 1) b x1 x2 x3 x4) (k := e) (by rw [lyQ, hp]; rfl) he (fun j hj hne => by rw [lyQ, lyQ, ho j hj hne])
  rw [h5, show lyQ F w (k + 1) b x1 x2 x3 x4 e = inX x1 x2 x3 x4 (fx F e) (fy F e) by rw [lyQ, hq, Bool.true_and]]
theorem m_inLayerL (hw : WF F) (hM : MZ σ F) {z w b : Nat} (hb : b + z ≤ lyN F w) {x1 x2 x3 x4 : Int32} (h : Q (some (.int (nI (cnt (lyQ F w z b x1 x2 x3 x4) (fn F))))) σ) (N : Int32) (hw1 : w ≤ 1) : ∀ m k, z = k + m → X none (d + 3) mX8_inLayer 100 [.ref 94, .int (nI z), .int (nI w), .int x1, .int x2, .int x3, .int x4, .int N, .int (nI b), .int (nI (cnt (lyQ F w k b x1 x2 x3 x4) (fn F))), .int (nI (b + k))] [] σ Q := by
  have hn := hw.n120
  have hN := lyN_le hw w
  intro m
  induction m with
  | zero =>
    intro k hk
    have hkz : k = z := by omega
    subst hkz
    exact vX8_inLayer_100 ⟨fun _ => h, fun c => absurd (by rw [nI_add]; exact nI_le (by omega) (by omega)) c⟩
  | succ m ih =>
    intro k hk
    have hnx := ih (k + 1) (by omega)
    refine vX8_inLayer_100 ?_
    rw [nI_add, nI_1, nI_1, Int32.add_zero, nI_z (n := w) (by omega), k616, nI_clamp (n := 616 + (b + k)) (by omega)]
    refine ⟨fun c => absurd c (nI_ge (by omega) (by omega)), fun _ => ⟨fun c => ?_, fun c => ?_⟩⟩
    · have eN : lyN F w = fg F := if_neg c
      obtain ⟨e, he, hg, hv⟩ := hM.2.2 (b + k) (by omega)
      rw [hv]
      have st := ly_step hw (w := w) (k := k) (b := b) he (fun q => absurd q c) (fun _ => hg) x1 x2 x3 x4
      rw [st] at hnx
      refine ⟨vin (by omega) (by decide), m_isIn (by omega) hM he ⟨_, rfl, fun c3 => ?_, fun c3 => ?_⟩⟩
      · rw [if_neg (b01_ne c3)] at hnx; exact hnx
      · rw [if_pos (b01_eq c3)] at hnx; exact hnx
    · have eN : lyN F w = fn F := if_pos c
      have st := ly_step hw (w := w) (k := k) (b := b) (e := b + k) (by omega) (fun _ => rfl) (fun q => absurd c q) x1 x2 x3 x4
      rw [st] at hnx
      refine m_isIn (by omega) hM (by omega) ⟨_, rfl, fun c3 => ?_, fun c3 => ?_⟩
      · rw [if_neg (b01_ne c3)] at hnx; exact hnx
      · rw [if_pos (b01_eq c3)] at hnx; exact hnx
theorem q_inLayer (hva : ∀ A, VA A → WA A) (hC : MD σ S) (hw : WS VA S) {z w a b c e : Int32} (h : OutM σ Q (o_inLayer S z w a b c e)) : X none (d + 3) mX8_inLayer 0 [.ref 94, .int z, .int w, .int a, .int b, .int c, .int e, Unk, Unk, Unk, Unk] [] σ Q := by
  have hM := MZ_iff.mp hC.1
  refine vX8_inLayer_0 ⟨fun c1 => OutM.bad hva hw h hC (by rw [o_inLayer, if_neg (fun k => c1 k.1.1)]), fun c1 => ?_⟩
  obtain ⟨z', hz', rfl⟩ := nI_of (x := z) (fun k => absurd (Int32.lt_trans k (by decide : (0 : Int32) < 1)) (Int32.not_lt.mpr c1.1))
  have hz : z' ≤ 64 := (nI_leI hz' (b := 64) (by decide)).mp c1.2
  refine m_bits (by omega) ⟨_, rfl, ?_⟩
  have hb : nI (bc z') = 1 ↔ bc z' = 1 := nI_eq (b := 1) (by unfold bc; omega) (by decide)
  rw [hb]
  refine ⟨fun c3 => OutM.bad hva hw h hC (by rw [o_inLayer, nI_clamp hz', if_neg (fun k => c3 k.1.2)]), fun c3 => ⟨fun c4 => OutM.bad hva hw h hC (by rw [o_inLayer, if_neg (fun k => c4 k.2.1)]), fun c4 => ⟨fun c6 => ?_, fun c6 => OutM.bad hva hw h hC (by rw [o_inLayer, if_neg (fun k => c6 k.2.2)])⟩⟩⟩
  obtain ⟨w', hw', rfl⟩ := nI_of (Int32.not_lt.mpr c4.1)
  have hw1 : w' ≤ 1 := (nI_leI hw' (b := 1) (by decide)).mp c4.2
  have ho : o_inLayer S (nI z') (nI w') a b c e = (lyV (bF S) z' w' a b c e, S) := by
    rw [o_inLayer, nI_clamp hz', nI_clamp hw', if_pos ⟨⟨c1, c3⟩, c4, c6⟩]
  rw [ho] at h
  have hq : Q (some (.int (lyV (bF S) z' w' a b c e))) σ := h σ hC Sm.rf
  have hp := bc_pos c3
  have hz0 : ¬ nI z' = 0 := by rw [nI_z hz']; omega
  have hN := lyN_le hw.1 w'
  obtain ⟨_, _, l3, l4, l5, l6⟩ := ly_and z' (by omega) c3 (lyN (bF S) w') hN.2
  have z0 : (0 : Int32) = nI (cnt (lyQ (bF S) w' 0 (fst0 (lyN (bF S) w') z') a b c e) (fn (bF S))) := by
    rw [cnt_none (fun j hj => ?_)]
    · rfl
    · have : lyP (bF S) w' 0 (fst0 (lyN (bF S) w') z') j = false := by
        unfold lyP
        split <;> exact decide_eq_false (by omega)
      rw [lyQ, this]; rfl
  rw [nI_z (n := w') (by omega), hM.1.1, hM.1.2.1]
  have fin : (lyN (bF S) w' / z' % 2 ≠ 0) → X none (d + 3) mX8_inLayer 100 [.ref 94, .int (nI z'), .int (nI w'), .int a, .int b, .int c, .int e, .int (nI (lyN (bF S) w')), .int (nI (fst0 (lyN (bF S) w') z')), .int 0, .int (nI (fst0 (lyN (bF S) w') z'))] [] σ Q := fun hodd => by
    rw [lyV, if_neg hodd] at hq
    have := m_inLayerL (d := d) hw.1 hM (l4 hodd) hq (nI (lyN (bF S) w')) hw1 z' 0 (by omega)
    rw [← z0] at this
    exact this
  refine ⟨fun cw => ⟨hz0, ?_⟩, fun cw => ⟨hz0, ?_⟩⟩
  · have eN : lyN (bF S) w' = fg (bF S) := if_neg cw
    rw [← eN, l5, l6]
    refine ⟨fun cc => ⟨hz0, fin cc⟩, fun cc => ?_⟩
    rw [lyV, if_pos cc] at hq
    exact hq
  · have eN : lyN (bF S) w' = fn (bF S) := if_pos cw
    rw [← eN, l5, l6]
    refine ⟨fun cc => ⟨hz0, fin cc⟩, fun cc => ?_⟩
    rw [lyV, if_pos cc] at hq
    exact hq
end INM
