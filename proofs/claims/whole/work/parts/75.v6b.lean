set_option maxRecDepth 100000 in
set_option maxHeartbeats 4000000 in
theorem vX8_isCovered_0 {d : Nat} {σ : Mem} {Q : Option Value → Mem → Prop} {x1 x2 : Int32} 
    (h : X none (d + 1) mX8_isCovered 5 [.ref 94, .int x1, .int x2, .int 0, .int 0, Unk, Unk, Unk] [] σ Q) :
    X none (d + 1) mX8_isCovered 0 [.ref 94, .int x1, .int x2, Unk, Unk, Unk, Unk, Unk] [] σ Q := by
  refine x_iconst (pc' := 1) (v := 0) dX8_isCovered_0 rfl (by decide) ?_
  refine x_istore_n (pc' := 2) dX8_isCovered_1 rfl rfl (by decide) rfl (ls' := [.ref 94, .int x1, .int x2, .int 0, Unk, Unk, Unk, Unk]) rfl ?_
  refine x_iconst (pc' := 3) (v := 0) dX8_isCovered_2 rfl (by decide) ?_
  refine x_istore (pc' := 5) dX8_isCovered_3 rfl (by decide) rfl (ls' := [.ref 94, .int x1, .int x2, .int 0, .int 0, Unk, Unk, Unk]) rfl ?_
  exact h
set_option maxRecDepth 100000 in
set_option maxHeartbeats 4000000 in
theorem vX8_isCovered_5 {d : Nat} {σ : Mem} {Q : Option Value → Mem → Prop} {x1 x2 x3 x4 : Int32} 
    (h : (((σ.1 96 0) ≤ x4 → ((x3 ≤ 0 → Q (some (.int 0)) σ) ∧ (¬ x3 ≤ 0 → (((σ.1 102 0) = 0 → Q (some (.int 0)) σ) ∧ (¬ (σ.1 102 0) = 0 → Q (some (.int 1)) σ))))) ∧ (¬ (σ.1 96 0) ≤ x4 → (vp_in (2 + x4) 728 ∧ ((¬ (σ.1 96 (2 + x4).toNatClampNeg) = (-4) → ((0 ≤ (σ.1 96 (2 + x4).toNatClampNeg) → (vp_in (122 + (4 * (σ.1 96 (2 + x4).toNatClampNeg))) 728 ∧ (vp_in ((122 + (4 * (σ.1 96 (2 + x4).toNatClampNeg))) + 1) 728 ∧ ((¬ ((σ.1 96 (122 + (4 * (σ.1 96 (2 + x4).toNatClampNeg))).toNatClampNeg) ≤ x1 ∧ x1 ≤ (σ.1 96 ((122 + (4 * (σ.1 96 (2 + x4).toNatClampNeg))) + 1).toNatClampNeg)) → (vp_in x3 64 ∧ (∀ τ1 : Mem, τ1 = (w1 σ 102 x3.toNatClampNeg 0) → X none (d + 1) mX8_isCovered 5 [.ref 94, .int x1, .int x2, .int (x3 + 1), .int (x4 + 1), Unk, Unk, Unk] [] τ1 Q))) ∧ (((σ.1 96 (122 + (4 * (σ.1 96 (2 + x4).toNatClampNeg))).toNatClampNeg) ≤ x1 ∧ x1 ≤ (σ.1 96 ((122 + (4 * (σ.1 96 (2 + x4).toNatClampNeg))) + 1).toNatClampNeg)) → (vp_in ((122 + (4 * (σ.1 96 (2 + x4).toNatClampNeg))) + 2) 728 ∧ (vp_in ((122 + (4 * (σ.1 96 (2 + x4).toNatClampNeg))) + 3) 728 ∧ ((¬ ((σ.1 96 ((122 + (4 * (σ.1 96 (2 + x4).toNatClampNeg))) + 2).toNatClampNeg) ≤ x2 ∧ x2 ≤ (σ.1 96 ((122 + (4 * (σ.1 96 (2 + x4).toNatClampNeg))) + 3).toNatClampNeg)) → (vp_in x3 64 ∧ (∀ τ2 : Mem, τ2 = (w1 σ 102 x3.toNatClampNeg 0) → X none (d + 1) mX8_isCovered 5 [.ref 94, .int x1, .int x2, .int (x3 + 1), .int (x4 + 1), Unk, Unk, Unk] [] τ2 Q))) ∧ (((σ.1 96 ((122 + (4 * (σ.1 96 (2 + x4).toNatClampNeg))) + 2).toNatClampNeg) ≤ x2 ∧ x2 ≤ (σ.1 96 ((122 + (4 * (σ.1 96 (2 + x4).toNatClampNeg))) + 3).toNatClampNeg)) → (vp_in x3 64 ∧ (∀ τ3 : Mem, τ3 = (w1 σ 102 x3.toNatClampNeg 1) → X none (d + 1) mX8_isCovered 5 [.ref 94, .int x1, .int x2, .int (x3 + 1), .int (x4 + 1), Unk, Unk, Unk] [] τ3 Q))))))))))) ∧ (¬ 0 ≤ (σ.1 96 (2 + x4).toNatClampNeg) → (vp_in ((x3 + (-1)) - 1) 64 ∧ (vp_in (x3 + (-1)) 64 ∧ ((¬ (σ.1 96 (2 + x4).toNatClampNeg) = (-1) → ((¬ (σ.1 96 (2 + x4).toNatClampNeg) = (-2) → (((σ.1 102 ((x3 + (-1)) - 1).toNatClampNeg) = 0 → (vp_in ((x3 + (-1)) - 1) 64 ∧ (∀ τ4 : Mem, τ4 = (w1 σ 102 ((x3 + (-1)) - 1).toNatClampNeg 0) → X none (d + 1) mX8_isCovered 5 [.ref 94, .int x1, .int x2, .int (x3 + (-1)), .int (x4 + 1), Unk, Unk, Unk] [] τ4 Q))) ∧ (¬ (σ.1 102 ((x3 + (-1)) - 1).toNatClampNeg) = 0 → (((σ.1 102 (x3 + (-1)).toNatClampNeg) = 0 → (vp_in ((x3 + (-1)) - 1) 64 ∧ (∀ τ5 : Mem, τ5 = (w1 σ 102 ((x3 + (-1)) - 1).toNatClampNeg 0) → X none (d + 1) mX8_isCovered 5 [.ref 94, .int x1, .int x2, .int (x3 + (-1)), .int (x4 + 1), Unk, Unk, Unk] [] τ5 Q))) ∧ (¬ (σ.1 102 (x3 + (-1)).toNatClampNeg) = 0 → (vp_in ((x3 + (-1)) - 1) 64 ∧ (∀ τ6 : Mem, τ6 = (w1 σ 102 ((x3 + (-1)) - 1).toNatClampNeg 1) → X none (d + 1) mX8_isCovered 5 [.ref 94, .int x1, .int x2, .int (x3 + (-1)), .int (x4 + 1), Unk, Unk, Unk] [] τ6 Q))))))) ∧ ((σ.1 96 (2 + x4).toNatClampNeg) = (-2) → (((σ.1 102 ((x3 + (-1)) - 1).toNatClampNeg) = 0 → (vp_in ((x3 + (-1)) - 1) 64 ∧ (∀ τ7 : Mem, τ7 = (w1 σ 102 ((x3 + (-1)) - 1).toNatClampNeg 0) → X none (d + 1) mX8_isCovered 5 [.ref 94, .int x1, .int x2, .int (x3 + (-1)), .int (x4 + 1), Unk, Unk, Unk] [] τ7 Q))) ∧ (¬ (σ.1 102 ((x3 + (-1)) - 1).toNatClampNeg) = 0 → ((¬ (σ.1 102 (x3 + (-1)).toNatClampNeg) = 0 → (vp_in ((x3 + (-1)) - 1) 64 ∧ (∀ τ8 : Mem, τ8 = (w1 σ 102 ((x3 + (-1)) - 1).toNatClampNeg 0) → X none (d + 1) mX8_isCovered 5 [.ref 94, .int x1, .int x2, .int (x3 + (-1)), .int (x4 + 1), Unk, Unk, Unk] [] τ8 Q))) ∧ ((σ.1 102 (x3 + (-1)).toNatClampNeg) = 0 → (vp_in ((x3 + (-1)) - 1) 64 ∧ (∀ τ9 : Mem, τ9 = (w1 σ 102 ((x3 + (-1)) - 1).toNatClampNeg 1) → X none (d + 1) mX8_isCovered 5 [.ref 94, .int x1, .int x2, .int (x3 + (-1)), .int (x4 + 1), Unk, Unk, Unk] [] τ9 Q))))))))) ∧ ((σ.1 96 (2 + x4).toNatClampNeg) = (-1) → ((¬ (σ.1 102 ((x3 + (-1)) - 1).toNatClampNeg) = 0 → (vp_in ((x3 + (-1)) - 1) 64 ∧ (∀ τ10 : Mem, τ10 = (w1 σ 102 ((x3 + (-1)) - 1).toNatClampNeg 1) → X none (d + 1) mX8_isCovered 5 [.ref 94, .int x1, .int x2, .int (x3 + (-1)), .int (x4 + 1), Unk, Unk, Unk] [] τ10 Q))) ∧ ((σ.1 102 ((x3 + (-1)) - 1).toNatClampNeg) = 0 → (((σ.1 102 (x3 + (-1)).toNatClampNeg) = 0 → (vp_in ((x3 + (-1)) - 1) 64 ∧ (∀ τ11 : Mem, τ11 = (w1 σ 102 ((x3 + (-1)) - 1).toNatClampNeg 0) → X none (d + 1) mX8_isCovered 5 [.ref 94, .int x1, .int x2, .int (x3 + (-1)), .int (x4 + 1), Unk, Unk, Unk] [] τ11 Q))) ∧ (¬ (σ.1 102 (x3 + (-1)).toNatClampNeg) = 0 → (vp_in ((x3 + (-1)) - 1) 64 ∧ (∀ τ12 : Mem, τ12 = (w1 σ 102 ((x3 + (-1)) - 1).toNatClampNeg 1) → X none (d + 1) mX8_isCovered 5 [.ref 94, .int x1, .int x2, .int (x3 + (-1)), .int (x4 + 1), Unk, Unk, Unk] [] τ12 Q))))))))))))) ∧ ((σ.1 96 (2 + x4).toNatClampNeg) = (-4) → (vp_in (x3 - 1) 64 ∧ ((¬ (σ.1 102 (x3 - 1).toNatClampNeg) = 0 → (vp_in (x3 - 1) 64 ∧ (∀ τ13 : Mem, τ13 = (w1 σ 102 (x3 - 1).toNatClampNeg 0) → X none (d + 1) mX8_isCovered 5 [.ref 94, .int x1, .int x2, .int x3, .int (x4 + 1), Unk, Unk, Unk] [] τ13 Q))) ∧ ((σ.1 102 (x3 - 1).toNatClampNeg) = 0 → (vp_in (x3 - 1) 64 ∧ (∀ τ14 : Mem, τ14 = (w1 σ 102 (x3 - 1).toNatClampNeg 1) → X none (d + 1) mX8_isCovered 5 [.ref 94, .int x1, .int x2, .int x3, .int (x4 + 1), Unk, Unk, Unk] [] τ14 Q))))))))))) :
    X none (d + 1) mX8_isCovered 5 [.ref 94, .int x1, .int x2, .int x3, .int x4, Unk, Unk, Unk] [] σ Q := by
  refine x_iload (pc' := 7) dX8_isCovered_5 rfl rfl ?_
  refine x_aload_n (pc' := 8) dX8_isCovered_7 rfl rfl rfl ?_
  refine x_getr (pc' := 11) dX8_isCovered_8 rfl lfX8_13 kd_94 rfl rf_94_1 ?_
  refine x_iconst (pc' := 12) (v := 0) dX8_isCovered_11 rfl (by decide) ?_
  refine x_iald (pc' := 13) dX8_isCovered_12 rfl kd_96 (by rw [ln_96]; unfold vp_in; decide) ?_
  show X none (d + 1) mX8_isCovered 13 [.ref 94, .int x1, .int x2, .int x3, .int x4, Unk, Unk, Unk] [.int (σ.1 96 0), .int x4] σ _
  refine x_icmp_ge (pc' := 16) (tgt := 245) dX8_isCovered_13 (by decide) rfl (fun hc => ?_) (fun hc => ?_)
  · replace h := h.1 hc
    refine x_iload_n (pc' := 246) dX8_isCovered_245 rfl rfl rfl ?_
    refine x_if_le (pc' := 249) (tgt := 262) dX8_isCovered_246 (by decide) rfl (fun hc => ?_) (fun hc => ?_)
    · replace h := h.1 hc
      refine x_iconst (pc' := 263) (v := 0) dX8_isCovered_262 rfl (by decide) ?_
      exact x_iret dX8_isCovered_263 rfl rfl h
    · replace h := h.2 hc
      refine x_aload_n (pc' := 250) dX8_isCovered_249 rfl rfl rfl ?_
      refine x_getr (pc' := 253) dX8_isCovered_250 rfl lfX8_39 kd_94 rfl rf_94_18 ?_
      refine x_iconst (pc' := 254) (v := 0) dX8_isCovered_253 rfl (by decide) ?_
      refine x_zald (pc' := 255) dX8_isCovered_254 rfl kd_102 (by rw [ln_102]; unfold vp_in; decide) ?_
      show X none (d + 1) mX8_isCovered 255 [.ref 94, .int x1, .int x2, .int x3, .int x4, Unk, Unk, Unk] [.int (σ.1 102 0)] σ _
      refine x_if_eq (pc' := 258) (tgt := 262) dX8_isCovered_255 (by decide) rfl (fun hc => ?_) (fun hc => ?_)
      · replace h := h.1 hc
        refine x_iconst (pc' := 263) (v := 0) dX8_isCovered_262 rfl (by decide) ?_
        exact x_iret dX8_isCovered_263 rfl rfl h
      · replace h := h.2 hc
        refine x_iconst (pc' := 259) (v := 1) dX8_isCovered_258 rfl (by decide) ?_
        refine x_goto (pc' := 263) dX8_isCovered_259 (by decide) ?_
        exact x_iret dX8_isCovered_263 rfl rfl h
  · replace h := h.2 hc
    refine x_aload_n (pc' := 17) dX8_isCovered_16 rfl rfl rfl ?_
    refine x_getr (pc' := 20) dX8_isCovered_17 rfl lfX8_13 kd_94 rfl rf_94_1 ?_
    refine x_iconst (pc' := 21) (v := 2) dX8_isCovered_20 rfl (by decide) ?_
    refine x_iload (pc' := 23) dX8_isCovered_21 rfl rfl ?_
    refine x_iadd (pc' := 24) dX8_isCovered_23 rfl ?_
    obtain ⟨hb, h⟩ := h
    refine x_iald (pc' := 25) dX8_isCovered_24 rfl kd_96 (by rw [ln_96]; exact hb) ?_
    refine x_istore (pc' := 27) dX8_isCovered_25 rfl (by decide) rfl (ls' := [.ref 94, .int x1, .int x2, .int x3, .int x4, .int (σ.1 96 (2 + x4).toNatClampNeg), Unk, Unk]) rfl ?_
    refine x_iload (pc' := 29) dX8_isCovered_27 rfl rfl ?_
    refine x_bipush (pc' := 31) (v := (-4)) dX8_isCovered_29 rfl (by decide) ?_
    refine x_icmp_ne (pc' := 34) (tgt := 61) dX8_isCovered_31 (by decide) rfl (fun hc => ?_) (fun hc => ?_)
    · replace h := h.1 hc
      refine x_iload (pc' := 63) dX8_isCovered_61 rfl rfl ?_
      refine x_if_ge (pc' := 66) (tgt := 162) dX8_isCovered_63 (by decide) rfl (fun hc => ?_) (fun hc => ?_)
      · replace h := h.1 hc
        refine x_bipush (pc' := 164) (v := 122) dX8_isCovered_162 rfl (by decide) ?_
        refine x_iconst (pc' := 165) (v := 4) dX8_isCovered_164 rfl (by decide) ?_
        refine x_iload (pc' := 167) dX8_isCovered_165 rfl rfl ?_
        refine x_imul (pc' := 168) dX8_isCovered_167 rfl ?_
        refine x_iadd (pc' := 169) dX8_isCovered_168 rfl ?_
        refine x_istore (pc' := 171) dX8_isCovered_169 rfl (by decide) rfl (ls' := [.ref 94, .int x1, .int x2, .int x3, .int x4, .int (σ.1 96 (2 + x4).toNatClampNeg), .int (122 + (4 * (σ.1 96 (2 + x4).toNatClampNeg))), Unk]) rfl ?_
        refine x_aload_n (pc' := 172) dX8_isCovered_171 rfl rfl rfl ?_
        refine x_getr (pc' := 175) dX8_isCovered_172 rfl lfX8_39 kd_94 rfl rf_94_18 ?_
        refine x_iload_n (pc' := 176) dX8_isCovered_175 rfl rfl rfl ?_
        refine x_iload_n (pc' := 177) dX8_isCovered_176 rfl rfl rfl ?_
        refine x_i2l (pc' := 178) dX8_isCovered_177 rfl ?_
        refine x_aload_n (pc' := 179) dX8_isCovered_178 rfl rfl rfl ?_
        refine x_getr (pc' := 182) dX8_isCovered_179 rfl lfX8_13 kd_94 rfl rf_94_1 ?_
        refine x_iload (pc' := 184) dX8_isCovered_182 rfl rfl ?_
        obtain ⟨hb, h⟩ := h
        refine x_iald (pc' := 185) dX8_isCovered_184 rfl kd_96 (by rw [ln_96]; exact hb) ?_
        refine x_i2l (pc' := 186) dX8_isCovered_185 rfl ?_
        refine x_aload_n (pc' := 187) dX8_isCovered_186 rfl rfl rfl ?_
        refine x_getr (pc' := 190) dX8_isCovered_187 rfl lfX8_13 kd_94 rfl rf_94_1 ?_
        refine x_iload (pc' := 192) dX8_isCovered_190 rfl rfl ?_
        refine x_iconst (pc' := 193) (v := 1) dX8_isCovered_192 rfl (by decide) ?_
        refine x_iadd (pc' := 194) dX8_isCovered_193 rfl ?_
        obtain ⟨hb, h⟩ := h
        refine x_iald (pc' := 195) dX8_isCovered_194 rfl kd_96 (by rw [ln_96]; exact hb) ?_
        refine x_i2l (pc' := 196) dX8_isCovered_195 rfl ?_
        refine x_callS (pc' := 199) (As := [.long ((x1).toInt64), .long (((σ.1 96 (122 + (4 * (σ.1 96 (2 + x4).toNatClampNeg))).toNatClampNeg)).toInt64), .long (((σ.1 96 ((122 + (4 * (σ.1 96 (2 + x4).toNatClampNeg))) + 1).toNatClampNeg)).toInt64)]) dX8_isCovered_196 rfl lmX8_49 rfl rfl (Nat.le_of_ble_eq_true rfl) (Nat.le_of_ble_eq_true rfl) ?_
        show X none d mX8_in 0 [.long ((x1).toInt64), Unk, .long (((σ.1 96 (122 + (4 * (σ.1 96 (2 + x4).toNatClampNeg))).toNatClampNeg)).toInt64), Unk, .long (((σ.1 96 ((122 + (4 * (σ.1 96 (2 + x4).toNatClampNeg))) + 1).toNatClampNeg)).toInt64), Unk] [] σ _
        refine sp_in (x := x1) (lo := (σ.1 96 (122 + (4 * (σ.1 96 (2 + x4).toNatClampNeg))).toNatClampNeg)) (hi := (σ.1 96 ((122 + (4 * (σ.1 96 (2 + x4).toNatClampNeg))) + 1).toNatClampNeg)) rfl rfl ?_
        show X none (d + 1) mX8_isCovered 199 [.ref 94, .int x1, .int x2, .int x3, .int x4, .int (σ.1 96 (2 + x4).toNatClampNeg), .int (122 + (4 * (σ.1 96 (2 + x4).toNatClampNeg))), Unk] [.int (if ((σ.1 96 (122 + (4 * (σ.1 96 (2 + x4).toNatClampNeg))).toNatClampNeg) ≤ x1 ∧ x1 ≤ (σ.1 96 ((122 + (4 * (σ.1 96 (2 + x4).toNatClampNeg))) + 1).toNatClampNeg)) then 1 else 0), .int x3, .ref 102] σ _
        refine x_if_eq (pc' := 202) (tgt := 234) dX8_isCovered_199 (by decide) rfl (fun hc => ?_) (fun hc => ?_)
        · replace h := h.1 (b01_ne hc)
          refine x_iconst (pc' := 235) (v := 0) dX8_isCovered_234 rfl (by decide) ?_
          obtain ⟨hb, h⟩ := h
          refine x_zast (pc' := 236) dX8_isCovered_235 rfl kd_102 (by rw [ln_102]; exact hb) (by decide) ?_
          obtain ⟨τ1, eτ1⟩ : ∃ τ : Mem, τ = (w1 σ 102 x3.toNatClampNeg 0) := ⟨_, rfl⟩
          show X none (d + 1) mX8_isCovered 236 [.ref 94, .int x1, .int x2, .int x3, .int x4, .int (σ.1 96 (2 + x4).toNatClampNeg), .int (122 + (4 * (σ.1 96 (2 + x4).toNatClampNeg))), Unk] [] (w1 σ 102 x3.toNatClampNeg 0) _
          rw [← eτ1]
          replace h := h τ1 eτ1
          refine x_iinc (pc' := 239) (v := 1) dX8_isCovered_236 rfl (by decide) rfl rfl (by decide) (ls' := [.ref 94, .int x1, .int x2, .int (x3 + 1), .int x4, .int (σ.1 96 (2 + x4).toNatClampNeg), .int (122 + (4 * (σ.1 96 (2 + x4).toNatClampNeg))), Unk]) rfl ?_
          refine x_iinc (pc' := 242) (v := 1) dX8_isCovered_239 rfl (by decide) rfl rfl (by decide) (ls' := [.ref 94, .int x1, .int x2, .int (x3 + 1), .int (x4 + 1), .int (σ.1 96 (2 + x4).toNatClampNeg), .int (122 + (4 * (σ.1 96 (2 + x4).toNatClampNeg))), Unk]) rfl ?_
          refine x_goto (pc' := 5) dX8_isCovered_242 (by decide) ?_
          refine x_forget 5 (ls' := [.ref 94, .int x1, .int x2, .int (x3 + 1), .int (x4 + 1), Unk, .int (122 + (4 * (σ.1 96 (2 + x4).toNatClampNeg))), Unk]) rfl ?_
          refine x_forget 6 (ls' := [.ref 94, .int x1, .int x2, .int (x3 + 1), .int (x4 + 1), Unk, Unk, Unk]) rfl ?_
          exact h
        · replace h := h.2 (b01_eq hc)
          refine x_iload_n (pc' := 203) dX8_isCovered_202 rfl rfl rfl ?_
          refine x_i2l (pc' := 204) dX8_isCovered_203 rfl ?_
          refine x_aload_n (pc' := 205) dX8_isCovered_204 rfl rfl rfl ?_
          refine x_getr (pc' := 208) dX8_isCovered_205 rfl lfX8_13 kd_94 rfl rf_94_1 ?_
          refine x_iload (pc' := 210) dX8_isCovered_208 rfl rfl ?_
          refine x_iconst (pc' := 211) (v := 2) dX8_isCovered_210 rfl (by decide) ?_
          refine x_iadd (pc' := 212) dX8_isCovered_211 rfl ?_
          obtain ⟨hb, h⟩ := h
          refine x_iald (pc' := 213) dX8_isCovered_212 rfl kd_96 (by rw [ln_96]; exact hb) ?_
          refine x_i2l (pc' := 214) dX8_isCovered_213 rfl ?_
          refine x_aload_n (pc' := 215) dX8_isCovered_214 rfl rfl rfl ?_
          refine x_getr (pc' := 218) dX8_isCovered_215 rfl lfX8_13 kd_94 rfl rf_94_1 ?_
          refine x_iload (pc' := 220) dX8_isCovered_218 rfl rfl ?_
          refine x_iconst (pc' := 221) (v := 3) dX8_isCovered_220 rfl (by decide) ?_
          refine x_iadd (pc' := 222) dX8_isCovered_221 rfl ?_
          obtain ⟨hb, h⟩ := h
          refine x_iald (pc' := 223) dX8_isCovered_222 rfl kd_96 (by rw [ln_96]; exact hb) ?_
          refine x_i2l (pc' := 224) dX8_isCovered_223 rfl ?_
          refine x_callS (pc' := 227) (As := [.long ((x2).toInt64), .long (((σ.1 96 ((122 + (4 * (σ.1 96 (2 + x4).toNatClampNeg))) + 2).toNatClampNeg)).toInt64), .long (((σ.1 96 ((122 + (4 * (σ.1 96 (2 + x4).toNatClampNeg))) + 3).toNatClampNeg)).toInt64)]) dX8_isCovered_224 rfl lmX8_49 rfl rfl (Nat.le_of_ble_eq_true rfl) (Nat.le_of_ble_eq_true rfl) ?_
          show X none d mX8_in 0 [.long ((x2).toInt64), Unk, .long (((σ.1 96 ((122 + (4 * (σ.1 96 (2 + x4).toNatClampNeg))) + 2).toNatClampNeg)).toInt64), Unk, .long (((σ.1 96 ((122 + (4 * (σ.1 96 (2 + x4).toNatClampNeg))) + 3).toNatClampNeg)).toInt64), Unk] [] σ _
          refine sp_in (x := x2) (lo := (σ.1 96 ((122 + (4 * (σ.1 96 (2 + x4).toNatClampNeg))) + 2).toNatClampNeg)) (hi := (σ.1 96 ((122 + (4 * (σ.1 96 (2 + x4).toNatClampNeg))) + 3).toNatClampNeg)) rfl rfl ?_
          show X none (d + 1) mX8_isCovered 227 [.ref 94, .int x1, .int x2, .int x3, .int x4, .int (σ.1 96 (2 + x4).toNatClampNeg), .int (122 + (4 * (σ.1 96 (2 + x4).toNatClampNeg))), Unk] [.int (if ((σ.1 96 ((122 + (4 * (σ.1 96 (2 + x4).toNatClampNeg))) + 2).toNatClampNeg) ≤ x2 ∧ x2 ≤ (σ.1 96 ((122 + (4 * (σ.1 96 (2 + x4).toNatClampNeg))) + 3).toNatClampNeg)) then 1 else 0), .int x3, .ref 102] σ _
          refine x_if_eq (pc' := 230) (tgt := 234) dX8_isCovered_227 (by decide) rfl (fun hc => ?_) (fun hc => ?_)
          · replace h := h.1 (b01_ne hc)
            refine x_iconst (pc' := 235) (v := 0) dX8_isCovered_234 rfl (by decide) ?_
            obtain ⟨hb, h⟩ := h
            refine x_zast (pc' := 236) dX8_isCovered_235 rfl kd_102 (by rw [ln_102]; exact hb) (by decide) ?_
            obtain ⟨τ2, eτ2⟩ : ∃ τ : Mem, τ = (w1 σ 102 x3.toNatClampNeg 0) := ⟨_, rfl⟩
            show X none (d + 1) mX8_isCovered 236 [.ref 94, .int x1, .int x2, .int x3, .int x4, .int (σ.1 96 (2 + x4).toNatClampNeg), .int (122 + (4 * (σ.1 96 (2 + x4).toNatClampNeg))), Unk] [] (w1 σ 102 x3.toNatClampNeg 0) _
            rw [← eτ2]
            replace h := h τ2 eτ2
            refine x_iinc (pc' := 239) (v := 1) dX8_isCovered_236 rfl (by decide) rfl rfl (by decide) (ls' := [.ref 94, .int x1, .int x2, .int (x3 + 1), .int x4, .int (σ.1 96 (2 + x4).toNatClampNeg), .int (122 + (4 * (σ.1 96 (2 + x4).toNatClampNeg))), Unk]) rfl ?_
            refine x_iinc (pc' := 242) (v := 1) dX8_isCovered_239 rfl (by decide) rfl rfl (by decide) (ls' := [.ref 94, .int x1, .int x2, .int (x3 + 1), .int (x4 + 1), .int (σ.1 96 (2 + x4).toNatClampNeg), .int (122 + (4 * (σ.1 96 (2 + x4).toNatClampNeg))), Unk]) rfl ?_
            refine x_goto (pc' := 5) dX8_isCovered_242 (by decide) ?_
            refine x_forget 5 (ls' := [.ref 94, .int x1, .int x2, .int (x3 + 1), .int (x4 + 1), Unk, .int (122 + (4 * (σ.1 96 (2 + x4).toNatClampNeg))), Unk]) rfl ?_
            refine x_forget 6 (ls' := [.ref 94, .int x1, .int x2, .int (x3 + 1), .int (x4 + 1), Unk, Unk, Unk]) rfl ?_
            exact h
          · replace h := h.2 (b01_eq hc)
            refine x_iconst (pc' := 231) (v := 1) dX8_isCovered_230 rfl (by decide) ?_
            refine x_goto (pc' := 235) dX8_isCovered_231 (by decide) ?_
            obtain ⟨hb, h⟩ := h
            refine x_zast (pc' := 236) dX8_isCovered_235 rfl kd_102 (by rw [ln_102]; exact hb) (by decide) ?_
            obtain ⟨τ3, eτ3⟩ : ∃ τ : Mem, τ = (w1 σ 102 x3.toNatClampNeg 1) := ⟨_, rfl⟩
            show X none (d + 1) mX8_isCovered 236 [.ref 94, .int x1, .int x2, .int x3, .int x4, .int (σ.1 96 (2 + x4).toNatClampNeg), .int (122 + (4 * (σ.1 96 (2 + x4).toNatClampNeg))), Unk] [] (w1 σ 102 x3.toNatClampNeg 1) _
            rw [← eτ3]
            replace h := h τ3 eτ3
            refine x_iinc (pc' := 239) (v := 1) dX8_isCovered_236 rfl (by decide) rfl rfl (by decide) (ls' := [.ref 94, .int x1, .int x2, .int (x3 + 1), .int x4, .int (σ.1 96 (2 + x4).toNatClampNeg), .int (122 + (4 * (σ.1 96 (2 + x4).toNatClampNeg))), Unk]) rfl ?_
            refine x_iinc (pc' := 242) (v := 1) dX8_isCovered_239 rfl (by decide) rfl rfl (by decide) (ls' := [.ref 94, .int x1, .int x2, .int (x3 + 1), .int (x4 + 1), .int (σ.1 96 (2 + x4).toNatClampNeg), .int (122 + (4 * (σ.1 96 (2 + x4).toNatClampNeg))), Unk]) rfl ?_
            refine x_goto (pc' := 5) dX8_isCovered_242 (by decide) ?_
            refine x_forget 5 (ls' := [.ref 94, .int x1, .int x2, .int (x3 + 1), .int (x4 + 1), Unk, .int (122 + (4 * (σ.1 96 (2 + x4).toNatClampNeg))), Unk]) rfl ?_
            refine x_forget 6 (ls' := [.ref 94, .int x1, .int x2, .int (x3 + 1), .int (x4 + 1), Unk, Unk, Unk]) rfl ?_
            exact h
      · replace h := h.2 hc
        refine x_iinc (pc' := 69) (v := (-1)) dX8_isCovered_66 rfl (by decide) rfl rfl (by decide) (ls' := [.ref 94, .int x1, .int x2, .int (x3 + (-1)), .int x4, .int (σ.1 96 (2 + x4).toNatClampNeg), Unk, Unk]) rfl ?_
        refine x_aload_n (pc' := 70) dX8_isCovered_69 rfl rfl rfl ?_
        refine x_getr (pc' := 73) dX8_isCovered_70 rfl lfX8_39 kd_94 rfl rf_94_18 ?_
        refine x_iload_n (pc' := 74) dX8_isCovered_73 rfl rfl rfl ?_
        refine x_iconst (pc' := 75) (v := 1) dX8_isCovered_74 rfl (by decide) ?_
        refine x_isub (pc' := 76) dX8_isCovered_75 rfl ?_
        obtain ⟨hb, h⟩ := h
        refine x_zald (pc' := 77) dX8_isCovered_76 rfl kd_102 (by rw [ln_102]; exact hb) ?_
        refine x_istore (pc' := 79) dX8_isCovered_77 rfl (by decide) rfl (ls' := [.ref 94, .int x1, .int x2, .int (x3 + (-1)), .int x4, .int (σ.1 96 (2 + x4).toNatClampNeg), .int (σ.1 102 ((x3 + (-1)) - 1).toNatClampNeg), Unk]) rfl ?_
        refine x_aload_n (pc' := 80) dX8_isCovered_79 rfl rfl rfl ?_
        refine x_getr (pc' := 83) dX8_isCovered_80 rfl lfX8_39 kd_94 rfl rf_94_18 ?_
        refine x_iload_n (pc' := 84) dX8_isCovered_83 rfl rfl rfl ?_
        obtain ⟨hb, h⟩ := h
        refine x_zald (pc' := 85) dX8_isCovered_84 rfl kd_102 (by rw [ln_102]; exact hb) ?_
        refine x_istore (pc' := 87) dX8_isCovered_85 rfl (by decide) rfl (ls' := [.ref 94, .int x1, .int x2, .int (x3 + (-1)), .int x4, .int (σ.1 96 (2 + x4).toNatClampNeg), .int (σ.1 102 ((x3 + (-1)) - 1).toNatClampNeg), .int (σ.1 102 (x3 + (-1)).toNatClampNeg)]) rfl ?_
        refine x_aload_n (pc' := 88) dX8_isCovered_87 rfl rfl rfl ?_
        refine x_getr (pc' := 91) dX8_isCovered_88 rfl lfX8_39 kd_94 rfl rf_94_18 ?_
        refine x_iload_n (pc' := 92) dX8_isCovered_91 rfl rfl rfl ?_
        refine x_iconst (pc' := 93) (v := 1) dX8_isCovered_92 rfl (by decide) ?_
        refine x_isub (pc' := 94) dX8_isCovered_93 rfl ?_
        refine x_iload (pc' := 96) dX8_isCovered_94 rfl rfl ?_
        refine x_iconst (pc' := 97) (v := (-1)) dX8_isCovered_96 rfl (by decide) ?_
        refine x_icmp_ne (pc' := 100) (tgt := 118) dX8_isCovered_97 (by decide) rfl (fun hc => ?_) (fun hc => ?_)
        · replace h := h.1 hc
          refine x_iload (pc' := 120) dX8_isCovered_118 rfl rfl ?_
          refine x_bipush (pc' := 122) (v := (-2)) dX8_isCovered_120 rfl (by decide) ?_
          refine x_icmp_ne (pc' := 125) (tgt := 143) dX8_isCovered_122 (by decide) rfl (fun hc => ?_) (fun hc => ?_)
          · replace h := h.1 hc
            refine x_iload (pc' := 145) dX8_isCovered_143 rfl rfl ?_
            refine x_if_eq (pc' := 148) (tgt := 157) dX8_isCovered_145 (by decide) rfl (fun hc => ?_) (fun hc => ?_)
            · replace h := h.1 hc
              refine x_iconst (pc' := 158) (v := 0) dX8_isCovered_157 rfl (by decide) ?_
              obtain ⟨hb, h⟩ := h
              refine x_zast (pc' := 159) dX8_isCovered_158 rfl kd_102 (by rw [ln_102]; exact hb) (by decide) ?_
              obtain ⟨τ4, eτ4⟩ : ∃ τ : Mem, τ = (w1 σ 102 ((x3 + (-1)) - 1).toNatClampNeg 0) := ⟨_, rfl⟩
              show X none (d + 1) mX8_isCovered 159 [.ref 94, .int x1, .int x2, .int (x3 + (-1)), .int x4, .int (σ.1 96 (2 + x4).toNatClampNeg), .int (σ.1 102 ((x3 + (-1)) - 1).toNatClampNeg), .int (σ.1 102 (x3 + (-1)).toNatClampNeg)] [] (w1 σ 102 ((x3 + (-1)) - 1).toNatClampNeg 0) _
              rw [← eτ4]
              replace h := h τ4 eτ4
              refine x_goto (pc' := 239) dX8_isCovered_159 (by decide) ?_
              refine x_iinc (pc' := 242) (v := 1) dX8_isCovered_239 rfl (by decide) rfl rfl (by decide) (ls' := [.ref 94, .int x1, .int x2, .int (x3 + (-1)), .int (x4 + 1), .int (σ.1 96 (2 + x4).toNatClampNeg), .int (σ.1 102 ((x3 + (-1)) - 1).toNatClampNeg), .int (σ.1 102 (x3 + (-1)).toNatClampNeg)]) rfl ?_
              refine x_goto (pc' := 5) dX8_isCovered_242 (by decide) ?_
              refine x_forget 5 (ls' := [.ref 94, .int x1, .int x2, .int (x3 + (-1)), .int (x4 + 1), Unk, .int (σ.1 102 ((x3 + (-1)) - 1).toNatClampNeg), .int (σ.1 102 (x3 + (-1)).toNatClampNeg)]) rfl ?_
              refine x_forget 6 (ls' := [.ref 94, .int x1, .int x2, .int (x3 + (-1)), .int (x4 + 1), Unk, Unk, .int (σ.1 102 (x3 + (-1)).toNatClampNeg)]) rfl ?_
              refine x_forget 7 (ls' := [.ref 94, .int x1, .int x2, .int (x3 + (-1)), .int (x4 + 1), Unk, Unk, Unk]) rfl ?_
              exact h
            · replace h := h.2 hc
              refine x_iload (pc' := 150) dX8_isCovered_148 rfl rfl ?_
              refine x_if_eq (pc' := 153) (tgt := 157) dX8_isCovered_150 (by decide) rfl (fun hc => ?_) (fun hc => ?_)
              · replace h := h.1 hc
                refine x_iconst (pc' := 158) (v := 0) dX8_isCovered_157 rfl (by decide) ?_
                obtain ⟨hb, h⟩ := h
                refine x_zast (pc' := 159) dX8_isCovered_158 rfl kd_102 (by rw [ln_102]; exact hb) (by decide) ?_
                obtain ⟨τ5, eτ5⟩ : ∃ τ : Mem, τ = (w1 σ 102 ((x3 + (-1)) - 1).toNatClampNeg 0) := ⟨_, rfl⟩
                show X none (d + 1) mX8_isCovered 159 [.ref 94, .int x1, .int x2, .int (x3 + (-1)), .int x4, .int (σ.1 96 (2 + x4).toNatClampNeg), .int (σ.1 102 ((x3 + (-1)) - 1).toNatClampNeg), .int (σ.1 102 (x3 + (-1)).toNatClampNeg)] [] (w1 σ 102 ((x3 + (-1)) - 1).toNatClampNeg 0) _
                rw [← eτ5]
                replace h := h τ5 eτ5
                refine x_goto (pc' := 239) dX8_isCovered_159 (by decide) ?_
                refine x_iinc (pc' := 242) (v := 1) dX8_isCovered_239 rfl (by decide) rfl rfl (by decide) (ls' := [.ref 94, .int x1, .int x2, .int (x3 + (-1)), .int (x4 + 1), .int (σ.1 96 (2 + x4).toNatClampNeg), .int (σ.1 102 ((x3 + (-1)) - 1).toNatClampNeg), .int (σ.1 102 (x3 + (-1)).toNatClampNeg)]) rfl ?_
                refine x_goto (pc' := 5) dX8_isCovered_242 (by decide) ?_
                refine x_forget 5 (ls' := [.ref 94, .int x1, .int x2, .int (x3 + (-1)), .int (x4 + 1), Unk, .int (σ.1 102 ((x3 + (-1)) - 1).toNatClampNeg), .int (σ.1 102 (x3 + (-1)).toNatClampNeg)]) rfl ?_
                refine x_forget 6 (ls' := [.ref 94, .int x1, .int x2, .int (x3 + (-1)), .int (x4 + 1), Unk, Unk, .int (σ.1 102 (x3 + (-1)).toNatClampNeg)]) rfl ?_
                refine x_forget 7 (ls' := [.ref 94, .int x1, .int x2, .int (x3 + (-1)), .int (x4 + 1), Unk, Unk, Unk]) rfl ?_
                exact h
              · replace h := h.2 hc
                refine x_iconst (pc' := 154) (v := 1) dX8_isCovered_153 rfl (by decide) ?_
                refine x_goto (pc' := 158) dX8_isCovered_154 (by decide) ?_
                obtain ⟨hb, h⟩ := h
                refine x_zast (pc' := 159) dX8_isCovered_158 rfl kd_102 (by rw [ln_102]; exact hb) (by decide) ?_
                obtain ⟨τ6, eτ6⟩ : ∃ τ : Mem, τ = (w1 σ 102 ((x3 + (-1)) - 1).toNatClampNeg 1) := ⟨_, rfl⟩
                show X none (d + 1) mX8_isCovered 159 [.ref 94, .int x1, .int x2, .int (x3 + (-1)), .int x4, .int (σ.1 96 (2 + x4).toNatClampNeg), .int (σ.1 102 ((x3 + (-1)) - 1).toNatClampNeg), .int (σ.1 102 (x3 + (-1)).toNatClampNeg)] [] (w1 σ 102 ((x3 + (-1)) - 1).toNatClampNeg 1) _
                rw [← eτ6]
                replace h := h τ6 eτ6
                refine x_goto (pc' := 239) dX8_isCovered_159 (by decide) ?_
                refine x_iinc (pc' := 242) (v := 1) dX8_isCovered_239 rfl (by decide) rfl rfl (by decide) (ls' := [.ref 94, .int x1, .int x2, .int (x3 + (-1)), .int (x4 + 1), .int (σ.1 96 (2 + x4).toNatClampNeg), .int (σ.1 102 ((x3 + (-1)) - 1).toNatClampNeg), .int (σ.1 102 (x3 + (-1)).toNatClampNeg)]) rfl ?_
                refine x_goto (pc' := 5) dX8_isCovered_242 (by decide) ?_
                refine x_forget 5 (ls' := [.ref 94, .int x1, .int x2, .int (x3 + (-1)), .int (x4 + 1), Unk, .int (σ.1 102 ((x3 + (-1)) - 1).toNatClampNeg), .int (σ.1 102 (x3 + (-1)).toNatClampNeg)]) rfl ?_
                refine x_forget 6 (ls' := [.ref 94, .int x1, .int x2, .int (x3 + (-1)), .int (x4 + 1), Unk, Unk, .int (σ.1 102 (x3 + (-1)).toNatClampNeg)]) rfl ?_
                refine x_forget 7 (ls' := [.ref 94, .int x1, .int x2, .int (x3 + (-1)), .int (x4 + 1), Unk, Unk, Unk]) rfl ?_
                exact h
          · replace h := h.2 hc
            refine x_iload (pc' := 127) dX8_isCovered_125 rfl rfl ?_
            refine x_if_eq (pc' := 130) (tgt := 139) dX8_isCovered_127 (by decide) rfl (fun hc => ?_) (fun hc => ?_)
            · replace h := h.1 hc
              refine x_iconst (pc' := 140) (v := 0) dX8_isCovered_139 rfl (by decide) ?_
              refine x_goto (pc' := 158) dX8_isCovered_140 (by decide) ?_
              obtain ⟨hb, h⟩ := h
              refine x_zast (pc' := 159) dX8_isCovered_158 rfl kd_102 (by rw [ln_102]; exact hb) (by decide) ?_
              obtain ⟨τ7, eτ7⟩ : ∃ τ : Mem, τ = (w1 σ 102 ((x3 + (-1)) - 1).toNatClampNeg 0) := ⟨_, rfl⟩
              show X none (d + 1) mX8_isCovered 159 [.ref 94, .int x1, .int x2, .int (x3 + (-1)), .int x4, .int (σ.1 96 (2 + x4).toNatClampNeg), .int (σ.1 102 ((x3 + (-1)) - 1).toNatClampNeg), .int (σ.1 102 (x3 + (-1)).toNatClampNeg)] [] (w1 σ 102 ((x3 + (-1)) - 1).toNatClampNeg 0) _
              rw [← eτ7]
              replace h := h τ7 eτ7
              refine x_goto (pc' := 239) dX8_isCovered_159 (by decide) ?_
              refine x_iinc (pc' := 242) (v := 1) dX8_isCovered_239 rfl (by decide) rfl rfl (by decide) (ls' := [.ref 94, .int x1, .int x2, .int (x3 + (-1)), .int (x4 + 1), .int (σ.1 96 (2 + x4).toNatClampNeg), .int (σ.1 102 ((x3 + (-1)) - 1).toNatClampNeg), .int (σ.1 102 (x3 + (-1)).toNatClampNeg)]) rfl ?_
              refine x_goto (pc' := 5) dX8_isCovered_242 (by decide) ?_
              refine x_forget 5 (ls' := [.ref 94, .int x1, .int x2, .int (x3 + (-1)), .int (x4 + 1), Unk, .int (σ.1 102 ((x3 + (-1)) - 1).toNatClampNeg), .int (σ.1 102 (x3 + (-1)).toNatClampNeg)]) rfl ?_
              refine x_forget 6 (ls' := [.ref 94, .int x1, .int x2, .int (x3 + (-1)), .int (x4 + 1), Unk, Unk, .int (σ.1 102 (x3 + (-1)).toNatClampNeg)]) rfl ?_
              refine x_forget 7 (ls' := [.ref 94, .int x1, .int x2, .int (x3 + (-1)), .int (x4 + 1), Unk, Unk, Unk]) rfl ?_
              exact h
            · replace h := h.2 hc
              refine x_iload (pc' := 132) dX8_isCovered_130 rfl rfl ?_
              refine x_if_ne (pc' := 135) (tgt := 139) dX8_isCovered_132 (by decide) rfl (fun hc => ?_) (fun hc => ?_)
              · replace h := h.1 hc
                refine x_iconst (pc' := 140) (v := 0) dX8_isCovered_139 rfl (by decide) ?_
                refine x_goto (pc' := 158) dX8_isCovered_140 (by decide) ?_
                obtain ⟨hb, h⟩ := h
                refine x_zast (pc' := 159) dX8_isCovered_158 rfl kd_102 (by rw [ln_102]; exact hb) (by decide) ?_
                obtain ⟨τ8, eτ8⟩ : ∃ τ : Mem, τ = (w1 σ 102 ((x3 + (-1)) - 1).toNatClampNeg 0) := ⟨_, rfl⟩
                show X none (d + 1) mX8_isCovered 159 [.ref 94, .int x1, .int x2, .int (x3 + (-1)), .int x4, .int (σ.1 96 (2 + x4).toNatClampNeg), .int (σ.1 102 ((x3 + (-1)) - 1).toNatClampNeg), .int (σ.1 102 (x3 + (-1)).toNatClampNeg)] [] (w1 σ 102 ((x3 + (-1)) - 1).toNatClampNeg 0) _
                rw [← eτ8]
                replace h := h τ8 eτ8
                refine x_goto (pc' := 239) dX8_isCovered_159 (by decide) ?_
                refine x_iinc (pc' := 242) (v := 1) dX8_isCovered_239 rfl (by decide) rfl rfl (by decide) (ls' := [.ref 94, .int x1, .int x2, .int (x3 + (-1)), .int (x4 + 1), .int (σ.1 96 (2 + x4).toNatClampNeg), .int (σ.1 102 ((x3 + (-1)) - 1).toNatClampNeg), .int (σ.1 102 (x3 + (-1)).toNatClampNeg)]) rfl ?_
                refine x_goto (pc' := 5) dX8_isCovered_242 (by decide) ?_
                refine x_forget 5 (ls' := [.ref 94, .int x1, .int x2, .int (x3 + (-1)), .int (x4 + 1), Unk, .int (σ.1 102 ((x3 + (-1)) - 1).toNatClampNeg), .int (σ.1 102 (x3 + (-1)).toNatClampNeg)]) rfl ?_
                refine x_forget 6 (ls' := [.ref 94, .int x1, .int x2, .int (x3 + (-1)), .int (x4 + 1), Unk, Unk, .int (σ.1 102 (x3 + (-1)).toNatClampNeg)]) rfl ?_
                refine x_forget 7 (ls' := [.ref 94, .int x1, .int x2, .int (x3 + (-1)), .int (x4 + 1), Unk, Unk, Unk]) rfl ?_
                exact h
              · replace h := h.2 hc
                refine x_iconst (pc' := 136) (v := 1) dX8_isCovered_135 rfl (by decide) ?_
                refine x_goto (pc' := 158) dX8_isCovered_136 (by decide) ?_
                obtain ⟨hb, h⟩ := h
                refine x_zast (pc' := 159) dX8_isCovered_158 rfl kd_102 (by rw [ln_102]; exact hb) (by decide) ?_
                obtain ⟨τ9, eτ9⟩ : ∃ τ : Mem, τ = (w1 σ 102 ((x3 + (-1)) - 1).toNatClampNeg 1) := ⟨_, rfl⟩
                show X none (d + 1) mX8_isCovered 159 [.ref 94, .int x1, .int x2, .int (x3 + (-1)), .int x4, .int (σ.1 96 (2 + x4).toNatClampNeg), .int (σ.1 102 ((x3 + (-1)) - 1).toNatClampNeg), .int (σ.1 102 (x3 + (-1)).toNatClampNeg)] [] (w1 σ 102 ((x3 + (-1)) - 1).toNatClampNeg 1) _
                rw [← eτ9]
                replace h := h τ9 eτ9
                refine x_goto (pc' := 239) dX8_isCovered_159 (by decide) ?_
                refine x_iinc (pc' := 242) (v := 1) dX8_isCovered_239 rfl (by decide) rfl rfl (by decide) (ls' := [.ref 94, .int x1, .int x2, .int (x3 + (-1)), .int (x4 + 1), .int (σ.1 96 (2 + x4).toNatClampNeg), .int (σ.1 102 ((x3 + (-1)) - 1).toNatClampNeg), .int (σ.1 102 (x3 + (-1)).toNatClampNeg)]) rfl ?_
                refine x_goto (pc' := 5) dX8_isCovered_242 (by decide) ?_
                refine x_forget 5 (ls' := [.ref 94, .int x1, .int x2, .int (x3 + (-1)), .int (x4 + 1), Unk, .int (σ.1 102 ((x3 + (-1)) - 1).toNatClampNeg), .int (σ.1 102 (x3 + (-1)).toNatClampNeg)]) rfl ?_
                refine x_forget 6 (ls' := [.ref 94, .int x1, .int x2, .int (x3 + (-1)), .int (x4 + 1), Unk, Unk, .int (σ.1 102 (x3 + (-1)).toNatClampNeg)]) rfl ?_
                refine x_forget 7 (ls' := [.ref 94, .int x1, .int x2, .int (x3 + (-1)), .int (x4 + 1), Unk, Unk, Unk]) rfl ?_
                exact h
        · replace h := h.2 hc
          refine x_iload (pc' := 102) dX8_isCovered_100 rfl rfl ?_
          refine x_if_ne (pc' := 105) (tgt := 110) dX8_isCovered_102 (by decide) rfl (fun hc => ?_) (fun hc => ?_)
          · replace h := h.1 hc
            refine x_iconst (pc' := 111) (v := 1) dX8_isCovered_110 rfl (by decide) ?_
            refine x_goto (pc' := 158) dX8_isCovered_111 (by decide) ?_
            obtain ⟨hb, h⟩ := h
            refine x_zast (pc' := 159) dX8_isCovered_158 rfl kd_102 (by rw [ln_102]; exact hb) (by decide) ?_
            obtain ⟨τ10, eτ10⟩ : ∃ τ : Mem, τ = (w1 σ 102 ((x3 + (-1)) - 1).toNatClampNeg 1) := ⟨_, rfl⟩
            show X none (d + 1) mX8_isCovered 159 [.ref 94, .int x1, .int x2, .int (x3 + (-1)), .int x4, .int (σ.1 96 (2 + x4).toNatClampNeg), .int (σ.1 102 ((x3 + (-1)) - 1).toNatClampNeg), .int (σ.1 102 (x3 + (-1)).toNatClampNeg)] [] (w1 σ 102 ((x3 + (-1)) - 1).toNatClampNeg 1) _
            rw [← eτ10]
            replace h := h τ10 eτ10
            refine x_goto (pc' := 239) dX8_isCovered_159 (by decide) ?_
            refine x_iinc (pc' := 242) (v := 1) dX8_isCovered_239 rfl (by decide) rfl rfl (by decide) (ls' := [.ref 94, .int x1, .int x2, .int (x3 + (-1)), .int (x4 + 1), .int (σ.1 96 (2 + x4).toNatClampNeg), .int (σ.1 102 ((x3 + (-1)) - 1).toNatClampNeg), .int (σ.1 102 (x3 + (-1)).toNatClampNeg)]) rfl ?_
            refine x_goto (pc' := 5) dX8_isCovered_242 (by decide) ?_
            refine x_forget 5 (ls' := [.ref 94, .int x1, .int x2, .int (x3 + (-1)), .int (x4 + 1), Unk, .int (σ.1 102 ((x3 + (-1)) - 1).toNatClampNeg), .int (σ.1 102 (x3 + (-1)).toNatClampNeg)]) rfl ?_
            refine x_forget 6 (ls' := [.ref 94, .int x1, .int x2, .int (x3 + (-1)), .int (x4 + 1), Unk, Unk, .int (σ.1 102 (x3 + (-1)).toNatClampNeg)]) rfl ?_
            refine x_forget 7 (ls' := [.ref 94, .int x1, .int x2, .int (x3 + (-1)), .int (x4 + 1), Unk, Unk, Unk]) rfl ?_
            exact h
          · replace h := h.2 hc
            refine x_iload (pc' := 107) dX8_isCovered_105 rfl rfl ?_
            refine x_if_eq (pc' := 110) (tgt := 114) dX8_isCovered_107 (by decide) rfl (fun hc => ?_) (fun hc => ?_)
            · replace h := h.1 hc
              refine x_iconst (pc' := 115) (v := 0) dX8_isCovered_114 rfl (by decide) ?_
              refine x_goto (pc' := 158) dX8_isCovered_115 (by decide) ?_
              obtain ⟨hb, h⟩ := h
              refine x_zast (pc' := 159) dX8_isCovered_158 rfl kd_102 (by rw [ln_102]; exact hb) (by decide) ?_
              obtain ⟨τ11, eτ11⟩ : ∃ τ : Mem, τ = (w1 σ 102 ((x3 + (-1)) - 1).toNatClampNeg 0) := ⟨_, rfl⟩
              show X none (d + 1) mX8_isCovered 159 [.ref 94, .int x1, .int x2, .int (x3 + (-1)), .int x4, .int (σ.1 96 (2 + x4).toNatClampNeg), .int (σ.1 102 ((x3 + (-1)) - 1).toNatClampNeg), .int (σ.1 102 (x3 + (-1)).toNatClampNeg)] [] (w1 σ 102 ((x3 + (-1)) - 1).toNatClampNeg 0) _
              rw [← eτ11]
              replace h := h τ11 eτ11
              refine x_goto (pc' := 239) dX8_isCovered_159 (by decide) ?_
              refine x_iinc (pc' := 242) (v := 1) dX8_isCovered_239 rfl (by decide) rfl rfl (by decide) (ls' := [.ref 94, .int x1, .int x2, .int (x3 + (-1)), .int (x4 + 1), .int (σ.1 96 (2 + x4).toNatClampNeg), .int (σ.1 102 ((x3 + (-1)) - 1).toNatClampNeg), .int (σ.1 102 (x3 + (-1)).toNatClampNeg)]) rfl ?_
              refine x_goto (pc' := 5) dX8_isCovered_242 (by decide) ?_
              refine x_forget 5 (ls' := [.ref 94, .int x1, .int x2, .int (x3 + (-1)), .int (x4 + 1), Unk, .int (σ.1 102 ((x3 + (-1)) - 1).toNatClampNeg), .int (σ.1 102 (x3 + (-1)).toNatClampNeg)]) rfl ?_
              refine x_forget 6 (ls' := [.ref 94, .int x1, .int x2, .int (x3 + (-1)), .int (x4 + 1), Unk, Unk, .int (σ.1 102 (x3 + (-1)).toNatClampNeg)]) rfl ?_
              refine x_forget 7 (ls' := [.ref 94, .int x1, .int x2, .int (x3 + (-1)), .int (x4 + 1), Unk, Unk, Unk]) rfl ?_
              exact h
            · replace h := h.2 hc
              refine x_iconst (pc' := 111) (v := 1) dX8_isCovered_110 rfl (by decide) ?_
              refine x_goto (pc' := 158) dX8_isCovered_111 (by decide) ?_
              obtain ⟨hb, h⟩ := h
              refine x_zast (pc' := 159) dX8_isCovered_158 rfl kd_102 (by rw [ln_102]; exact hb) (by decide) ?_
              obtain ⟨τ12, eτ12⟩ : ∃ τ : Mem, τ = (w1 σ 102 ((x3 + (-1)) - 1).toNatClampNeg 1) := ⟨_, rfl⟩
              show X none (d + 1) mX8_isCovered 159 [.ref 94, .int x1, .int x2, .int (x3 + (-1)), .int x4, .int (σ.1 96 (2 + x4).toNatClampNeg), .int (σ.1 102 ((x3 + (-1)) - 1).toNatClampNeg), .int (σ.1 102 (x3 + (-1)).toNatClampNeg)] [] (w1 σ 102 ((x3 + (-1)) - 1).toNatClampNeg 1) _
              rw [← eτ12]
              replace h := h τ12 eτ12
              refine x_goto (pc' := 239) dX8_isCovered_159 (by decide) ?_
              refine x_iinc (pc' := 242) (v := 1) dX8_isCovered_239 rfl (by decide) rfl rfl (by decide) (ls' := [.ref 94, .int x1, .int x2, .int (x3 + (-1)), .int (x4 + 1), .int (σ.1 96 (2 + x4).toNatClampNeg), .int (σ.1 102 ((x3 + (-1)) - 1).toNatClampNeg), .int (σ.1 102 (x3 + (-1)).toNatClampNeg)]) rfl ?_
              refine x_goto (pc' := 5) dX8_isCovered_242 (by decide) ?_
              refine x_forget 5 (ls' := [.ref 94, .int x1, .int x2, .int (x3 + (-1)), .int (x4 + 1), Unk, .int (σ.1 102 ((x3 + (-1)) - 1).toNatClampNeg), .int (σ.1 102 (x3 + (-1)).toNatClampNeg)]) rfl ?_
              refine x_forget 6 (ls' := [.ref 94, .int x1, .int x2, .int (x3 + (-1)), .int (x4 + 1), Unk, Unk, .int (σ.1 102 (x3 + (-1)).toNatClampNeg)]) rfl ?_
              refine x_forget 7 (ls' := [.ref 94, .int x1, .int x2, .int (x3 + (-1)), .int (x4 + 1), Unk, Unk, Unk]) rfl ?_
              exact h
    · replace h := h.2 hc
      refine x_aload_n (pc' := 35) dX8_isCovered_34 rfl rfl rfl ?_
      refine x_getr (pc' := 38) dX8_isCovered_35 rfl lfX8_39 kd_94 rfl rf_94_18 ?_
      refine x_iload_n (pc' := 39) dX8_isCovered_38 rfl rfl rfl ?_
      refine x_iconst (pc' := 40) (v := 1) dX8_isCovered_39 rfl (by decide) ?_
      refine x_isub (pc' := 41) dX8_isCovered_40 rfl ?_
      refine x_aload_n (pc' := 42) dX8_isCovered_41 rfl rfl rfl ?_
      refine x_getr (pc' := 45) dX8_isCovered_42 rfl lfX8_39 kd_94 rfl rf_94_18 ?_
      refine x_iload_n (pc' := 46) dX8_isCovered_45 rfl rfl rfl ?_
      refine x_iconst (pc' := 47) (v := 1) dX8_isCovered_46 rfl (by decide) ?_
      refine x_isub (pc' := 48) dX8_isCovered_47 rfl ?_
      obtain ⟨hb, h⟩ := h
      refine x_zald (pc' := 49) dX8_isCovered_48 rfl kd_102 (by rw [ln_102]; exact hb) ?_
      refine x_if_ne (pc' := 52) (tgt := 56) dX8_isCovered_49 (by decide) rfl (fun hc => ?_) (fun hc => ?_)
      · replace h := h.1 hc
        refine x_iconst (pc' := 57) (v := 0) dX8_isCovered_56 rfl (by decide) ?_
        obtain ⟨hb, h⟩ := h
        refine x_zast (pc' := 58) dX8_isCovered_57 rfl kd_102 (by rw [ln_102]; exact hb) (by decide) ?_
        obtain ⟨τ13, eτ13⟩ : ∃ τ : Mem, τ = (w1 σ 102 (x3 - 1).toNatClampNeg 0) := ⟨_, rfl⟩
        show X none (d + 1) mX8_isCovered 58 [.ref 94, .int x1, .int x2, .int x3, .int x4, .int (σ.1 96 (2 + x4).toNatClampNeg), Unk, Unk] [] (w1 σ 102 (x3 - 1).toNatClampNeg 0) _
        rw [← eτ13]
        replace h := h τ13 eτ13
        refine x_goto (pc' := 239) dX8_isCovered_58 (by decide) ?_
        refine x_iinc (pc' := 242) (v := 1) dX8_isCovered_239 rfl (by decide) rfl rfl (by decide) (ls' := [.ref 94, .int x1, .int x2, .int x3, .int (x4 + 1), .int (σ.1 96 (2 + x4).toNatClampNeg), Unk, Unk]) rfl ?_
        refine x_goto (pc' := 5) dX8_isCovered_242 (by decide) ?_
        refine x_forget 5 (ls' := [.ref 94, .int x1, .int x2, .int x3, .int (x4 + 1), Unk, Unk, Unk]) rfl ?_
        exact h
      · replace h := h.2 hc
        refine x_iconst (pc' := 53) (v := 1) dX8_isCovered_52 rfl (by decide) ?_
        refine x_goto (pc' := 57) dX8_isCovered_53 (by decide) ?_
        obtain ⟨hb, h⟩ := h
        refine x_zast (pc' := 58) dX8_isCovered_57 rfl kd_102 (by rw [ln_102]; exact hb) (by decide) ?_
        obtain ⟨τ14, eτ14⟩ : ∃ τ : Mem, τ = (w1 σ 102 (x3 - 1).toNatClampNeg 1) := ⟨_, rfl⟩
        show X none (d + 1) mX8_isCovered 58 [.ref 94, .int x1, .int x2, .int x3, .int x4, .int (σ.1 96 (2 + x4).toNatClampNeg), Unk, Unk] [] (w1 σ 102 (x3 - 1).toNatClampNeg 1) _
        rw [← eτ14]
        replace h := h τ14 eτ14
        refine x_goto (pc' := 239) dX8_isCovered_58 (by decide) ?_
        refine x_iinc (pc' := 242) (v := 1) dX8_isCovered_239 rfl (by decide) rfl rfl (by decide) (ls' := [.ref 94, .int x1, .int x2, .int x3, .int (x4 + 1), .int (σ.1 96 (2 + x4).toNatClampNeg), Unk, Unk]) rfl ?_
        refine x_goto (pc' := 5) dX8_isCovered_242 (by decide) ?_
        refine x_forget 5 (ls' := [.ref 94, .int x1, .int x2, .int x3, .int (x4 + 1), Unk, Unk, Unk]) rfl ?_
        exact h
set_option maxRecDepth 100000 in
set_option maxHeartbeats 4000000 in
theorem vX8_linesArea_0 {d : Nat} {σ : Mem} {Q : Option Value → Mem → Prop} 
    (h : (∀ τ1 : Mem, τ1 = (w1 σ 94 12 0) → X none (d + 2) mX8_linesArea 7 [.ref 94, .int 0] [] τ1 Q)) :
    X none (d + 2) mX8_linesArea 0 [.ref 94, Unk] [] σ Q := by
  refine x_aload_n (pc' := 1) dX8_linesArea_0 rfl rfl rfl ?_
  refine x_iconst (pc' := 2) (v := 0) dX8_linesArea_1 rfl (by decide) ?_
  refine x_puti (pc' := 5) dX8_linesArea_2 rfl lfX8_113 kd_94 rfl rfl rfl ?_
  obtain ⟨τ1, eτ1⟩ : ∃ τ : Mem, τ = (w1 σ 94 12 0) := ⟨_, rfl⟩
  show X none (d + 2) mX8_linesArea 5 [.ref 94, Unk] [] (w1 σ 94 12 0) _
  rw [← eτ1]
  replace h := h τ1 eτ1
  refine x_iconst (pc' := 6) (v := 0) dX8_linesArea_5 rfl (by decide) ?_
  refine x_istore_n (pc' := 7) dX8_linesArea_6 rfl rfl (by decide) rfl (ls' := [.ref 94, .int 0]) rfl ?_
  exact h
set_option maxRecDepth 100000 in
set_option maxHeartbeats 4000000 in
theorem vX8_linesArea_7 {d : Nat} {σ : Mem} {Q : Option Value → Mem → Prop} {x1 : Int32} 
    (h : (((σ.1 95 0) ≤ x1 → Q (none) σ) ∧ (¬ (σ.1 95 0) ≤ x1 → (vp_in (494 + x1) 7458 ∧ ((¬ (σ.1 95 (494 + x1).toNatClampNeg) = 0 → X none (d + 2) mX8_linesArea 7 [.ref 94, .int (x1 + 1)] [] σ Q) ∧ ((σ.1 95 (494 + x1).toNatClampNeg) = 0 → (vp_in (128 + x1) 7458 ∧ (vp_in (250 + x1) 7458 ∧ (X none (d + 1) mX8_isCovered 0 [.ref 94, .int (σ.1 95 (128 + x1).toNatClampNeg), .int (σ.1 95 (250 + x1).toNatClampNeg), Unk, Unk, Unk, Unk, Unk] [] σ (fun r τ1 => ∃ u2 : Int32, r = some (.int u2) ∧ ((u2 = 0 → X none (d + 2) mX8_linesArea 7 [.ref 94, .int (x1 + 1)] [] τ1 Q) ∧ (¬ u2 = 0 → (X none (d + 1) mX8_insert 0 [.ref 94, .int x1, Unk] [] τ1 (fun r τ3 => r = none ∧ X none (d + 2) mX8_linesArea 7 [.ref 94, .int (x1 + 1)] [] τ3 Q)))))))))))))) :
    X none (d + 2) mX8_linesArea 7 [.ref 94, .int x1] [] σ Q := by
  refine x_iload_n (pc' := 8) dX8_linesArea_7 rfl rfl rfl ?_
  refine x_aload_n (pc' := 9) dX8_linesArea_8 rfl rfl rfl ?_
  refine x_getr (pc' := 12) dX8_linesArea_9 rfl lfX8_7 kd_94 rfl rf_94_0 ?_
  refine x_iconst (pc' := 13) (v := 0) dX8_linesArea_12 rfl (by decide) ?_
  refine x_iald (pc' := 14) dX8_linesArea_13 rfl kd_95 (by rw [ln_95]; unfold vp_in; decide) ?_
  show X none (d + 2) mX8_linesArea 14 [.ref 94, .int x1] [.int (σ.1 95 0), .int x1] σ _
  refine x_icmp_ge (pc' := 17) (tgt := 63) dX8_linesArea_14 (by decide) rfl (fun hc => ?_) (fun hc => ?_)
  · replace h := h.1 hc
    exact x_vret dX8_linesArea_63 rfl h
  · replace h := h.2 hc
    refine x_aload_n (pc' := 18) dX8_linesArea_17 rfl rfl rfl ?_
    refine x_iload_n (pc' := 19) dX8_linesArea_18 rfl rfl rfl ?_
    refine x_callV (pc' := 22) (As := [.int x1]) dX8_linesArea_19 rfl lmX8_57 kd_94 rfl rfl (Nat.le_of_ble_eq_true rfl) (Nat.le_of_ble_eq_true rfl) ?_
    show X none (d + 1) mX8_isThere 0 [.ref 94, .int x1] [] σ _
    refine x_aload_n (pc' := 1) dX8_isThere_0 rfl rfl rfl ?_
    refine x_getr (pc' := 4) dX8_isThere_1 rfl lfX8_7 kd_94 rfl rf_94_0 ?_
    refine x_sipush (pc' := 7) (v := 494) dX8_isThere_4 rfl (by decide) ?_
    refine x_iload_n (pc' := 8) dX8_isThere_7 rfl rfl rfl ?_
    refine x_iadd (pc' := 9) dX8_isThere_8 rfl ?_
    obtain ⟨hb, h⟩ := h
    refine x_iald (pc' := 10) dX8_isThere_9 rfl kd_95 (by rw [ln_95]; exact hb) ?_
    refine x_if_ne (pc' := 13) (tgt := 17) dX8_isThere_10 (by decide) rfl (fun hc => ?_) (fun hc => ?_)
    · replace h := h.1 hc
      refine x_iconst (pc' := 18) (v := 0) dX8_isThere_17 rfl (by decide) ?_
      refine x_iret dX8_isThere_18 rfl rfl ?_
      show X none (d + 2) mX8_linesArea 22 [.ref 94, .int x1] [.int 0] σ _
      refine x_if_eq (pc' := 25) (tgt := 57) dX8_linesArea_22 (by decide) rfl (fun _ => ?_) (fun hc => absurd hc (by decide))
      refine x_iinc (pc' := 60) (v := 1) dX8_linesArea_57 rfl (by decide) rfl rfl (by decide) (ls' := [.ref 94, .int (x1 + 1)]) rfl ?_
      refine x_goto (pc' := 7) dX8_linesArea_60 (by decide) ?_
      exact h
    · replace h := h.2 hc
      refine x_iconst (pc' := 14) (v := 1) dX8_isThere_13 rfl (by decide) ?_
      refine x_goto (pc' := 18) dX8_isThere_14 (by decide) ?_
      refine x_iret dX8_isThere_18 rfl rfl ?_
      show X none (d + 2) mX8_linesArea 22 [.ref 94, .int x1] [.int 1] σ _
      refine x_if_eq (pc' := 25) (tgt := 57) dX8_linesArea_22 (by decide) rfl (fun hc => absurd hc (by decide)) (fun _ => ?_)
      refine x_aload_n (pc' := 26) dX8_linesArea_25 rfl rfl rfl ?_
      refine x_aload_n (pc' := 27) dX8_linesArea_26 rfl rfl rfl ?_
      refine x_getr (pc' := 30) dX8_linesArea_27 rfl lfX8_7 kd_94 rfl rf_94_0 ?_
      refine x_sipush (pc' := 33) (v := 128) dX8_linesArea_30 rfl (by decide) ?_
      refine x_iload_n (pc' := 34) dX8_linesArea_33 rfl rfl rfl ?_
      refine x_iadd (pc' := 35) dX8_linesArea_34 rfl ?_
      obtain ⟨hb, h⟩ := h
      refine x_iald (pc' := 36) dX8_linesArea_35 rfl kd_95 (by rw [ln_95]; exact hb) ?_
      refine x_aload_n (pc' := 37) dX8_linesArea_36 rfl rfl rfl ?_
      refine x_getr (pc' := 40) dX8_linesArea_37 rfl lfX8_7 kd_94 rfl rf_94_0 ?_
      refine x_sipush (pc' := 43) (v := 250) dX8_linesArea_40 rfl (by decide) ?_
      refine x_iload_n (pc' := 44) dX8_linesArea_43 rfl rfl rfl ?_
      refine x_iadd (pc' := 45) dX8_linesArea_44 rfl ?_
      obtain ⟨hb, h⟩ := h
      refine x_iald (pc' := 46) dX8_linesArea_45 rfl kd_95 (by rw [ln_95]; exact hb) ?_
      refine x_callV (pc' := 49) (As := [.int (σ.1 95 (128 + x1).toNatClampNeg), .int (σ.1 95 (250 + x1).toNatClampNeg)]) dX8_linesArea_46 rfl lmX8_248 kd_94 rfl rfl (Nat.le_of_ble_eq_true rfl) (Nat.le_of_ble_eq_true rfl) ?_
      show X none (d + 1) mX8_isCovered 0 [.ref 94, .int (σ.1 95 (128 + x1).toNatClampNeg), .int (σ.1 95 (250 + x1).toNatClampNeg), Unk, Unk, Unk, Unk, Unk] [] σ _
      refine X.mono h ?_
      rintro r τ1 ⟨u2, rfl, h⟩
      show X none (d + 2) mX8_linesArea 49 [.ref 94, .int x1] [.int u2] τ1 _
      refine x_if_eq (pc' := 52) (tgt := 57) dX8_linesArea_49 (by decide) rfl (fun hc => ?_) (fun hc => ?_)
      · replace h := h.1 hc
        refine x_iinc (pc' := 60) (v := 1) dX8_linesArea_57 rfl (by decide) rfl rfl (by decide) (ls' := [.ref 94, .int (x1 + 1)]) rfl ?_
        refine x_goto (pc' := 7) dX8_linesArea_60 (by decide) ?_
        exact h
      · replace h := h.2 hc
        refine x_aload_n (pc' := 53) dX8_linesArea_52 rfl rfl rfl ?_
        refine x_iload_n (pc' := 54) dX8_linesArea_53 rfl rfl rfl ?_
        refine x_callV (pc' := 57) (As := [.int x1]) dX8_linesArea_54 rfl lmX8_124 kd_94 rfl rfl (Nat.le_of_ble_eq_true rfl) (Nat.le_of_ble_eq_true rfl) ?_
        show X none (d + 1) mX8_insert 0 [.ref 94, .int x1, Unk] [] τ1 _
        refine X.mono h ?_
        rintro r τ3 ⟨rfl, h⟩
        show X none (d + 2) mX8_linesArea 57 [.ref 94, .int x1] [] τ3 _
        refine x_iinc (pc' := 60) (v := 1) dX8_linesArea_57 rfl (by decide) rfl rfl (by decide) (ls' := [.ref 94, .int (x1 + 1)]) rfl ?_
        refine x_goto (pc' := 7) dX8_linesArea_60 (by decide) ?_
        exact h
set_option maxRecDepth 100000 in
set_option maxHeartbeats 4000000 in
theorem vX8_inside_0 {d : Nat} {σ : Mem} {Q : Option Value → Mem → Prop} 
    (h : (X none (d + 2) mX8_linesArea 0 [.ref 94, Unk] [] σ (fun r τ1 => r = none ∧ X none (d + 3) mX8_inside 8 [.ref 94, .int 0, .int 0] [] τ1 Q))) :
    X none (d + 3) mX8_inside 0 [.ref 94, Unk, Unk] [] σ Q := by
  refine x_aload_n (pc' := 1) dX8_inside_0 rfl rfl rfl ?_
  refine x_callV (pc' := 4) (As := []) dX8_inside_1 rfl lmX8_251 kd_94 rfl rfl (Nat.le_of_ble_eq_true rfl) (Nat.le_of_ble_eq_true rfl) ?_
  show X none (d + 2) mX8_linesArea 0 [.ref 94, Unk] [] σ _
  refine X.mono h ?_
  rintro r τ1 ⟨rfl, h⟩
  show X none (d + 3) mX8_inside 4 [.ref 94, Unk, Unk] [] τ1 _
  refine x_iconst (pc' := 5) (v := 0) dX8_inside_4 rfl (by decide) ?_
  refine x_istore_n (pc' := 6) dX8_inside_5 rfl rfl (by decide) rfl (ls' := [.ref 94, .int 0, Unk]) rfl ?_
  refine x_iconst (pc' := 7) (v := 0) dX8_inside_6 rfl (by decide) ?_
  refine x_istore_n (pc' := 8) dX8_inside_7 rfl rfl (by decide) rfl (ls' := [.ref 94, .int 0, .int 0]) rfl ?_
  exact h
set_option maxRecDepth 100000 in
set_option maxHeartbeats 4000000 in
theorem vX8_inside_8 {d : Nat} {σ : Mem} {Q : Option Value → Mem → Prop} {x1 x2 : Int32} 
    (h : (((σ.1 94 12) ≤ x2 → Q (some (.int x1)) σ) ∧ (¬ (σ.1 94 12) ≤ x2 → (vp_in x2 60 ∧ (X none (d + 2) mX8_counts 0 [.ref 94, .int (σ.1 100 x2.toNatClampNeg), Unk, Unk] [] σ (fun r τ1 => ∃ u2 : Int32, r = some (.int u2) ∧ X none (d + 3) mX8_inside 8 [.ref 94, .int (x1 + u2), .int (x2 + 1)] [] τ1 Q)))))) :
    X none (d + 3) mX8_inside 8 [.ref 94, .int x1, .int x2] [] σ Q := by
  refine x_iload_n (pc' := 9) dX8_inside_8 rfl rfl rfl ?_
  refine x_aload_n (pc' := 10) dX8_inside_9 rfl rfl rfl ?_
  refine x_geti (pc' := 13) dX8_inside_10 rfl lfX8_113 kd_94 rfl ?_
  refine x_icmp_ge (pc' := 16) (tgt := 35) dX8_inside_13 (by decide) rfl (fun hc => ?_) (fun hc => ?_)
  · replace h := h.1 hc
    refine x_iload_n (pc' := 36) dX8_inside_35 rfl rfl rfl ?_
    exact x_iret dX8_inside_36 rfl rfl h
  · replace h := h.2 hc
    refine x_iload_n (pc' := 17) dX8_inside_16 rfl rfl rfl ?_
    refine x_aload_n (pc' := 18) dX8_inside_17 rfl rfl rfl ?_
    refine x_aload_n (pc' := 19) dX8_inside_18 rfl rfl rfl ?_
    refine x_getr (pc' := 22) dX8_inside_19 rfl lfX8_33 kd_94 rfl rf_94_11 ?_
    refine x_iload_n (pc' := 23) dX8_inside_22 rfl rfl rfl ?_
    obtain ⟨hb, h⟩ := h
    refine x_iald (pc' := 24) dX8_inside_23 rfl kd_100 (by rw [ln_100]; exact hb) ?_
    refine x_callV (pc' := 27) (As := [.int (σ.1 100 x2.toNatClampNeg)]) dX8_inside_24 rfl lmX8_143 kd_94 rfl rfl (Nat.le_of_ble_eq_true rfl) (Nat.le_of_ble_eq_true rfl) ?_
    show X none (d + 2) mX8_counts 0 [.ref 94, .int (σ.1 100 x2.toNatClampNeg), Unk, Unk] [] σ _
    refine X.mono h ?_
    rintro r τ1 ⟨u2, rfl, h⟩
    show X none (d + 3) mX8_inside 27 [.ref 94, .int x1, .int x2] [.int u2, .int x1] τ1 _
    refine x_iadd (pc' := 28) dX8_inside_27 rfl ?_
    refine x_istore_n (pc' := 29) dX8_inside_28 rfl rfl (by decide) rfl (ls' := [.ref 94, .int (x1 + u2), .int x2]) rfl ?_
    refine x_iinc (pc' := 32) (v := 1) dX8_inside_29 rfl (by decide) rfl rfl (by decide) (ls' := [.ref 94, .int (x1 + u2), .int (x2 + 1)]) rfl ?_
    refine x_goto (pc' := 8) dX8_inside_32 (by decide) ?_
    exact h
set_option maxRecDepth 100000 in
set_option maxHeartbeats 4000000 in
theorem vX8_covers_0 {d : Nat} {σ : Mem} {Q : Option Value → Mem → Prop} {x1 x2 : Int32} 
    (h : ((¬ (onA x1) → ((∀ τ1 : Mem, τ1 = (w1 σ 99 0 ((σ.1 99 0) + 1)) → Q (some (.int (-2000000002))) τ1))) ∧ ((onA x1) → (((onA x2) → (X none (d + 1) mX8_isCovered 0 [.ref 94, .int x1, .int x2, Unk, Unk, Unk, Unk, Unk] [] σ (fun r τ2 => ∃ u3 : Int32, r = some (.int u3) ∧ ((u3 = 0 → Q (some (.int 0)) τ2) ∧ (¬ u3 = 0 → Q (some (.int 1)) τ2))))) ∧ (¬ (onA x2) → ((∀ τ4 : Mem, τ4 = (w1 σ 99 0 ((σ.1 99 0) + 1)) → Q (some (.int (-2000000002))) τ4))))))) :
    X none (d + 2) mX8_covers 0 [.ref 94, .int x1, .int x2] [] σ Q := by
  refine x_iload_n (pc' := 1) dX8_covers_0 rfl rfl rfl ?_
  refine x_callS (pc' := 4) (As := [.int x1]) dX8_covers_1 rfl lmX8_53 rfl rfl (Nat.le_of_ble_eq_true rfl) (Nat.le_of_ble_eq_true rfl) ?_
  show X none (d + 1) mX8_isPlace 0 [.int x1] [] σ _
  refine sp_isPlace ?_
  show X none (d + 2) mX8_covers 4 [.ref 94, .int x1, .int x2] [.int (if (onA x1) then 1 else 0)] σ _
  refine x_if_eq (pc' := 7) (tgt := 14) dX8_covers_4 (by decide) rfl (fun hc => ?_) (fun hc => ?_)
  · replace h := h.1 (b01_ne hc)
    refine x_aload_n (pc' := 15) dX8_covers_14 rfl rfl rfl ?_
    refine x_callV (pc' := 18) (As := []) dX8_covers_15 rfl lmX8_81 kd_94 rfl rfl (Nat.le_of_ble_eq_true rfl) (Nat.le_of_ble_eq_true rfl) ?_
    show X none (d + 1) mX8_bad 0 [.ref 94] [] σ _
    refine x_aload_n (pc' := 1) dX8_bad_0 rfl rfl rfl ?_
    refine x_getr (pc' := 4) dX8_bad_1 rfl lfX8_30 kd_94 rfl rf_94_9 ?_
    refine x_iconst (pc' := 5) (v := 0) dX8_bad_4 rfl (by decide) ?_
    refine x_dup2 (pc' := 6) dX8_bad_5 rfl rfl rfl ?_
    refine x_iald (pc' := 7) dX8_bad_6 rfl kd_99 (by rw [ln_99]; unfold vp_in; decide) ?_
    show X none (d + 1) mX8_bad 7 [.ref 94] [.int (σ.1 99 0), .int 0, .ref 99] σ _
    refine x_iconst (pc' := 8) (v := 1) dX8_bad_7 rfl (by decide) ?_
    refine x_iadd (pc' := 9) dX8_bad_8 rfl ?_
    refine x_iast (pc' := 10) dX8_bad_9 rfl kd_99 (by rw [ln_99]; unfold vp_in; decide) ?_
    obtain ⟨τ1, eτ1⟩ : ∃ τ : Mem, τ = (w1 σ 99 0 ((σ.1 99 0) + 1)) := ⟨_, rfl⟩
    show X none (d + 1) mX8_bad 10 [.ref 94] [] (w1 σ 99 0 ((σ.1 99 0) + 1)) _
    rw [← eτ1]
    replace h := h τ1 eτ1
    refine x_ldc (pc' := 12) dX8_bad_10 rfl lcX8_42 ?_
    refine x_iret dX8_bad_12 rfl rfl ?_
    show X none (d + 2) mX8_covers 18 [.ref 94, .int x1, .int x2] [.int (-2000000002)] τ1 _
    exact x_iret dX8_covers_18 rfl rfl h
  · replace h := h.2 (b01_eq hc)
    refine x_iload_n (pc' := 8) dX8_covers_7 rfl rfl rfl ?_
    refine x_callS (pc' := 11) (As := [.int x2]) dX8_covers_8 rfl lmX8_53 rfl rfl (Nat.le_of_ble_eq_true rfl) (Nat.le_of_ble_eq_true rfl) ?_
    show X none (d + 1) mX8_isPlace 0 [.int x2] [] σ _
    refine sp_isPlace ?_
    show X none (d + 2) mX8_covers 11 [.ref 94, .int x1, .int x2] [.int (if (onA x2) then 1 else 0)] σ _
    refine x_if_ne (pc' := 14) (tgt := 19) dX8_covers_11 (by decide) rfl (fun hc => ?_) (fun hc => ?_)
    · replace h := h.1 (b01_eq hc)
      refine x_aload_n (pc' := 20) dX8_covers_19 rfl rfl rfl ?_
      refine x_iload_n (pc' := 21) dX8_covers_20 rfl rfl rfl ?_
      refine x_iload_n (pc' := 22) dX8_covers_21 rfl rfl rfl ?_
      refine x_callV (pc' := 25) (As := [.int x1, .int x2]) dX8_covers_22 rfl lmX8_248 kd_94 rfl rfl (Nat.le_of_ble_eq_true rfl) (Nat.le_of_ble_eq_true rfl) ?_
      show X none (d + 1) mX8_isCovered 0 [.ref 94, .int x1, .int x2, Unk, Unk, Unk, Unk, Unk] [] σ _
      refine X.mono h ?_
      rintro r τ2 ⟨u3, rfl, h⟩
      show X none (d + 2) mX8_covers 25 [.ref 94, .int x1, .int x2] [.int u3] τ2 _
      refine x_if_eq (pc' := 28) (tgt := 32) dX8_covers_25 (by decide) rfl (fun hc => ?_) (fun hc => ?_)
      · replace h := h.1 hc
        refine x_iconst (pc' := 33) (v := 0) dX8_covers_32 rfl (by decide) ?_
        exact x_iret dX8_covers_33 rfl rfl h
      · replace h := h.2 hc
        refine x_iconst (pc' := 29) (v := 1) dX8_covers_28 rfl (by decide) ?_
        refine x_goto (pc' := 33) dX8_covers_29 (by decide) ?_
        exact x_iret dX8_covers_33 rfl rfl h
    · replace h := h.2 (b01_ne hc)
      refine x_aload_n (pc' := 15) dX8_covers_14 rfl rfl rfl ?_
      refine x_callV (pc' := 18) (As := []) dX8_covers_15 rfl lmX8_81 kd_94 rfl rfl (Nat.le_of_ble_eq_true rfl) (Nat.le_of_ble_eq_true rfl) ?_
      show X none (d + 1) mX8_bad 0 [.ref 94] [] σ _
      refine x_aload_n (pc' := 1) dX8_bad_0 rfl rfl rfl ?_
      refine x_getr (pc' := 4) dX8_bad_1 rfl lfX8_30 kd_94 rfl rf_94_9 ?_
      refine x_iconst (pc' := 5) (v := 0) dX8_bad_4 rfl (by decide) ?_
      refine x_dup2 (pc' := 6) dX8_bad_5 rfl rfl rfl ?_
      refine x_iald (pc' := 7) dX8_bad_6 rfl kd_99 (by rw [ln_99]; unfold vp_in; decide) ?_
      show X none (d + 1) mX8_bad 7 [.ref 94] [.int (σ.1 99 0), .int 0, .ref 99] σ _
      refine x_iconst (pc' := 8) (v := 1) dX8_bad_7 rfl (by decide) ?_
      refine x_iadd (pc' := 9) dX8_bad_8 rfl ?_
      refine x_iast (pc' := 10) dX8_bad_9 rfl kd_99 (by rw [ln_99]; unfold vp_in; decide) ?_
      obtain ⟨τ4, eτ4⟩ : ∃ τ : Mem, τ = (w1 σ 99 0 ((σ.1 99 0) + 1)) := ⟨_, rfl⟩
      show X none (d + 1) mX8_bad 10 [.ref 94] [] (w1 σ 99 0 ((σ.1 99 0) + 1)) _
      rw [← eτ4]
      replace h := h τ4 eτ4
      refine x_ldc (pc' := 12) dX8_bad_10 rfl lcX8_42 ?_
      refine x_iret dX8_bad_12 rfl rfl ?_
      show X none (d + 2) mX8_covers 18 [.ref 94, .int x1, .int x2] [.int (-2000000002)] τ4 _
      exact x_iret dX8_covers_18 rfl rfl h
set_option maxRecDepth 100000 in
set_option maxHeartbeats 4000000 in
theorem vX8_found_0 {d : Nat} {σ : Mem} {Q : Option Value → Mem → Prop} {x1 : Int32} 
    (h : ((0 ≤ x1 → (X none (d + 2) mX8_linesArea 0 [.ref 94, Unk] [] σ (fun r τ1 => r = none ∧ (((τ1.1 94 12) ≤ x1 → Q (some (.int (-2000000001))) τ1) ∧ (¬ (τ1.1 94 12) ≤ x1 → (vp_in x1 60 ∧ (vp_in (6 + (τ1.1 100 x1.toNatClampNeg)) 7458 ∧ Q (some (.int (τ1.1 95 (6 + (τ1.1 100 x1.toNatClampNeg)).toNatClampNeg))) τ1))))))) ∧ (¬ 0 ≤ x1 → ((∀ τ2 : Mem, τ2 = (w1 σ 99 0 ((σ.1 99 0) + 1)) → Q (some (.int (-2000000002))) τ2))))) :
    X none (d + 3) mX8_found 0 [.ref 94, .int x1] [] σ Q := by
  refine x_iload_n (pc' := 1) dX8_found_0 rfl rfl rfl ?_
  refine x_if_ge (pc' := 4) (tgt := 9) dX8_found_1 (by decide) rfl (fun hc => ?_) (fun hc => ?_)
  · replace h := h.1 hc
    refine x_aload_n (pc' := 10) dX8_found_9 rfl rfl rfl ?_
    refine x_callV (pc' := 13) (As := []) dX8_found_10 rfl lmX8_251 kd_94 rfl rfl (Nat.le_of_ble_eq_true rfl) (Nat.le_of_ble_eq_true rfl) ?_
    show X none (d + 2) mX8_linesArea 0 [.ref 94, Unk] [] σ _
    refine X.mono h ?_
    rintro r τ1 ⟨rfl, h⟩
    show X none (d + 3) mX8_found 13 [.ref 94, .int x1] [] τ1 _
    refine x_iload_n (pc' := 14) dX8_found_13 rfl rfl rfl ?_
    refine x_aload_n (pc' := 15) dX8_found_14 rfl rfl rfl ?_
    refine x_geti (pc' := 18) dX8_found_15 rfl lfX8_113 kd_94 rfl ?_
    refine x_icmp_ge (pc' := 21) (tgt := 38) dX8_found_18 (by decide) rfl (fun hc => ?_) (fun hc => ?_)
    · replace h := h.1 hc
      refine x_ldc (pc' := 40) dX8_found_38 rfl lcX8_152 ?_
      exact x_iret dX8_found_40 rfl rfl h
    · replace h := h.2 hc
      refine x_aload_n (pc' := 22) dX8_found_21 rfl rfl rfl ?_
      refine x_getr (pc' := 25) dX8_found_22 rfl lfX8_7 kd_94 rfl rf_94_0 ?_
      refine x_bipush (pc' := 27) (v := 6) dX8_found_25 rfl (by decide) ?_
      refine x_aload_n (pc' := 28) dX8_found_27 rfl rfl rfl ?_
      refine x_getr (pc' := 31) dX8_found_28 rfl lfX8_33 kd_94 rfl rf_94_11 ?_
      refine x_iload_n (pc' := 32) dX8_found_31 rfl rfl rfl ?_
      obtain ⟨hb, h⟩ := h
      refine x_iald (pc' := 33) dX8_found_32 rfl kd_100 (by rw [ln_100]; exact hb) ?_
      refine x_iadd (pc' := 34) dX8_found_33 rfl ?_
      obtain ⟨hb, h⟩ := h
      refine x_iald (pc' := 35) dX8_found_34 rfl kd_95 (by rw [ln_95]; exact hb) ?_
      refine x_goto (pc' := 40) dX8_found_35 (by decide) ?_
      exact x_iret dX8_found_40 rfl rfl h
  · replace h := h.2 hc
    refine x_aload_n (pc' := 5) dX8_found_4 rfl rfl rfl ?_
    refine x_callV (pc' := 8) (As := []) dX8_found_5 rfl lmX8_81 kd_94 rfl rfl (Nat.le_of_ble_eq_true rfl) (Nat.le_of_ble_eq_true rfl) ?_
    show X none (d + 2) mX8_bad 0 [.ref 94] [] σ _
    refine x_aload_n (pc' := 1) dX8_bad_0 rfl rfl rfl ?_
    refine x_getr (pc' := 4) dX8_bad_1 rfl lfX8_30 kd_94 rfl rf_94_9 ?_
    refine x_iconst (pc' := 5) (v := 0) dX8_bad_4 rfl (by decide) ?_
    refine x_dup2 (pc' := 6) dX8_bad_5 rfl rfl rfl ?_
    refine x_iald (pc' := 7) dX8_bad_6 rfl kd_99 (by rw [ln_99]; unfold vp_in; decide) ?_
    show X none (d + 2) mX8_bad 7 [.ref 94] [.int (σ.1 99 0), .int 0, .ref 99] σ _
    refine x_iconst (pc' := 8) (v := 1) dX8_bad_7 rfl (by decide) ?_
    refine x_iadd (pc' := 9) dX8_bad_8 rfl ?_
    refine x_iast (pc' := 10) dX8_bad_9 rfl kd_99 (by rw [ln_99]; unfold vp_in; decide) ?_
    obtain ⟨τ2, eτ2⟩ : ∃ τ : Mem, τ = (w1 σ 99 0 ((σ.1 99 0) + 1)) := ⟨_, rfl⟩
    show X none (d + 2) mX8_bad 10 [.ref 94] [] (w1 σ 99 0 ((σ.1 99 0) + 1)) _
    rw [← eτ2]
    replace h := h τ2 eτ2
    refine x_ldc (pc' := 12) dX8_bad_10 rfl lcX8_42 ?_
    refine x_iret dX8_bad_12 rfl rfl ?_
    show X none (d + 3) mX8_found 8 [.ref 94, .int x1] [.int (-2000000002)] τ2 _
    exact x_iret dX8_found_8 rfl rfl h
set_option maxRecDepth 100000 in
set_option maxHeartbeats 4000000 in
theorem vX8_mow_0 {d : Nat} {σ : Mem} {Q : Option Value → Mem → Prop} 
    (h : (X none (d + 3) mX8_linesArea 0 [.ref 94, Unk] [] σ (fun r τ1 => r = none ∧ (X none (d + 3) mX8_takesLine 0 [.ref 94, Unk, Unk] [] τ1 (fun r τ2 => ∃ u3 : Int32, r = some (.int u3) ∧ Q (some (.int u3)) τ2))))) :
    X none (d + 4) mX8_mow 0 [.ref 94] [] σ Q := by
  refine x_aload_n (pc' := 1) dX8_mow_0 rfl rfl rfl ?_
  refine x_callV (pc' := 4) (As := []) dX8_mow_1 rfl lmX8_251 kd_94 rfl rfl (Nat.le_of_ble_eq_true rfl) (Nat.le_of_ble_eq_true rfl) ?_
  show X none (d + 3) mX8_linesArea 0 [.ref 94, Unk] [] σ _
  refine X.mono h ?_
  rintro r τ1 ⟨rfl, h⟩
  show X none (d + 4) mX8_mow 4 [.ref 94] [] τ1 _
  refine x_aload_n (pc' := 5) dX8_mow_4 rfl rfl rfl ?_
  refine x_callV (pc' := 8) (As := []) dX8_mow_5 rfl lmX8_135 kd_94 rfl rfl (Nat.le_of_ble_eq_true rfl) (Nat.le_of_ble_eq_true rfl) ?_
  show X none (d + 3) mX8_takesLine 0 [.ref 94, Unk, Unk] [] τ1 _
  refine X.mono h ?_
  rintro r τ2 ⟨u3, rfl, h⟩
  show X none (d + 4) mX8_mow 8 [.ref 94] [.int u3] τ2 _
  exact x_iret dX8_mow_8 rfl rfl h
set_option maxRecDepth 100000 in
set_option maxHeartbeats 4000000 in
theorem vX8_tells_0 {d : Nat} {σ : Mem} {Q : Option Value → Mem → Prop} {y1 y3 : Int64} 
    (h : X none d mX8_tells 6 [.ref 94, .long y1, Unk, .long y3, Unk, .long y1, Unk, .long y3, Unk, Unk, Unk] [] σ Q) :
    X none d mX8_tells 0 [.ref 94, .long y1, Unk, .long y3, Unk, Unk, Unk, Unk, Unk, Unk, Unk] [] σ Q := by
  refine x_lload_n (pc' := 1) dX8_tells_0 rfl rfl rfl ?_
  refine x_lstore (pc' := 3) dX8_tells_1 rfl (by decide) rfl (ls' := [.ref 94, .long y1, Unk, .long y3, Unk, .long y1, Unk, Unk, Unk, Unk, Unk]) rfl ?_
  refine x_lload_n (pc' := 4) dX8_tells_3 rfl rfl rfl ?_
  refine x_lstore (pc' := 6) dX8_tells_4 rfl (by decide) rfl (ls' := [.ref 94, .long y1, Unk, .long y3, Unk, .long y1, Unk, .long y3, Unk, Unk, Unk]) rfl ?_
  exact h
set_option maxRecDepth 100000 in
set_option maxHeartbeats 4000000 in
theorem vX8_tells_6 {d : Nat} {σ : Mem} {Q : Option Value → Mem → Prop} {y1 y3 y5 y7 : Int64} 
    (h : (((lg_cmp y7 0) = 0 → (¬ y5 = 0 ∧ (∀ τ1 : Mem, τ1 = (w2 σ 94 7 (y1 / y5)) → (¬ y5 = 0 ∧ (∀ τ2 : Mem, τ2 = (w2 τ1 94 8 (y3 / y5)) → Q (some (.int 1)) τ2))))) ∧ (¬ (lg_cmp y7 0) = 0 → (¬ y7 = 0 ∧ X none d mX8_tells 6 [.ref 94, .long y1, Unk, .long y3, Unk, .long y7, Unk, .long (y5 - y5 / y7 * y7), Unk, Unk, Unk] [] σ Q)))) :
    X none d mX8_tells 6 [.ref 94, .long y1, Unk, .long y3, Unk, .long y5, Unk, .long y7, Unk, Unk, Unk] [] σ Q := by
  refine x_lload (pc' := 8) dX8_tells_6 rfl rfl ?_
  refine x_lconst (pc' := 9) (v := 0) dX8_tells_8 rfl (by decide) ?_
  refine x_lcmp (pc' := 10) dX8_tells_9 rfl ?_
  refine x_if_eq (pc' := 13) (tgt := 31) dX8_tells_10 (by decide) rfl (fun hc => ?_) (fun hc => ?_)
  · replace h := h.1 hc
    refine x_aload_n (pc' := 32) dX8_tells_31 rfl rfl rfl ?_
    refine x_lload_n (pc' := 33) dX8_tells_32 rfl rfl rfl ?_
    refine x_lload (pc' := 35) dX8_tells_33 rfl rfl ?_
    obtain ⟨hz, h⟩ := h
    refine x_ldiv (pc' := 36) dX8_tells_35 rfl hz ?_
    refine x_putl (pc' := 39) dX8_tells_36 rfl lfX8_23 kd_94 rfl ?_
    obtain ⟨τ1, eτ1⟩ : ∃ τ : Mem, τ = (w2 σ 94 7 (y1 / y5)) := ⟨_, rfl⟩
    show X none d mX8_tells 39 [.ref 94, .long y1, Unk, .long y3, Unk, .long y5, Unk, .long y7, Unk, Unk, Unk] [] (w2 σ 94 7 (y1 / y5)) _
    rw [← eτ1]
    replace h := h τ1 eτ1
    refine x_aload_n (pc' := 40) dX8_tells_39 rfl rfl rfl ?_
    refine x_lload_n (pc' := 41) dX8_tells_40 rfl rfl rfl ?_
    refine x_lload (pc' := 43) dX8_tells_41 rfl rfl ?_
    obtain ⟨hz, h⟩ := h
    refine x_ldiv (pc' := 44) dX8_tells_43 rfl hz ?_
    refine x_putl (pc' := 47) dX8_tells_44 rfl lfX8_27 kd_94 rfl ?_
    obtain ⟨τ2, eτ2⟩ : ∃ τ : Mem, τ = (w2 τ1 94 8 (y3 / y5)) := ⟨_, rfl⟩
    show X none d mX8_tells 47 [.ref 94, .long y1, Unk, .long y3, Unk, .long y5, Unk, .long y7, Unk, Unk, Unk] [] (w2 τ1 94 8 (y3 / y5)) _
    rw [← eτ2]
    replace h := h τ2 eτ2
    refine x_iconst (pc' := 48) (v := 1) dX8_tells_47 rfl (by decide) ?_
    exact x_iret dX8_tells_48 rfl rfl h
  · replace h := h.2 hc
    refine x_lload (pc' := 15) dX8_tells_13 rfl rfl ?_
    refine x_lload (pc' := 17) dX8_tells_15 rfl rfl ?_
    obtain ⟨hz, h⟩ := h
    refine x_lrem (pc' := 18) dX8_tells_17 rfl hz ?_
    refine x_lstore (pc' := 20) dX8_tells_18 rfl (by decide) rfl (ls' := [.ref 94, .long y1, Unk, .long y3, Unk, .long y5, Unk, .long y7, Unk, .long (y5 - y5 / y7 * y7), Unk]) rfl ?_
    refine x_lload (pc' := 22) dX8_tells_20 rfl rfl ?_
    refine x_lstore (pc' := 24) dX8_tells_22 rfl (by decide) rfl (ls' := [.ref 94, .long y1, Unk, .long y3, Unk, .long y7, Unk, .long y7, Unk, .long (y5 - y5 / y7 * y7), Unk]) rfl ?_
    refine x_lload (pc' := 26) dX8_tells_24 rfl rfl ?_
    refine x_lstore (pc' := 28) dX8_tells_26 rfl (by decide) rfl (ls' := [.ref 94, .long y1, Unk, .long y3, Unk, .long y7, Unk, .long (y5 - y5 / y7 * y7), Unk, .long (y5 - y5 / y7 * y7), Unk]) rfl ?_
    refine x_goto (pc' := 6) dX8_tells_28 (by decide) ?_
    refine x_forget 9 (ls' := [.ref 94, .long y1, Unk, .long y3, Unk, .long y7, Unk, .long (y5 - y5 / y7 * y7), Unk, Unk, Unk]) rfl ?_
    exact h
set_option maxRecDepth 100000 in
set_option maxHeartbeats 4000000 in
theorem vX8_odds_0 {d : Nat} {σ : Mem} {Q : Option Value → Mem → Prop} {x1 x2 x3 x4 x5 x6 : Int32} 
    (h : ((¬ (rectP x1 x2 x3 x4) → ((∀ τ1 : Mem, τ1 = (w1 σ 99 0 ((σ.1 99 0) + 1)) → Q (some (.int (-2000000002))) τ1))) ∧ ((rectP x1 x2 x3 x4) → ((¬ (0 ≤ x5 ∧ x5 ≤ 15) → ((∀ τ2 : Mem, τ2 = (w1 σ 99 0 ((σ.1 99 0) + 1)) → Q (some (.int (-2000000002))) τ2))) ∧ ((0 ≤ x5 ∧ x5 ≤ 15) → (((0 ≤ x6 ∧ x6 ≤ 10) → (X none (d + 2) mX8_manyIn 0 [.ref 94, .int x1, .int x2, .int x3, .int x4, Unk, Unk] [] σ (fun r τ3 => ∃ u4 : Int32, r = some (.int u4) ∧ ((u4 ≤ 15 → X none (d + 3) mX8_odds 77 [.ref 94, .int x1, .int x2, .int x3, .int x4, .int x5, .int x6, .int u4, .long 0, Unk, .long 1, Unk, .long 1, Unk, .int 0, Unk, Unk, Unk] [] τ3 Q) ∧ (¬ u4 ≤ 15 → ((∀ τ5 : Mem, τ5 = (w1 τ3 99 1 ((τ3.1 99 1) + 1)) → Q (some (.int (-2000000003))) τ5))))))) ∧ (¬ (0 ≤ x6 ∧ x6 ≤ 10) → ((∀ τ6 : Mem, τ6 = (w1 σ 99 0 ((σ.1 99 0) + 1)) → Q (some (.int (-2000000002))) τ6))))))))) :
    X none (d + 3) mX8_odds 0 [.ref 94, .int x1, .int x2, .int x3, .int x4, .int x5, .int x6, Unk, Unk, Unk, Unk, Unk, Unk, Unk, Unk, Unk, Unk, Unk] [] σ Q := by
  refine x_iload_n (pc' := 1) dX8_odds_0 rfl rfl rfl ?_
  refine x_iload_n (pc' := 2) dX8_odds_1 rfl rfl rfl ?_
  refine x_iload_n (pc' := 3) dX8_odds_2 rfl rfl rfl ?_
  refine x_iload (pc' := 5) dX8_odds_3 rfl rfl ?_
  refine x_callS (pc' := 8) (As := [.int x1, .int x2, .int x3, .int x4]) dX8_odds_5 rfl lmX8_127 rfl rfl (Nat.le_of_ble_eq_true rfl) (Nat.le_of_ble_eq_true rfl) ?_
  show X none (d + 2) mX8_isRect 0 [.int x1, .int x2, .int x3, .int x4] [] σ _
  refine sp_isRect ?_
  show X none (d + 3) mX8_odds 8 [.ref 94, .int x1, .int x2, .int x3, .int x4, .int x5, .int x6, Unk, Unk, Unk, Unk, Unk, Unk, Unk, Unk, Unk, Unk, Unk] [.int (if (rectP x1 x2 x3 x4) then 1 else 0)] σ _
  refine x_if_eq (pc' := 11) (tgt := 37) dX8_odds_8 (by decide) rfl (fun hc => ?_) (fun hc => ?_)
  · replace h := h.1 (b01_ne hc)
    refine x_aload_n (pc' := 38) dX8_odds_37 rfl rfl rfl ?_
    refine x_callV (pc' := 41) (As := []) dX8_odds_38 rfl lmX8_81 kd_94 rfl rfl (Nat.le_of_ble_eq_true rfl) (Nat.le_of_ble_eq_true rfl) ?_
    show X none (d + 2) mX8_bad 0 [.ref 94] [] σ _
    refine x_aload_n (pc' := 1) dX8_bad_0 rfl rfl rfl ?_
    refine x_getr (pc' := 4) dX8_bad_1 rfl lfX8_30 kd_94 rfl rf_94_9 ?_
    refine x_iconst (pc' := 5) (v := 0) dX8_bad_4 rfl (by decide) ?_
    refine x_dup2 (pc' := 6) dX8_bad_5 rfl rfl rfl ?_
    refine x_iald (pc' := 7) dX8_bad_6 rfl kd_99 (by rw [ln_99]; unfold vp_in; decide) ?_
    show X none (d + 2) mX8_bad 7 [.ref 94] [.int (σ.1 99 0), .int 0, .ref 99] σ _
    refine x_iconst (pc' := 8) (v := 1) dX8_bad_7 rfl (by decide) ?_
    refine x_iadd (pc' := 9) dX8_bad_8 rfl ?_
    refine x_iast (pc' := 10) dX8_bad_9 rfl kd_99 (by rw [ln_99]; unfold vp_in; decide) ?_
    obtain ⟨τ1, eτ1⟩ : ∃ τ : Mem, τ = (w1 σ 99 0 ((σ.1 99 0) + 1)) := ⟨_, rfl⟩
    show X none (d + 2) mX8_bad 10 [.ref 94] [] (w1 σ 99 0 ((σ.1 99 0) + 1)) _
    rw [← eτ1]
    replace h := h τ1 eτ1
    refine x_ldc (pc' := 12) dX8_bad_10 rfl lcX8_42 ?_
    refine x_iret dX8_bad_12 rfl rfl ?_
    show X none (d + 3) mX8_odds 41 [.ref 94, .int x1, .int x2, .int x3, .int x4, .int x5, .int x6, Unk, Unk, Unk, Unk, Unk, Unk, Unk, Unk, Unk, Unk, Unk] [.int (-2000000002)] τ1 _
    exact x_iret dX8_odds_41 rfl rfl h
  · replace h := h.2 (b01_eq hc)
    refine x_iload (pc' := 13) dX8_odds_11 rfl rfl ?_
    refine x_i2l (pc' := 14) dX8_odds_13 rfl ?_
    refine x_lconst (pc' := 15) (v := 0) dX8_odds_14 rfl (by decide) ?_
    refine x_ldc2 (pc' := 18) dX8_odds_15 rfl llX8_254 ?_
    refine x_callS (pc' := 21) (As := [.long ((x5).toInt64), .long 0, .long 15]) dX8_odds_18 rfl lmX8_49 rfl rfl (Nat.le_of_ble_eq_true rfl) (Nat.le_of_ble_eq_true rfl) ?_
    show X none (d + 2) mX8_in 0 [.long ((x5).toInt64), Unk, .long 0, Unk, .long 15, Unk] [] σ _
    refine sp_in (x := x5) (lo := 0) (hi := 15) (by decide) (by decide) ?_
    show X none (d + 3) mX8_odds 21 [.ref 94, .int x1, .int x2, .int x3, .int x4, .int x5, .int x6, Unk, Unk, Unk, Unk, Unk, Unk, Unk, Unk, Unk, Unk, Unk] [.int (if (0 ≤ x5 ∧ x5 ≤ 15) then 1 else 0)] σ _
    refine x_if_eq (pc' := 24) (tgt := 37) dX8_odds_21 (by decide) rfl (fun hc => ?_) (fun hc => ?_)
    · replace h := h.1 (b01_ne hc)
      refine x_aload_n (pc' := 38) dX8_odds_37 rfl rfl rfl ?_
      refine x_callV (pc' := 41) (As := []) dX8_odds_38 rfl lmX8_81 kd_94 rfl rfl (Nat.le_of_ble_eq_true rfl) (Nat.le_of_ble_eq_true rfl) ?_
      show X none (d + 2) mX8_bad 0 [.ref 94] [] σ _
      refine x_aload_n (pc' := 1) dX8_bad_0 rfl rfl rfl ?_
      refine x_getr (pc' := 4) dX8_bad_1 rfl lfX8_30 kd_94 rfl rf_94_9 ?_
      refine x_iconst (pc' := 5) (v := 0) dX8_bad_4 rfl (by decide) ?_
      refine x_dup2 (pc' := 6) dX8_bad_5 rfl rfl rfl ?_
      refine x_iald (pc' := 7) dX8_bad_6 rfl kd_99 (by rw [ln_99]; unfold vp_in; decide) ?_
      show X none (d + 2) mX8_bad 7 [.ref 94] [.int (σ.1 99 0), .int 0, .ref 99] σ _
      refine x_iconst (pc' := 8) (v := 1) dX8_bad_7 rfl (by decide) ?_
      refine x_iadd (pc' := 9) dX8_bad_8 rfl ?_
      refine x_iast (pc' := 10) dX8_bad_9 rfl kd_99 (by rw [ln_99]; unfold vp_in; decide) ?_
      obtain ⟨τ2, eτ2⟩ : ∃ τ : Mem, τ = (w1 σ 99 0 ((σ.1 99 0) + 1)) := ⟨_, rfl⟩
      show X none (d + 2) mX8_bad 10 [.ref 94] [] (w1 σ 99 0 ((σ.1 99 0) + 1)) _
      rw [← eτ2]
      replace h := h τ2 eτ2
      refine x_ldc (pc' := 12) dX8_bad_10 rfl lcX8_42 ?_
      refine x_iret dX8_bad_12 rfl rfl ?_
      show X none (d + 3) mX8_odds 41 [.ref 94, .int x1, .int x2, .int x3, .int x4, .int x5, .int x6, Unk, Unk, Unk, Unk, Unk, Unk, Unk, Unk, Unk, Unk, Unk] [.int (-2000000002)] τ2 _
      exact x_iret dX8_odds_41 rfl rfl h
    · replace h := h.2 (b01_eq hc)
      refine x_iload (pc' := 26) dX8_odds_24 rfl rfl ?_
      refine x_i2l (pc' := 27) dX8_odds_26 rfl ?_
      refine x_lconst (pc' := 28) (v := 0) dX8_odds_27 rfl (by decide) ?_
      refine x_ldc2 (pc' := 31) dX8_odds_28 rfl llX8_256 ?_
      refine x_callS (pc' := 34) (As := [.long ((x6).toInt64), .long 0, .long 10]) dX8_odds_31 rfl lmX8_49 rfl rfl (Nat.le_of_ble_eq_true rfl) (Nat.le_of_ble_eq_true rfl) ?_
      show X none (d + 2) mX8_in 0 [.long ((x6).toInt64), Unk, .long 0, Unk, .long 10, Unk] [] σ _
      refine sp_in (x := x6) (lo := 0) (hi := 10) (by decide) (by decide) ?_
      show X none (d + 3) mX8_odds 34 [.ref 94, .int x1, .int x2, .int x3, .int x4, .int x5, .int x6, Unk, Unk, Unk, Unk, Unk, Unk, Unk, Unk, Unk, Unk, Unk] [.int (if (0 ≤ x6 ∧ x6 ≤ 10) then 1 else 0)] σ _
      refine x_if_ne (pc' := 37) (tgt := 42) dX8_odds_34 (by decide) rfl (fun hc => ?_) (fun hc => ?_)
      · replace h := h.1 (b01_eq hc)
        refine x_aload_n (pc' := 43) dX8_odds_42 rfl rfl rfl ?_
        refine x_iload_n (pc' := 44) dX8_odds_43 rfl rfl rfl ?_
        refine x_iload_n (pc' := 45) dX8_odds_44 rfl rfl rfl ?_
        refine x_iload_n (pc' := 46) dX8_odds_45 rfl rfl rfl ?_
        refine x_iload (pc' := 48) dX8_odds_46 rfl rfl ?_
        refine x_callV (pc' := 51) (As := [.int x1, .int x2, .int x3, .int x4]) dX8_odds_48 rfl lmX8_159 kd_94 rfl rfl (Nat.le_of_ble_eq_true rfl) (Nat.le_of_ble_eq_true rfl) ?_
        show X none (d + 2) mX8_manyIn 0 [.ref 94, .int x1, .int x2, .int x3, .int x4, Unk, Unk] [] σ _
        refine X.mono h ?_
        rintro r τ3 ⟨u4, rfl, h⟩
        show X none (d + 3) mX8_odds 51 [.ref 94, .int x1, .int x2, .int x3, .int x4, .int x5, .int x6, Unk, Unk, Unk, Unk, Unk, Unk, Unk, Unk, Unk, Unk, Unk] [.int u4] τ3 _
        refine x_istore (pc' := 53) dX8_odds_51 rfl (by decide) rfl (ls' := [.ref 94, .int x1, .int x2, .int x3, .int x4, .int x5, .int x6, .int u4, Unk, Unk, Unk, Unk, Unk, Unk, Unk, Unk, Unk, Unk]) rfl ?_
        refine x_iload (pc' := 55) dX8_odds_53 rfl rfl ?_
        refine x_bipush (pc' := 57) (v := 15) dX8_odds_55 rfl (by decide) ?_
        refine x_icmp_le (pc' := 60) (tgt := 65) dX8_odds_57 (by decide) rfl (fun hc => ?_) (fun hc => ?_)
        · replace h := h.1 hc
          refine x_lconst (pc' := 66) (v := 0) dX8_odds_65 rfl (by decide) ?_
          refine x_lstore (pc' := 68) dX8_odds_66 rfl (by decide) rfl (ls' := [.ref 94, .int x1, .int x2, .int x3, .int x4, .int x5, .int x6, .int u4, .long 0, Unk, Unk, Unk, Unk, Unk, Unk, Unk, Unk, Unk]) rfl ?_
          refine x_lconst (pc' := 69) (v := 1) dX8_odds_68 rfl (by decide) ?_
          refine x_lstore (pc' := 71) dX8_odds_69 rfl (by decide) rfl (ls' := [.ref 94, .int x1, .int x2, .int x3, .int x4, .int x5, .int x6, .int u4, .long 0, Unk, .long 1, Unk, Unk, Unk, Unk, Unk, Unk, Unk]) rfl ?_
          refine x_lconst (pc' := 72) (v := 1) dX8_odds_71 rfl (by decide) ?_
          refine x_lstore (pc' := 74) dX8_odds_72 rfl (by decide) rfl (ls' := [.ref 94, .int x1, .int x2, .int x3, .int x4, .int x5, .int x6, .int u4, .long 0, Unk, .long 1, Unk, .long 1, Unk, Unk, Unk, Unk, Unk]) rfl ?_
          refine x_iconst (pc' := 75) (v := 0) dX8_odds_74 rfl (by decide) ?_
          refine x_istore (pc' := 77) dX8_odds_75 rfl (by decide) rfl (ls' := [.ref 94, .int x1, .int x2, .int x3, .int x4, .int x5, .int x6, .int u4, .long 0, Unk, .long 1, Unk, .long 1, Unk, .int 0, Unk, Unk, Unk]) rfl ?_
          exact h
        · replace h := h.2 hc
          refine x_aload_n (pc' := 61) dX8_odds_60 rfl rfl rfl ?_
          refine x_callV (pc' := 64) (As := []) dX8_odds_61 rfl lmX8_140 kd_94 rfl rfl (Nat.le_of_ble_eq_true rfl) (Nat.le_of_ble_eq_true rfl) ?_
          show X none (d + 2) mX8_no 0 [.ref 94] [] τ3 _
          refine x_aload_n (pc' := 1) dX8_no_0 rfl rfl rfl ?_
          refine x_getr (pc' := 4) dX8_no_1 rfl lfX8_30 kd_94 rfl rf_94_9 ?_
          refine x_iconst (pc' := 5) (v := 1) dX8_no_4 rfl (by decide) ?_
          refine x_dup2 (pc' := 6) dX8_no_5 rfl rfl rfl ?_
          refine x_iald (pc' := 7) dX8_no_6 rfl kd_99 (by rw [ln_99]; unfold vp_in; decide) ?_
          show X none (d + 2) mX8_no 7 [.ref 94] [.int (τ3.1 99 1), .int 1, .ref 99] τ3 _
          refine x_iconst (pc' := 8) (v := 1) dX8_no_7 rfl (by decide) ?_
          refine x_iadd (pc' := 9) dX8_no_8 rfl ?_
          refine x_iast (pc' := 10) dX8_no_9 rfl kd_99 (by rw [ln_99]; unfold vp_in; decide) ?_
          obtain ⟨τ5, eτ5⟩ : ∃ τ : Mem, τ = (w1 τ3 99 1 ((τ3.1 99 1) + 1)) := ⟨_, rfl⟩
          show X none (d + 2) mX8_no 10 [.ref 94] [] (w1 τ3 99 1 ((τ3.1 99 1) + 1)) _
          rw [← eτ5]
          replace h := h τ5 eτ5
          refine x_ldc (pc' := 12) dX8_no_10 rfl lcX8_43 ?_
          refine x_iret dX8_no_12 rfl rfl ?_
          show X none (d + 3) mX8_odds 64 [.ref 94, .int x1, .int x2, .int x3, .int x4, .int x5, .int x6, .int u4, Unk, Unk, Unk, Unk, Unk, Unk, Unk, Unk, Unk, Unk] [.int (-2000000003)] τ5 _
          exact x_iret dX8_odds_64 rfl rfl h
      · replace h := h.2 (b01_ne hc)
        refine x_aload_n (pc' := 38) dX8_odds_37 rfl rfl rfl ?_
        refine x_callV (pc' := 41) (As := []) dX8_odds_38 rfl lmX8_81 kd_94 rfl rfl (Nat.le_of_ble_eq_true rfl) (Nat.le_of_ble_eq_true rfl) ?_
        show X none (d + 2) mX8_bad 0 [.ref 94] [] σ _
        refine x_aload_n (pc' := 1) dX8_bad_0 rfl rfl rfl ?_
        refine x_getr (pc' := 4) dX8_bad_1 rfl lfX8_30 kd_94 rfl rf_94_9 ?_
        refine x_iconst (pc' := 5) (v := 0) dX8_bad_4 rfl (by decide) ?_
        refine x_dup2 (pc' := 6) dX8_bad_5 rfl rfl rfl ?_
        refine x_iald (pc' := 7) dX8_bad_6 rfl kd_99 (by rw [ln_99]; unfold vp_in; decide) ?_
        show X none (d + 2) mX8_bad 7 [.ref 94] [.int (σ.1 99 0), .int 0, .ref 99] σ _
        refine x_iconst (pc' := 8) (v := 1) dX8_bad_7 rfl (by decide) ?_
        refine x_iadd (pc' := 9) dX8_bad_8 rfl ?_
        refine x_iast (pc' := 10) dX8_bad_9 rfl kd_99 (by rw [ln_99]; unfold vp_in; decide) ?_
        obtain ⟨τ6, eτ6⟩ : ∃ τ : Mem, τ = (w1 σ 99 0 ((σ.1 99 0) + 1)) := ⟨_, rfl⟩
        show X none (d + 2) mX8_bad 10 [.ref 94] [] (w1 σ 99 0 ((σ.1 99 0) + 1)) _
        rw [← eτ6]
        replace h := h τ6 eτ6
        refine x_ldc (pc' := 12) dX8_bad_10 rfl lcX8_42 ?_
        refine x_iret dX8_bad_12 rfl rfl ?_
        show X none (d + 3) mX8_odds 41 [.ref 94, .int x1, .int x2, .int x3, .int x4, .int x5, .int x6, Unk, Unk, Unk, Unk, Unk, Unk, Unk, Unk, Unk, Unk, Unk] [.int (-2000000002)] τ6 _
        exact x_iret dX8_odds_41 rfl rfl h
set_option maxRecDepth 100000 in
set_option maxHeartbeats 4000000 in
theorem vX8_odds_77 {d : Nat} {σ : Mem} {Q : Option Value → Mem → Prop} {x1 x2 x3 x4 x5 x6 x7 x14 : Int32} {y8 y10 y12 : Int64} 
    (h : ((x7 < x14 → (X none (d + 2) mX8_tells 0 [.ref 94, .long y8, Unk, .long y10, Unk, Unk, Unk, Unk, Unk, Unk, Unk] [] σ (fun r τ1 => ∃ u2 : Int32, r = some (.int u2) ∧ Q (some (.int u2)) τ1))) ∧ (¬ x7 < x14 → X none (d + 3) mX8_odds 91 [.ref 94, .int x1, .int x2, .int x3, .int x4, .int x5, .int x6, .int x7, .long y8, Unk, .long y10, Unk, .long y12, Unk, .int x14, .long y12, Unk, .int 0] [] σ Q))) :
    X none (d + 3) mX8_odds 77 [.ref 94, .int x1, .int x2, .int x3, .int x4, .int x5, .int x6, .int x7, .long y8, Unk, .long y10, Unk, .long y12, Unk, .int x14, Unk, Unk, Unk] [] σ Q := by
  refine x_iload (pc' := 79) dX8_odds_77 rfl rfl ?_
  refine x_iload (pc' := 81) dX8_odds_79 rfl rfl ?_
  refine x_icmp_gt (pc' := 84) (tgt := 188) dX8_odds_81 (by decide) rfl (fun hc => ?_) (fun hc => ?_)
  · replace h := h.1 hc
    refine x_aload_n (pc' := 189) dX8_odds_188 rfl rfl rfl ?_
    refine x_lload (pc' := 191) dX8_odds_189 rfl rfl ?_
    refine x_lload (pc' := 193) dX8_odds_191 rfl rfl ?_
    refine x_callV (pc' := 196) (As := [.long y8, .long y10]) dX8_odds_193 rfl lmX8_258 kd_94 rfl rfl (Nat.le_of_ble_eq_true rfl) (Nat.le_of_ble_eq_true rfl) ?_
    show X none (d + 2) mX8_tells 0 [.ref 94, .long y8, Unk, .long y10, Unk, Unk, Unk, Unk, Unk, Unk, Unk] [] σ _
    refine X.mono h ?_
    rintro r τ1 ⟨u2, rfl, h⟩
    show X none (d + 3) mX8_odds 196 [.ref 94, .int x1, .int x2, .int x3, .int x4, .int x5, .int x6, .int x7, .long y8, Unk, .long y10, Unk, .long y12, Unk, .int x14, Unk, Unk, Unk] [.int u2] τ1 _
    exact x_iret dX8_odds_196 rfl rfl h
  · replace h := h.2 hc
    refine x_lload (pc' := 86) dX8_odds_84 rfl rfl ?_
    refine x_lstore (pc' := 88) dX8_odds_86 rfl (by decide) rfl (ls' := [.ref 94, .int x1, .int x2, .int x3, .int x4, .int x5, .int x6, .int x7, .long y8, Unk, .long y10, Unk, .long y12, Unk, .int x14, .long y12, Unk, Unk]) rfl ?_
    refine x_iconst (pc' := 89) (v := 0) dX8_odds_88 rfl (by decide) ?_
    refine x_istore (pc' := 91) dX8_odds_89 rfl (by decide) rfl (ls' := [.ref 94, .int x1, .int x2, .int x3, .int x4, .int x5, .int x6, .int x7, .long y8, Unk, .long y10, Unk, .long y12, Unk, .int x14, .long y12, Unk, .int 0]) rfl ?_
    exact h
set_option maxRecDepth 100000 in
set_option maxHeartbeats 4000000 in
theorem vX8_odds_91 {d : Nat} {σ : Mem} {Q : Option Value → Mem → Prop} {x1 x2 x3 x4 x5 x6 x7 x14 x17 : Int32} {y8 y10 y12 y15 : Int64} 
    (h : ((x7 ≤ x17 → ((x14 < x5 → (¬ (((x14 + 1)).toInt64) = 0 ∧ ((x7 ≤ x14 → X none (d + 3) mX8_odds 77 [.ref 94, .int x1, .int x2, .int x3, .int x4, .int x5, .int x6, .int x7, .long (y8 + 0), Unk, .long (y10 * 1), Unk, .long ((y12 * (((x7 - x14)).toInt64)) / (((x14 + 1)).toInt64)), Unk, .int (x14 + 1), Unk, Unk, Unk] [] σ Q) ∧ (¬ x7 ≤ x14 → X none (d + 3) mX8_odds 77 [.ref 94, .int x1, .int x2, .int x3, .int x4, .int x5, .int x6, .int x7, .long (y8 + 0), Unk, .long (y10 * 10), Unk, .long ((y12 * (((x7 - x14)).toInt64)) / (((x14 + 1)).toInt64)), Unk, .int (x14 + 1), Unk, Unk, Unk] [] σ Q)))) ∧ (¬ x14 < x5 → (¬ (((x14 + 1)).toInt64) = 0 ∧ ((x7 ≤ x14 → X none (d + 3) mX8_odds 77 [.ref 94, .int x1, .int x2, .int x3, .int x4, .int x5, .int x6, .int x7, .long (y8 + y15), Unk, .long (y10 * 1), Unk, .long ((y12 * (((x7 - x14)).toInt64)) / (((x14 + 1)).toInt64)), Unk, .int (x14 + 1), Unk, Unk, Unk] [] σ Q) ∧ (¬ x7 ≤ x14 → X none (d + 3) mX8_odds 77 [.ref 94, .int x1, .int x2, .int x3, .int x4, .int x5, .int x6, .int x7, .long (y8 + y15), Unk, .long (y10 * 10), Unk, .long ((y12 * (((x7 - x14)).toInt64)) / (((x14 + 1)).toInt64)), Unk, .int (x14 + 1), Unk, Unk, Unk] [] σ Q)))))) ∧ (¬ x7 ≤ x17 → ((x14 ≤ x17 → X none (d + 3) mX8_odds 91 [.ref 94, .int x1, .int x2, .int x3, .int x4, .int x5, .int x6, .int x7, .long y8, Unk, .long y10, Unk, .long y12, Unk, .int x14, .long (y15 * (((10 - x6)).toInt64)), Unk, .int (x17 + 1)] [] σ Q) ∧ (¬ x14 ≤ x17 → X none (d + 3) mX8_odds 91 [.ref 94, .int x1, .int x2, .int x3, .int x4, .int x5, .int x6, .int x7, .long y8, Unk, .long y10, Unk, .long y12, Unk, .int x14, .long (y15 * ((x6).toInt64)), Unk, .int (x17 + 1)] [] σ Q))))) :
    X none (d + 3) mX8_odds 91 [.ref 94, .int x1, .int x2, .int x3, .int x4, .int x5, .int x6, .int x7, .long y8, Unk, .long y10, Unk, .long y12, Unk, .int x14, .long y15, Unk, .int x17] [] σ Q := by
  refine x_iload (pc' := 93) dX8_odds_91 rfl rfl ?_
  refine x_iload (pc' := 95) dX8_odds_93 rfl rfl ?_
  refine x_icmp_ge (pc' := 98) (tgt := 128) dX8_odds_95 (by decide) rfl (fun hc => ?_) (fun hc => ?_)
  · replace h := h.1 hc
    refine x_lload (pc' := 130) dX8_odds_128 rfl rfl ?_
    refine x_iload (pc' := 132) dX8_odds_130 rfl rfl ?_
    refine x_iload (pc' := 134) dX8_odds_132 rfl rfl ?_
    refine x_icmp_lt (pc' := 137) (tgt := 142) dX8_odds_134 (by decide) rfl (fun hc => ?_) (fun hc => ?_)
    · replace h := h.1 hc
      refine x_lconst (pc' := 143) (v := 0) dX8_odds_142 rfl (by decide) ?_
      refine x_ladd (pc' := 144) dX8_odds_143 rfl ?_
      refine x_lstore (pc' := 146) dX8_odds_144 rfl (by decide) rfl (ls' := [.ref 94, .int x1, .int x2, .int x3, .int x4, .int x5, .int x6, .int x7, .long (y8 + 0), Unk, .long y10, Unk, .long y12, Unk, .int x14, .long y15, Unk, .int x17]) rfl ?_
      refine x_lload (pc' := 148) dX8_odds_146 rfl rfl ?_
      refine x_iload (pc' := 150) dX8_odds_148 rfl rfl ?_
      refine x_iload (pc' := 152) dX8_odds_150 rfl rfl ?_
      refine x_isub (pc' := 153) dX8_odds_152 rfl ?_
      refine x_i2l (pc' := 154) dX8_odds_153 rfl ?_
      refine x_lmul (pc' := 155) dX8_odds_154 rfl ?_
      refine x_iload (pc' := 157) dX8_odds_155 rfl rfl ?_
      refine x_iconst (pc' := 158) (v := 1) dX8_odds_157 rfl (by decide) ?_
      refine x_iadd (pc' := 159) dX8_odds_158 rfl ?_
      refine x_i2l (pc' := 160) dX8_odds_159 rfl ?_
      obtain ⟨hz, h⟩ := h
      refine x_ldiv (pc' := 161) dX8_odds_160 rfl hz ?_
      refine x_lstore (pc' := 163) dX8_odds_161 rfl (by decide) rfl (ls' := [.ref 94, .int x1, .int x2, .int x3, .int x4, .int x5, .int x6, .int x7, .long (y8 + 0), Unk, .long y10, Unk, .long ((y12 * (((x7 - x14)).toInt64)) / (((x14 + 1)).toInt64)), Unk, .int x14, .long y15, Unk, .int x17]) rfl ?_
      refine x_lload (pc' := 165) dX8_odds_163 rfl rfl ?_
      refine x_iload (pc' := 167) dX8_odds_165 rfl rfl ?_
      refine x_iload (pc' := 169) dX8_odds_167 rfl rfl ?_
      refine x_icmp_ge (pc' := 172) (tgt := 178) dX8_odds_169 (by decide) rfl (fun hc => ?_) (fun hc => ?_)
      · replace h := h.1 hc
        refine x_lconst (pc' := 179) (v := 1) dX8_odds_178 rfl (by decide) ?_
        refine x_lmul (pc' := 180) dX8_odds_179 rfl ?_
        refine x_lstore (pc' := 182) dX8_odds_180 rfl (by decide) rfl (ls' := [.ref 94, .int x1, .int x2, .int x3, .int x4, .int x5, .int x6, .int x7, .long (y8 + 0), Unk, .long (y10 * 1), Unk, .long ((y12 * (((x7 - x14)).toInt64)) / (((x14 + 1)).toInt64)), Unk, .int x14, .long y15, Unk, .int x17]) rfl ?_
        refine x_iinc (pc' := 185) (v := 1) dX8_odds_182 rfl (by decide) rfl rfl (by decide) (ls' := [.ref 94, .int x1, .int x2, .int x3, .int x4, .int x5, .int x6, .int x7, .long (y8 + 0), Unk, .long (y10 * 1), Unk, .long ((y12 * (((x7 - x14)).toInt64)) / (((x14 + 1)).toInt64)), Unk, .int (x14 + 1), .long y15, Unk, .int x17]) rfl ?_
        refine x_goto (pc' := 77) dX8_odds_185 (by decide) ?_
        refine x_forget 15 (ls' := [.ref 94, .int x1, .int x2, .int x3, .int x4, .int x5, .int x6, .int x7, .long (y8 + 0), Unk, .long (y10 * 1), Unk, .long ((y12 * (((x7 - x14)).toInt64)) / (((x14 + 1)).toInt64)), Unk, .int (x14 + 1), Unk, Unk, .int x17]) rfl ?_
        refine x_forget 17 (ls' := [.ref 94, .int x1, .int x2, .int x3, .int x4, .int x5, .int x6, .int x7, .long (y8 + 0), Unk, .long (y10 * 1), Unk, .long ((y12 * (((x7 - x14)).toInt64)) / (((x14 + 1)).toInt64)), Unk, .int (x14 + 1), Unk, Unk, Unk]) rfl ?_
        exact h
      · replace h := h.2 hc
        refine x_ldc2 (pc' := 175) dX8_odds_172 rfl llX8_256 ?_
        refine x_goto (pc' := 179) dX8_odds_175 (by decide) ?_
        refine x_lmul (pc' := 180) dX8_odds_179 rfl ?_
        refine x_lstore (pc' := 182) dX8_odds_180 rfl (by decide) rfl (ls' := [.ref 94, .int x1, .int x2, .int x3, .int x4, .int x5, .int x6, .int x7, .long (y8 + 0), Unk, .long (y10 * 10), Unk, .long ((y12 * (((x7 - x14)).toInt64)) / (((x14 + 1)).toInt64)), Unk, .int x14, .long y15, Unk, .int x17]) rfl ?_
        refine x_iinc (pc' := 185) (v := 1) dX8_odds_182 rfl (by decide) rfl rfl (by decide) (ls' := [.ref 94, .int x1, .int x2, .int x3, .int x4, .int x5, .int x6, .int x7, .long (y8 + 0), Unk, .long (y10 * 10), Unk, .long ((y12 * (((x7 - x14)).toInt64)) / (((x14 + 1)).toInt64)), Unk, .int (x14 + 1), .long y15, Unk, .int x17]) rfl ?_
        refine x_goto (pc' := 77) dX8_odds_185 (by decide) ?_
        refine x_forget 15 (ls' := [.ref 94, .int x1, .int x2, .int x3, .int x4, .int x5, .int x6, .int x7, .long (y8 + 0), Unk, .long (y10 * 10), Unk, .long ((y12 * (((x7 - x14)).toInt64)) / (((x14 + 1)).toInt64)), Unk, .int (x14 + 1), Unk, Unk, .int x17]) rfl ?_
        refine x_forget 17 (ls' := [.ref 94, .int x1, .int x2, .int x3, .int x4, .int x5, .int x6, .int x7, .long (y8 + 0), Unk, .long (y10 * 10), Unk, .long ((y12 * (((x7 - x14)).toInt64)) / (((x14 + 1)).toInt64)), Unk, .int (x14 + 1), Unk, Unk, Unk]) rfl ?_
        exact h
    · replace h := h.2 hc
      refine x_lload (pc' := 139) dX8_odds_137 rfl rfl ?_
      refine x_goto (pc' := 143) dX8_odds_139 (by decide) ?_
      refine x_ladd (pc' := 144) dX8_odds_143 rfl ?_
      refine x_lstore (pc' := 146) dX8_odds_144 rfl (by decide) rfl (ls' := [.ref 94, .int x1, .int x2, .int x3, .int x4, .int x5, .int x6, .int x7, .long (y8 + y15), Unk, .long y10, Unk, .long y12, Unk, .int x14, .long y15, Unk, .int x17]) rfl ?_
      refine x_lload (pc' := 148) dX8_odds_146 rfl rfl ?_
      refine x_iload (pc' := 150) dX8_odds_148 rfl rfl ?_
      refine x_iload (pc' := 152) dX8_odds_150 rfl rfl ?_
      refine x_isub (pc' := 153) dX8_odds_152 rfl ?_
      refine x_i2l (pc' := 154) dX8_odds_153 rfl ?_
      refine x_lmul (pc' := 155) dX8_odds_154 rfl ?_
      refine x_iload (pc' := 157) dX8_odds_155 rfl rfl ?_
      refine x_iconst (pc' := 158) (v := 1) dX8_odds_157 rfl (by decide) ?_
      refine x_iadd (pc' := 159) dX8_odds_158 rfl ?_
      refine x_i2l (pc' := 160) dX8_odds_159 rfl ?_
      obtain ⟨hz, h⟩ := h
      refine x_ldiv (pc' := 161) dX8_odds_160 rfl hz ?_
      refine x_lstore (pc' := 163) dX8_odds_161 rfl (by decide) rfl (ls' := [.ref 94, .int x1, .int x2, .int x3, .int x4, .int x5, .int x6, .int x7, .long (y8 + y15), Unk, .long y10, Unk, .long ((y12 * (((x7 - x14)).toInt64)) / (((x14 + 1)).toInt64)), Unk, .int x14, .long y15, Unk, .int x17]) rfl ?_
      refine x_lload (pc' := 165) dX8_odds_163 rfl rfl ?_
      refine x_iload (pc' := 167) dX8_odds_165 rfl rfl ?_
      refine x_iload (pc' := 169) dX8_odds_167 rfl rfl ?_
      refine x_icmp_ge (pc' := 172) (tgt := 178) dX8_odds_169 (by decide) rfl (fun hc => ?_) (fun hc => ?_)
      · replace h := h.1 hc
        refine x_lconst (pc' := 179) (v := 1) dX8_odds_178 rfl (by decide) ?_
        refine x_lmul (pc' := 180) dX8_odds_179 rfl ?_
        refine x_lstore (pc' := 182) dX8_odds_180 rfl (by decide) rfl (ls' := [.ref 94, .int x1, .int x2, .int x3, .int x4, .int x5, .int x6, .int x7, .long (y8 + y15), Unk, .long (y10 * 1), Unk, .long ((y12 * (((x7 - x14)).toInt64)) / (((x14 + 1)).toInt64)), Unk, .int x14, .long y15, Unk, .int x17]) rfl ?_
        refine x_iinc (pc' := 185) (v := 1) dX8_odds_182 rfl (by decide) rfl rfl (by decide) (ls' := [.ref 94, .int x1, .int x2, .int x3, .int x4, .int x5, .int x6, .int x7, .long (y8 + y15), Unk, .long (y10 * 1), Unk, .long ((y12 * (((x7 - x14)).toInt64)) / (((x14 + 1)).toInt64)), Unk, .int (x14 + 1), .long y15, Unk, .int x17]) rfl ?_
        refine x_goto (pc' := 77) dX8_odds_185 (by decide) ?_
        refine x_forget 15 (ls' := [.ref 94, .int x1, .int x2, .int x3, .int x4, .int x5, .int x6, .int x7, .long (y8 + y15), Unk, .long (y10 * 1), Unk, .long ((y12 * (((x7 - x14)).toInt64)) / (((x14 + 1)).toInt64)), Unk, .int (x14 + 1), Unk, Unk, .int x17]) rfl ?_
        refine x_forget 17 (ls' := [.ref 94, .int x1, .int x2, .int x3, .int x4, .int x5, .int x6, .int x7, .long (y8 + y15), Unk, .long (y10 * 1), Unk, .long ((y12 * (((x7 - x14)).toInt64)) / (((x14 + 1)).toInt64)), Unk, .int (x14 + 1), Unk, Unk, Unk]) rfl ?_
        exact h
      · replace h := h.2 hc
        refine x_ldc2 (pc' := 175) dX8_odds_172 rfl llX8_256 ?_
        refine x_goto (pc' := 179) dX8_odds_175 (by decide) ?_
        refine x_lmul (pc' := 180) dX8_odds_179 rfl ?_
        refine x_lstore (pc' := 182) dX8_odds_180 rfl (by decide) rfl (ls' := [.ref 94, .int x1, .int x2, .int x3, .int x4, .int x5, .int x6, .int x7, .long (y8 + y15), Unk, .long (y10 * 10), Unk, .long ((y12 * (((x7 - x14)).toInt64)) / (((x14 + 1)).toInt64)), Unk, .int x14, .long y15, Unk, .int x17]) rfl ?_
        refine x_iinc (pc' := 185) (v := 1) dX8_odds_182 rfl (by decide) rfl rfl (by decide) (ls' := [.ref 94, .int x1, .int x2, .int x3, .int x4, .int x5, .int x6, .int x7, .long (y8 + y15), Unk, .long (y10 * 10), Unk, .long ((y12 * (((x7 - x14)).toInt64)) / (((x14 + 1)).toInt64)), Unk, .int (x14 + 1), .long y15, Unk, .int x17]) rfl ?_
        refine x_goto (pc' := 77) dX8_odds_185 (by decide) ?_
        refine x_forget 15 (ls' := [.ref 94, .int x1, .int x2, .int x3, .int x4, .int x5, .int x6, .int x7, .long (y8 + y15), Unk, .long (y10 * 10), Unk, .long ((y12 * (((x7 - x14)).toInt64)) / (((x14 + 1)).toInt64)), Unk, .int (x14 + 1), Unk, Unk, .int x17]) rfl ?_
        refine x_forget 17 (ls' := [.ref 94, .int x1, .int x2, .int x3, .int x4, .int x5, .int x6, .int x7, .long (y8 + y15), Unk, .long (y10 * 10), Unk, .long ((y12 * (((x7 - x14)).toInt64)) / (((x14 + 1)).toInt64)), Unk, .int (x14 + 1), Unk, Unk, Unk]) rfl ?_
        exact h
  · replace h := h.2 hc
    refine x_lload (pc' := 100) dX8_odds_98 rfl rfl ?_
    refine x_iload (pc' := 102) dX8_odds_100 rfl rfl ?_
    refine x_iload (pc' := 104) dX8_odds_102 rfl rfl ?_
    refine x_icmp_ge (pc' := 107) (tgt := 113) dX8_odds_104 (by decide) rfl (fun hc => ?_) (fun hc => ?_)
    · replace h := h.1 hc
      refine x_bipush (pc' := 115) (v := 10) dX8_odds_113 rfl (by decide) ?_
      refine x_iload (pc' := 117) dX8_odds_115 rfl rfl ?_
      refine x_isub (pc' := 118) dX8_odds_117 rfl ?_
      refine x_i2l (pc' := 119) dX8_odds_118 rfl ?_
      refine x_lmul (pc' := 120) dX8_odds_119 rfl ?_
      refine x_lstore (pc' := 122) dX8_odds_120 rfl (by decide) rfl (ls' := [.ref 94, .int x1, .int x2, .int x3, .int x4, .int x5, .int x6, .int x7, .long y8, Unk, .long y10, Unk, .long y12, Unk, .int x14, .long (y15 * (((10 - x6)).toInt64)), Unk, .int x17]) rfl ?_
      refine x_iinc (pc' := 125) (v := 1) dX8_odds_122 rfl (by decide) rfl rfl (by decide) (ls' := [.ref 94, .int x1, .int x2, .int x3, .int x4, .int x5, .int x6, .int x7, .long y8, Unk, .long y10, Unk, .long y12, Unk, .int x14, .long (y15 * (((10 - x6)).toInt64)), Unk, .int (x17 + 1)]) rfl ?_
      refine x_goto (pc' := 91) dX8_odds_125 (by decide) ?_
      exact h
    · replace h := h.2 hc
      refine x_iload (pc' := 109) dX8_odds_107 rfl rfl ?_
      refine x_i2l (pc' := 110) dX8_odds_109 rfl ?_
      refine x_goto (pc' := 119) dX8_odds_110 (by decide) ?_
      refine x_lmul (pc' := 120) dX8_odds_119 rfl ?_
      refine x_lstore (pc' := 122) dX8_odds_120 rfl (by decide) rfl (ls' := [.ref 94, .int x1, .int x2, .int x3, .int x4, .int x5, .int x6, .int x7, .long y8, Unk, .long y10, Unk, .long y12, Unk, .int x14, .long (y15 * ((x6).toInt64)), Unk, .int x17]) rfl ?_
      refine x_iinc (pc' := 125) (v := 1) dX8_odds_122 rfl (by decide) rfl rfl (by decide) (ls' := [.ref 94, .int x1, .int x2, .int x3, .int x4, .int x5, .int x6, .int x7, .long y8, Unk, .long y10, Unk, .long y12, Unk, .int x14, .long (y15 * ((x6).toInt64)), Unk, .int (x17 + 1)]) rfl ?_
      refine x_goto (pc' := 91) dX8_odds_125 (by decide) ?_
      exact h
