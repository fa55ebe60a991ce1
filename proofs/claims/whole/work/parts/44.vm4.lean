set_option maxRecDepth 100000 in
set_option maxHeartbeats 4000000 in
theorem vX8_square_0 {d : Nat} {σ : Mem} {Q : Option Value → Mem → Prop} {x1 x2 : Int32} 
    (h : ((¬ (0 ≤ x1 ∧ x1 ≤ 300) → ((∀ τ1 : Mem, τ1 = (w1 σ 99 0 ((σ.1 99 0) + 1)) → Q (some (.int (-2000000002))) τ1))) ∧ ((0 ≤ x1 ∧ x1 ≤ 300) → (((0 ≤ x2 ∧ x2 ≤ 2) → X none (d + 3) mX8_square 40 [.ref 94, .int x1, .int x2, .int 0, .int 0, .int 0, .int 0, Unk, Unk, Unk, Unk, Unk] [] σ Q) ∧ (¬ (0 ≤ x2 ∧ x2 ≤ 2) → ((∀ τ2 : Mem, τ2 = (w1 σ 99 0 ((σ.1 99 0) + 1)) → Q (some (.int (-2000000002))) τ2))))))) :
    X none (d + 3) mX8_square 0 [.ref 94, .int x1, .int x2, Unk, Unk, Unk, Unk, Unk, Unk, Unk, Unk, Unk] [] σ Q := by
  refine x_iload_n (pc' := 1) dX8_square_0 rfl rfl rfl ?_
  refine x_i2l (pc' := 2) dX8_square_1 rfl ?_
  refine x_lconst (pc' := 3) (v := 0) dX8_square_2 rfl (by decide) ?_
  refine x_ldc2 (pc' := 6) dX8_square_3 rfl llX8_172 ?_
  refine x_callS (pc' := 9) (As := [.long ((x1).toInt64), .long 0, .long 300]) dX8_square_6 rfl lmX8_49 rfl rfl (Nat.le_of_ble_eq_true rfl) (Nat.le_of_ble_eq_true rfl) ?_
  show X none (d + 2) mX8_in 0 [.long ((x1).toInt64), Unk, .long 0, Unk, .long 300, Unk] [] σ _
  refine sp_in (x := x1) (lo := 0) (hi := 300) (by decide) (by decide) ?_
  show X none (d + 3) mX8_square 9 [.ref 94, .int x1, .int x2, Unk, Unk, Unk, Unk, Unk, Unk, Unk, Unk, Unk] [.int (if (0 ≤ x1 ∧ x1 ≤ 300) then 1 else 0)] σ _
  refine x_if_eq (pc' := 12) (tgt := 24) dX8_square_9 (by decide) rfl (fun hc => ?_) (fun hc => ?_)
  · replace h := h.1 (b01_ne hc)
    refine x_aload_n (pc' := 25) dX8_square_24 rfl rfl rfl ?_
    refine x_callV (pc' := 28) (As := []) dX8_square_25 rfl lmX8_81 kd_94 rfl rfl (Nat.le_of_ble_eq_true rfl) (Nat.le_of_ble_eq_true rfl) ?_
    show X none (d + 2) mX8_bad 0 [.ref 94] [] σ _
    refine x_aload_n (pc' := 1) dX8_bad_0 rfl rfl rfl ?_
    refine x_getr (pc' := 4) dX8_bad_1 rfl lfX8_30 kd_94 rfl rf_94_9 ?_
    refine x_iconst (pc' := 5) (v := 0) dX8_bad_4 rfl (by decide) ?_
    refine x_dup2 (pc' := 6) dX8_bad_5 rfl rfl rfl ?_
    refine x_iald (pc' := 7) dX8_bad_6 rfl kd_99 (by rw [ln_99]; unfold vp_in; decide) ?_
    show X none (d + 2) mX8_bad 7 [.ref 94] [.int (σ.1 99 0), .int 0, .ref 99] σ _
    refine x_iconst (pc' := 8) (v := 1) dX8_bad_7 rfl (by decide) ?_
    refine x_iadd (pc' := 9) dX8_bad_8 rfl ?_
    refine x_iast (pc' := 10) dX8_bad_9 rfl kd_99 (by rw [ln_99]; unfold vp_in; decide) ?_
    obtain ⟨τ1, eτ1⟩ : ∃ τ : Mem, τ = (w1 σ 99 0 ((σ.1 99 0) + 1)) := ⟨_, rfl⟩
    show X none (d + 2) mX8_bad 10 [.ref 94] [] (w1 σ 99 0 ((σ.1 99 0) + 1)) _
    rw [← eτ1]
    replace h := h τ1 eτ1
    refine x_ldc (pc' := 12) dX8_bad_10 rfl lcX8_42 ?_
    refine x_iret dX8_bad_12 rfl rfl ?_
    show X none (d + 3) mX8_square 28 [.ref 94, .int x1, .int x2, Unk, Unk, Unk, Unk, Unk, Unk, Unk, Unk, Unk] [.int (-2000000002)] τ1 _
    exact x_iret dX8_square_28 rfl rfl h
  · replace h := h.2 (b01_eq hc)
    refine x_iload_n (pc' := 13) dX8_square_12 rfl rfl rfl ?_
    refine x_i2l (pc' := 14) dX8_square_13 rfl ?_
    refine x_lconst (pc' := 15) (v := 0) dX8_square_14 rfl (by decide) ?_
    refine x_ldc2 (pc' := 18) dX8_square_15 rfl llX8_174 ?_
    refine x_callS (pc' := 21) (As := [.long ((x2).toInt64), .long 0, .long 2]) dX8_square_18 rfl lmX8_49 rfl rfl (Nat.le_of_ble_eq_true rfl) (Nat.le_of_ble_eq_true rfl) ?_
    show X none (d + 2) mX8_in 0 [.long ((x2).toInt64), Unk, .long 0, Unk, .long 2, Unk] [] σ _
    refine sp_in (x := x2) (lo := 0) (hi := 2) (by decide) (by decide) ?_
    show X none (d + 3) mX8_square 21 [.ref 94, .int x1, .int x2, Unk, Unk, Unk, Unk, Unk, Unk, Unk, Unk, Unk] [.int (if (0 ≤ x2 ∧ x2 ≤ 2) then 1 else 0)] σ _
    refine x_if_ne (pc' := 24) (tgt := 29) dX8_square_21 (by decide) rfl (fun hc => ?_) (fun hc => ?_)
    · replace h := h.1 (b01_eq hc)
      refine x_iconst (pc' := 30) (v := 0) dX8_square_29 rfl (by decide) ?_
      refine x_istore_n (pc' := 31) dX8_square_30 rfl rfl (by decide) rfl (ls' := [.ref 94, .int x1, .int x2, .int 0, Unk, Unk, Unk, Unk, Unk, Unk, Unk, Unk]) rfl ?_
      refine x_iconst (pc' := 32) (v := 0) dX8_square_31 rfl (by decide) ?_
      refine x_istore (pc' := 34) dX8_square_32 rfl (by decide) rfl (ls' := [.ref 94, .int x1, .int x2, .int 0, .int 0, Unk, Unk, Unk, Unk, Unk, Unk, Unk]) rfl ?_
      refine x_iconst (pc' := 35) (v := 0) dX8_square_34 rfl (by decide) ?_
      refine x_istore (pc' := 37) dX8_square_35 rfl (by decide) rfl (ls' := [.ref 94, .int x1, .int x2, .int 0, .int 0, .int 0, Unk, Unk, Unk, Unk, Unk, Unk]) rfl ?_
      refine x_iconst (pc' := 38) (v := 0) dX8_square_37 rfl (by decide) ?_
      refine x_istore (pc' := 40) dX8_square_38 rfl (by decide) rfl (ls' := [.ref 94, .int x1, .int x2, .int 0, .int 0, .int 0, .int 0, Unk, Unk, Unk, Unk, Unk]) rfl ?_
      exact h
    · replace h := h.2 (b01_ne hc)
      refine x_aload_n (pc' := 25) dX8_square_24 rfl rfl rfl ?_
      refine x_callV (pc' := 28) (As := []) dX8_square_25 rfl lmX8_81 kd_94 rfl rfl (Nat.le_of_ble_eq_true rfl) (Nat.le_of_ble_eq_true rfl) ?_
      show X none (d + 2) mX8_bad 0 [.ref 94] [] σ _
      refine x_aload_n (pc' := 1) dX8_bad_0 rfl rfl rfl ?_
      refine x_getr (pc' := 4) dX8_bad_1 rfl lfX8_30 kd_94 rfl rf_94_9 ?_
      refine x_iconst (pc' := 5) (v := 0) dX8_bad_4 rfl (by decide) ?_
      refine x_dup2 (pc' := 6) dX8_bad_5 rfl rfl rfl ?_
      refine x_iald (pc' := 7) dX8_bad_6 rfl kd_99 (by rw [ln_99]; unfold vp_in; decide) ?_
      show X none (d + 2) mX8_bad 7 [.ref 94] [.int (σ.1 99 0), .int 0, .ref 99] σ _
      refine x_iconst (pc' := 8) (v := 1) dX8_bad_7 rfl (by decide) ?_
      refine x_iadd (pc' := 9) dX8_bad_8 rfl ?_
      refine x_iast (pc' := 10) dX8_bad_9 rfl kd_99 (by rw [ln_99]; unfold vp_in; decide) ?_
      obtain ⟨τ2, eτ2⟩ : ∃ τ : Mem, τ = (w1 σ 99 0 ((σ.1 99 0) + 1)) := ⟨_, rfl⟩
      show X none (d + 2) mX8_bad 10 [.ref 94] [] (w1 σ 99 0 ((σ.1 99 0) + 1)) _
      rw [← eτ2]
      replace h := h τ2 eτ2
      refine x_ldc (pc' := 12) dX8_bad_10 rfl lcX8_42 ?_
      refine x_iret dX8_bad_12 rfl rfl ?_
      show X none (d + 3) mX8_square 28 [.ref 94, .int x1, .int x2, Unk, Unk, Unk, Unk, Unk, Unk, Unk, Unk, Unk] [.int (-2000000002)] τ2 _
      exact x_iret dX8_square_28 rfl rfl h
set_option maxRecDepth 100000 in
set_option maxHeartbeats 4000000 in
theorem vX8_square_40 {d : Nat} {σ : Mem} {Q : Option Value → Mem → Prop} {x1 x2 x3 x4 x5 x6 : Int32} 
    (h : (((σ.1 95 0) ≤ x6 → ((¬ x3 = 0 → ((¬ x2 = 0 → ((¬ x2 = 1 → Q (some (.int x5)) σ) ∧ (x2 = 1 → Q (some (.int x4)) σ))) ∧ (x2 = 0 → Q (some (.int x3)) σ))) ∧ (x3 = 0 → Q (some (.int (-2000000001))) σ))) ∧ (¬ (σ.1 95 0) ≤ x6 → X none (d + 3) mX8_square 54 [.ref 94, .int x1, .int x2, .int x3, .int x4, .int x5, .int x6, .int 0, Unk, Unk, Unk, Unk] [] σ Q))) :
    X none (d + 3) mX8_square 40 [.ref 94, .int x1, .int x2, .int x3, .int x4, .int x5, .int x6, Unk, Unk, Unk, Unk, Unk] [] σ Q := by
  refine x_iload (pc' := 42) dX8_square_40 rfl rfl ?_
  refine x_aload_n (pc' := 43) dX8_square_42 rfl rfl rfl ?_
  refine x_getr (pc' := 46) dX8_square_43 rfl lfX8_7 kd_94 rfl rf_94_0 ?_
  refine x_iconst (pc' := 47) (v := 0) dX8_square_46 rfl (by decide) ?_
  refine x_iald (pc' := 48) dX8_square_47 rfl kd_95 (by rw [ln_95]; unfold vp_in; decide) ?_
  show X none (d + 3) mX8_square 48 [.ref 94, .int x1, .int x2, .int x3, .int x4, .int x5, .int x6, Unk, Unk, Unk, Unk, Unk] [.int (σ.1 95 0), .int x6] σ _
  refine x_icmp_ge (pc' := 51) (tgt := 228) dX8_square_48 (by decide) rfl (fun hc => ?_) (fun hc => ?_)
  · replace h := h.1 hc
    refine x_iload_n (pc' := 229) dX8_square_228 rfl rfl rfl ?_
    refine x_if_ne (pc' := 232) (tgt := 237) dX8_square_229 (by decide) rfl (fun hc => ?_) (fun hc => ?_)
    · replace h := h.1 hc
      refine x_iload_n (pc' := 238) dX8_square_237 rfl rfl rfl ?_
      refine x_if_ne (pc' := 241) (tgt := 245) dX8_square_238 (by decide) rfl (fun hc => ?_) (fun hc => ?_)
      · replace h := h.1 hc
        refine x_iload_n (pc' := 246) dX8_square_245 rfl rfl rfl ?_
        refine x_iconst (pc' := 247) (v := 1) dX8_square_246 rfl (by decide) ?_
        refine x_icmp_ne (pc' := 250) (tgt := 255) dX8_square_247 (by decide) rfl (fun hc => ?_) (fun hc => ?_)
        · replace h := h.1 hc
          refine x_iload (pc' := 257) dX8_square_255 rfl rfl ?_
          exact x_iret dX8_square_257 rfl rfl h
        · replace h := h.2 hc
          refine x_iload (pc' := 252) dX8_square_250 rfl rfl ?_
          refine x_goto (pc' := 257) dX8_square_252 (by decide) ?_
          exact x_iret dX8_square_257 rfl rfl h
      · replace h := h.2 hc
        refine x_iload_n (pc' := 242) dX8_square_241 rfl rfl rfl ?_
        refine x_goto (pc' := 257) dX8_square_242 (by decide) ?_
        exact x_iret dX8_square_257 rfl rfl h
    · replace h := h.2 hc
      refine x_ldc (pc' := 234) dX8_square_232 rfl lcX8_152 ?_
      refine x_goto (pc' := 257) dX8_square_234 (by decide) ?_
      exact x_iret dX8_square_257 rfl rfl h
  · replace h := h.2 hc
    refine x_iconst (pc' := 52) (v := 0) dX8_square_51 rfl (by decide) ?_
    refine x_istore (pc' := 54) dX8_square_52 rfl (by decide) rfl (ls' := [.ref 94, .int x1, .int x2, .int x3, .int x4, .int x5, .int x6, .int 0, Unk, Unk, Unk, Unk]) rfl ?_
    exact h
set_option maxRecDepth 100000 in
set_option maxHeartbeats 4000000 in
theorem vX8_square_54 {d : Nat} {σ : Mem} {Q : Option Value → Mem → Prop} {x1 x2 x3 x4 x5 x6 x7 : Int32} 
    (h : (((σ.1 95 0) ≤ x7 → X none (d + 3) mX8_square 40 [.ref 94, .int x1, .int x2, .int x3, .int x4, .int x5, .int (x6 + 1), Unk, Unk, Unk, Unk, Unk] [] σ Q) ∧ (¬ (σ.1 95 0) ≤ x7 → (vp_in (128 + x6) 7458 ∧ (vp_in (250 + x7) 7458 ∧ (vp_in (494 + x6) 7458 ∧ ((¬ (σ.1 95 (494 + x6).toNatClampNeg) = 0 → ((x3 < 0 → X none (d + 3) mX8_square 54 [.ref 94, .int x1, .int x2, .int 0, .int (σ.1 95 (128 + x6).toNatClampNeg), .int (σ.1 95 (250 + x7).toNatClampNeg), .int x6, .int (x7 + 1), Unk, Unk, Unk, Unk] [] σ Q) ∧ (¬ x3 < 0 → ((¬ 0 = x3 → X none (d + 3) mX8_square 54 [.ref 94, .int x1, .int x2, .int x3, .int x4, .int x5, .int x6, .int (x7 + 1), Unk, Unk, Unk, Unk] [] σ Q) ∧ (0 = x3 → X none (d + 3) mX8_square 54 [.ref 94, .int x1, .int x2, .int x3, .int x4, .int x5, .int x6, .int (x7 + 1), Unk, Unk, Unk, Unk] [] σ Q))))) ∧ ((σ.1 95 (494 + x6).toNatClampNeg) = 0 → (vp_in (494 + x7) 7458 ∧ ((¬ (σ.1 95 (494 + x7).toNatClampNeg) = 0 → ((x3 < 0 → X none (d + 3) mX8_square 54 [.ref 94, .int x1, .int x2, .int 0, .int (σ.1 95 (128 + x6).toNatClampNeg), .int (σ.1 95 (250 + x7).toNatClampNeg), .int x6, .int (x7 + 1), Unk, Unk, Unk, Unk] [] σ Q) ∧ (¬ x3 < 0 → ((¬ 0 = x3 → X none (d + 3) mX8_square 54 [.ref 94, .int x1, .int x2, .int x3, .int x4, .int x5, .int x6, .int (x7 + 1), Unk, Unk, Unk, Unk] [] σ Q) ∧ (0 = x3 → X none (d + 3) mX8_square 54 [.ref 94, .int x1, .int x2, .int x3, .int x4, .int x5, .int x6, .int (x7 + 1), Unk, Unk, Unk, Unk] [] σ Q))))) ∧ ((σ.1 95 (494 + x7).toNatClampNeg) = 0 → (X none (d + 2) mX8_manyIn 0 [.ref 94, .int (σ.1 95 (128 + x6).toNatClampNeg), .int ((σ.1 95 (128 + x6).toNatClampNeg) + x1), .int (σ.1 95 (250 + x7).toNatClampNeg), .int ((σ.1 95 (250 + x7).toNatClampNeg) + x1), Unk, Unk] [] σ (fun r τ1 => ∃ u2 : Int32, r = some (.int u2) ∧ ((x3 < u2 → X none (d + 3) mX8_square 54 [.ref 94, .int x1, .int x2, .int u2, .int (σ.1 95 (128 + x6).toNatClampNeg), .int (σ.1 95 (250 + x7).toNatClampNeg), .int x6, .int (x7 + 1), Unk, Unk, Unk, Unk] [] τ1 Q) ∧ (¬ x3 < u2 → ((¬ u2 = x3 → X none (d + 3) mX8_square 54 [.ref 94, .int x1, .int x2, .int x3, .int x4, .int x5, .int x6, .int (x7 + 1), Unk, Unk, Unk, Unk] [] τ1 Q) ∧ (u2 = x3 → ((u2 ≤ 0 → X none (d + 3) mX8_square 54 [.ref 94, .int x1, .int x2, .int x3, .int x4, .int x5, .int x6, .int (x7 + 1), Unk, Unk, Unk, Unk] [] τ1 Q) ∧ (¬ u2 ≤ 0 → (((σ.1 95 (128 + x6).toNatClampNeg) < x4 → X none (d + 3) mX8_square 54 [.ref 94, .int x1, .int x2, .int u2, .int (σ.1 95 (128 + x6).toNatClampNeg), .int (σ.1 95 (250 + x7).toNatClampNeg), .int x6, .int (x7 + 1), Unk, Unk, Unk, Unk] [] τ1 Q) ∧ (¬ (σ.1 95 (128 + x6).toNatClampNeg) < x4 → ((¬ (σ.1 95 (128 + x6).toNatClampNeg) = x4 → X none (d + 3) mX8_square 54 [.ref 94, .int x1, .int x2, .int x3, .int x4, .int x5, .int x6, .int (x7 + 1), Unk, Unk, Unk, Unk] [] τ1 Q) ∧ ((σ.1 95 (128 + x6).toNatClampNeg) = x4 → ((x5 ≤ (σ.1 95 (250 + x7).toNatClampNeg) → X none (d + 3) mX8_square 54 [.ref 94, .int x1, .int x2, .int x3, .int x4, .int x5, .int x6, .int (x7 + 1), Unk, Unk, Unk, Unk] [] τ1 Q) ∧ (¬ x5 ≤ (σ.1 95 (250 + x7).toNatClampNeg) → X none (d + 3) mX8_square 54 [.ref 94, .int x1, .int x2, .int u2, .int (σ.1 95 (128 + x6).toNatClampNeg), .int (σ.1 95 (250 + x7).toNatClampNeg), .int x6, .int (x7 + 1), Unk, Unk, Unk, Unk] [] τ1 Q))))))))))))))))))))))))) :
    X none (d + 3) mX8_square 54 [.ref 94, .int x1, .int x2, .int x3, .int x4, .int x5, .int x6, .int x7, Unk, Unk, Unk, Unk] [] σ Q := by
  refine x_iload (pc' := 56) dX8_square_54 rfl rfl ?_
  refine x_aload_n (pc' := 57) dX8_square_56 rfl rfl rfl ?_
  refine x_getr (pc' := 60) dX8_square_57 rfl lfX8_7 kd_94 rfl rf_94_0 ?_
  refine x_iconst (pc' := 61) (v := 0) dX8_square_60 rfl (by decide) ?_
  refine x_iald (pc' := 62) dX8_square_61 rfl kd_95 (by rw [ln_95]; unfold vp_in; decide) ?_
  show X none (d + 3) mX8_square 62 [.ref 94, .int x1, .int x2, .int x3, .int x4, .int x5, .int x6, .int x7, Unk, Unk, Unk, Unk] [.int (σ.1 95 0), .int x7] σ _
  refine x_icmp_ge (pc' := 65) (tgt := 222) dX8_square_62 (by decide) rfl (fun hc => ?_) (fun hc => ?_)
  · replace h := h.1 hc
    refine x_iinc (pc' := 225) (v := 1) dX8_square_222 rfl (by decide) rfl rfl (by decide) (ls' := [.ref 94, .int x1, .int x2, .int x3, .int x4, .int x5, .int (x6 + 1), .int x7, Unk, Unk, Unk, Unk]) rfl ?_
    refine x_goto (pc' := 40) dX8_square_225 (by decide) ?_
    refine x_forget 7 (ls' := [.ref 94, .int x1, .int x2, .int x3, .int x4, .int x5, .int (x6 + 1), Unk, Unk, Unk, Unk, Unk]) rfl ?_
    exact h
  · replace h := h.2 hc
    refine x_aload_n (pc' := 66) dX8_square_65 rfl rfl rfl ?_
    refine x_getr (pc' := 69) dX8_square_66 rfl lfX8_7 kd_94 rfl rf_94_0 ?_
    refine x_sipush (pc' := 72) (v := 128) dX8_square_69 rfl (by decide) ?_
    refine x_iload (pc' := 74) dX8_square_72 rfl rfl ?_
    refine x_iadd (pc' := 75) dX8_square_74 rfl ?_
    obtain ⟨hb, h⟩ := h
    refine x_iald (pc' := 76) dX8_square_75 rfl kd_95 (by rw [ln_95]; exact hb) ?_
    refine x_istore (pc' := 78) dX8_square_76 rfl (by decide) rfl (ls' := [.ref 94, .int x1, .int x2, .int x3, .int x4, .int x5, .int x6, .int x7, .int (σ.1 95 (128 + x6).toNatClampNeg), Unk, Unk, Unk]) rfl ?_
    refine x_aload_n (pc' := 79) dX8_square_78 rfl rfl rfl ?_
    refine x_getr (pc' := 82) dX8_square_79 rfl lfX8_7 kd_94 rfl rf_94_0 ?_
    refine x_sipush (pc' := 85) (v := 250) dX8_square_82 rfl (by decide) ?_
    refine x_iload (pc' := 87) dX8_square_85 rfl rfl ?_
    refine x_iadd (pc' := 88) dX8_square_87 rfl ?_
    obtain ⟨hb, h⟩ := h
    refine x_iald (pc' := 89) dX8_square_88 rfl kd_95 (by rw [ln_95]; exact hb) ?_
    refine x_istore (pc' := 91) dX8_square_89 rfl (by decide) rfl (ls' := [.ref 94, .int x1, .int x2, .int x3, .int x4, .int x5, .int x6, .int x7, .int (σ.1 95 (128 + x6).toNatClampNeg), .int (σ.1 95 (250 + x7).toNatClampNeg), Unk, Unk]) rfl ?_
    refine x_aload_n (pc' := 92) dX8_square_91 rfl rfl rfl ?_
    refine x_iload (pc' := 94) dX8_square_92 rfl rfl ?_
    refine x_callV (pc' := 97) (As := [.int x6]) dX8_square_94 rfl lmX8_57 kd_94 rfl rfl (Nat.le_of_ble_eq_true rfl) (Nat.le_of_ble_eq_true rfl) ?_
    show X none (d + 2) mX8_isThere 0 [.ref 94, .int x6] [] σ _
    refine x_aload_n (pc' := 1) dX8_isThere_0 rfl rfl rfl ?_
    refine x_getr (pc' := 4) dX8_isThere_1 rfl lfX8_7 kd_94 rfl rf_94_0 ?_
    refine x_sipush (pc' := 7) (v := 494) dX8_isThere_4 rfl (by decide) ?_
    refine x_iload_n (pc' := 8) dX8_isThere_7 rfl rfl rfl ?_
    refine x_iadd (pc' := 9) dX8_isThere_8 rfl ?_
    obtain ⟨hb, h⟩ := h
    refine x_iald (pc' := 10) dX8_isThere_9 rfl kd_95 (by rw [ln_95]; exact hb) ?_
    refine x_if_ne (pc' := 13) (tgt := 17) dX8_isThere_10 (by decide) rfl (fun hc => ?_) (fun hc => ?_)
    · replace h := h.1 hc
      refine x_iconst (pc' := 18) (v := 0) dX8_isThere_17 rfl (by decide) ?_
      refine x_iret dX8_isThere_18 rfl rfl ?_
      show X none (d + 3) mX8_square 97 [.ref 94, .int x1, .int x2, .int x3, .int x4, .int x5, .int x6, .int x7, .int (σ.1 95 (128 + x6).toNatClampNeg), .int (σ.1 95 (250 + x7).toNatClampNeg), Unk, Unk] [.int 0] σ _
      refine x_if_eq (pc' := 100) (tgt := 128) dX8_square_97 (by decide) rfl (fun _ => ?_) (fun hc => absurd hc (by decide))
      refine x_iconst (pc' := 129) (v := 0) dX8_square_128 rfl (by decide) ?_
      refine x_istore (pc' := 131) dX8_square_129 rfl (by decide) rfl (ls' := [.ref 94, .int x1, .int x2, .int x3, .int x4, .int x5, .int x6, .int x7, .int (σ.1 95 (128 + x6).toNatClampNeg), .int (σ.1 95 (250 + x7).toNatClampNeg), .int 0, Unk]) rfl ?_
      refine x_iload (pc' := 133) dX8_square_131 rfl rfl ?_
      refine x_iload_n (pc' := 134) dX8_square_133 rfl rfl rfl ?_
      refine x_icmp_gt (pc' := 137) (tgt := 169) dX8_square_134 (by decide) rfl (fun hc => ?_) (fun hc => ?_)
      · replace h := h.1 hc
        refine x_iconst (pc' := 170) (v := 1) dX8_square_169 rfl (by decide) ?_
        refine x_goto (pc' := 174) dX8_square_170 (by decide) ?_
        refine x_istore (pc' := 176) dX8_square_174 rfl (by decide) rfl (ls' := [.ref 94, .int x1, .int x2, .int x3, .int x4, .int x5, .int x6, .int x7, .int (σ.1 95 (128 + x6).toNatClampNeg), .int (σ.1 95 (250 + x7).toNatClampNeg), .int 0, .int 1]) rfl ?_
        refine x_iload (pc' := 178) dX8_square_176 rfl rfl ?_
        refine x_if_eq (pc' := 181) (tgt := 186) dX8_square_178 (by decide) rfl (fun hc => absurd hc (by decide)) (fun _ => ?_)
        refine x_iload (pc' := 183) dX8_square_181 rfl rfl ?_
        refine x_goto (pc' := 187) dX8_square_183 (by decide) ?_
        refine x_istore_n (pc' := 188) dX8_square_187 rfl rfl (by decide) rfl (ls' := [.ref 94, .int x1, .int x2, .int 0, .int x4, .int x5, .int x6, .int x7, .int (σ.1 95 (128 + x6).toNatClampNeg), .int (σ.1 95 (250 + x7).toNatClampNeg), .int 0, .int 1]) rfl ?_
        refine x_iload (pc' := 190) dX8_square_188 rfl rfl ?_
        refine x_if_eq (pc' := 193) (tgt := 198) dX8_square_190 (by decide) rfl (fun hc => absurd hc (by decide)) (fun _ => ?_)
        refine x_iload (pc' := 195) dX8_square_193 rfl rfl ?_
        refine x_goto (pc' := 200) dX8_square_195 (by decide) ?_
        refine x_istore (pc' := 202) dX8_square_200 rfl (by decide) rfl (ls' := [.ref 94, .int x1, .int x2, .int 0, .int (σ.1 95 (128 + x6).toNatClampNeg), .int x5, .int x6, .int x7, .int (σ.1 95 (128 + x6).toNatClampNeg), .int (σ.1 95 (250 + x7).toNatClampNeg), .int 0, .int 1]) rfl ?_
        refine x_iload (pc' := 204) dX8_square_202 rfl rfl ?_
        refine x_if_eq (pc' := 207) (tgt := 212) dX8_square_204 (by decide) rfl (fun hc => absurd hc (by decide)) (fun _ => ?_)
        refine x_iload (pc' := 209) dX8_square_207 rfl rfl ?_
        refine x_goto (pc' := 214) dX8_square_209 (by decide) ?_
        refine x_istore (pc' := 216) dX8_square_214 rfl (by decide) rfl (ls' := [.ref 94, .int x1, .int x2, .int 0, .int (σ.1 95 (128 + x6).toNatClampNeg), .int (σ.1 95 (250 + x7).toNatClampNeg), .int x6, .int x7, .int (σ.1 95 (128 + x6).toNatClampNeg), .int (σ.1 95 (250 + x7).toNatClampNeg), .int 0, .int 1]) rfl ?_
        refine x_iinc (pc' := 219) (v := 1) dX8_square_216 rfl (by decide) rfl rfl (by decide) (ls' := [.ref 94, .int x1, .int x2, .int 0, .int (σ.1 95 (128 + x6).toNatClampNeg), .int (σ.1 95 (250 + x7).toNatClampNeg), .int x6, .int (x7 + 1), .int (σ.1 95 (128 + x6).toNatClampNeg), .int (σ.1 95 (250 + x7).toNatClampNeg), .int 0, .int 1]) rfl ?_
        refine x_goto (pc' := 54) dX8_square_219 (by decide) ?_
        refine x_forget 8 (ls' := [.ref 94, .int x1, .int x2, .int 0, .int (σ.1 95 (128 + x6).toNatClampNeg), .int (σ.1 95 (250 + x7).toNatClampNeg), .int x6, .int (x7 + 1), Unk, .int (σ.1 95 (250 + x7).toNatClampNeg), .int 0, .int 1]) rfl ?_
        refine x_forget 9 (ls' := [.ref 94, .int x1, .int x2, .int 0, .int (σ.1 95 (128 + x6).toNatClampNeg), .int (σ.1 95 (250 + x7).toNatClampNeg), .int x6, .int (x7 + 1), Unk, Unk, .int 0, .int 1]) rfl ?_
        refine x_forget 10 (ls' := [.ref 94, .int x1, .int x2, .int 0, .int (σ.1 95 (128 + x6).toNatClampNeg), .int (σ.1 95 (250 + x7).toNatClampNeg), .int x6, .int (x7 + 1), Unk, Unk, Unk, .int 1]) rfl ?_
        refine x_forget 11 (ls' := [.ref 94, .int x1, .int x2, .int 0, .int (σ.1 95 (128 + x6).toNatClampNeg), .int (σ.1 95 (250 + x7).toNatClampNeg), .int x6, .int (x7 + 1), Unk, Unk, Unk, Unk]) rfl ?_
        exact h
      · replace h := h.2 hc
        refine x_iload (pc' := 139) dX8_square_137 rfl rfl ?_
        refine x_iload_n (pc' := 140) dX8_square_139 rfl rfl rfl ?_
        refine x_icmp_ne (pc' := 143) (tgt := 173) dX8_square_140 (by decide) rfl (fun hc => ?_) (fun hc => ?_)
        · replace h := h.1 hc
          refine x_iconst (pc' := 174) (v := 0) dX8_square_173 rfl (by decide) ?_
          refine x_istore (pc' := 176) dX8_square_174 rfl (by decide) rfl (ls' := [.ref 94, .int x1, .int x2, .int x3, .int x4, .int x5, .int x6, .int x7, .int (σ.1 95 (128 + x6).toNatClampNeg), .int (σ.1 95 (250 + x7).toNatClampNeg), .int 0, .int 0]) rfl ?_
          refine x_iload (pc' := 178) dX8_square_176 rfl rfl ?_
          refine x_if_eq (pc' := 181) (tgt := 186) dX8_square_178 (by decide) rfl (fun _ => ?_) (fun hc => absurd hc (by decide))
          refine x_iload_n (pc' := 187) dX8_square_186 rfl rfl rfl ?_
          refine x_istore_n (pc' := 188) dX8_square_187 rfl rfl (by decide) rfl (ls' := [.ref 94, .int x1, .int x2, .int x3, .int x4, .int x5, .int x6, .int x7, .int (σ.1 95 (128 + x6).toNatClampNeg), .int (σ.1 95 (250 + x7).toNatClampNeg), .int 0, .int 0]) rfl ?_
          refine x_iload (pc' := 190) dX8_square_188 rfl rfl ?_
          refine x_if_eq (pc' := 193) (tgt := 198) dX8_square_190 (by decide) rfl (fun _ => ?_) (fun hc => absurd hc (by decide))
          refine x_iload (pc' := 200) dX8_square_198 rfl rfl ?_
          refine x_istore (pc' := 202) dX8_square_200 rfl (by decide) rfl (ls' := [.ref 94, .int x1, .int x2, .int x3, .int x4, .int x5, .int x6, .int x7, .int (σ.1 95 (128 + x6).toNatClampNeg), .int (σ.1 95 (250 + x7).toNatClampNeg), .int 0, .int 0]) rfl ?_
          refine x_iload (pc' := 204) dX8_square_202 rfl rfl ?_
          refine x_if_eq (pc' := 207) (tgt := 212) dX8_square_204 (by decide) rfl (fun _ => ?_) (fun hc => absurd hc (by decide))
          refine x_iload (pc' := 214) dX8_square_212 rfl rfl ?_
          refine x_istore (pc' := 216) dX8_square_214 rfl (by decide) rfl (ls' := [.ref 94, .int x1, .int x2, .int x3, .int x4, .int x5, .int x6, .int x7, .int (σ.1 95 (128 + x6).toNatClampNeg), .int (σ.1 95 (250 + x7).toNatClampNeg), .int 0, .int 0]) rfl ?_
          refine x_iinc (pc' := 219) (v := 1) dX8_square_216 rfl (by decide) rfl rfl (by decide) (ls' := [.ref 94, .int x1, .int x2, .int x3, .int x4, .int x5, .int x6, .int (x7 + 1), .int (σ.1 95 (128 + x6).toNatClampNeg), .int (σ.1 95 (250 + x7).toNatClampNeg), .int 0, .int 0]) rfl ?_
          refine x_goto (pc' := 54) dX8_square_219 (by decide) ?_
          refine x_forget 8 (ls' := [.ref 94, .int x1, .int x2, .int x3, .int x4, .int x5, .int x6, .int (x7 + 1), Unk, .int (σ.1 95 (250 + x7).toNatClampNeg), .int 0, .int 0]) rfl ?_
          refine x_forget 9 (ls' := [.ref 94, .int x1, .int x2, .int x3, .int x4, .int x5, .int x6, .int (x7 + 1), Unk, Unk, .int 0, .int 0]) rfl ?_
          refine x_forget 10 (ls' := [.ref 94, .int x1, .int x2, .int x3, .int x4, .int x5, .int x6, .int (x7 + 1), Unk, Unk, Unk, .int 0]) rfl ?_
          refine x_forget 11 (ls' := [.ref 94, .int x1, .int x2, .int x3, .int x4, .int x5, .int x6, .int (x7 + 1), Unk, Unk, Unk, Unk]) rfl ?_
          exact h
        · replace h := h.2 hc
          refine x_iload (pc' := 145) dX8_square_143 rfl rfl ?_
          refine x_if_le (pc' := 148) (tgt := 173) dX8_square_145 (by decide) rfl (fun _ => ?_) (fun hc => absurd hc (by decide))
          refine x_iconst (pc' := 174) (v := 0) dX8_square_173 rfl (by decide) ?_
          refine x_istore (pc' := 176) dX8_square_174 rfl (by decide) rfl (ls' := [.ref 94, .int x1, .int x2, .int x3, .int x4, .int x5, .int x6, .int x7, .int (σ.1 95 (128 + x6).toNatClampNeg), .int (σ.1 95 (250 + x7).toNatClampNeg), .int 0, .int 0]) rfl ?_
          refine x_iload (pc' := 178) dX8_square_176 rfl rfl ?_
          refine x_if_eq (pc' := 181) (tgt := 186) dX8_square_178 (by decide) rfl (fun _ => ?_) (fun hc => absurd hc (by decide))
          refine x_iload_n (pc' := 187) dX8_square_186 rfl rfl rfl ?_
          refine x_istore_n (pc' := 188) dX8_square_187 rfl rfl (by decide) rfl (ls' := [.ref 94, .int x1, .int x2, .int x3, .int x4, .int x5, .int x6, .int x7, .int (σ.1 95 (128 + x6).toNatClampNeg), .int (σ.1 95 (250 + x7).toNatClampNeg), .int 0, .int 0]) rfl ?_
          refine x_iload (pc' := 190) dX8_square_188 rfl rfl ?_
          refine x_if_eq (pc' := 193) (tgt := 198) dX8_square_190 (by decide) rfl (fun _ => ?_) (fun hc => absurd hc (by decide))
          refine x_iload (pc' := 200) dX8_square_198 rfl rfl ?_
          refine x_istore (pc' := 202) dX8_square_200 rfl (by decide) rfl (ls' := [.ref 94, .int x1, .int x2, .int x3, .int x4, .int x5, .int x6, .int x7, .int (σ.1 95 (128 + x6).toNatClampNeg), .int (σ.1 95 (250 + x7).toNatClampNeg), .int 0, .int 0]) rfl ?_
          refine x_iload (pc' := 204) dX8_square_202 rfl rfl ?_
          refine x_if_eq (pc' := 207) (tgt := 212) dX8_square_204 (by decide) rfl (fun _ => ?_) (fun hc => absurd hc (by decide))
          refine x_iload (pc' := 214) dX8_square_212 rfl rfl ?_
          refine x_istore (pc' := 216) dX8_square_214 rfl (by decide) rfl (ls' := [.ref 94, .int x1, .int x2, .int x3, .int x4, .int x5, .int x6, .int x7, .int (σ.1 95 (128 + x6).toNatClampNeg), .int (σ.1 95 (250 + x7).toNatClampNeg), .int 0, .int 0]) rfl ?_
          refine x_iinc (pc' := 219) (v := 1) dX8_square_216 rfl (by decide) rfl rfl (by decide) (ls' := [.ref 94, .int x1, .int x2, .int x3, .int x4, .int x5, .int x6, .int (x7 + 1), .int (σ.1 95 (128 + x6).toNatClampNeg), .int (σ.1 95 (250 + x7).toNatClampNeg), .int 0, .int 0]) rfl ?_
          refine x_goto (pc' := 54) dX8_square_219 (by decide) ?_
          refine x_forget 8 (ls' := [.ref 94, .int x1, .int x2, .int x3, .int x4, .int x5, .int x6, .int (x7 + 1), Unk, .int (σ.1 95 (250 + x7).toNatClampNeg), .int 0, .int 0]) rfl ?_
          refine x_forget 9 (ls' := [.ref 94, .int x1, .int x2, .int x3, .int x4, .int x5, .int x6, .int (x7 + 1), Unk, Unk, .int 0, .int 0]) rfl ?_
          refine x_forget 10 (ls' := [.ref 94, .int x1, .int x2, .int x3, .int x4, .int x5, .int x6, .int (x7 + 1), Unk, Unk, Unk, .int 0]) rfl ?_
          refine x_forget 11 (ls' := [.ref 94, .int x1, .int x2, .int x3, .int x4, .int x5, .int x6, .int (x7 + 1), Unk, Unk, Unk, Unk]) rfl ?_
          exact h
    · replace h := h.2 hc
      refine x_iconst (pc' := 14) (v := 1) dX8_isThere_13 rfl (by decide) ?_
      refine x_goto (pc' := 18) dX8_isThere_14 (by decide) ?_
      refine x_iret dX8_isThere_18 rfl rfl ?_
      show X none (d + 3) mX8_square 97 [.ref 94, .int x1, .int x2, .int x3, .int x4, .int x5, .int x6, .int x7, .int (σ.1 95 (128 + x6).toNatClampNeg), .int (σ.1 95 (250 + x7).toNatClampNeg), Unk, Unk] [.int 1] σ _
      refine x_if_eq (pc' := 100) (tgt := 128) dX8_square_97 (by decide) rfl (fun hc => absurd hc (by decide)) (fun _ => ?_)
      refine x_aload_n (pc' := 101) dX8_square_100 rfl rfl rfl ?_
      refine x_iload (pc' := 103) dX8_square_101 rfl rfl ?_
      refine x_callV (pc' := 106) (As := [.int x7]) dX8_square_103 rfl lmX8_57 kd_94 rfl rfl (Nat.le_of_ble_eq_true rfl) (Nat.le_of_ble_eq_true rfl) ?_
      show X none (d + 2) mX8_isThere 0 [.ref 94, .int x7] [] σ _
      refine x_aload_n (pc' := 1) dX8_isThere_0 rfl rfl rfl ?_
      refine x_getr (pc' := 4) dX8_isThere_1 rfl lfX8_7 kd_94 rfl rf_94_0 ?_
      refine x_sipush (pc' := 7) (v := 494) dX8_isThere_4 rfl (by decide) ?_
      refine x_iload_n (pc' := 8) dX8_isThere_7 rfl rfl rfl ?_
      refine x_iadd (pc' := 9) dX8_isThere_8 rfl ?_
      obtain ⟨hb, h⟩ := h
      refine x_iald (pc' := 10) dX8_isThere_9 rfl kd_95 (by rw [ln_95]; exact hb) ?_
      refine x_if_ne (pc' := 13) (tgt := 17) dX8_isThere_10 (by decide) rfl (fun hc => ?_) (fun hc => ?_)
      · replace h := h.1 hc
        refine x_iconst (pc' := 18) (v := 0) dX8_isThere_17 rfl (by decide) ?_
        refine x_iret dX8_isThere_18 rfl rfl ?_
        show X none (d + 3) mX8_square 106 [.ref 94, .int x1, .int x2, .int x3, .int x4, .int x5, .int x6, .int x7, .int (σ.1 95 (128 + x6).toNatClampNeg), .int (σ.1 95 (250 + x7).toNatClampNeg), Unk, Unk] [.int 0] σ _
        refine x_if_eq (pc' := 109) (tgt := 128) dX8_square_106 (by decide) rfl (fun _ => ?_) (fun hc => absurd hc (by decide))
        refine x_iconst (pc' := 129) (v := 0) dX8_square_128 rfl (by decide) ?_
        refine x_istore (pc' := 131) dX8_square_129 rfl (by decide) rfl (ls' := [.ref 94, .int x1, .int x2, .int x3, .int x4, .int x5, .int x6, .int x7, .int (σ.1 95 (128 + x6).toNatClampNeg), .int (σ.1 95 (250 + x7).toNatClampNeg), .int 0, Unk]) rfl ?_
        refine x_iload (pc' := 133) dX8_square_131 rfl rfl ?_
        refine x_iload_n (pc' := 134) dX8_square_133 rfl rfl rfl ?_
        refine x_icmp_gt (pc' := 137) (tgt := 169) dX8_square_134 (by decide) rfl (fun hc => ?_) (fun hc => ?_)
        · replace h := h.1 hc
          refine x_iconst (pc' := 170) (v := 1) dX8_square_169 rfl (by decide) ?_
          refine x_goto (pc' := 174) dX8_square_170 (by decide) ?_
          refine x_istore (pc' := 176) dX8_square_174 rfl (by decide) rfl (ls' := [.ref 94, .int x1, .int x2, .int x3, .int x4, .int x5, .int x6, .int x7, .int (σ.1 95 (128 + x6).toNatClampNeg), .int (σ.1 95 (250 + x7).toNatClampNeg), .int 0, .int 1]) rfl ?_
          refine x_iload (pc' := 178) dX8_square_176 rfl rfl ?_
          refine x_if_eq (pc' := 181) (tgt := 186) dX8_square_178 (by decide) rfl (fun hc => absurd hc (by decide)) (fun _ => ?_)
          refine x_iload (pc' := 183) dX8_square_181 rfl rfl ?_
          refine x_goto (pc' := 187) dX8_square_183 (by decide) ?_
          refine x_istore_n (pc' := 188) dX8_square_187 rfl rfl (by decide) rfl (ls' := [.ref 94, .int x1, .int x2, .int 0, .int x4, .int x5, .int x6, .int x7, .int (σ.1 95 (128 + x6).toNatClampNeg), .int (σ.1 95 (250 + x7).toNatClampNeg), .int 0, .int 1]) rfl ?_
          refine x_iload (pc' := 190) dX8_square_188 rfl rfl ?_
          refine x_if_eq (pc' := 193) (tgt := 198) dX8_square_190 (by decide) rfl (fun hc => absurd hc (by decide)) (fun _ => ?_)
          refine x_iload (pc' := 195) dX8_square_193 rfl rfl ?_
          refine x_goto (pc' := 200) dX8_square_195 (by decide) ?_
          refine x_istore (pc' := 202) dX8_square_200 rfl (by decide) rfl (ls' := [.ref 94, .int x1, .int x2, .int 0, .int (σ.1 95 (128 + x6).toNatClampNeg), .int x5, .int x6, .int x7, .int (σ.1 95 (128 + x6).toNatClampNeg), .int (σ.1 95 (250 + x7).toNatClampNeg), .int 0, .int 1]) rfl ?_
          refine x_iload (pc' := 204) dX8_square_202 rfl rfl ?_
          refine x_if_eq (pc' := 207) (tgt := 212) dX8_square_204 (by decide) rfl (fun hc => absurd hc (by decide)) (fun _ => ?_)
          refine x_iload (pc' := 209) dX8_square_207 rfl rfl ?_
          refine x_goto (pc' := 214) dX8_square_209 (by decide) ?_
          refine x_istore (pc' := 216) dX8_square_214 rfl (by decide) rfl (ls' := [.ref 94, .int x1, .int x2, .int 0, .int (σ.1 95 (128 + x6).toNatClampNeg), .int (σ.1 95 (250 + x7).toNatClampNeg), .int x6, .int x7, .int (σ.1 95 (128 + x6).toNatClampNeg), .int (σ.1 95 (250 + x7).toNatClampNeg), .int 0, .int 1]) rfl ?_
          refine x_iinc (pc' := 219) (v := 1) dX8_square_216 rfl (by decide) rfl rfl (by decide) (ls' := [.ref 94, .int x1, .int x2, .int 0, .int (σ.1 95 (128 + x6).toNatClampNeg), .int (σ.1 95 (250 + x7).toNatClampNeg), .int x6, .int (x7 + 1), .int (σ.1 95 (128 + x6).toNatClampNeg), .int (σ.1 95 (250 + x7).toNatClampNeg), .int 0, .int 1]) rfl ?_
          refine x_goto (pc' := 54) dX8_square_219 (by decide) ?_
          refine x_forget 8 (ls' := [.ref 94, .int x1, .int x2, .int 0, .int (σ.1 95 (128 + x6).toNatClampNeg), .int (σ.1 95 (250 + x7).toNatClampNeg), .int x6, .int (x7 + 1), Unk, .int (σ.1 95 (250 + x7).toNatClampNeg), .int 0, .int 1]) rfl ?_
          refine x_forget 9 (ls' := [.ref 94, .int x1, .int x2, .int 0, .int (σ.1 95 (128 + x6).toNatClampNeg), .int (σ.1 95 (250 + x7).toNatClampNeg), .int x6, .int (x7 + 1), Unk, Unk, .int 0, .int 1]) rfl ?_
          refine x_forget 10 (ls' := [.ref 94, .int x1, .int x2, .int 0, .int (σ.1 95 (128 + x6).toNatClampNeg), .int (σ.1 95 (250 + x7).toNatClampNeg), .int x6, .int (x7 + 1), Unk, Unk, Unk, .int 1]) rfl ?_
          refine x_forget 11 (ls' := [.ref 94, .int x1, .int x2, .int 0, .int (σ.1 95 (128 + x6).toNatClampNeg), .int (σ.1 95 (250 + x7).toNatClampNeg), .int x6, .int (x7 + 1), Unk, Unk, Unk, Unk]) rfl ?_
          exact h
        · replace h := h.2 hc
          refine x_iload (pc' := 139) dX8_square_137 rfl rfl ?_
          refine x_iload_n (pc' := 140) dX8_square_139 rfl rfl rfl ?_
          refine x_icmp_ne (pc' := 143) (tgt := 173) dX8_square_140 (by decide) rfl (fun hc => ?_) (fun hc => ?_)
          · replace h := h.1 hc
            refine x_iconst (pc' := 174) (v := 0) dX8_square_173 rfl (by decide) ?_
            refine x_istore (pc' := 176) dX8_square_174 rfl (by decide) rfl (ls' := [.ref 94, .int x1, .int x2, .int x3, .int x4, .int x5, .int x6, .int x7, .int (σ.1 95 (128 + x6).toNatClampNeg), .int (σ.1 95 (250 + x7).toNatClampNeg), .int 0, .int 0]) rfl ?_
            refine x_iload (pc' := 178) dX8_square_176 rfl rfl ?_
            refine x_if_eq (pc' := 181) (tgt := 186) dX8_square_178 (by decide) rfl (fun _ => ?_) (fun hc => absurd hc (by decide))
            refine x_iload_n (pc' := 187) dX8_square_186 rfl rfl rfl ?_
            refine x_istore_n (pc' := 188) dX8_square_187 rfl rfl (by decide) rfl (ls' := [.ref 94, .int x1, .int x2, .int x3, .int x4, .int x5, .int x6, .int x7, .int (σ.1 95 (128 + x6).toNatClampNeg), .int (σ.1 95 (250 + x7).toNatClampNeg), .int 0, .int 0]) rfl ?_
            refine x_iload (pc' := 190) dX8_square_188 rfl rfl ?_
            refine x_if_eq (pc' := 193) (tgt := 198) dX8_square_190 (by decide) rfl (fun _ => ?_) (fun hc => absurd hc (by decide))
            refine x_iload (pc' := 200) dX8_square_198 rfl rfl ?_
            refine x_istore (pc' := 202) dX8_square_200 rfl (by decide) rfl (ls' := [.ref 94, .int x1, .int x2, .int x3, .int x4, .int x5, .int x6, .int x7, .int (σ.1 95 (128 + x6).toNatClampNeg), .int (σ.1 95 (250 + x7).toNatClampNeg), .int 0, .int 0]) rfl ?_
            refine x_iload (pc' := 204) dX8_square_202 rfl rfl ?_
            refine x_if_eq (pc' := 207) (tgt := 212) dX8_square_204 (by decide) rfl (fun _ => ?_) (fun hc => absurd hc (by decide))
            refine x_iload (pc' := 214) dX8_square_212 rfl rfl ?_
            refine x_istore (pc' := 216) dX8_square_214 rfl (by decide) rfl (ls' := [.ref 94, .int x1, .int x2, .int x3, .int x4, .int x5, .int x6, .int x7, .int (σ.1 95 (128 + x6).toNatClampNeg), .int (σ.1 95 (250 + x7).toNatClampNeg), .int 0, .int 0]) rfl ?_
            refine x_iinc (pc' := 219) (v := 1) dX8_square_216 rfl (by decide) rfl rfl (by decide) (ls' := [.ref 94, .int x1, .int x2, .int x3, .int x4, .int x5, .int x6, .int (x7 + 1), .int (σ.1 95 (128 + x6).toNatClampNeg), .int (σ.1 95 (250 + x7).toNatClampNeg), .int 0, .int 0]) rfl ?_
            refine x_goto (pc' := 54) dX8_square_219 (by decide) ?_
            refine x_forget 8 (ls' := [.ref 94, .int x1, .int x2, .int x3, .int x4, .int x5, .int x6, .int (x7 + 1), Unk, .int (σ.1 95 (250 + x7).toNatClampNeg), .int 0, .int 0]) rfl ?_
            refine x_forget 9 (ls' := [.ref 94, .int x1, .int x2, .int x3, .int x4, .int x5, .int x6, .int (x7 + 1), Unk, Unk, .int 0, .int 0]) rfl ?_
            refine x_forget 10 (ls' := [.ref 94, .int x1, .int x2, .int x3, .int x4, .int x5, .int x6, .int (x7 + 1), Unk, Unk, Unk, .int 0]) rfl ?_
            refine x_forget 11 (ls' := [.ref 94, .int x1, .int x2, .int x3, .int x4, .int x5, .int x6, .int (x7 + 1), Unk, Unk, Unk, Unk]) rfl ?_
            exact h
          · replace h := h.2 hc
            refine x_iload (pc' := 145) dX8_square_143 rfl rfl ?_
            refine x_if_le (pc' := 148) (tgt := 173) dX8_square_145 (by decide) rfl (fun _ => ?_) (fun hc => absurd hc (by decide))
            refine x_iconst (pc' := 174) (v := 0) dX8_square_173 rfl (by decide) ?_
            refine x_istore (pc' := 176) dX8_square_174 rfl (by decide) rfl (ls' := [.ref 94, .int x1, .int x2, .int x3, .int x4, .int x5, .int x6, .int x7, .int (σ.1 95 (128 + x6).toNatClampNeg), .int (σ.1 95 (250 + x7).toNatClampNeg), .int 0, .int 0]) rfl ?_
            refine x_iload (pc' := 178) dX8_square_176 rfl rfl ?_
            refine x_if_eq (pc' := 181) (tgt := 186) dX8_square_178 (by decide) rfl (fun _ => ?_) (fun hc => absurd hc (by decide))
            refine x_iload_n (pc' := 187) dX8_square_186 rfl rfl rfl ?_
            refine x_istore_n (pc' := 188) dX8_square_187 rfl rfl (by decide) rfl (ls' := [.ref 94, .int x1, .int x2, .int x3, .int x4, .int x5, .int x6, .int x7, .int (σ.1 95 (128 + x6).toNatClampNeg), .int (σ.1 95 (250 + x7).toNatClampNeg), .int 0, .int 0]) rfl ?_
            refine x_iload (pc' := 190) dX8_square_188 rfl rfl ?_
            refine x_if_eq (pc' := 193) (tgt := 198) dX8_square_190 (by decide) rfl (fun _ => ?_) (fun hc => absurd hc (by decide))
            refine x_iload (pc' := 200) dX8_square_198 rfl rfl ?_
            refine x_istore (pc' := 202) dX8_square_200 rfl (by decide) rfl (ls' := [.ref 94, .int x1, .int x2, .int x3, .int x4, .int x5, .int x6, .int x7, .int (σ.1 95 (128 + x6).toNatClampNeg), .int (σ.1 95 (250 + x7).toNatClampNeg), .int 0, .int 0]) rfl ?_
            refine x_iload (pc' := 204) dX8_square_202 rfl rfl ?_
            refine x_if_eq (pc' := 207) (tgt := 212) dX8_square_204 (by decide) rfl (fun _ => ?_) (fun hc => absurd hc (by decide))
            refine x_iload (pc' := 214) dX8_square_212 rfl rfl ?_
            refine x_istore (pc' := 216) dX8_square_214 rfl (by decide) rfl (ls' := [.ref 94, .int x1, .int x2, .int x3, .int x4, .int x5, .int x6, .int x7, .int (σ.1 95 (128 + x6).toNatClampNeg), .int (σ.1 95 (250 + x7).toNatClampNeg), .int 0, .int 0]) rfl ?_
            refine x_iinc (pc' := 219) (v := 1) dX8_square_216 rfl (by decide) rfl rfl (by decide) (ls' := [.ref 94, .int x1, .int x2, .int x3, .int x4, .int x5, .int x6, .int (x7 + 1), .int (σ.1 95 (128 + x6).toNatClampNeg), .int (σ.1 95 (250 + x7).toNatClampNeg), .int 0, .int 0]) rfl ?_
            refine x_goto (pc' := 54) dX8_square_219 (by decide) ?_
            refine x_forget 8 (ls' := [.ref 94, .int x1, .int x2, .int x3, .int x4, .int x5, .int x6, .int (x7 + 1), Unk, .int (σ.1 95 (250 + x7).toNatClampNeg), .int 0, .int 0]) rfl ?_
            refine x_forget 9 (ls' := [.ref 94, .int x1, .int x2, .int x3, .int x4, .int x5, .int x6, .int (x7 + 1), Unk, Unk, .int 0, .int 0]) rfl ?_
            refine x_forget 10 (ls' := [.ref 94, .int x1, .int x2, .int x3, .int x4, .int x5, .int x6, .int (x7 + 1), Unk, Unk, Unk, .int 0]) rfl ?_
            refine x_forget 11 (ls' := [.ref 94, .int x1, .int x2, .int x3, .int x4, .int x5, .int x6, .int (x7 + 1), Unk, Unk, Unk, Unk]) rfl ?_
            exact h
      · replace h := h.2 hc
        refine x_iconst (pc' := 14) (v := 1) dX8_isThere_13 rfl (by decide) ?_
        refine x_goto (pc' := 18) dX8_isThere_14 (by decide) ?_
        refine x_iret dX8_isThere_18 rfl rfl ?_
        show X none (d + 3) mX8_square 106 [.ref 94, .int x1, .int x2, .int x3, .int x4, .int x5, .int x6, .int x7, .int (σ.1 95 (128 + x6).toNatClampNeg), .int (σ.1 95 (250 + x7).toNatClampNeg), Unk, Unk] [.int 1] σ _
        refine x_if_eq (pc' := 109) (tgt := 128) dX8_square_106 (by decide) rfl (fun hc => absurd hc (by decide)) (fun _ => ?_)
        refine x_aload_n (pc' := 110) dX8_square_109 rfl rfl rfl ?_
        refine x_iload (pc' := 112) dX8_square_110 rfl rfl ?_
        refine x_iload (pc' := 114) dX8_square_112 rfl rfl ?_
        refine x_iload_n (pc' := 115) dX8_square_114 rfl rfl rfl ?_
        refine x_iadd (pc' := 116) dX8_square_115 rfl ?_
        refine x_iload (pc' := 118) dX8_square_116 rfl rfl ?_
        refine x_iload (pc' := 120) dX8_square_118 rfl rfl ?_
        refine x_iload_n (pc' := 121) dX8_square_120 rfl rfl rfl ?_
        refine x_iadd (pc' := 122) dX8_square_121 rfl ?_
        refine x_callV (pc' := 125) (As := [.int (σ.1 95 (128 + x6).toNatClampNeg), .int ((σ.1 95 (128 + x6).toNatClampNeg) + x1), .int (σ.1 95 (250 + x7).toNatClampNeg), .int ((σ.1 95 (250 + x7).toNatClampNeg) + x1)]) dX8_square_122 rfl lmX8_159 kd_94 rfl rfl (Nat.le_of_ble_eq_true rfl) (Nat.le_of_ble_eq_true rfl) ?_
        show X none (d + 2) mX8_manyIn 0 [.ref 94, .int (σ.1 95 (128 + x6).toNatClampNeg), .int ((σ.1 95 (128 + x6).toNatClampNeg) + x1), .int (σ.1 95 (250 + x7).toNatClampNeg), .int ((σ.1 95 (250 + x7).toNatClampNeg) + x1), Unk, Unk] [] σ _
        refine X.mono h ?_
        rintro r τ1 ⟨u2, rfl, h⟩
        show X none (d + 3) mX8_square 125 [.ref 94, .int x1, .int x2, .int x3, .int x4, .int x5, .int x6, .int x7, .int (σ.1 95 (128 + x6).toNatClampNeg), .int (σ.1 95 (250 + x7).toNatClampNeg), Unk, Unk] [.int u2] τ1 _
        refine x_goto (pc' := 129) dX8_square_125 (by decide) ?_
        refine x_istore (pc' := 131) dX8_square_129 rfl (by decide) rfl (ls' := [.ref 94, .int x1, .int x2, .int x3, .int x4, .int x5, .int x6, .int x7, .int (σ.1 95 (128 + x6).toNatClampNeg), .int (σ.1 95 (250 + x7).toNatClampNeg), .int u2, Unk]) rfl ?_
        refine x_iload (pc' := 133) dX8_square_131 rfl rfl ?_
        refine x_iload_n (pc' := 134) dX8_square_133 rfl rfl rfl ?_
        refine x_icmp_gt (pc' := 137) (tgt := 169) dX8_square_134 (by decide) rfl (fun hc => ?_) (fun hc => ?_)
        · replace h := h.1 hc
          refine x_iconst (pc' := 170) (v := 1) dX8_square_169 rfl (by decide) ?_
          refine x_goto (pc' := 174) dX8_square_170 (by decide) ?_
          refine x_istore (pc' := 176) dX8_square_174 rfl (by decide) rfl (ls' := [.ref 94, .int x1, .int x2, .int x3, .int x4, .int x5, .int x6, .int x7, .int (σ.1 95 (128 + x6).toNatClampNeg), .int (σ.1 95 (250 + x7).toNatClampNeg), .int u2, .int 1]) rfl ?_
          refine x_iload (pc' := 178) dX8_square_176 rfl rfl ?_
          refine x_if_eq (pc' := 181) (tgt := 186) dX8_square_178 (by decide) rfl (fun hc => absurd hc (by decide)) (fun _ => ?_)
          refine x_iload (pc' := 183) dX8_square_181 rfl rfl ?_
          refine x_goto (pc' := 187) dX8_square_183 (by decide) ?_
          refine x_istore_n (pc' := 188) dX8_square_187 rfl rfl (by decide) rfl (ls' := [.ref 94, .int x1, .int x2, .int u2, .int x4, .int x5, .int x6, .int x7, .int (σ.1 95 (128 + x6).toNatClampNeg), .int (σ.1 95 (250 + x7).toNatClampNeg), .int u2, .int 1]) rfl ?_
          refine x_iload (pc' := 190) dX8_square_188 rfl rfl ?_
          refine x_if_eq (pc' := 193) (tgt := 198) dX8_square_190 (by decide) rfl (fun hc => absurd hc (by decide)) (fun _ => ?_)
          refine x_iload (pc' := 195) dX8_square_193 rfl rfl ?_
          refine x_goto (pc' := 200) dX8_square_195 (by decide) ?_
          refine x_istore (pc' := 202) dX8_square_200 rfl (by decide) rfl (ls' := [.ref 94, .int x1, .int x2, .int u2, .int (σ.1 95 (128 + x6).toNatClampNeg), .int x5, .int x6, .int x7, .int (σ.1 95 (128 + x6).toNatClampNeg), .int (σ.1 95 (250 + x7).toNatClampNeg), .int u2, .int 1]) rfl ?_
          refine x_iload (pc' := 204) dX8_square_202 rfl rfl ?_
          refine x_if_eq (pc' := 207) (tgt := 212) dX8_square_204 (by decide) rfl (fun hc => absurd hc (by decide)) (fun _ => ?_)
          refine x_iload (pc' := 209) dX8_square_207 rfl rfl ?_
          refine x_goto (pc' := 214) dX8_square_209 (by decide) ?_
          refine x_istore (pc' := 216) dX8_square_214 rfl (by decide) rfl (ls' := [.ref 94, .int x1, .int x2, .int u2, .int (σ.1 95 (128 + x6).toNatClampNeg), .int (σ.1 95 (250 + x7).toNatClampNeg), .int x6, .int x7, .int (σ.1 95 (128 + x6).toNatClampNeg), .int (σ.1 95 (250 + x7).toNatClampNeg), .int u2, .int 1]) rfl ?_
          refine x_iinc (pc' := 219) (v := 1) dX8_square_216 rfl (by decide) rfl rfl (by decide) (ls' := [.ref 94, .int x1, .int x2, .int u2, .int (σ.1 95 (128 + x6).toNatClampNeg), .int (σ.1 95 (250 + x7).toNatClampNeg), .int x6, .int (x7 + 1), .int (σ.1 95 (128 + x6).toNatClampNeg), .int (σ.1 95 (250 + x7).toNatClampNeg), .int u2, .int 1]) rfl ?_
          refine x_goto (pc' := 54) dX8_square_219 (by decide) ?_
          refine x_forget 8 (ls' := [.ref 94, .int x1, .int x2, .int u2, .int (σ.1 95 (128 + x6).toNatClampNeg), .int (σ.1 95 (250 + x7).toNatClampNeg), .int x6, .int (x7 + 1), Unk, .int (σ.1 95 (250 + x7).toNatClampNeg), .int u2, .int 1]) rfl ?_
          refine x_forget 9 (ls' := [.ref 94, .int x1, .int x2, .int u2, .int (σ.1 95 (128 + x6).toNatClampNeg), .int (σ.1 95 (250 + x7).toNatClampNeg), .int x6, .int (x7 + 1), Unk, Unk, .int u2, .int 1]) rfl ?_
          refine x_forget 10 (ls' := [.ref 94, .int x1, .int x2, .int u2, .int (σ.1 95 (128 + x6).toNatClampNeg), .int (σ.1 95 (250 + x7).toNatClampNeg), .int x6, .int (x7 + 1), Unk, Unk, Unk, .int 1]) rfl ?_
          refine x_forget 11 (ls' := [.ref 94, .int x1, .int x2, .int u2, .int (σ.1 95 (128 + x6).toNatClampNeg), .int (σ.1 95 (250 + x7).toNatClampNeg), .int x6, .int (x7 + 1), Unk, Unk, Unk, Unk]) rfl ?_
          exact h
        · replace h := h.2 hc
          refine x_iload (pc' := 139) dX8_square_137 rfl rfl ?_
          refine x_iload_n (pc' := 140) dX8_square_139 rfl rfl rfl ?_
          refine x_icmp_ne (pc' := 143) (tgt := 173) dX8_square_140 (by decide) rfl (fun hc => ?_) (fun hc => ?_)
          · replace h := h.1 hc
            refine x_iconst (pc' := 174) (v := 0) dX8_square_173 rfl (by decide) ?_
            refine x_istore (pc' := 176) dX8_square_174 rfl (by decide) rfl (ls' := [.ref 94, .int x1, .int x2, .int x3, .int x4, .int x5, .int x6, .int x7, .int (σ.1 95 (128 + x6).toNatClampNeg), .int (σ.1 95 (250 + x7).toNatClampNeg), .int u2, .int 0]) rfl ?_
            refine x_iload (pc' := 178) dX8_square_176 rfl rfl ?_
            refine x_if_eq (pc' := 181) (tgt := 186) dX8_square_178 (by decide) rfl (fun _ => ?_) (fun hc => absurd hc (by decide))
            refine x_iload_n (pc' := 187) dX8_square_186 rfl rfl rfl ?_
            refine x_istore_n (pc' := 188) dX8_square_187 rfl rfl (by decide) rfl (ls' := [.ref 94, .int x1, .int x2, .int x3, .int x4, .int x5, .int x6, .int x7, .int (σ.1 95 (128 + x6).toNatClampNeg), .int (σ.1 95 (250 + x7).toNatClampNeg), .int u2, .int 0]) rfl ?_
            refine x_iload (pc' := 190) dX8_square_188 rfl rfl ?_
            refine x_if_eq (pc' := 193) (tgt := 198) dX8_square_190 (by decide) rfl (fun _ => ?_) (fun hc => absurd hc (by decide))
            refine x_iload (pc' := 200) dX8_square_198 rfl rfl ?_
            refine x_istore (pc' := 202) dX8_square_200 rfl (by decide) rfl (ls' := [.ref 94, .int x1, .int x2, .int x3, .int x4, .int x5, .int x6, .int x7, .int (σ.1 95 (128 + x6).toNatClampNeg), .int (σ.1 95 (250 + x7).toNatClampNeg), .int u2, .int 0]) rfl ?_
            refine x_iload (pc' := 204) dX8_square_202 rfl rfl ?_
            refine x_if_eq (pc' := 207) (tgt := 212) dX8_square_204 (by decide) rfl (fun _ => ?_) (fun hc => absurd hc (by decide))
            refine x_iload (pc' := 214) dX8_square_212 rfl rfl ?_
            refine x_istore (pc' := 216) dX8_square_214 rfl (by decide) rfl (ls' := [.ref 94, .int x1, .int x2, .int x3, .int x4, .int x5, .int x6, .int x7, .int (σ.1 95 (128 + x6).toNatClampNeg), .int (σ.1 95 (250 + x7).toNatClampNeg), .int u2, .int 0]) rfl ?_
            refine x_iinc (pc' := 219) (v := 1) dX8_square_216 rfl (by decide) rfl rfl (by decide) (ls' := [.ref 94, .int x1, .int x2, .int x3, .int x4, .int x5, .int x6, .int (x7 + 1), .int (σ.1 95 (128 + x6).toNatClampNeg), .int (σ.1 95 (250 + x7).toNatClampNeg), .int u2, .int 0]) rfl ?_
            refine x_goto (pc' := 54) dX8_square_219 (by decide) ?_
            refine x_forget 8 (ls' := [.ref 94, .int x1, .int x2, .int x3, .int x4, .int x5, .int x6, .int (x7 + 1), Unk, .int (σ.1 95 (250 + x7).toNatClampNeg), .int u2, .int 0]) rfl ?_
            refine x_forget 9 (ls' := [.ref 94, .int x1, .int x2, .int x3, .int x4, .int x5, .int x6, .int (x7 + 1), Unk, Unk, .int u2, .int 0]) rfl ?_
            refine x_forget 10 (ls' := [.ref 94, .int x1, .int x2, .int x3, .int x4, .int x5, .int x6, .int (x7 + 1), Unk, Unk, Unk, .int 0]) rfl ?_
            refine x_forget 11 (ls' := [.ref 94, .int x1, .int x2, .int x3, .int x4, .int x5, .int x6, .int (x7 + 1), Unk, Unk, Unk, Unk]) rfl ?_
            exact h
          · replace h := h.2 hc
            refine x_iload (pc' := 145) dX8_square_143 rfl rfl ?_
            refine x_if_le (pc' := 148) (tgt := 173) dX8_square_145 (by decide) rfl (fun hc => ?_) (fun hc => ?_)
            · replace h := h.1 hc
              refine x_iconst (pc' := 174) (v := 0) dX8_square_173 rfl (by decide) ?_
              refine x_istore (pc' := 176) dX8_square_174 rfl (by decide) rfl (ls' := [.ref 94, .int x1, .int x2, .int x3, .int x4, .int x5, .int x6, .int x7, .int (σ.1 95 (128 + x6).toNatClampNeg), .int (σ.1 95 (250 + x7).toNatClampNeg), .int u2, .int 0]) rfl ?_
              refine x_iload (pc' := 178) dX8_square_176 rfl rfl ?_
              refine x_if_eq (pc' := 181) (tgt := 186) dX8_square_178 (by decide) rfl (fun _ => ?_) (fun hc => absurd hc (by decide))
              refine x_iload_n (pc' := 187) dX8_square_186 rfl rfl rfl ?_
              refine x_istore_n (pc' := 188) dX8_square_187 rfl rfl (by decide) rfl (ls' := [.ref 94, .int x1, .int x2, .int x3, .int x4, .int x5, .int x6, .int x7, .int (σ.1 95 (128 + x6).toNatClampNeg), .int (σ.1 95 (250 + x7).toNatClampNeg), .int u2, .int 0]) rfl ?_
              refine x_iload (pc' := 190) dX8_square_188 rfl rfl ?_
              refine x_if_eq (pc' := 193) (tgt := 198) dX8_square_190 (by decide) rfl (fun _ => ?_) (fun hc => absurd hc (by decide))
              refine x_iload (pc' := 200) dX8_square_198 rfl rfl ?_
              refine x_istore (pc' := 202) dX8_square_200 rfl (by decide) rfl (ls' := [.ref 94, .int x1, .int x2, .int x3, .int x4, .int x5, .int x6, .int x7, .int (σ.1 95 (128 + x6).toNatClampNeg), .int (σ.1 95 (250 + x7).toNatClampNeg), .int u2, .int 0]) rfl ?_
              refine x_iload (pc' := 204) dX8_square_202 rfl rfl ?_
              refine x_if_eq (pc' := 207) (tgt := 212) dX8_square_204 (by decide) rfl (fun _ => ?_) (fun hc => absurd hc (by decide))
              refine x_iload (pc' := 214) dX8_square_212 rfl rfl ?_
              refine x_istore (pc' := 216) dX8_square_214 rfl (by decide) rfl (ls' := [.ref 94, .int x1, .int x2, .int x3, .int x4, .int x5, .int x6, .int x7, .int (σ.1 95 (128 + x6).toNatClampNeg), .int (σ.1 95 (250 + x7).toNatClampNeg), .int u2, .int 0]) rfl ?_
              refine x_iinc (pc' := 219) (v := 1) dX8_square_216 rfl (by decide) rfl rfl (by decide) (ls' := [.ref 94, .int x1, .int x2, .int x3, .int x4, .int x5, .int x6, .int (x7 + 1), .int (σ.1 95 (128 + x6).toNatClampNeg), .int (σ.1 95 (250 + x7).toNatClampNeg), .int u2, .int 0]) rfl ?_
              refine x_goto (pc' := 54) dX8_square_219 (by decide) ?_
              refine x_forget 8 (ls' := [.ref 94, .int x1, .int x2, .int x3, .int x4, .int x5, .int x6, .int (x7 + 1), Unk, .int (σ.1 95 (250 + x7).toNatClampNeg), .int u2, .int 0]) rfl ?_
              refine x_forget 9 (ls' := [.ref 94, .int x1, .int x2, .int x3, .int x4, .int x5, .int x6, .int (x7 + 1), Unk, Unk, .int u2, .int 0]) rfl ?_
              refine x_forget 10 (ls' := [.ref 94, .int x1, .int x2, .int x3, .int x4, .int x5, .int x6, .int (x7 + 1), Unk, Unk, Unk, .int 0]) rfl ?_
              refine x_forget 11 (ls' := [.ref 94, .int x1, .int x2, .int x3, .int x4, .int x5, .int x6, .int (x7 + 1), Unk, Unk, Unk, Unk]) rfl ?_
              exact h
            · replace h := h.2 hc
              refine x_iload (pc' := 150) dX8_square_148 rfl rfl ?_
              refine x_iload (pc' := 152) dX8_square_150 rfl rfl ?_
              refine x_icmp_lt (pc' := 155) (tgt := 169) dX8_square_152 (by decide) rfl (fun hc => ?_) (fun hc => ?_)
              · replace h := h.1 hc
                refine x_iconst (pc' := 170) (v := 1) dX8_square_169 rfl (by decide) ?_
                refine x_goto (pc' := 174) dX8_square_170 (by decide) ?_
                refine x_istore (pc' := 176) dX8_square_174 rfl (by decide) rfl (ls' := [.ref 94, .int x1, .int x2, .int x3, .int x4, .int x5, .int x6, .int x7, .int (σ.1 95 (128 + x6).toNatClampNeg), .int (σ.1 95 (250 + x7).toNatClampNeg), .int u2, .int 1]) rfl ?_
                refine x_iload (pc' := 178) dX8_square_176 rfl rfl ?_
                refine x_if_eq (pc' := 181) (tgt := 186) dX8_square_178 (by decide) rfl (fun hc => absurd hc (by decide)) (fun _ => ?_)
                refine x_iload (pc' := 183) dX8_square_181 rfl rfl ?_
                refine x_goto (pc' := 187) dX8_square_183 (by decide) ?_
                refine x_istore_n (pc' := 188) dX8_square_187 rfl rfl (by decide) rfl (ls' := [.ref 94, .int x1, .int x2, .int u2, .int x4, .int x5, .int x6, .int x7, .int (σ.1 95 (128 + x6).toNatClampNeg), .int (σ.1 95 (250 + x7).toNatClampNeg), .int u2, .int 1]) rfl ?_
                refine x_iload (pc' := 190) dX8_square_188 rfl rfl ?_
                refine x_if_eq (pc' := 193) (tgt := 198) dX8_square_190 (by decide) rfl (fun hc => absurd hc (by decide)) (fun _ => ?_)
                refine x_iload (pc' := 195) dX8_square_193 rfl rfl ?_
                refine x_goto (pc' := 200) dX8_square_195 (by decide) ?_
                refine x_istore (pc' := 202) dX8_square_200 rfl (by decide) rfl (ls' := [.ref 94, .int x1, .int x2, .int u2, .int (σ.1 95 (128 + x6).toNatClampNeg), .int x5, .int x6, .int x7, .int (σ.1 95 (128 + x6).toNatClampNeg), .int (σ.1 95 (250 + x7).toNatClampNeg), .int u2, .int 1]) rfl ?_
                refine x_iload (pc' := 204) dX8_square_202 rfl rfl ?_
                refine x_if_eq (pc' := 207) (tgt := 212) dX8_square_204 (by decide) rfl (fun hc => absurd hc (by decide)) (fun _ => ?_)
                refine x_iload (pc' := 209) dX8_square_207 rfl rfl ?_
                refine x_goto (pc' := 214) dX8_square_209 (by decide) ?_
                refine x_istore (pc' := 216) dX8_square_214 rfl (by decide) rfl (ls' := [.ref 94, .int x1, .int x2, .int u2, .int (σ.1 95 (128 + x6).toNatClampNeg), .int (σ.1 95 (250 + x7).toNatClampNeg), .int x6, .int x7, .int (σ.1 95 (128 + x6).toNatClampNeg), .int (σ.1 95 (250 + x7).toNatClampNeg), .int u2, .int 1]) rfl ?_
                refine x_iinc (pc' := 219) (v := 1) dX8_square_216 rfl (by decide) rfl rfl (by decide) (ls' := [.ref 94, .int x1, .int x2, .int u2, .int (σ.1 95 (128 + x6).toNatClampNeg), .int (σ.1 95 (250 + x7).toNatClampNeg), .int x6, .int (x7 + 1), .int (σ.1 95 (128 + x6).toNatClampNeg), .int (σ.1 95 (250 + x7).toNatClampNeg), .int u2, .int 1]) rfl ?_
                refine x_goto (pc' := 54) dX8_square_219 (by decide) ?_
                refine x_forget 8 (ls' := [.ref 94, .int x1, .int x2, .int u2, .int (σ.1 95 (128 + x6).toNatClampNeg), .int (σ.1 95 (250 + x7).toNatClampNeg), .int x6, .int (x7 + 1), Unk, .int (σ.1 95 (250 + x7).toNatClampNeg), .int u2, .int 1]) rfl ?_
                refine x_forget 9 (ls' := [.ref 94, .int x1, .int x2, .int u2, .int (σ.1 95 (128 + x6).toNatClampNeg), .int (σ.1 95 (250 + x7).toNatClampNeg), .int x6, .int (x7 + 1), Unk, Unk, .int u2, .int 1]) rfl ?_
                refine x_forget 10 (ls' := [.ref 94, .int x1, .int x2, .int u2, .int (σ.1 95 (128 + x6).toNatClampNeg), .int (σ.1 95 (250 + x7).toNatClampNeg), .int x6, .int (x7 + 1), Unk, Unk, Unk, .int 1]) rfl ?_
                refine x_forget 11 (ls' := [.ref 94, .int x1, .int x2, .int u2, .int (σ.1 95 (128 + x6).toNatClampNeg), .int (σ.1 95 (250 + x7).toNatClampNeg), .int x6, .int (x7 + 1), Unk, Unk, Unk, Unk]) rfl ?_
                exact h
              · replace h := h.2 hc
                refine x_iload (pc' := 157) dX8_square_155 rfl rfl ?_
                refine x_iload (pc' := 159) dX8_square_157 rfl rfl ?_
                refine x_icmp_ne (pc' := 162) (tgt := 173) dX8_square_159 (by decide) rfl (fun hc => ?_) (fun hc => ?_)
                · replace h := h.1 hc
                  refine x_iconst (pc' := 174) (v := 0) dX8_square_173 rfl (by decide) ?_
                  refine x_istore (pc' := 176) dX8_square_174 rfl (by decide) rfl (ls' := [.ref 94, .int x1, .int x2, .int x3, .int x4, .int x5, .int x6, .int x7, .int (σ.1 95 (128 + x6).toNatClampNeg), .int (σ.1 95 (250 + x7).toNatClampNeg), .int u2, .int 0]) rfl ?_
                  refine x_iload (pc' := 178) dX8_square_176 rfl rfl ?_
                  refine x_if_eq (pc' := 181) (tgt := 186) dX8_square_178 (by decide) rfl (fun _ => ?_) (fun hc => absurd hc (by decide))
                  refine x_iload_n (pc' := 187) dX8_square_186 rfl rfl rfl ?_
                  refine x_istore_n (pc' := 188) dX8_square_187 rfl rfl (by decide) rfl (ls' := [.ref 94, .int x1, .int x2, .int x3, .int x4, .int x5, .int x6, .int x7, .int (σ.1 95 (128 + x6).toNatClampNeg), .int (σ.1 95 (250 + x7).toNatClampNeg), .int u2, .int 0]) rfl ?_
                  refine x_iload (pc' := 190) dX8_square_188 rfl rfl ?_
                  refine x_if_eq (pc' := 193) (tgt := 198) dX8_square_190 (by decide) rfl (fun _ => ?_) (fun hc => absurd hc (by decide))
                  refine x_iload (pc' := 200) dX8_square_198 rfl rfl ?_
                  refine x_istore (pc' := 202) dX8_square_200 rfl (by decide) rfl (ls' := [.ref 94, .int x1, .int x2, .int x3, .int x4, .int x5, .int x6, .int x7, .int (σ.1 95 (128 + x6).toNatClampNeg), .int (σ.1 95 (250 + x7).toNatClampNeg), .int u2, .int 0]) rfl ?_
                  refine x_iload (pc' := 204) dX8_square_202 rfl rfl ?_
                  refine x_if_eq (pc' := 207) (tgt := 212) dX8_square_204 (by decide) rfl (fun _ => ?_) (fun hc => absurd hc (by decide))
                  refine x_iload (pc' := 214) dX8_square_212 rfl rfl ?_
                  refine x_istore (pc' := 216) dX8_square_214 rfl (by decide) rfl (ls' := [.ref 94, .int x1, .int x2, .int x3, .int x4, .int x5, .int x6, .int x7, .int (σ.1 95 (128 + x6).toNatClampNeg), .int (σ.1 95 (250 + x7).toNatClampNeg), .int u2, .int 0]) rfl ?_
                  refine x_iinc (pc' := 219) (v := 1) dX8_square_216 rfl (by decide) rfl rfl (by decide) (ls' := [.ref 94, .int x1, .int x2, .int x3, .int x4, .int x5, .int x6, .int (x7 + 1), .int (σ.1 95 (128 + x6).toNatClampNeg), .int (σ.1 95 (250 + x7).toNatClampNeg), .int u2, .int 0]) rfl ?_
                  refine x_goto (pc' := 54) dX8_square_219 (by decide) ?_
                  refine x_forget 8 (ls' := [.ref 94, .int x1, .int x2, .int x3, .int x4, .int x5, .int x6, .int (x7 + 1), Unk, .int (σ.1 95 (250 + x7).toNatClampNeg), .int u2, .int 0]) rfl ?_
                  refine x_forget 9 (ls' := [.ref 94, .int x1, .int x2, .int x3, .int x4, .int x5, .int x6, .int (x7 + 1), Unk, Unk, .int u2, .int 0]) rfl ?_
                  refine x_forget 10 (ls' := [.ref 94, .int x1, .int x2, .int x3, .int x4, .int x5, .int x6, .int (x7 + 1), Unk, Unk, Unk, .int 0]) rfl ?_
                  refine x_forget 11 (ls' := [.ref 94, .int x1, .int x2, .int x3, .int x4, .int x5, .int x6, .int (x7 + 1), Unk, Unk, Unk, Unk]) rfl ?_
                  exact h
                · replace h := h.2 hc
                  refine x_iload (pc' := 164) dX8_square_162 rfl rfl ?_
                  refine x_iload (pc' := 166) dX8_square_164 rfl rfl ?_
                  refine x_icmp_ge (pc' := 169) (tgt := 173) dX8_square_166 (by decide) rfl (fun hc => ?_) (fun hc => ?_)
                  · replace h := h.1 hc
                    refine x_iconst (pc' := 174) (v := 0) dX8_square_173 rfl (by decide) ?_
                    refine x_istore (pc' := 176) dX8_square_174 rfl (by decide) rfl (ls' := [.ref 94, .int x1, .int x2, .int x3, .int x4, .int x5, .int x6, .int x7, .int (σ.1 95 (128 + x6).toNatClampNeg), .int (σ.1 95 (250 + x7).toNatClampNeg), .int u2, .int 0]) rfl ?_
                    refine x_iload (pc' := 178) dX8_square_176 rfl rfl ?_
                    refine x_if_eq (pc' := 181) (tgt := 186) dX8_square_178 (by decide) rfl (fun _ => ?_) (fun hc => absurd hc (by decide))
                    refine x_iload_n (pc' := 187) dX8_square_186 rfl rfl rfl ?_
                    refine x_istore_n (pc' := 188) dX8_square_187 rfl rfl (by decide) rfl (ls' := [.ref 94, .int x1, .int x2, .int x3, .int x4, .int x5, .int x6, .int x7, .int (σ.1 95 (128 + x6).toNatClampNeg), .int (σ.1 95 (250 + x7).toNatClampNeg), .int u2, .int 0]) rfl ?_
                    refine x_iload (pc' := 190) dX8_square_188 rfl rfl ?_
                    refine x_if_eq (pc' := 193) (tgt := 198) dX8_square_190 (by decide) rfl (fun _ => ?_) (fun hc => absurd hc (by decide))
                    refine x_iload (pc' := 200) dX8_square_198 rfl rfl ?_
                    refine x_istore (pc' := 202) dX8_square_200 rfl (by decide) rfl (ls' := [.ref 94, .int x1, .int x2, .int x3, .int x4, .int x5, .int x6, .int x7, .int (σ.1 95 (128 + x6).toNatClampNeg), .int (σ.1 95 (250 + x7).toNatClampNeg), .int u2, .int 0]) rfl ?_
                    refine x_iload (pc' := 204) dX8_square_202 rfl rfl ?_
                    refine x_if_eq (pc' := 207) (tgt := 212) dX8_square_204 (by decide) rfl (fun _ => ?_) (fun hc => absurd hc (by decide))
                    refine x_iload (pc' := 214) dX8_square_212 rfl rfl ?_
                    refine x_istore (pc' := 216) dX8_square_214 rfl (by decide) rfl (ls' := [.ref 94, .int x1, .int x2, .int x3, .int x4, .int x5, .int x6, .int x7, .int (σ.1 95 (128 + x6).toNatClampNeg), .int (σ.1 95 (250 + x7).toNatClampNeg), .int u2, .int 0]) rfl ?_
                    refine x_iinc (pc' := 219) (v := 1) dX8_square_216 rfl (by decide) rfl rfl (by decide) (ls' := [.ref 94, .int x1, .int x2, .int x3, .int x4, .int x5, .int x6, .int (x7 + 1), .int (σ.1 95 (128 + x6).toNatClampNeg), .int (σ.1 95 (250 + x7).toNatClampNeg), .int u2, .int 0]) rfl ?_
                    refine x_goto (pc' := 54) dX8_square_219 (by decide) ?_
                    refine x_forget 8 (ls' := [.ref 94, .int x1, .int x2, .int x3, .int x4, .int x5, .int x6, .int (x7 + 1), Unk, .int (σ.1 95 (250 + x7).toNatClampNeg), .int u2, .int 0]) rfl ?_
                    refine x_forget 9 (ls' := [.ref 94, .int x1, .int x2, .int x3, .int x4, .int x5, .int x6, .int (x7 + 1), Unk, Unk, .int u2, .int 0]) rfl ?_
                    refine x_forget 10 (ls' := [.ref 94, .int x1, .int x2, .int x3, .int x4, .int x5, .int x6, .int (x7 + 1), Unk, Unk, Unk, .int 0]) rfl ?_
                    refine x_forget 11 (ls' := [.ref 94, .int x1, .int x2, .int x3, .int x4, .int x5, .int x6, .int (x7 + 1), Unk, Unk, Unk, Unk]) rfl ?_
                    exact h
                  · replace h := h.2 hc
                    refine x_iconst (pc' := 170) (v := 1) dX8_square_169 rfl (by decide) ?_
                    refine x_goto (pc' := 174) dX8_square_170 (by decide) ?_
                    refine x_istore (pc' := 176) dX8_square_174 rfl (by decide) rfl (ls' := [.ref 94, .int x1, .int x2, .int x3, .int x4, .int x5, .int x6, .int x7, .int (σ.1 95 (128 + x6).toNatClampNeg), .int (σ.1 95 (250 + x7).toNatClampNeg), .int u2, .int 1]) rfl ?_
                    refine x_iload (pc' := 178) dX8_square_176 rfl rfl ?_
                    refine x_if_eq (pc' := 181) (tgt := 186) dX8_square_178 (by decide) rfl (fun hc => absurd hc (by decide)) (fun _ => ?_)
                    refine x_iload (pc' := 183) dX8_square_181 rfl rfl ?_
                    refine x_goto (pc' := 187) dX8_square_183 (by decide) ?_
                    refine x_istore_n (pc' := 188) dX8_square_187 rfl rfl (by decide) rfl (ls' := [.ref 94, .int x1, .int x2, .int u2, .int x4, .int x5, .int x6, .int x7, .int (σ.1 95 (128 + x6).toNatClampNeg), .int (σ.1 95 (250 + x7).toNatClampNeg), .int u2, .int 1]) rfl ?_
                    refine x_iload (pc' := 190) dX8_square_188 rfl rfl ?_
                    refine x_if_eq (pc' := 193) (tgt := 198) dX8_square_190 (by decide) rfl (fun hc => absurd hc (by decide)) (fun _ => ?_)
                    refine x_iload (pc' := 195) dX8_square_193 rfl rfl ?_
                    refine x_goto (pc' := 200) dX8_square_195 (by decide) ?_
                    refine x_istore (pc' := 202) dX8_square_200 rfl (by decide) rfl (ls' := [.ref 94, .int x1, .int x2, .int u2, .int (σ.1 95 (128 + x6).toNatClampNeg), .int x5, .int x6, .int x7, .int (σ.1 95 (128 + x6).toNatClampNeg), .int (σ.1 95 (250 + x7).toNatClampNeg), .int u2, .int 1]) rfl ?_
                    refine x_iload (pc' := 204) dX8_square_202 rfl rfl ?_
                    refine x_if_eq (pc' := 207) (tgt := 212) dX8_square_204 (by decide) rfl (fun hc => absurd hc (by decide)) (fun _ => ?_)
                    refine x_iload (pc' := 209) dX8_square_207 rfl rfl ?_
                    refine x_goto (pc' := 214) dX8_square_209 (by decide) ?_
                    refine x_istore (pc' := 216) dX8_square_214 rfl (by decide) rfl (ls' := [.ref 94, .int x1, .int x2, .int u2, .int (σ.1 95 (128 + x6).toNatClampNeg), .int (σ.1 95 (250 + x7).toNatClampNeg), .int x6, .int x7, .int (σ.1 95 (128 + x6).toNatClampNeg), .int (σ.1 95 (250 + x7).toNatClampNeg), .int u2, .int 1]) rfl ?_
                    refine x_iinc (pc' := 219) (v := 1) dX8_square_216 rfl (by decide) rfl rfl (by decide) (ls' := [.ref 94, .int x1, .int x2, .int u2, .int (σ.1 95 (128 + x6).toNatClampNeg), .int (σ.1 95 (250 + x7).toNatClampNeg), .int x6, .int (x7 + 1), .int (σ.1 95 (128 + x6).toNatClampNeg), .int (σ.1 95 (250 + x7).toNatClampNeg), .int u2, .int 1]) rfl ?_
                    refine x_goto (pc' := 54) dX8_square_219 (by decide) ?_
                    refine x_forget 8 (ls' := [.ref 94, .int x1, .int x2, .int u2, .int (σ.1 95 (128 + x6).toNatClampNeg), .int (σ.1 95 (250 + x7).toNatClampNeg), .int x6, .int (x7 + 1), Unk, .int (σ.1 95 (250 + x7).toNatClampNeg), .int u2, .int 1]) rfl ?_
                    refine x_forget 9 (ls' := [.ref 94, .int x1, .int x2, .int u2, .int (σ.1 95 (128 + x6).toNatClampNeg), .int (σ.1 95 (250 + x7).toNatClampNeg), .int x6, .int (x7 + 1), Unk, Unk, .int u2, .int 1]) rfl ?_
                    refine x_forget 10 (ls' := [.ref 94, .int x1, .int x2, .int u2, .int (σ.1 95 (128 + x6).toNatClampNeg), .int (σ.1 95 (250 + x7).toNatClampNeg), .int x6, .int (x7 + 1), Unk, Unk, Unk, .int 1]) rfl ?_
                    refine x_forget 11 (ls' := [.ref 94, .int x1, .int x2, .int u2, .int (σ.1 95 (128 + x6).toNatClampNeg), .int (σ.1 95 (250 + x7).toNatClampNeg), .int x6, .int (x7 + 1), Unk, Unk, Unk, Unk]) rfl ?_
                    exact h
set_option maxRecDepth 100000 in
set_option maxHeartbeats 4000000 in
theorem vX8_pairs_0 {d : Nat} {σ : Mem} {Q : Option Value → Mem → Prop} 
    (h : X none (d + 1) mX8_pairs 4 [.ref 94, .int 0, .int 0, Unk] [] σ Q) :
    X none (d + 1) mX8_pairs 0 [.ref 94, Unk, Unk, Unk] [] σ Q := by
  refine x_iconst (pc' := 1) (v := 0) dX8_pairs_0 rfl (by decide) ?_
  refine x_istore_n (pc' := 2) dX8_pairs_1 rfl rfl (by decide) rfl (ls' := [.ref 94, .int 0, Unk, Unk]) rfl ?_
  refine x_iconst (pc' := 3) (v := 0) dX8_pairs_2 rfl (by decide) ?_
  refine x_istore_n (pc' := 4) dX8_pairs_3 rfl rfl (by decide) rfl (ls' := [.ref 94, .int 0, .int 0, Unk]) rfl ?_
  exact h
set_option maxRecDepth 100000 in
set_option maxHeartbeats 4000000 in
theorem vX8_pairs_4 {d : Nat} {σ : Mem} {Q : Option Value → Mem → Prop} {x1 x2 : Int32} 
    (h : (((σ.1 95 0) ≤ x2 → Q (some (.int x1)) σ) ∧ (¬ (σ.1 95 0) ≤ x2 → X none (d + 1) mX8_pairs 16 [.ref 94, .int x1, .int x2, .int 0] [] σ Q))) :
    X none (d + 1) mX8_pairs 4 [.ref 94, .int x1, .int x2, Unk] [] σ Q := by
  refine x_iload_n (pc' := 5) dX8_pairs_4 rfl rfl rfl ?_
  refine x_aload_n (pc' := 6) dX8_pairs_5 rfl rfl rfl ?_
  refine x_getr (pc' := 9) dX8_pairs_6 rfl lfX8_7 kd_94 rfl rf_94_0 ?_
  refine x_iconst (pc' := 10) (v := 0) dX8_pairs_9 rfl (by decide) ?_
  refine x_iald (pc' := 11) dX8_pairs_10 rfl kd_95 (by rw [ln_95]; unfold vp_in; decide) ?_
  show X none (d + 1) mX8_pairs 11 [.ref 94, .int x1, .int x2, Unk] [.int (σ.1 95 0), .int x2] σ _
  refine x_icmp_ge (pc' := 14) (tgt := 108) dX8_pairs_11 (by decide) rfl (fun hc => ?_) (fun hc => ?_)
  · replace h := h.1 hc
    refine x_iload_n (pc' := 109) dX8_pairs_108 rfl rfl rfl ?_
    exact x_iret dX8_pairs_109 rfl rfl h
  · replace h := h.2 hc
    refine x_iconst (pc' := 15) (v := 0) dX8_pairs_14 rfl (by decide) ?_
    refine x_istore_n (pc' := 16) dX8_pairs_15 rfl rfl (by decide) rfl (ls' := [.ref 94, .int x1, .int x2, .int 0]) rfl ?_
    exact h
set_option maxRecDepth 100000 in
set_option maxHeartbeats 4000000 in
theorem vX8_pairs_16 {d : Nat} {σ : Mem} {Q : Option Value → Mem → Prop} {x1 x2 x3 : Int32} 
    (h : (((σ.1 95 0) ≤ x3 → X none (d + 1) mX8_pairs 4 [.ref 94, .int x1, .int (x2 + 1), Unk] [] σ Q) ∧ (¬ (σ.1 95 0) ≤ x3 → (vp_in (494 + x2) 7458 ∧ ((¬ (σ.1 95 (494 + x2).toNatClampNeg) = 0 → X none (d + 1) mX8_pairs 16 [.ref 94, .int (x1 + 0), .int x2, .int (x3 + 1)] [] σ Q) ∧ ((σ.1 95 (494 + x2).toNatClampNeg) = 0 → (vp_in (494 + x3) 7458 ∧ ((¬ (σ.1 95 (494 + x3).toNatClampNeg) = 0 → X none (d + 1) mX8_pairs 16 [.ref 94, .int (x1 + 0), .int x2, .int (x3 + 1)] [] σ Q) ∧ ((σ.1 95 (494 + x3).toNatClampNeg) = 0 → (vp_in (128 + x2) 7458 ∧ (vp_in (128 + x3) 7458 ∧ (((σ.1 95 (128 + x3).toNatClampNeg) ≤ (σ.1 95 (128 + x2).toNatClampNeg) → X none (d + 1) mX8_pairs 16 [.ref 94, .int (x1 + 0), .int x2, .int (x3 + 1)] [] σ Q) ∧ (¬ (σ.1 95 (128 + x3).toNatClampNeg) ≤ (σ.1 95 (128 + x2).toNatClampNeg) → (vp_in (250 + x2) 7458 ∧ (vp_in (250 + x3) 7458 ∧ (((σ.1 95 (250 + x3).toNatClampNeg) ≤ (σ.1 95 (250 + x2).toNatClampNeg) → X none (d + 1) mX8_pairs 16 [.ref 94, .int (x1 + 0), .int x2, .int (x3 + 1)] [] σ Q) ∧ (¬ (σ.1 95 (250 + x3).toNatClampNeg) ≤ (σ.1 95 (250 + x2).toNatClampNeg) → X none (d + 1) mX8_pairs 16 [.ref 94, .int (x1 + 1), .int x2, .int (x3 + 1)] [] σ Q))))))))))))))))) :
    X none (d + 1) mX8_pairs 16 [.ref 94, .int x1, .int x2, .int x3] [] σ Q := by
  refine x_iload_n (pc' := 17) dX8_pairs_16 rfl rfl rfl ?_
  refine x_aload_n (pc' := 18) dX8_pairs_17 rfl rfl rfl ?_
  refine x_getr (pc' := 21) dX8_pairs_18 rfl lfX8_7 kd_94 rfl rf_94_0 ?_
  refine x_iconst (pc' := 22) (v := 0) dX8_pairs_21 rfl (by decide) ?_
  refine x_iald (pc' := 23) dX8_pairs_22 rfl kd_95 (by rw [ln_95]; unfold vp_in; decide) ?_
  show X none (d + 1) mX8_pairs 23 [.ref 94, .int x1, .int x2, .int x3] [.int (σ.1 95 0), .int x3] σ _
  refine x_icmp_ge (pc' := 26) (tgt := 102) dX8_pairs_23 (by decide) rfl (fun hc => ?_) (fun hc => ?_)
  · replace h := h.1 hc
    refine x_iinc (pc' := 105) (v := 1) dX8_pairs_102 rfl (by decide) rfl rfl (by decide) (ls' := [.ref 94, .int x1, .int (x2 + 1), .int x3]) rfl ?_
    refine x_goto (pc' := 4) dX8_pairs_105 (by decide) ?_
    refine x_forget 3 (ls' := [.ref 94, .int x1, .int (x2 + 1), Unk]) rfl ?_
    exact h
  · replace h := h.2 hc
    refine x_iload_n (pc' := 27) dX8_pairs_26 rfl rfl rfl ?_
    refine x_aload_n (pc' := 28) dX8_pairs_27 rfl rfl rfl ?_
    refine x_iload_n (pc' := 29) dX8_pairs_28 rfl rfl rfl ?_
    refine x_callV (pc' := 32) (As := [.int x2]) dX8_pairs_29 rfl lmX8_57 kd_94 rfl rfl (Nat.le_of_ble_eq_true rfl) (Nat.le_of_ble_eq_true rfl) ?_
    show X none d mX8_isThere 0 [.ref 94, .int x2] [] σ _
    refine x_aload_n (pc' := 1) dX8_isThere_0 rfl rfl rfl ?_
    refine x_getr (pc' := 4) dX8_isThere_1 rfl lfX8_7 kd_94 rfl rf_94_0 ?_
    refine x_sipush (pc' := 7) (v := 494) dX8_isThere_4 rfl (by decide) ?_
    refine x_iload_n (pc' := 8) dX8_isThere_7 rfl rfl rfl ?_
    refine x_iadd (pc' := 9) dX8_isThere_8 rfl ?_
    obtain ⟨hb, h⟩ := h
    refine x_iald (pc' := 10) dX8_isThere_9 rfl kd_95 (by rw [ln_95]; exact hb) ?_
    refine x_if_ne (pc' := 13) (tgt := 17) dX8_isThere_10 (by decide) rfl (fun hc => ?_) (fun hc => ?_)
    · replace h := h.1 hc
      refine x_iconst (pc' := 18) (v := 0) dX8_isThere_17 rfl (by decide) ?_
      refine x_iret dX8_isThere_18 rfl rfl ?_
      show X none (d + 1) mX8_pairs 32 [.ref 94, .int x1, .int x2, .int x3] [.int 0, .int x1] σ _
      refine x_if_eq (pc' := 35) (tgt := 93) dX8_pairs_32 (by decide) rfl (fun _ => ?_) (fun hc => absurd hc (by decide))
      refine x_iconst (pc' := 94) (v := 0) dX8_pairs_93 rfl (by decide) ?_
      refine x_iadd (pc' := 95) dX8_pairs_94 rfl ?_
      refine x_istore_n (pc' := 96) dX8_pairs_95 rfl rfl (by decide) rfl (ls' := [.ref 94, .int (x1 + 0), .int x2, .int x3]) rfl ?_
      refine x_iinc (pc' := 99) (v := 1) dX8_pairs_96 rfl (by decide) rfl rfl (by decide) (ls' := [.ref 94, .int (x1 + 0), .int x2, .int (x3 + 1)]) rfl ?_
      refine x_goto (pc' := 16) dX8_pairs_99 (by decide) ?_
      exact h
    · replace h := h.2 hc
      refine x_iconst (pc' := 14) (v := 1) dX8_isThere_13 rfl (by decide) ?_
      refine x_goto (pc' := 18) dX8_isThere_14 (by decide) ?_
      refine x_iret dX8_isThere_18 rfl rfl ?_
      show X none (d + 1) mX8_pairs 32 [.ref 94, .int x1, .int x2, .int x3] [.int 1, .int x1] σ _
      refine x_if_eq (pc' := 35) (tgt := 93) dX8_pairs_32 (by decide) rfl (fun hc => absurd hc (by decide)) (fun _ => ?_)
      refine x_aload_n (pc' := 36) dX8_pairs_35 rfl rfl rfl ?_
      refine x_iload_n (pc' := 37) dX8_pairs_36 rfl rfl rfl ?_
      refine x_callV (pc' := 40) (As := [.int x3]) dX8_pairs_37 rfl lmX8_57 kd_94 rfl rfl (Nat.le_of_ble_eq_true rfl) (Nat.le_of_ble_eq_true rfl) ?_
      show X none d mX8_isThere 0 [.ref 94, .int x3] [] σ _
      refine x_aload_n (pc' := 1) dX8_isThere_0 rfl rfl rfl ?_
      refine x_getr (pc' := 4) dX8_isThere_1 rfl lfX8_7 kd_94 rfl rf_94_0 ?_
      refine x_sipush (pc' := 7) (v := 494) dX8_isThere_4 rfl (by decide) ?_
      refine x_iload_n (pc' := 8) dX8_isThere_7 rfl rfl rfl ?_
      refine x_iadd (pc' := 9) dX8_isThere_8 rfl ?_
      obtain ⟨hb, h⟩ := h
      refine x_iald (pc' := 10) dX8_isThere_9 rfl kd_95 (by rw [ln_95]; exact hb) ?_
      refine x_if_ne (pc' := 13) (tgt := 17) dX8_isThere_10 (by decide) rfl (fun hc => ?_) (fun hc => ?_)
      · replace h := h.1 hc
        refine x_iconst (pc' := 18) (v := 0) dX8_isThere_17 rfl (by decide) ?_
        refine x_iret dX8_isThere_18 rfl rfl ?_
        show X none (d + 1) mX8_pairs 40 [.ref 94, .int x1, .int x2, .int x3] [.int 0, .int x1] σ _
        refine x_if_eq (pc' := 43) (tgt := 93) dX8_pairs_40 (by decide) rfl (fun _ => ?_) (fun hc => absurd hc (by decide))
        refine x_iconst (pc' := 94) (v := 0) dX8_pairs_93 rfl (by decide) ?_
        refine x_iadd (pc' := 95) dX8_pairs_94 rfl ?_
        refine x_istore_n (pc' := 96) dX8_pairs_95 rfl rfl (by decide) rfl (ls' := [.ref 94, .int (x1 + 0), .int x2, .int x3]) rfl ?_
        refine x_iinc (pc' := 99) (v := 1) dX8_pairs_96 rfl (by decide) rfl rfl (by decide) (ls' := [.ref 94, .int (x1 + 0), .int x2, .int (x3 + 1)]) rfl ?_
        refine x_goto (pc' := 16) dX8_pairs_99 (by decide) ?_
        exact h
      · replace h := h.2 hc
        refine x_iconst (pc' := 14) (v := 1) dX8_isThere_13 rfl (by decide) ?_
        refine x_goto (pc' := 18) dX8_isThere_14 (by decide) ?_
        refine x_iret dX8_isThere_18 rfl rfl ?_
        show X none (d + 1) mX8_pairs 40 [.ref 94, .int x1, .int x2, .int x3] [.int 1, .int x1] σ _
        refine x_if_eq (pc' := 43) (tgt := 93) dX8_pairs_40 (by decide) rfl (fun hc => absurd hc (by decide)) (fun _ => ?_)
        refine x_aload_n (pc' := 44) dX8_pairs_43 rfl rfl rfl ?_
        refine x_getr (pc' := 47) dX8_pairs_44 rfl lfX8_7 kd_94 rfl rf_94_0 ?_
        refine x_sipush (pc' := 50) (v := 128) dX8_pairs_47 rfl (by decide) ?_
        refine x_iload_n (pc' := 51) dX8_pairs_50 rfl rfl rfl ?_
        refine x_iadd (pc' := 52) dX8_pairs_51 rfl ?_
        obtain ⟨hb, h⟩ := h
        refine x_iald (pc' := 53) dX8_pairs_52 rfl kd_95 (by rw [ln_95]; exact hb) ?_
        refine x_aload_n (pc' := 54) dX8_pairs_53 rfl rfl rfl ?_
        refine x_getr (pc' := 57) dX8_pairs_54 rfl lfX8_7 kd_94 rfl rf_94_0 ?_
        refine x_sipush (pc' := 60) (v := 128) dX8_pairs_57 rfl (by decide) ?_
        refine x_iload_n (pc' := 61) dX8_pairs_60 rfl rfl rfl ?_
        refine x_iadd (pc' := 62) dX8_pairs_61 rfl ?_
        obtain ⟨hb, h⟩ := h
        refine x_iald (pc' := 63) dX8_pairs_62 rfl kd_95 (by rw [ln_95]; exact hb) ?_
        refine x_icmp_ge (pc' := 66) (tgt := 93) dX8_pairs_63 (by decide) rfl (fun hc => ?_) (fun hc => ?_)
        · replace h := h.1 hc
          refine x_iconst (pc' := 94) (v := 0) dX8_pairs_93 rfl (by decide) ?_
          refine x_iadd (pc' := 95) dX8_pairs_94 rfl ?_
          refine x_istore_n (pc' := 96) dX8_pairs_95 rfl rfl (by decide) rfl (ls' := [.ref 94, .int (x1 + 0), .int x2, .int x3]) rfl ?_
          refine x_iinc (pc' := 99) (v := 1) dX8_pairs_96 rfl (by decide) rfl rfl (by decide) (ls' := [.ref 94, .int (x1 + 0), .int x2, .int (x3 + 1)]) rfl ?_
          refine x_goto (pc' := 16) dX8_pairs_99 (by decide) ?_
          exact h
        · replace h := h.2 hc
          refine x_aload_n (pc' := 67) dX8_pairs_66 rfl rfl rfl ?_
          refine x_getr (pc' := 70) dX8_pairs_67 rfl lfX8_7 kd_94 rfl rf_94_0 ?_
          refine x_sipush (pc' := 73) (v := 250) dX8_pairs_70 rfl (by decide) ?_
          refine x_iload_n (pc' := 74) dX8_pairs_73 rfl rfl rfl ?_
          refine x_iadd (pc' := 75) dX8_pairs_74 rfl ?_
          obtain ⟨hb, h⟩ := h
          refine x_iald (pc' := 76) dX8_pairs_75 rfl kd_95 (by rw [ln_95]; exact hb) ?_
          refine x_aload_n (pc' := 77) dX8_pairs_76 rfl rfl rfl ?_
          refine x_getr (pc' := 80) dX8_pairs_77 rfl lfX8_7 kd_94 rfl rf_94_0 ?_
          refine x_sipush (pc' := 83) (v := 250) dX8_pairs_80 rfl (by decide) ?_
          refine x_iload_n (pc' := 84) dX8_pairs_83 rfl rfl rfl ?_
          refine x_iadd (pc' := 85) dX8_pairs_84 rfl ?_
          obtain ⟨hb, h⟩ := h
          refine x_iald (pc' := 86) dX8_pairs_85 rfl kd_95 (by rw [ln_95]; exact hb) ?_
          refine x_icmp_ge (pc' := 89) (tgt := 93) dX8_pairs_86 (by decide) rfl (fun hc => ?_) (fun hc => ?_)
          · replace h := h.1 hc
            refine x_iconst (pc' := 94) (v := 0) dX8_pairs_93 rfl (by decide) ?_
            refine x_iadd (pc' := 95) dX8_pairs_94 rfl ?_
            refine x_istore_n (pc' := 96) dX8_pairs_95 rfl rfl (by decide) rfl (ls' := [.ref 94, .int (x1 + 0), .int x2, .int x3]) rfl ?_
            refine x_iinc (pc' := 99) (v := 1) dX8_pairs_96 rfl (by decide) rfl rfl (by decide) (ls' := [.ref 94, .int (x1 + 0), .int x2, .int (x3 + 1)]) rfl ?_
            refine x_goto (pc' := 16) dX8_pairs_99 (by decide) ?_
            exact h
          · replace h := h.2 hc
            refine x_iconst (pc' := 90) (v := 1) dX8_pairs_89 rfl (by decide) ?_
            refine x_goto (pc' := 94) dX8_pairs_90 (by decide) ?_
            refine x_iadd (pc' := 95) dX8_pairs_94 rfl ?_
            refine x_istore_n (pc' := 96) dX8_pairs_95 rfl rfl (by decide) rfl (ls' := [.ref 94, .int (x1 + 1), .int x2, .int x3]) rfl ?_
            refine x_iinc (pc' := 99) (v := 1) dX8_pairs_96 rfl (by decide) rfl rfl (by decide) (ls' := [.ref 94, .int (x1 + 1), .int x2, .int (x3 + 1)]) rfl ?_
            refine x_goto (pc' := 16) dX8_pairs_99 (by decide) ?_
            exact h
set_option maxRecDepth 100000 in
set_option maxHeartbeats 4000000 in
theorem vX8_isStair_0 {d : Nat} {σ : Mem} {Q : Option Value → Mem → Prop} {x1 : Int32} 
    (h : X none (d + 1) mX8_isStair 2 [.ref 94, .int x1, .int 0, Unk] [] σ Q) :
    X none (d + 1) mX8_isStair 0 [.ref 94, .int x1, Unk, Unk] [] σ Q := by
  refine x_iconst (pc' := 1) (v := 0) dX8_isStair_0 rfl (by decide) ?_
  refine x_istore_n (pc' := 2) dX8_isStair_1 rfl rfl (by decide) rfl (ls' := [.ref 94, .int x1, .int 0, Unk]) rfl ?_
  exact h
set_option maxRecDepth 100000 in
set_option maxHeartbeats 4000000 in
theorem vX8_isStair_2 {d : Nat} {σ : Mem} {Q : Option Value → Mem → Prop} {x1 x2 : Int32} 
    (h : (((σ.1 95 0) ≤ x2 → Q (some (.int 1)) σ) ∧ (¬ (σ.1 95 0) ≤ x2 → (vp_in (128 + x2) 7458 ∧ (vp_in (128 + x1) 7458 ∧ ((¬ (σ.1 95 (128 + x2).toNatClampNeg) = (σ.1 95 (128 + x1).toNatClampNeg) → (vp_in (494 + x2) 7458 ∧ ((¬ (σ.1 95 (494 + x2).toNatClampNeg) = 0 → X none (d + 1) mX8_isStair 2 [.ref 94, .int x1, .int (x2 + 1), Unk] [] σ Q) ∧ ((σ.1 95 (494 + x2).toNatClampNeg) = 0 → (vp_in (128 + x2) 7458 ∧ (vp_in (128 + x1) 7458 ∧ (((σ.1 95 (128 + x2).toNatClampNeg) < (σ.1 95 (128 + x1).toNatClampNeg) → X none (d + 1) mX8_isStair 2 [.ref 94, .int x1, .int (x2 + 1), Unk] [] σ Q) ∧ (¬ (σ.1 95 (128 + x2).toNatClampNeg) < (σ.1 95 (128 + x1).toNatClampNeg) → (vp_in (250 + x2) 7458 ∧ (vp_in (250 + x1) 7458 ∧ (((σ.1 95 (250 + x2).toNatClampNeg) < (σ.1 95 (250 + x1).toNatClampNeg) → X none (d + 1) mX8_isStair 2 [.ref 94, .int x1, .int (x2 + 1), Unk] [] σ Q) ∧ (¬ (σ.1 95 (250 + x2).toNatClampNeg) < (σ.1 95 (250 + x1).toNatClampNeg) → Q (some (.int 0)) σ)))))))))))) ∧ ((σ.1 95 (128 + x2).toNatClampNeg) = (σ.1 95 (128 + x1).toNatClampNeg) → (vp_in (250 + x2) 7458 ∧ (vp_in (250 + x1) 7458 ∧ ((¬ (σ.1 95 (250 + x2).toNatClampNeg) = (σ.1 95 (250 + x1).toNatClampNeg) → (vp_in (494 + x2) 7458 ∧ ((¬ (σ.1 95 (494 + x2).toNatClampNeg) = 0 → X none (d + 1) mX8_isStair 2 [.ref 94, .int x1, .int (x2 + 1), Unk] [] σ Q) ∧ ((σ.1 95 (494 + x2).toNatClampNeg) = 0 → (vp_in (128 + x2) 7458 ∧ (vp_in (128 + x1) 7458 ∧ (((σ.1 95 (128 + x2).toNatClampNeg) < (σ.1 95 (128 + x1).toNatClampNeg) → X none (d + 1) mX8_isStair 2 [.ref 94, .int x1, .int (x2 + 1), Unk] [] σ Q) ∧ (¬ (σ.1 95 (128 + x2).toNatClampNeg) < (σ.1 95 (128 + x1).toNatClampNeg) → (vp_in (250 + x2) 7458 ∧ (vp_in (250 + x1) 7458 ∧ (((σ.1 95 (250 + x2).toNatClampNeg) < (σ.1 95 (250 + x1).toNatClampNeg) → X none (d + 1) mX8_isStair 2 [.ref 94, .int x1, .int (x2 + 1), Unk] [] σ Q) ∧ (¬ (σ.1 95 (250 + x2).toNatClampNeg) < (σ.1 95 (250 + x1).toNatClampNeg) → Q (some (.int 0)) σ)))))))))))) ∧ ((σ.1 95 (250 + x2).toNatClampNeg) = (σ.1 95 (250 + x1).toNatClampNeg) → (vp_in (494 + x2) 7458 ∧ ((¬ (σ.1 95 (494 + x2).toNatClampNeg) = 0 → X none (d + 1) mX8_isStair 2 [.ref 94, .int x1, .int (x2 + 1), Unk] [] σ Q) ∧ ((σ.1 95 (494 + x2).toNatClampNeg) = 0 → X none (d + 1) mX8_isStair 2 [.ref 94, .int x1, .int (x2 + 1), Unk] [] σ Q)))))))))))))) :
    X none (d + 1) mX8_isStair 2 [.ref 94, .int x1, .int x2, Unk] [] σ Q := by
  refine x_iload_n (pc' := 3) dX8_isStair_2 rfl rfl rfl ?_
  refine x_aload_n (pc' := 4) dX8_isStair_3 rfl rfl rfl ?_
  refine x_getr (pc' := 7) dX8_isStair_4 rfl lfX8_7 kd_94 rfl rf_94_0 ?_
  refine x_iconst (pc' := 8) (v := 0) dX8_isStair_7 rfl (by decide) ?_
  refine x_iald (pc' := 9) dX8_isStair_8 rfl kd_95 (by rw [ln_95]; unfold vp_in; decide) ?_
  show X none (d + 1) mX8_isStair 9 [.ref 94, .int x1, .int x2, Unk] [.int (σ.1 95 0), .int x2] σ _
  refine x_icmp_ge (pc' := 12) (tgt := 130) dX8_isStair_9 (by decide) rfl (fun hc => ?_) (fun hc => ?_)
  · replace h := h.1 hc
    refine x_iconst (pc' := 131) (v := 1) dX8_isStair_130 rfl (by decide) ?_
    exact x_iret dX8_isStair_131 rfl rfl h
  · replace h := h.2 hc
    refine x_aload_n (pc' := 13) dX8_isStair_12 rfl rfl rfl ?_
    refine x_getr (pc' := 16) dX8_isStair_13 rfl lfX8_7 kd_94 rfl rf_94_0 ?_
    refine x_sipush (pc' := 19) (v := 128) dX8_isStair_16 rfl (by decide) ?_
    refine x_iload_n (pc' := 20) dX8_isStair_19 rfl rfl rfl ?_
    refine x_iadd (pc' := 21) dX8_isStair_20 rfl ?_
    obtain ⟨hb, h⟩ := h
    refine x_iald (pc' := 22) dX8_isStair_21 rfl kd_95 (by rw [ln_95]; exact hb) ?_
    refine x_aload_n (pc' := 23) dX8_isStair_22 rfl rfl rfl ?_
    refine x_getr (pc' := 26) dX8_isStair_23 rfl lfX8_7 kd_94 rfl rf_94_0 ?_
    refine x_sipush (pc' := 29) (v := 128) dX8_isStair_26 rfl (by decide) ?_
    refine x_iload_n (pc' := 30) dX8_isStair_29 rfl rfl rfl ?_
    refine x_iadd (pc' := 31) dX8_isStair_30 rfl ?_
    obtain ⟨hb, h⟩ := h
    refine x_iald (pc' := 32) dX8_isStair_31 rfl kd_95 (by rw [ln_95]; exact hb) ?_
    refine x_icmp_ne (pc' := 35) (tgt := 62) dX8_isStair_32 (by decide) rfl (fun hc => ?_) (fun hc => ?_)
    · replace h := h.1 hc
      refine x_iconst (pc' := 63) (v := 0) dX8_isStair_62 rfl (by decide) ?_
      refine x_istore_n (pc' := 64) dX8_isStair_63 rfl rfl (by decide) rfl (ls' := [.ref 94, .int x1, .int x2, .int 0]) rfl ?_
      refine x_aload_n (pc' := 65) dX8_isStair_64 rfl rfl rfl ?_
      refine x_iload_n (pc' := 66) dX8_isStair_65 rfl rfl rfl ?_
      refine x_callV (pc' := 69) (As := [.int x2]) dX8_isStair_66 rfl lmX8_57 kd_94 rfl rfl (Nat.le_of_ble_eq_true rfl) (Nat.le_of_ble_eq_true rfl) ?_
      show X none d mX8_isThere 0 [.ref 94, .int x2] [] σ _
      refine x_aload_n (pc' := 1) dX8_isThere_0 rfl rfl rfl ?_
      refine x_getr (pc' := 4) dX8_isThere_1 rfl lfX8_7 kd_94 rfl rf_94_0 ?_
      refine x_sipush (pc' := 7) (v := 494) dX8_isThere_4 rfl (by decide) ?_
      refine x_iload_n (pc' := 8) dX8_isThere_7 rfl rfl rfl ?_
      refine x_iadd (pc' := 9) dX8_isThere_8 rfl ?_
      obtain ⟨hb, h⟩ := h
      refine x_iald (pc' := 10) dX8_isThere_9 rfl kd_95 (by rw [ln_95]; exact hb) ?_
      refine x_if_ne (pc' := 13) (tgt := 17) dX8_isThere_10 (by decide) rfl (fun hc => ?_) (fun hc => ?_)
      · replace h := h.1 hc
        refine x_iconst (pc' := 18) (v := 0) dX8_isThere_17 rfl (by decide) ?_
        refine x_iret dX8_isThere_18 rfl rfl ?_
        show X none (d + 1) mX8_isStair 69 [.ref 94, .int x1, .int x2, .int 0] [.int 0] σ _
        refine x_if_eq (pc' := 72) (tgt := 124) dX8_isStair_69 (by decide) rfl (fun _ => ?_) (fun hc => absurd hc (by decide))
        refine x_iinc (pc' := 127) (v := 1) dX8_isStair_124 rfl (by decide) rfl rfl (by decide) (ls' := [.ref 94, .int x1, .int (x2 + 1), .int 0]) rfl ?_
        refine x_goto (pc' := 2) dX8_isStair_127 (by decide) ?_
        refine x_forget 3 (ls' := [.ref 94, .int x1, .int (x2 + 1), Unk]) rfl ?_
        exact h
      · replace h := h.2 hc
        refine x_iconst (pc' := 14) (v := 1) dX8_isThere_13 rfl (by decide) ?_
        refine x_goto (pc' := 18) dX8_isThere_14 (by decide) ?_
        refine x_iret dX8_isThere_18 rfl rfl ?_
        show X none (d + 1) mX8_isStair 69 [.ref 94, .int x1, .int x2, .int 0] [.int 1] σ _
        refine x_if_eq (pc' := 72) (tgt := 124) dX8_isStair_69 (by decide) rfl (fun hc => absurd hc (by decide)) (fun _ => ?_)
        refine x_iload_n (pc' := 73) dX8_isStair_72 rfl rfl rfl ?_
        refine x_if_ne (pc' := 76) (tgt := 124) dX8_isStair_73 (by decide) rfl (fun hc => absurd hc (by decide)) (fun _ => ?_)
        refine x_aload_n (pc' := 77) dX8_isStair_76 rfl rfl rfl ?_
        refine x_getr (pc' := 80) dX8_isStair_77 rfl lfX8_7 kd_94 rfl rf_94_0 ?_
        refine x_sipush (pc' := 83) (v := 128) dX8_isStair_80 rfl (by decide) ?_
        refine x_iload_n (pc' := 84) dX8_isStair_83 rfl rfl rfl ?_
        refine x_iadd (pc' := 85) dX8_isStair_84 rfl ?_
        obtain ⟨hb, h⟩ := h
        refine x_iald (pc' := 86) dX8_isStair_85 rfl kd_95 (by rw [ln_95]; exact hb) ?_
        refine x_aload_n (pc' := 87) dX8_isStair_86 rfl rfl rfl ?_
        refine x_getr (pc' := 90) dX8_isStair_87 rfl lfX8_7 kd_94 rfl rf_94_0 ?_
        refine x_sipush (pc' := 93) (v := 128) dX8_isStair_90 rfl (by decide) ?_
        refine x_iload_n (pc' := 94) dX8_isStair_93 rfl rfl rfl ?_
        refine x_iadd (pc' := 95) dX8_isStair_94 rfl ?_
        obtain ⟨hb, h⟩ := h
        refine x_iald (pc' := 96) dX8_isStair_95 rfl kd_95 (by rw [ln_95]; exact hb) ?_
        refine x_icmp_lt (pc' := 99) (tgt := 124) dX8_isStair_96 (by decide) rfl (fun hc => ?_) (fun hc => ?_)
        · replace h := h.1 hc
          refine x_iinc (pc' := 127) (v := 1) dX8_isStair_124 rfl (by decide) rfl rfl (by decide) (ls' := [.ref 94, .int x1, .int (x2 + 1), .int 0]) rfl ?_
          refine x_goto (pc' := 2) dX8_isStair_127 (by decide) ?_
          refine x_forget 3 (ls' := [.ref 94, .int x1, .int (x2 + 1), Unk]) rfl ?_
          exact h
        · replace h := h.2 hc
          refine x_aload_n (pc' := 100) dX8_isStair_99 rfl rfl rfl ?_
          refine x_getr (pc' := 103) dX8_isStair_100 rfl lfX8_7 kd_94 rfl rf_94_0 ?_
          refine x_sipush (pc' := 106) (v := 250) dX8_isStair_103 rfl (by decide) ?_
          refine x_iload_n (pc' := 107) dX8_isStair_106 rfl rfl rfl ?_
          refine x_iadd (pc' := 108) dX8_isStair_107 rfl ?_
          obtain ⟨hb, h⟩ := h
          refine x_iald (pc' := 109) dX8_isStair_108 rfl kd_95 (by rw [ln_95]; exact hb) ?_
          refine x_aload_n (pc' := 110) dX8_isStair_109 rfl rfl rfl ?_
          refine x_getr (pc' := 113) dX8_isStair_110 rfl lfX8_7 kd_94 rfl rf_94_0 ?_
          refine x_sipush (pc' := 116) (v := 250) dX8_isStair_113 rfl (by decide) ?_
          refine x_iload_n (pc' := 117) dX8_isStair_116 rfl rfl rfl ?_
          refine x_iadd (pc' := 118) dX8_isStair_117 rfl ?_
          obtain ⟨hb, h⟩ := h
          refine x_iald (pc' := 119) dX8_isStair_118 rfl kd_95 (by rw [ln_95]; exact hb) ?_
          refine x_icmp_lt (pc' := 122) (tgt := 124) dX8_isStair_119 (by decide) rfl (fun hc => ?_) (fun hc => ?_)
          · replace h := h.1 hc
            refine x_iinc (pc' := 127) (v := 1) dX8_isStair_124 rfl (by decide) rfl rfl (by decide) (ls' := [.ref 94, .int x1, .int (x2 + 1), .int 0]) rfl ?_
            refine x_goto (pc' := 2) dX8_isStair_127 (by decide) ?_
            refine x_forget 3 (ls' := [.ref 94, .int x1, .int (x2 + 1), Unk]) rfl ?_
            exact h
          · replace h := h.2 hc
            refine x_iconst (pc' := 123) (v := 0) dX8_isStair_122 rfl (by decide) ?_
            exact x_iret dX8_isStair_123 rfl rfl h
    · replace h := h.2 hc
      refine x_aload_n (pc' := 36) dX8_isStair_35 rfl rfl rfl ?_
      refine x_getr (pc' := 39) dX8_isStair_36 rfl lfX8_7 kd_94 rfl rf_94_0 ?_
      refine x_sipush (pc' := 42) (v := 250) dX8_isStair_39 rfl (by decide) ?_
      refine x_iload_n (pc' := 43) dX8_isStair_42 rfl rfl rfl ?_
      refine x_iadd (pc' := 44) dX8_isStair_43 rfl ?_
      obtain ⟨hb, h⟩ := h
      refine x_iald (pc' := 45) dX8_isStair_44 rfl kd_95 (by rw [ln_95]; exact hb) ?_
      refine x_aload_n (pc' := 46) dX8_isStair_45 rfl rfl rfl ?_
      refine x_getr (pc' := 49) dX8_isStair_46 rfl lfX8_7 kd_94 rfl rf_94_0 ?_
      refine x_sipush (pc' := 52) (v := 250) dX8_isStair_49 rfl (by decide) ?_
      refine x_iload_n (pc' := 53) dX8_isStair_52 rfl rfl rfl ?_
      refine x_iadd (pc' := 54) dX8_isStair_53 rfl ?_
      obtain ⟨hb, h⟩ := h
      refine x_iald (pc' := 55) dX8_isStair_54 rfl kd_95 (by rw [ln_95]; exact hb) ?_
      refine x_icmp_ne (pc' := 58) (tgt := 62) dX8_isStair_55 (by decide) rfl (fun hc => ?_) (fun hc => ?_)
      · replace h := h.1 hc
        refine x_iconst (pc' := 63) (v := 0) dX8_isStair_62 rfl (by decide) ?_
        refine x_istore_n (pc' := 64) dX8_isStair_63 rfl rfl (by decide) rfl (ls' := [.ref 94, .int x1, .int x2, .int 0]) rfl ?_
        refine x_aload_n (pc' := 65) dX8_isStair_64 rfl rfl rfl ?_
        refine x_iload_n (pc' := 66) dX8_isStair_65 rfl rfl rfl ?_
        refine x_callV (pc' := 69) (As := [.int x2]) dX8_isStair_66 rfl lmX8_57 kd_94 rfl rfl (Nat.le_of_ble_eq_true rfl) (Nat.le_of_ble_eq_true rfl) ?_
        show X none d mX8_isThere 0 [.ref 94, .int x2] [] σ _
        refine x_aload_n (pc' := 1) dX8_isThere_0 rfl rfl rfl ?_
        refine x_getr (pc' := 4) dX8_isThere_1 rfl lfX8_7 kd_94 rfl rf_94_0 ?_
        refine x_sipush (pc' := 7) (v := 494) dX8_isThere_4 rfl (by decide) ?_
        refine x_iload_n (pc' := 8) dX8_isThere_7 rfl rfl rfl ?_
        refine x_iadd (pc' := 9) dX8_isThere_8 rfl ?_
        obtain ⟨hb, h⟩ := h
        refine x_iald (pc' := 10) dX8_isThere_9 rfl kd_95 (by rw [ln_95]; exact hb) ?_
        refine x_if_ne (pc' := 13) (tgt := 17) dX8_isThere_10 (by decide) rfl (fun hc => ?_) (fun hc => ?_)
        · replace h := h.1 hc
          refine x_iconst (pc' := 18) (v := 0) dX8_isThere_17 rfl (by decide) ?_
          refine x_iret dX8_isThere_18 rfl rfl ?_
          show X none (d + 1) mX8_isStair 69 [.ref 94, .int x1, .int x2, .int 0] [.int 0] σ _
          refine x_if_eq (pc' := 72) (tgt := 124) dX8_isStair_69 (by decide) rfl (fun _ => ?_) (fun hc => absurd hc (by decide))
          refine x_iinc (pc' := 127) (v := 1) dX8_isStair_124 rfl (by decide) rfl rfl (by decide) (ls' := [.ref 94, .int x1, .int (x2 + 1), .int 0]) rfl ?_
          refine x_goto (pc' := 2) dX8_isStair_127 (by decide) ?_
          refine x_forget 3 (ls' := [.ref 94, .int x1, .int (x2 + 1), Unk]) rfl ?_
          exact h
        · replace h := h.2 hc
          refine x_iconst (pc' := 14) (v := 1) dX8_isThere_13 rfl (by decide) ?_
          refine x_goto (pc' := 18) dX8_isThere_14 (by decide) ?_
          refine x_iret dX8_isThere_18 rfl rfl ?_
          show X none (d + 1) mX8_isStair 69 [.ref 94, .int x1, .int x2, .int 0] [.int 1] σ _
          refine x_if_eq (pc' := 72) (tgt := 124) dX8_isStair_69 (by decide) rfl (fun hc => absurd hc (by decide)) (fun _ => ?_)
          refine x_iload_n (pc' := 73) dX8_isStair_72 rfl rfl rfl ?_
          refine x_if_ne (pc' := 76) (tgt := 124) dX8_isStair_73 (by decide) rfl (fun hc => absurd hc (by decide)) (fun _ => ?_)
          refine x_aload_n (pc' := 77) dX8_isStair_76 rfl rfl rfl ?_
          refine x_getr (pc' := 80) dX8_isStair_77 rfl lfX8_7 kd_94 rfl rf_94_0 ?_
          refine x_sipush (pc' := 83) (v := 128) dX8_isStair_80 rfl (by decide) ?_
          refine x_iload_n (pc' := 84) dX8_isStair_83 rfl rfl rfl ?_
          refine x_iadd (pc' := 85) dX8_isStair_84 rfl ?_
          obtain ⟨hb, h⟩ := h
          refine x_iald (pc' := 86) dX8_isStair_85 rfl kd_95 (by rw [ln_95]; exact hb) ?_
          refine x_aload_n (pc' := 87) dX8_isStair_86 rfl rfl rfl ?_
          refine x_getr (pc' := 90) dX8_isStair_87 rfl lfX8_7 kd_94 rfl rf_94_0 ?_
          refine x_sipush (pc' := 93) (v := 128) dX8_isStair_90 rfl (by decide) ?_
          refine x_iload_n (pc' := 94) dX8_isStair_93 rfl rfl rfl ?_
          refine x_iadd (pc' := 95) dX8_isStair_94 rfl ?_
          obtain ⟨hb, h⟩ := h
          refine x_iald (pc' := 96) dX8_isStair_95 rfl kd_95 (by rw [ln_95]; exact hb) ?_
          refine x_icmp_lt (pc' := 99) (tgt := 124) dX8_isStair_96 (by decide) rfl (fun hc => ?_) (fun hc => ?_)
          · replace h := h.1 hc
            refine x_iinc (pc' := 127) (v := 1) dX8_isStair_124 rfl (by decide) rfl rfl (by decide) (ls' := [.ref 94, .int x1, .int (x2 + 1), .int 0]) rfl ?_
            refine x_goto (pc' := 2) dX8_isStair_127 (by decide) ?_
            refine x_forget 3 (ls' := [.ref 94, .int x1, .int (x2 + 1), Unk]) rfl ?_
            exact h
          · replace h := h.2 hc
            refine x_aload_n (pc' := 100) dX8_isStair_99 rfl rfl rfl ?_
            refine x_getr (pc' := 103) dX8_isStair_100 rfl lfX8_7 kd_94 rfl rf_94_0 ?_
            refine x_sipush (pc' := 106) (v := 250) dX8_isStair_103 rfl (by decide) ?_
            refine x_iload_n (pc' := 107) dX8_isStair_106 rfl rfl rfl ?_
            refine x_iadd (pc' := 108) dX8_isStair_107 rfl ?_
            obtain ⟨hb, h⟩ := h
            refine x_iald (pc' := 109) dX8_isStair_108 rfl kd_95 (by rw [ln_95]; exact hb) ?_
            refine x_aload_n (pc' := 110) dX8_isStair_109 rfl rfl rfl ?_
            refine x_getr (pc' := 113) dX8_isStair_110 rfl lfX8_7 kd_94 rfl rf_94_0 ?_
            refine x_sipush (pc' := 116) (v := 250) dX8_isStair_113 rfl (by decide) ?_
            refine x_iload_n (pc' := 117) dX8_isStair_116 rfl rfl rfl ?_
            refine x_iadd (pc' := 118) dX8_isStair_117 rfl ?_
            obtain ⟨hb, h⟩ := h
            refine x_iald (pc' := 119) dX8_isStair_118 rfl kd_95 (by rw [ln_95]; exact hb) ?_
            refine x_icmp_lt (pc' := 122) (tgt := 124) dX8_isStair_119 (by decide) rfl (fun hc => ?_) (fun hc => ?_)
            · replace h := h.1 hc
              refine x_iinc (pc' := 127) (v := 1) dX8_isStair_124 rfl (by decide) rfl rfl (by decide) (ls' := [.ref 94, .int x1, .int (x2 + 1), .int 0]) rfl ?_
              refine x_goto (pc' := 2) dX8_isStair_127 (by decide) ?_
              refine x_forget 3 (ls' := [.ref 94, .int x1, .int (x2 + 1), Unk]) rfl ?_
              exact h
            · replace h := h.2 hc
              refine x_iconst (pc' := 123) (v := 0) dX8_isStair_122 rfl (by decide) ?_
              exact x_iret dX8_isStair_123 rfl rfl h
      · replace h := h.2 hc
        refine x_iconst (pc' := 59) (v := 1) dX8_isStair_58 rfl (by decide) ?_
        refine x_goto (pc' := 63) dX8_isStair_59 (by decide) ?_
        refine x_istore_n (pc' := 64) dX8_isStair_63 rfl rfl (by decide) rfl (ls' := [.ref 94, .int x1, .int x2, .int 1]) rfl ?_
        refine x_aload_n (pc' := 65) dX8_isStair_64 rfl rfl rfl ?_
        refine x_iload_n (pc' := 66) dX8_isStair_65 rfl rfl rfl ?_
        refine x_callV (pc' := 69) (As := [.int x2]) dX8_isStair_66 rfl lmX8_57 kd_94 rfl rfl (Nat.le_of_ble_eq_true rfl) (Nat.le_of_ble_eq_true rfl) ?_
        show X none d mX8_isThere 0 [.ref 94, .int x2] [] σ _
        refine x_aload_n (pc' := 1) dX8_isThere_0 rfl rfl rfl ?_
        refine x_getr (pc' := 4) dX8_isThere_1 rfl lfX8_7 kd_94 rfl rf_94_0 ?_
        refine x_sipush (pc' := 7) (v := 494) dX8_isThere_4 rfl (by decide) ?_
        refine x_iload_n (pc' := 8) dX8_isThere_7 rfl rfl rfl ?_
        refine x_iadd (pc' := 9) dX8_isThere_8 rfl ?_
        obtain ⟨hb, h⟩ := h
        refine x_iald (pc' := 10) dX8_isThere_9 rfl kd_95 (by rw [ln_95]; exact hb) ?_
        refine x_if_ne (pc' := 13) (tgt := 17) dX8_isThere_10 (by decide) rfl (fun hc => ?_) (fun hc => ?_)
        · replace h := h.1 hc
          refine x_iconst (pc' := 18) (v := 0) dX8_isThere_17 rfl (by decide) ?_
          refine x_iret dX8_isThere_18 rfl rfl ?_
          show X none (d + 1) mX8_isStair 69 [.ref 94, .int x1, .int x2, .int 1] [.int 0] σ _
          refine x_if_eq (pc' := 72) (tgt := 124) dX8_isStair_69 (by decide) rfl (fun _ => ?_) (fun hc => absurd hc (by decide))
          refine x_iinc (pc' := 127) (v := 1) dX8_isStair_124 rfl (by decide) rfl rfl (by decide) (ls' := [.ref 94, .int x1, .int (x2 + 1), .int 1]) rfl ?_
          refine x_goto (pc' := 2) dX8_isStair_127 (by decide) ?_
          refine x_forget 3 (ls' := [.ref 94, .int x1, .int (x2 + 1), Unk]) rfl ?_
          exact h
        · replace h := h.2 hc
          refine x_iconst (pc' := 14) (v := 1) dX8_isThere_13 rfl (by decide) ?_
          refine x_goto (pc' := 18) dX8_isThere_14 (by decide) ?_
          refine x_iret dX8_isThere_18 rfl rfl ?_
          show X none (d + 1) mX8_isStair 69 [.ref 94, .int x1, .int x2, .int 1] [.int 1] σ _
          refine x_if_eq (pc' := 72) (tgt := 124) dX8_isStair_69 (by decide) rfl (fun hc => absurd hc (by decide)) (fun _ => ?_)
          refine x_iload_n (pc' := 73) dX8_isStair_72 rfl rfl rfl ?_
          refine x_if_ne (pc' := 76) (tgt := 124) dX8_isStair_73 (by decide) rfl (fun _ => ?_) (fun hc => absurd hc (by decide))
          refine x_iinc (pc' := 127) (v := 1) dX8_isStair_124 rfl (by decide) rfl rfl (by decide) (ls' := [.ref 94, .int x1, .int (x2 + 1), .int 1]) rfl ?_
          refine x_goto (pc' := 2) dX8_isStair_127 (by decide) ?_
          refine x_forget 3 (ls' := [.ref 94, .int x1, .int (x2 + 1), Unk]) rfl ?_
          exact h
set_option maxRecDepth 100000 in
set_option maxHeartbeats 4000000 in
theorem vX8_stair_0 {d : Nat} {σ : Mem} {Q : Option Value → Mem → Prop} {x1 : Int32} 
    (h : (((-1) ≤ x1 → (∀ τ1 : Mem, τ1 = (w1 σ 94 12 0) → X none (d + 2) mX8_stair 17 [.ref 94, .int x1, .int 0] [] τ1 Q)) ∧ (¬ (-1) ≤ x1 → ((∀ τ2 : Mem, τ2 = (w1 σ 99 0 ((σ.1 99 0) + 1)) → Q (some (.int (-2000000002))) τ2))))) :
    X none (d + 2) mX8_stair 0 [.ref 94, .int x1, Unk] [] σ Q := by
  refine x_iload_n (pc' := 1) dX8_stair_0 rfl rfl rfl ?_
  refine x_iconst (pc' := 2) (v := (-1)) dX8_stair_1 rfl (by decide) ?_
  refine x_icmp_ge (pc' := 5) (tgt := 10) dX8_stair_2 (by decide) rfl (fun hc => ?_) (fun hc => ?_)
  · replace h := h.1 hc
    refine x_aload_n (pc' := 11) dX8_stair_10 rfl rfl rfl ?_
    refine x_iconst (pc' := 12) (v := 0) dX8_stair_11 rfl (by decide) ?_
    refine x_puti (pc' := 15) dX8_stair_12 rfl lfX8_113 kd_94 rfl rfl rfl ?_
    obtain ⟨τ1, eτ1⟩ : ∃ τ : Mem, τ = (w1 σ 94 12 0) := ⟨_, rfl⟩
    show X none (d + 2) mX8_stair 15 [.ref 94, .int x1, Unk] [] (w1 σ 94 12 0) _
    rw [← eτ1]
    replace h := h τ1 eτ1
    refine x_iconst (pc' := 16) (v := 0) dX8_stair_15 rfl (by decide) ?_
    refine x_istore_n (pc' := 17) dX8_stair_16 rfl rfl (by decide) rfl (ls' := [.ref 94, .int x1, .int 0]) rfl ?_
    exact h
  · replace h := h.2 hc
    refine x_aload_n (pc' := 6) dX8_stair_5 rfl rfl rfl ?_
    refine x_callV (pc' := 9) (As := []) dX8_stair_6 rfl lmX8_81 kd_94 rfl rfl (Nat.le_of_ble_eq_true rfl) (Nat.le_of_ble_eq_true rfl) ?_
    show X none (d + 1) mX8_bad 0 [.ref 94] [] σ _
    refine x_aload_n (pc' := 1) dX8_bad_0 rfl rfl rfl ?_
    refine x_getr (pc' := 4) dX8_bad_1 rfl lfX8_30 kd_94 rfl rf_94_9 ?_
    refine x_iconst (pc' := 5) (v := 0) dX8_bad_4 rfl (by decide) ?_
    refine x_dup2 (pc' := 6) dX8_bad_5 rfl rfl rfl ?_
    refine x_iald (pc' := 7) dX8_bad_6 rfl kd_99 (by rw [ln_99]; unfold vp_in; decide) ?_
    show X none (d + 1) mX8_bad 7 [.ref 94] [.int (σ.1 99 0), .int 0, .ref 99] σ _
    refine x_iconst (pc' := 8) (v := 1) dX8_bad_7 rfl (by decide) ?_
    refine x_iadd (pc' := 9) dX8_bad_8 rfl ?_
    refine x_iast (pc' := 10) dX8_bad_9 rfl kd_99 (by rw [ln_99]; unfold vp_in; decide) ?_
    obtain ⟨τ2, eτ2⟩ : ∃ τ : Mem, τ = (w1 σ 99 0 ((σ.1 99 0) + 1)) := ⟨_, rfl⟩
    show X none (d + 1) mX8_bad 10 [.ref 94] [] (w1 σ 99 0 ((σ.1 99 0) + 1)) _
    rw [← eτ2]
    replace h := h τ2 eτ2
    refine x_ldc (pc' := 12) dX8_bad_10 rfl lcX8_42 ?_
    refine x_iret dX8_bad_12 rfl rfl ?_
    show X none (d + 2) mX8_stair 9 [.ref 94, .int x1, Unk] [.int (-2000000002)] τ2 _
    exact x_iret dX8_stair_9 rfl rfl h
set_option maxRecDepth 100000 in
set_option maxHeartbeats 4000000 in
theorem vX8_stair_17 {d : Nat} {σ : Mem} {Q : Option Value → Mem → Prop} {x1 x2 : Int32} 
    (h : (((σ.1 95 0) ≤ x2 → ((¬ x1 = (-1) → (((σ.1 94 12) ≤ x1 → Q (some (.int (-2000000001))) σ) ∧ (¬ (σ.1 94 12) ≤ x1 → (vp_in x1 60 ∧ (vp_in (6 + (σ.1 100 x1.toNatClampNeg)) 7458 ∧ Q (some (.int (σ.1 95 (6 + (σ.1 100 x1.toNatClampNeg)).toNatClampNeg))) σ))))) ∧ (x1 = (-1) → Q (some (.int (σ.1 94 12))) σ))) ∧ (¬ (σ.1 95 0) ≤ x2 → (vp_in (494 + x2) 7458 ∧ ((¬ (σ.1 95 (494 + x2).toNatClampNeg) = 0 → X none (d + 2) mX8_stair 17 [.ref 94, .int x1, .int (x2 + 1)] [] σ Q) ∧ ((σ.1 95 (494 + x2).toNatClampNeg) = 0 → (X none (d + 1) mX8_isStair 0 [.ref 94, .int x2, Unk, Unk] [] σ (fun r τ1 => ∃ u2 : Int32, r = some (.int u2) ∧ ((u2 = 0 → X none (d + 2) mX8_stair 17 [.ref 94, .int x1, .int (x2 + 1)] [] τ1 Q) ∧ (¬ u2 = 0 → (X none (d + 1) mX8_insert 0 [.ref 94, .int x2, Unk] [] τ1 (fun r τ3 => r = none ∧ X none (d + 2) mX8_stair 17 [.ref 94, .int x1, .int (x2 + 1)] [] τ3 Q)))))))))))) :
    X none (d + 2) mX8_stair 17 [.ref 94, .int x1, .int x2] [] σ Q := by
  refine x_iload_n (pc' := 18) dX8_stair_17 rfl rfl rfl ?_
  refine x_aload_n (pc' := 19) dX8_stair_18 rfl rfl rfl ?_
  refine x_getr (pc' := 22) dX8_stair_19 rfl lfX8_7 kd_94 rfl rf_94_0 ?_
  refine x_iconst (pc' := 23) (v := 0) dX8_stair_22 rfl (by decide) ?_
  refine x_iald (pc' := 24) dX8_stair_23 rfl kd_95 (by rw [ln_95]; unfold vp_in; decide) ?_
  show X none (d + 2) mX8_stair 24 [.ref 94, .int x1, .int x2] [.int (σ.1 95 0), .int x2] σ _
  refine x_icmp_ge (pc' := 27) (tgt := 54) dX8_stair_24 (by decide) rfl (fun hc => ?_) (fun hc => ?_)
  · replace h := h.1 hc
    refine x_iload_n (pc' := 55) dX8_stair_54 rfl rfl rfl ?_
    refine x_iconst (pc' := 56) (v := (-1)) dX8_stair_55 rfl (by decide) ?_
    refine x_icmp_ne (pc' := 59) (tgt := 66) dX8_stair_56 (by decide) rfl (fun hc => ?_) (fun hc => ?_)
    · replace h := h.1 hc
      refine x_iload_n (pc' := 67) dX8_stair_66 rfl rfl rfl ?_
      refine x_aload_n (pc' := 68) dX8_stair_67 rfl rfl rfl ?_
      refine x_geti (pc' := 71) dX8_stair_68 rfl lfX8_113 kd_94 rfl ?_
      refine x_icmp_ge (pc' := 74) (tgt := 91) dX8_stair_71 (by decide) rfl (fun hc => ?_) (fun hc => ?_)
      · replace h := h.1 hc
        refine x_ldc (pc' := 93) dX8_stair_91 rfl lcX8_152 ?_
        exact x_iret dX8_stair_93 rfl rfl h
      · replace h := h.2 hc
        refine x_aload_n (pc' := 75) dX8_stair_74 rfl rfl rfl ?_
        refine x_getr (pc' := 78) dX8_stair_75 rfl lfX8_7 kd_94 rfl rf_94_0 ?_
        refine x_bipush (pc' := 80) (v := 6) dX8_stair_78 rfl (by decide) ?_
        refine x_aload_n (pc' := 81) dX8_stair_80 rfl rfl rfl ?_
        refine x_getr (pc' := 84) dX8_stair_81 rfl lfX8_33 kd_94 rfl rf_94_11 ?_
        refine x_iload_n (pc' := 85) dX8_stair_84 rfl rfl rfl ?_
        obtain ⟨hb, h⟩ := h
        refine x_iald (pc' := 86) dX8_stair_85 rfl kd_100 (by rw [ln_100]; exact hb) ?_
        refine x_iadd (pc' := 87) dX8_stair_86 rfl ?_
        obtain ⟨hb, h⟩ := h
        refine x_iald (pc' := 88) dX8_stair_87 rfl kd_95 (by rw [ln_95]; exact hb) ?_
        refine x_goto (pc' := 93) dX8_stair_88 (by decide) ?_
        exact x_iret dX8_stair_93 rfl rfl h
    · replace h := h.2 hc
      refine x_aload_n (pc' := 60) dX8_stair_59 rfl rfl rfl ?_
      refine x_geti (pc' := 63) dX8_stair_60 rfl lfX8_113 kd_94 rfl ?_
      refine x_goto (pc' := 93) dX8_stair_63 (by decide) ?_
      exact x_iret dX8_stair_93 rfl rfl h
  · replace h := h.2 hc
    refine x_aload_n (pc' := 28) dX8_stair_27 rfl rfl rfl ?_
    refine x_iload_n (pc' := 29) dX8_stair_28 rfl rfl rfl ?_
    refine x_callV (pc' := 32) (As := [.int x2]) dX8_stair_29 rfl lmX8_57 kd_94 rfl rfl (Nat.le_of_ble_eq_true rfl) (Nat.le_of_ble_eq_true rfl) ?_
    show X none (d + 1) mX8_isThere 0 [.ref 94, .int x2] [] σ _
    refine x_aload_n (pc' := 1) dX8_isThere_0 rfl rfl rfl ?_
    refine x_getr (pc' := 4) dX8_isThere_1 rfl lfX8_7 kd_94 rfl rf_94_0 ?_
    refine x_sipush (pc' := 7) (v := 494) dX8_isThere_4 rfl (by decide) ?_
    refine x_iload_n (pc' := 8) dX8_isThere_7 rfl rfl rfl ?_
    refine x_iadd (pc' := 9) dX8_isThere_8 rfl ?_
    obtain ⟨hb, h⟩ := h
    refine x_iald (pc' := 10) dX8_isThere_9 rfl kd_95 (by rw [ln_95]; exact hb) ?_
    refine x_if_ne (pc' := 13) (tgt := 17) dX8_isThere_10 (by decide) rfl (fun hc => ?_) (fun hc => ?_)
    · replace h := h.1 hc
      refine x_iconst (pc' := 18) (v := 0) dX8_isThere_17 rfl (by decide) ?_
      refine x_iret dX8_isThere_18 rfl rfl ?_
      show X none (d + 2) mX8_stair 32 [.ref 94, .int x1, .int x2] [.int 0] σ _
      refine x_if_eq (pc' := 35) (tgt := 48) dX8_stair_32 (by decide) rfl (fun _ => ?_) (fun hc => absurd hc (by decide))
      refine x_iinc (pc' := 51) (v := 1) dX8_stair_48 rfl (by decide) rfl rfl (by decide) (ls' := [.ref 94, .int x1, .int (x2 + 1)]) rfl ?_
      refine x_goto (pc' := 17) dX8_stair_51 (by decide) ?_
      exact h
    · replace h := h.2 hc
      refine x_iconst (pc' := 14) (v := 1) dX8_isThere_13 rfl (by decide) ?_
      refine x_goto (pc' := 18) dX8_isThere_14 (by decide) ?_
      refine x_iret dX8_isThere_18 rfl rfl ?_
      show X none (d + 2) mX8_stair 32 [.ref 94, .int x1, .int x2] [.int 1] σ _
      refine x_if_eq (pc' := 35) (tgt := 48) dX8_stair_32 (by decide) rfl (fun hc => absurd hc (by decide)) (fun _ => ?_)
      refine x_aload_n (pc' := 36) dX8_stair_35 rfl rfl rfl ?_
      refine x_iload_n (pc' := 37) dX8_stair_36 rfl rfl rfl ?_
      refine x_callV (pc' := 40) (As := [.int x2]) dX8_stair_37 rfl lmX8_176 kd_94 rfl rfl (Nat.le_of_ble_eq_true rfl) (Nat.le_of_ble_eq_true rfl) ?_
      show X none (d + 1) mX8_isStair 0 [.ref 94, .int x2, Unk, Unk] [] σ _
      refine X.mono h ?_
      rintro r τ1 ⟨u2, rfl, h⟩
      show X none (d + 2) mX8_stair 40 [.ref 94, .int x1, .int x2] [.int u2] τ1 _
      refine x_if_eq (pc' := 43) (tgt := 48) dX8_stair_40 (by decide) rfl (fun hc => ?_) (fun hc => ?_)
      · replace h := h.1 hc
        refine x_iinc (pc' := 51) (v := 1) dX8_stair_48 rfl (by decide) rfl rfl (by decide) (ls' := [.ref 94, .int x1, .int (x2 + 1)]) rfl ?_
        refine x_goto (pc' := 17) dX8_stair_51 (by decide) ?_
        exact h
      · replace h := h.2 hc
        refine x_aload_n (pc' := 44) dX8_stair_43 rfl rfl rfl ?_
        refine x_iload_n (pc' := 45) dX8_stair_44 rfl rfl rfl ?_
        refine x_callV (pc' := 48) (As := [.int x2]) dX8_stair_45 rfl lmX8_124 kd_94 rfl rfl (Nat.le_of_ble_eq_true rfl) (Nat.le_of_ble_eq_true rfl) ?_
        show X none (d + 1) mX8_insert 0 [.ref 94, .int x2, Unk] [] τ1 _
        refine X.mono h ?_
        rintro r τ3 ⟨rfl, h⟩
        show X none (d + 2) mX8_stair 48 [.ref 94, .int x1, .int x2] [] τ3 _
        refine x_iinc (pc' := 51) (v := 1) dX8_stair_48 rfl (by decide) rfl rfl (by decide) (ls' := [.ref 94, .int x1, .int (x2 + 1)]) rfl ?_
        refine x_goto (pc' := 17) dX8_stair_51 (by decide) ?_
        exact h
set_option maxRecDepth 100000 in
set_option maxHeartbeats 4000000 in
theorem vX8_layers_0 {d : Nat} {σ : Mem} {Q : Option Value → Mem → Prop} {x1 : Int32} 
    (h : ((¬ (0 ≤ x1 ∧ x1 ≤ 4) → ((∀ τ1 : Mem, τ1 = (w1 σ 99 0 ((σ.1 99 0) + 1)) → Q (some (.int (-2000000002))) τ1))) ∧ ((0 ≤ x1 ∧ x1 ≤ 4) → ((¬ x1 = 0 → ((¬ x1 = 1 → ((¬ x1 = 2 → ((¬ x1 = 3 → Q (some (.int (σ.1 95 5))) σ) ∧ (x1 = 3 → Q (some (.int (σ.1 94 3))) σ))) ∧ (x1 = 2 → Q (some (.int (σ.1 95 4))) σ))) ∧ (x1 = 1 → Q (some (.int (σ.1 95 1))) σ))) ∧ (x1 = 0 → Q (some (.int (σ.1 95 0))) σ))))) :
    X none (d + 1) mX8_layers 0 [.ref 94, .int x1] [] σ Q := by
  refine x_iload_n (pc' := 1) dX8_layers_0 rfl rfl rfl ?_
  refine x_i2l (pc' := 2) dX8_layers_1 rfl ?_
  refine x_lconst (pc' := 3) (v := 0) dX8_layers_2 rfl (by decide) ?_
  refine x_ldc2 (pc' := 6) dX8_layers_3 rfl llX8_179 ?_
  refine x_callS (pc' := 9) (As := [.long ((x1).toInt64), .long 0, .long 4]) dX8_layers_6 rfl lmX8_49 rfl rfl (Nat.le_of_ble_eq_true rfl) (Nat.le_of_ble_eq_true rfl) ?_
  show X none d mX8_in 0 [.long ((x1).toInt64), Unk, .long 0, Unk, .long 4, Unk] [] σ _
  refine sp_in (x := x1) (lo := 0) (hi := 4) (by decide) (by decide) ?_
  show X none (d + 1) mX8_layers 9 [.ref 94, .int x1] [.int (if (0 ≤ x1 ∧ x1 ≤ 4) then 1 else 0)] σ _
  refine x_if_eq (pc' := 12) (tgt := 20) dX8_layers_9 (by decide) rfl (fun hc => ?_) (fun hc => ?_)
  · replace h := h.1 (b01_ne hc)
    refine x_aload_n (pc' := 21) dX8_layers_20 rfl rfl rfl ?_
    refine x_callV (pc' := 24) (As := []) dX8_layers_21 rfl lmX8_81 kd_94 rfl rfl (Nat.le_of_ble_eq_true rfl) (Nat.le_of_ble_eq_true rfl) ?_
    show X none d mX8_bad 0 [.ref 94] [] σ _
    refine x_aload_n (pc' := 1) dX8_bad_0 rfl rfl rfl ?_
    refine x_getr (pc' := 4) dX8_bad_1 rfl lfX8_30 kd_94 rfl rf_94_9 ?_
    refine x_iconst (pc' := 5) (v := 0) dX8_bad_4 rfl (by decide) ?_
    refine x_dup2 (pc' := 6) dX8_bad_5 rfl rfl rfl ?_
    refine x_iald (pc' := 7) dX8_bad_6 rfl kd_99 (by rw [ln_99]; unfold vp_in; decide) ?_
    show X none d mX8_bad 7 [.ref 94] [.int (σ.1 99 0), .int 0, .ref 99] σ _
    refine x_iconst (pc' := 8) (v := 1) dX8_bad_7 rfl (by decide) ?_
    refine x_iadd (pc' := 9) dX8_bad_8 rfl ?_
    refine x_iast (pc' := 10) dX8_bad_9 rfl kd_99 (by rw [ln_99]; unfold vp_in; decide) ?_
    obtain ⟨τ1, eτ1⟩ : ∃ τ : Mem, τ = (w1 σ 99 0 ((σ.1 99 0) + 1)) := ⟨_, rfl⟩
    show X none d mX8_bad 10 [.ref 94] [] (w1 σ 99 0 ((σ.1 99 0) + 1)) _
    rw [← eτ1]
    replace h := h τ1 eτ1
    refine x_ldc (pc' := 12) dX8_bad_10 rfl lcX8_42 ?_
    refine x_iret dX8_bad_12 rfl rfl ?_
    show X none (d + 1) mX8_layers 24 [.ref 94, .int x1] [.int (-2000000002)] τ1 _
    exact x_iret dX8_layers_24 rfl rfl h
  · replace h := h.2 (b01_eq hc)
    refine x_aload_n (pc' := 13) dX8_layers_12 rfl rfl rfl ?_
    refine x_iload_n (pc' := 14) dX8_layers_13 rfl rfl rfl ?_
    refine x_callV (pc' := 17) (As := [.int x1]) dX8_layers_14 rfl lmX8_181 kd_94 rfl rfl (Nat.le_of_ble_eq_true rfl) (Nat.le_of_ble_eq_true rfl) ?_
    show X none d mX8_layersOf 0 [.ref 94, .int x1] [] σ _
    refine x_iload_n (pc' := 1) dX8_layersOf_0 rfl rfl rfl ?_
    refine x_if_ne (pc' := 4) (tgt := 13) dX8_layersOf_1 (by decide) rfl (fun hc => ?_) (fun hc => ?_)
    · replace h := h.1 hc
      refine x_iload_n (pc' := 14) dX8_layersOf_13 rfl rfl rfl ?_
      refine x_iconst (pc' := 15) (v := 1) dX8_layersOf_14 rfl (by decide) ?_
      refine x_icmp_ne (pc' := 18) (tgt := 27) dX8_layersOf_15 (by decide) rfl (fun hc => ?_) (fun hc => ?_)
      · replace h := h.1 hc
        refine x_iload_n (pc' := 28) dX8_layersOf_27 rfl rfl rfl ?_
        refine x_iconst (pc' := 29) (v := 2) dX8_layersOf_28 rfl (by decide) ?_
        refine x_icmp_ne (pc' := 32) (tgt := 41) dX8_layersOf_29 (by decide) rfl (fun hc => ?_) (fun hc => ?_)
        · replace h := h.1 hc
          refine x_iload_n (pc' := 42) dX8_layersOf_41 rfl rfl rfl ?_
          refine x_iconst (pc' := 43) (v := 3) dX8_layersOf_42 rfl (by decide) ?_
          refine x_icmp_ne (pc' := 46) (tgt := 53) dX8_layersOf_43 (by decide) rfl (fun hc => ?_) (fun hc => ?_)
          · replace h := h.1 hc
            refine x_aload_n (pc' := 54) dX8_layersOf_53 rfl rfl rfl ?_
            refine x_getr (pc' := 57) dX8_layersOf_54 rfl lfX8_7 kd_94 rfl rf_94_0 ?_
            refine x_iconst (pc' := 58) (v := 5) dX8_layersOf_57 rfl (by decide) ?_
            refine x_iald (pc' := 59) dX8_layersOf_58 rfl kd_95 (by rw [ln_95]; unfold vp_in; decide) ?_
            show X none d mX8_layersOf 59 [.ref 94, .int x1] [.int (σ.1 95 5)] σ _
            refine x_iret dX8_layersOf_59 rfl rfl ?_
            show X none (d + 1) mX8_layers 17 [.ref 94, .int x1] [.int (σ.1 95 5)] σ _
            refine x_goto (pc' := 24) dX8_layers_17 (by decide) ?_
            exact x_iret dX8_layers_24 rfl rfl h
          · replace h := h.2 hc
            refine x_aload_n (pc' := 47) dX8_layersOf_46 rfl rfl rfl ?_
            refine x_geti (pc' := 50) dX8_layersOf_47 rfl lfX8_153 kd_94 rfl ?_
            refine x_goto (pc' := 59) dX8_layersOf_50 (by decide) ?_
            refine x_iret dX8_layersOf_59 rfl rfl ?_
            show X none (d + 1) mX8_layers 17 [.ref 94, .int x1] [.int (σ.1 94 3)] σ _
            refine x_goto (pc' := 24) dX8_layers_17 (by decide) ?_
            exact x_iret dX8_layers_24 rfl rfl h
        · replace h := h.2 hc
          refine x_aload_n (pc' := 33) dX8_layersOf_32 rfl rfl rfl ?_
          refine x_getr (pc' := 36) dX8_layersOf_33 rfl lfX8_7 kd_94 rfl rf_94_0 ?_
          refine x_iconst (pc' := 37) (v := 4) dX8_layersOf_36 rfl (by decide) ?_
          refine x_iald (pc' := 38) dX8_layersOf_37 rfl kd_95 (by rw [ln_95]; unfold vp_in; decide) ?_
          show X none d mX8_layersOf 38 [.ref 94, .int x1] [.int (σ.1 95 4)] σ _
          refine x_goto (pc' := 59) dX8_layersOf_38 (by decide) ?_
          refine x_iret dX8_layersOf_59 rfl rfl ?_
          show X none (d + 1) mX8_layers 17 [.ref 94, .int x1] [.int (σ.1 95 4)] σ _
          refine x_goto (pc' := 24) dX8_layers_17 (by decide) ?_
          exact x_iret dX8_layers_24 rfl rfl h
      · replace h := h.2 hc
        refine x_aload_n (pc' := 19) dX8_layersOf_18 rfl rfl rfl ?_
        refine x_getr (pc' := 22) dX8_layersOf_19 rfl lfX8_7 kd_94 rfl rf_94_0 ?_
        refine x_iconst (pc' := 23) (v := 1) dX8_layersOf_22 rfl (by decide) ?_
        refine x_iald (pc' := 24) dX8_layersOf_23 rfl kd_95 (by rw [ln_95]; unfold vp_in; decide) ?_
        show X none d mX8_layersOf 24 [.ref 94, .int x1] [.int (σ.1 95 1)] σ _
        refine x_goto (pc' := 59) dX8_layersOf_24 (by decide) ?_
        refine x_iret dX8_layersOf_59 rfl rfl ?_
        show X none (d + 1) mX8_layers 17 [.ref 94, .int x1] [.int (σ.1 95 1)] σ _
        refine x_goto (pc' := 24) dX8_layers_17 (by decide) ?_
        exact x_iret dX8_layers_24 rfl rfl h
    · replace h := h.2 hc
      refine x_aload_n (pc' := 5) dX8_layersOf_4 rfl rfl rfl ?_
      refine x_getr (pc' := 8) dX8_layersOf_5 rfl lfX8_7 kd_94 rfl rf_94_0 ?_
      refine x_iconst (pc' := 9) (v := 0) dX8_layersOf_8 rfl (by decide) ?_
      refine x_iald (pc' := 10) dX8_layersOf_9 rfl kd_95 (by rw [ln_95]; unfold vp_in; decide) ?_
      show X none d mX8_layersOf 10 [.ref 94, .int x1] [.int (σ.1 95 0)] σ _
      refine x_goto (pc' := 59) dX8_layersOf_10 (by decide) ?_
      refine x_iret dX8_layersOf_59 rfl rfl ?_
      show X none (d + 1) mX8_layers 17 [.ref 94, .int x1] [.int (σ.1 95 0)] σ _
      refine x_goto (pc' := 24) dX8_layers_17 (by decide) ?_
      exact x_iret dX8_layers_24 rfl rfl h
set_option maxRecDepth 100000 in
set_option maxHeartbeats 4000000 in
theorem vX8_inLayer_0 {d : Nat} {σ : Mem} {Q : Option Value → Mem → Prop} {x1 x2 x3 x4 x5 x6 : Int32} 
    (h : ((¬ (1 ≤ x1 ∧ x1 ≤ 64) → ((∀ τ1 : Mem, τ1 = (w1 σ 99 0 ((σ.1 99 0) + 1)) → Q (some (.int (-2000000002))) τ1))) ∧ ((1 ≤ x1 ∧ x1 ≤ 64) → (X none (d + 2) mX8_bits 0 [.int x1, Unk, Unk] [] σ (fun r τ2 => ∃ u3 : Int32, r = some (.int u3) ∧ ((¬ u3 = 1 → ((∀ τ4 : Mem, τ4 = (w1 τ2 99 0 ((τ2.1 99 0) + 1)) → Q (some (.int (-2000000002))) τ4))) ∧ (u3 = 1 → ((¬ (0 ≤ x2 ∧ x2 ≤ 1) → ((∀ τ5 : Mem, τ5 = (w1 τ2 99 0 ((τ2.1 99 0) + 1)) → Q (some (.int (-2000000002))) τ5))) ∧ ((0 ≤ x2 ∧ x2 ≤ 1) → (((rectP x3 x4 x5 x6) → ((¬ x2 = 0 → (¬ x1 = 0 ∧ ((¬ (((τ2.1 95 1) / x1) - ((τ2.1 95 1) / x1) / 2 * 2) = 0 → (¬ x1 = 0 ∧ X none (d + 3) mX8_inLayer 100 [.ref 94, .int x1, .int x2, .int x3, .int x4, .int x5, .int x6, .int (τ2.1 95 1), .int (((((τ2.1 95 1) / x1) / 2) * x1) * 2), .int 0, .int (((((τ2.1 95 1) / x1) / 2) * x1) * 2)] [] τ2 Q)) ∧ ((((τ2.1 95 1) / x1) - ((τ2.1 95 1) / x1) / 2 * 2) = 0 → Q (some (.int (-2000000001))) τ2)))) ∧ (x2 = 0 → (¬ x1 = 0 ∧ ((¬ (((τ2.1 95 0) / x1) - ((τ2.1 95 0) / x1) / 2 * 2) = 0 → (¬ x1 = 0 ∧ X none (d + 3) mX8_inLayer 100 [.ref 94, .int x1, .int x2, .int x3, .int x4, .int x5, .int x6, .int (τ2.1 95 0), .int (((((τ2.1 95 0) / x1) / 2) * x1) * 2), .int 0, .int (((((τ2.1 95 0) / x1) / 2) * x1) * 2)] [] τ2 Q)) ∧ ((((τ2.1 95 0) / x1) - ((τ2.1 95 0) / x1) / 2 * 2) = 0 → Q (some (.int (-2000000001))) τ2)))))) ∧ (¬ (rectP x3 x4 x5 x6) → ((∀ τ6 : Mem, τ6 = (w1 τ2 99 0 ((τ2.1 99 0) + 1)) → Q (some (.int (-2000000002))) τ6))))))))))))) :
    X none (d + 3) mX8_inLayer 0 [.ref 94, .int x1, .int x2, .int x3, .int x4, .int x5, .int x6, Unk, Unk, Unk, Unk] [] σ Q := by
  refine x_iload_n (pc' := 1) dX8_inLayer_0 rfl rfl rfl ?_
  refine x_i2l (pc' := 2) dX8_inLayer_1 rfl ?_
  refine x_lconst (pc' := 3) (v := 1) dX8_inLayer_2 rfl (by decide) ?_
  refine x_ldc2 (pc' := 6) dX8_inLayer_3 rfl llX8_184 ?_
  refine x_callS (pc' := 9) (As := [.long ((x1).toInt64), .long 1, .long 64]) dX8_inLayer_6 rfl lmX8_49 rfl rfl (Nat.le_of_ble_eq_true rfl) (Nat.le_of_ble_eq_true rfl) ?_
  show X none (d + 2) mX8_in 0 [.long ((x1).toInt64), Unk, .long 1, Unk, .long 64, Unk] [] σ _
  refine sp_in (x := x1) (lo := 1) (hi := 64) (by decide) (by decide) ?_
  show X none (d + 3) mX8_inLayer 9 [.ref 94, .int x1, .int x2, .int x3, .int x4, .int x5, .int x6, Unk, Unk, Unk, Unk] [.int (if (1 ≤ x1 ∧ x1 ≤ 64) then 1 else 0)] σ _
  refine x_if_eq (pc' := 12) (tgt := 43) dX8_inLayer_9 (by decide) rfl (fun hc => ?_) (fun hc => ?_)
  · replace h := h.1 (b01_ne hc)
    refine x_aload_n (pc' := 44) dX8_inLayer_43 rfl rfl rfl ?_
    refine x_callV (pc' := 47) (As := []) dX8_inLayer_44 rfl lmX8_81 kd_94 rfl rfl (Nat.le_of_ble_eq_true rfl) (Nat.le_of_ble_eq_true rfl) ?_
    show X none (d + 2) mX8_bad 0 [.ref 94] [] σ _
    refine x_aload_n (pc' := 1) dX8_bad_0 rfl rfl rfl ?_
    refine x_getr (pc' := 4) dX8_bad_1 rfl lfX8_30 kd_94 rfl rf_94_9 ?_
    refine x_iconst (pc' := 5) (v := 0) dX8_bad_4 rfl (by decide) ?_
    refine x_dup2 (pc' := 6) dX8_bad_5 rfl rfl rfl ?_
    refine x_iald (pc' := 7) dX8_bad_6 rfl kd_99 (by rw [ln_99]; unfold vp_in; decide) ?_
    show X none (d + 2) mX8_bad 7 [.ref 94] [.int (σ.1 99 0), .int 0, .ref 99] σ _
    refine x_iconst (pc' := 8) (v := 1) dX8_bad_7 rfl (by decide) ?_
    refine x_iadd (pc' := 9) dX8_bad_8 rfl ?_
    refine x_iast (pc' := 10) dX8_bad_9 rfl kd_99 (by rw [ln_99]; unfold vp_in; decide) ?_
    obtain ⟨τ1, eτ1⟩ : ∃ τ : Mem, τ = (w1 σ 99 0 ((σ.1 99 0) + 1)) := ⟨_, rfl⟩
    show X none (d + 2) mX8_bad 10 [.ref 94] [] (w1 σ 99 0 ((σ.1 99 0) + 1)) _
    rw [← eτ1]
    replace h := h τ1 eτ1
    refine x_ldc (pc' := 12) dX8_bad_10 rfl lcX8_42 ?_
    refine x_iret dX8_bad_12 rfl rfl ?_
    show X none (d + 3) mX8_inLayer 47 [.ref 94, .int x1, .int x2, .int x3, .int x4, .int x5, .int x6, Unk, Unk, Unk, Unk] [.int (-2000000002)] τ1 _
    exact x_iret dX8_inLayer_47 rfl rfl h
  · replace h := h.2 (b01_eq hc)
    refine x_iload_n (pc' := 13) dX8_inLayer_12 rfl rfl rfl ?_
    refine x_callS (pc' := 16) (As := [.int x1]) dX8_inLayer_13 rfl lmX8_156 rfl rfl (Nat.le_of_ble_eq_true rfl) (Nat.le_of_ble_eq_true rfl) ?_
    show X none (d + 2) mX8_bits 0 [.int x1, Unk, Unk] [] σ _
    refine X.mono h ?_
    rintro r τ2 ⟨u3, rfl, h⟩
    show X none (d + 3) mX8_inLayer 16 [.ref 94, .int x1, .int x2, .int x3, .int x4, .int x5, .int x6, Unk, Unk, Unk, Unk] [.int u3] τ2 _
    refine x_iconst (pc' := 17) (v := 1) dX8_inLayer_16 rfl (by decide) ?_
    refine x_icmp_ne (pc' := 20) (tgt := 43) dX8_inLayer_17 (by decide) rfl (fun hc => ?_) (fun hc => ?_)
    · replace h := h.1 hc
      refine x_aload_n (pc' := 44) dX8_inLayer_43 rfl rfl rfl ?_
      refine x_callV (pc' := 47) (As := []) dX8_inLayer_44 rfl lmX8_81 kd_94 rfl rfl (Nat.le_of_ble_eq_true rfl) (Nat.le_of_ble_eq_true rfl) ?_
      show X none (d + 2) mX8_bad 0 [.ref 94] [] τ2 _
      refine x_aload_n (pc' := 1) dX8_bad_0 rfl rfl rfl ?_
      refine x_getr (pc' := 4) dX8_bad_1 rfl lfX8_30 kd_94 rfl rf_94_9 ?_
      refine x_iconst (pc' := 5) (v := 0) dX8_bad_4 rfl (by decide) ?_
      refine x_dup2 (pc' := 6) dX8_bad_5 rfl rfl rfl ?_
      refine x_iald (pc' := 7) dX8_bad_6 rfl kd_99 (by rw [ln_99]; unfold vp_in; decide) ?_
      show X none (d + 2) mX8_bad 7 [.ref 94] [.int (τ2.1 99 0), .int 0, .ref 99] τ2 _
      refine x_iconst (pc' := 8) (v := 1) dX8_bad_7 rfl (by decide) ?_
      refine x_iadd (pc' := 9) dX8_bad_8 rfl ?_
      refine x_iast (pc' := 10) dX8_bad_9 rfl kd_99 (by rw [ln_99]; unfold vp_in; decide) ?_
      obtain ⟨τ4, eτ4⟩ : ∃ τ : Mem, τ = (w1 τ2 99 0 ((τ2.1 99 0) + 1)) := ⟨_, rfl⟩
      show X none (d + 2) mX8_bad 10 [.ref 94] [] (w1 τ2 99 0 ((τ2.1 99 0) + 1)) _
      rw [← eτ4]
      replace h := h τ4 eτ4
      refine x_ldc (pc' := 12) dX8_bad_10 rfl lcX8_42 ?_
      refine x_iret dX8_bad_12 rfl rfl ?_
      show X none (d + 3) mX8_inLayer 47 [.ref 94, .int x1, .int x2, .int x3, .int x4, .int x5, .int x6, Unk, Unk, Unk, Unk] [.int (-2000000002)] τ4 _
      exact x_iret dX8_inLayer_47 rfl rfl h
    · replace h := h.2 hc
      refine x_iload_n (pc' := 21) dX8_inLayer_20 rfl rfl rfl ?_
      refine x_i2l (pc' := 22) dX8_inLayer_21 rfl ?_
      refine x_lconst (pc' := 23) (v := 0) dX8_inLayer_22 rfl (by decide) ?_
      refine x_lconst (pc' := 24) (v := 1) dX8_inLayer_23 rfl (by decide) ?_
      refine x_callS (pc' := 27) (As := [.long ((x2).toInt64), .long 0, .long 1]) dX8_inLayer_24 rfl lmX8_49 rfl rfl (Nat.le_of_ble_eq_true rfl) (Nat.le_of_ble_eq_true rfl) ?_
      show X none (d + 2) mX8_in 0 [.long ((x2).toInt64), Unk, .long 0, Unk, .long 1, Unk] [] τ2 _
      refine sp_in (x := x2) (lo := 0) (hi := 1) (by decide) (by decide) ?_
      show X none (d + 3) mX8_inLayer 27 [.ref 94, .int x1, .int x2, .int x3, .int x4, .int x5, .int x6, Unk, Unk, Unk, Unk] [.int (if (0 ≤ x2 ∧ x2 ≤ 1) then 1 else 0)] τ2 _
      refine x_if_eq (pc' := 30) (tgt := 43) dX8_inLayer_27 (by decide) rfl (fun hc => ?_) (fun hc => ?_)
      · replace h := h.1 (b01_ne hc)
        refine x_aload_n (pc' := 44) dX8_inLayer_43 rfl rfl rfl ?_
        refine x_callV (pc' := 47) (As := []) dX8_inLayer_44 rfl lmX8_81 kd_94 rfl rfl (Nat.le_of_ble_eq_true rfl) (Nat.le_of_ble_eq_true rfl) ?_
        show X none (d + 2) mX8_bad 0 [.ref 94] [] τ2 _
        refine x_aload_n (pc' := 1) dX8_bad_0 rfl rfl rfl ?_
        refine x_getr (pc' := 4) dX8_bad_1 rfl lfX8_30 kd_94 rfl rf_94_9 ?_
        refine x_iconst (pc' := 5) (v := 0) dX8_bad_4 rfl (by decide) ?_
        refine x_dup2 (pc' := 6) dX8_bad_5 rfl rfl rfl ?_
        refine x_iald (pc' := 7) dX8_bad_6 rfl kd_99 (by rw [ln_99]; unfold vp_in; decide) ?_
        show X none (d + 2) mX8_bad 7 [.ref 94] [.int (τ2.1 99 0), .int 0, .ref 99] τ2 _
        refine x_iconst (pc' := 8) (v := 1) dX8_bad_7 rfl (by decide) ?_
        refine x_iadd (pc' := 9) dX8_bad_8 rfl ?_
        refine x_iast (pc' := 10) dX8_bad_9 rfl kd_99 (by rw [ln_99]; unfold vp_in; decide) ?_
        obtain ⟨τ5, eτ5⟩ : ∃ τ : Mem, τ = (w1 τ2 99 0 ((τ2.1 99 0) + 1)) := ⟨_, rfl⟩
        show X none (d + 2) mX8_bad 10 [.ref 94] [] (w1 τ2 99 0 ((τ2.1 99 0) + 1)) _
        rw [← eτ5]
        replace h := h τ5 eτ5
        refine x_ldc (pc' := 12) dX8_bad_10 rfl lcX8_42 ?_
        refine x_iret dX8_bad_12 rfl rfl ?_
        show X none (d + 3) mX8_inLayer 47 [.ref 94, .int x1, .int x2, .int x3, .int x4, .int x5, .int x6, Unk, Unk, Unk, Unk] [.int (-2000000002)] τ5 _
        exact x_iret dX8_inLayer_47 rfl rfl h
      · replace h := h.2 (b01_eq hc)
        refine x_iload_n (pc' := 31) dX8_inLayer_30 rfl rfl rfl ?_
        refine x_iload (pc' := 33) dX8_inLayer_31 rfl rfl ?_
        refine x_iload (pc' := 35) dX8_inLayer_33 rfl rfl ?_
        refine x_iload (pc' := 37) dX8_inLayer_35 rfl rfl ?_
        refine x_callS (pc' := 40) (As := [.int x3, .int x4, .int x5, .int x6]) dX8_inLayer_37 rfl lmX8_127 rfl rfl (Nat.le_of_ble_eq_true rfl) (Nat.le_of_ble_eq_true rfl) ?_
        show X none (d + 2) mX8_isRect 0 [.int x3, .int x4, .int x5, .int x6] [] τ2 _
        refine sp_isRect ?_
        show X none (d + 3) mX8_inLayer 40 [.ref 94, .int x1, .int x2, .int x3, .int x4, .int x5, .int x6, Unk, Unk, Unk, Unk] [.int (if (rectP x3 x4 x5 x6) then 1 else 0)] τ2 _
        refine x_if_ne (pc' := 43) (tgt := 48) dX8_inLayer_40 (by decide) rfl (fun hc => ?_) (fun hc => ?_)
        · replace h := h.1 (b01_eq hc)
          refine x_iload_n (pc' := 49) dX8_inLayer_48 rfl rfl rfl ?_
          refine x_if_ne (pc' := 52) (tgt := 61) dX8_inLayer_49 (by decide) rfl (fun hc => ?_) (fun hc => ?_)
          · replace h := h.1 hc
            refine x_aload_n (pc' := 62) dX8_inLayer_61 rfl rfl rfl ?_
            refine x_getr (pc' := 65) dX8_inLayer_62 rfl lfX8_7 kd_94 rfl rf_94_0 ?_
            refine x_iconst (pc' := 66) (v := 1) dX8_inLayer_65 rfl (by decide) ?_
            refine x_iald (pc' := 67) dX8_inLayer_66 rfl kd_95 (by rw [ln_95]; unfold vp_in; decide) ?_
            show X none (d + 3) mX8_inLayer 67 [.ref 94, .int x1, .int x2, .int x3, .int x4, .int x5, .int x6, Unk, Unk, Unk, Unk] [.int (τ2.1 95 1)] τ2 _
            refine x_istore (pc' := 69) dX8_inLayer_67 rfl (by decide) rfl (ls' := [.ref 94, .int x1, .int x2, .int x3, .int x4, .int x5, .int x6, .int (τ2.1 95 1), Unk, Unk, Unk]) rfl ?_
            refine x_iload (pc' := 71) dX8_inLayer_69 rfl rfl ?_
            refine x_iload_n (pc' := 72) dX8_inLayer_71 rfl rfl rfl ?_
            obtain ⟨hz, h⟩ := h
            refine x_idiv (pc' := 73) dX8_inLayer_72 rfl hz ?_
            refine x_iconst (pc' := 74) (v := 2) dX8_inLayer_73 rfl (by decide) ?_
            refine x_irem (pc' := 75) dX8_inLayer_74 rfl (by decide) ?_
            refine x_if_ne (pc' := 78) (tgt := 81) dX8_inLayer_75 (by decide) rfl (fun hc => ?_) (fun hc => ?_)
            · replace h := h.1 hc
              refine x_iload (pc' := 83) dX8_inLayer_81 rfl rfl ?_
              refine x_iload_n (pc' := 84) dX8_inLayer_83 rfl rfl rfl ?_
              obtain ⟨hz, h⟩ := h
              refine x_idiv (pc' := 85) dX8_inLayer_84 rfl hz ?_
              refine x_iconst (pc' := 86) (v := 2) dX8_inLayer_85 rfl (by decide) ?_
              refine x_idiv (pc' := 87) dX8_inLayer_86 rfl (by decide) ?_
              refine x_iload_n (pc' := 88) dX8_inLayer_87 rfl rfl rfl ?_
              refine x_imul (pc' := 89) dX8_inLayer_88 rfl ?_
              refine x_iconst (pc' := 90) (v := 2) dX8_inLayer_89 rfl (by decide) ?_
              refine x_imul (pc' := 91) dX8_inLayer_90 rfl ?_
              refine x_istore (pc' := 93) dX8_inLayer_91 rfl (by decide) rfl (ls' := [.ref 94, .int x1, .int x2, .int x3, .int x4, .int x5, .int x6, .int (τ2.1 95 1), .int (((((τ2.1 95 1) / x1) / 2) * x1) * 2), Unk, Unk]) rfl ?_
              refine x_iconst (pc' := 94) (v := 0) dX8_inLayer_93 rfl (by decide) ?_
              refine x_istore (pc' := 96) dX8_inLayer_94 rfl (by decide) rfl (ls' := [.ref 94, .int x1, .int x2, .int x3, .int x4, .int x5, .int x6, .int (τ2.1 95 1), .int (((((τ2.1 95 1) / x1) / 2) * x1) * 2), .int 0, Unk]) rfl ?_
              refine x_iload (pc' := 98) dX8_inLayer_96 rfl rfl ?_
              refine x_istore (pc' := 100) dX8_inLayer_98 rfl (by decide) rfl (ls' := [.ref 94, .int x1, .int x2, .int x3, .int x4, .int x5, .int x6, .int (τ2.1 95 1), .int (((((τ2.1 95 1) / x1) / 2) * x1) * 2), .int 0, .int (((((τ2.1 95 1) / x1) / 2) * x1) * 2)]) rfl ?_
              exact h
            · replace h := h.2 hc
              refine x_ldc (pc' := 80) dX8_inLayer_78 rfl lcX8_152 ?_
              exact x_iret dX8_inLayer_80 rfl rfl h
          · replace h := h.2 hc
            refine x_aload_n (pc' := 53) dX8_inLayer_52 rfl rfl rfl ?_
            refine x_getr (pc' := 56) dX8_inLayer_53 rfl lfX8_7 kd_94 rfl rf_94_0 ?_
            refine x_iconst (pc' := 57) (v := 0) dX8_inLayer_56 rfl (by decide) ?_
            refine x_iald (pc' := 58) dX8_inLayer_57 rfl kd_95 (by rw [ln_95]; unfold vp_in; decide) ?_
            show X none (d + 3) mX8_inLayer 58 [.ref 94, .int x1, .int x2, .int x3, .int x4, .int x5, .int x6, Unk, Unk, Unk, Unk] [.int (τ2.1 95 0)] τ2 _
            refine x_goto (pc' := 67) dX8_inLayer_58 (by decide) ?_
            refine x_istore (pc' := 69) dX8_inLayer_67 rfl (by decide) rfl (ls' := [.ref 94, .int x1, .int x2, .int x3, .int x4, .int x5, .int x6, .int (τ2.1 95 0), Unk, Unk, Unk]) rfl ?_
            refine x_iload (pc' := 71) dX8_inLayer_69 rfl rfl ?_
            refine x_iload_n (pc' := 72) dX8_inLayer_71 rfl rfl rfl ?_
            obtain ⟨hz, h⟩ := h
            refine x_idiv (pc' := 73) dX8_inLayer_72 rfl hz ?_
            refine x_iconst (pc' := 74) (v := 2) dX8_inLayer_73 rfl (by decide) ?_
            refine x_irem (pc' := 75) dX8_inLayer_74 rfl (by decide) ?_
            refine x_if_ne (pc' := 78) (tgt := 81) dX8_inLayer_75 (by decide) rfl (fun hc => ?_) (fun hc => ?_)
            · replace h := h.1 hc
              refine x_iload (pc' := 83) dX8_inLayer_81 rfl rfl ?_
              refine x_iload_n (pc' := 84) dX8_inLayer_83 rfl rfl rfl ?_
              obtain ⟨hz, h⟩ := h
              refine x_idiv (pc' := 85) dX8_inLayer_84 rfl hz ?_
              refine x_iconst (pc' := 86) (v := 2) dX8_inLayer_85 rfl (by decide) ?_
              refine x_idiv (pc' := 87) dX8_inLayer_86 rfl (by decide) ?_
              refine x_iload_n (pc' := 88) dX8_inLayer_87 rfl rfl rfl ?_
              refine x_imul (pc' := 89) dX8_inLayer_88 rfl ?_
              refine x_iconst (pc' := 90) (v := 2) dX8_inLayer_89 rfl (by decide) ?_
              refine x_imul (pc' := 91) dX8_inLayer_90 rfl ?_
              refine x_istore (pc' := 93) dX8_inLayer_91 rfl (by decide) rfl (ls' := [.ref 94, .int x1, .int x2, .int x3, .int x4, .int x5, .int x6, .int (τ2.1 95 0), .int (((((τ2.1 95 0) / x1) / 2) * x1) * 2), Unk, Unk]) rfl ?_
              refine x_iconst (pc' := 94) (v := 0) dX8_inLayer_93 rfl (by decide) ?_
              refine x_istore (pc' := 96) dX8_inLayer_94 rfl (by decide) rfl (ls' := [.ref 94, .int x1, .int x2, .int x3, .int x4, .int x5, .int x6, .int (τ2.1 95 0), .int (((((τ2.1 95 0) / x1) / 2) * x1) * 2), .int 0, Unk]) rfl ?_
              refine x_iload (pc' := 98) dX8_inLayer_96 rfl rfl ?_
              refine x_istore (pc' := 100) dX8_inLayer_98 rfl (by decide) rfl (ls' := [.ref 94, .int x1, .int x2, .int x3, .int x4, .int x5, .int x6, .int (τ2.1 95 0), .int (((((τ2.1 95 0) / x1) / 2) * x1) * 2), .int 0, .int (((((τ2.1 95 0) / x1) / 2) * x1) * 2)]) rfl ?_
              exact h
            · replace h := h.2 hc
              refine x_ldc (pc' := 80) dX8_inLayer_78 rfl lcX8_152 ?_
              exact x_iret dX8_inLayer_80 rfl rfl h
        · replace h := h.2 (b01_ne hc)
          refine x_aload_n (pc' := 44) dX8_inLayer_43 rfl rfl rfl ?_
          refine x_callV (pc' := 47) (As := []) dX8_inLayer_44 rfl lmX8_81 kd_94 rfl rfl (Nat.le_of_ble_eq_true rfl) (Nat.le_of_ble_eq_true rfl) ?_
          show X none (d + 2) mX8_bad 0 [.ref 94] [] τ2 _
          refine x_aload_n (pc' := 1) dX8_bad_0 rfl rfl rfl ?_
          refine x_getr (pc' := 4) dX8_bad_1 rfl lfX8_30 kd_94 rfl rf_94_9 ?_
          refine x_iconst (pc' := 5) (v := 0) dX8_bad_4 rfl (by decide) ?_
          refine x_dup2 (pc' := 6) dX8_bad_5 rfl rfl rfl ?_
          refine x_iald (pc' := 7) dX8_bad_6 rfl kd_99 (by rw [ln_99]; unfold vp_in; decide) ?_
          show X none (d + 2) mX8_bad 7 [.ref 94] [.int (τ2.1 99 0), .int 0, .ref 99] τ2 _
          refine x_iconst (pc' := 8) (v := 1) dX8_bad_7 rfl (by decide) ?_
          refine x_iadd (pc' := 9) dX8_bad_8 rfl ?_
          refine x_iast (pc' := 10) dX8_bad_9 rfl kd_99 (by rw [ln_99]; unfold vp_in; decide) ?_
          obtain ⟨τ6, eτ6⟩ : ∃ τ : Mem, τ = (w1 τ2 99 0 ((τ2.1 99 0) + 1)) := ⟨_, rfl⟩
          show X none (d + 2) mX8_bad 10 [.ref 94] [] (w1 τ2 99 0 ((τ2.1 99 0) + 1)) _
          rw [← eτ6]
          replace h := h τ6 eτ6
          refine x_ldc (pc' := 12) dX8_bad_10 rfl lcX8_42 ?_
          refine x_iret dX8_bad_12 rfl rfl ?_
          show X none (d + 3) mX8_inLayer 47 [.ref 94, .int x1, .int x2, .int x3, .int x4, .int x5, .int x6, Unk, Unk, Unk, Unk] [.int (-2000000002)] τ6 _
          exact x_iret dX8_inLayer_47 rfl rfl h
set_option maxRecDepth 100000 in
set_option maxHeartbeats 4000000 in
theorem vX8_inLayer_100 {d : Nat} {σ : Mem} {Q : Option Value → Mem → Prop} {x1 x2 x3 x4 x5 x6 x7 x8 x9 x10 : Int32} 
    (h : (((x8 + x1) ≤ x10 → Q (some (.int x9)) σ) ∧ (¬ (x8 + x1) ≤ x10 → ((¬ x2 = 0 → (vp_in (616 + x10) 7458 ∧ (X none (d + 2) mX8_isIn 0 [.ref 94, .int (σ.1 95 (616 + x10).toNatClampNeg), .int x3, .int x4, .int x5, .int x6] [] σ (fun r τ1 => ∃ u2 : Int32, r = some (.int u2) ∧ ((u2 = 0 → X none (d + 3) mX8_inLayer 100 [.ref 94, .int x1, .int x2, .int x3, .int x4, .int x5, .int x6, .int x7, .int x8, .int (x9 + 0), .int (x10 + 1)] [] τ1 Q) ∧ (¬ u2 = 0 → X none (d + 3) mX8_inLayer 100 [.ref 94, .int x1, .int x2, .int x3, .int x4, .int x5, .int x6, .int x7, .int x8, .int (x9 + 1), .int (x10 + 1)] [] τ1 Q)))))) ∧ (x2 = 0 → (X none (d + 2) mX8_isIn 0 [.ref 94, .int x10, .int x3, .int x4, .int x5, .int x6] [] σ (fun r τ3 => ∃ u4 : Int32, r = some (.int u4) ∧ ((u4 = 0 → X none (d + 3) mX8_inLayer 100 [.ref 94, .int x1, .int x2, .int x3, .int x4, .int x5, .int x6, .int x7, .int x8, .int (x9 + 0), .int (x10 + 1)] [] τ3 Q) ∧ (¬ u4 = 0 → X none (d + 3) mX8_inLayer 100 [.ref 94, .int x1, .int x2, .int x3, .int x4, .int x5, .int x6, .int x7, .int x8, .int (x9 + 1), .int (x10 + 1)] [] τ3 Q))))))))) :
    X none (d + 3) mX8_inLayer 100 [.ref 94, .int x1, .int x2, .int x3, .int x4, .int x5, .int x6, .int x7, .int x8, .int x9, .int x10] [] σ Q := by
  refine x_iload (pc' := 102) dX8_inLayer_100 rfl rfl ?_
  refine x_iload (pc' := 104) dX8_inLayer_102 rfl rfl ?_
  refine x_iload_n (pc' := 105) dX8_inLayer_104 rfl rfl rfl ?_
  refine x_iadd (pc' := 106) dX8_inLayer_105 rfl ?_
  refine x_icmp_ge (pc' := 109) (tgt := 159) dX8_inLayer_106 (by decide) rfl (fun hc => ?_) (fun hc => ?_)
  · replace h := h.1 hc
    refine x_iload (pc' := 161) dX8_inLayer_159 rfl rfl ?_
    exact x_iret dX8_inLayer_161 rfl rfl h
  · replace h := h.2 hc
    refine x_iload (pc' := 111) dX8_inLayer_109 rfl rfl ?_
    refine x_aload_n (pc' := 112) dX8_inLayer_111 rfl rfl rfl ?_
    refine x_iload_n (pc' := 113) dX8_inLayer_112 rfl rfl rfl ?_
    refine x_if_ne (pc' := 116) (tgt := 121) dX8_inLayer_113 (by decide) rfl (fun hc => ?_) (fun hc => ?_)
    · replace h := h.1 hc
      refine x_aload_n (pc' := 122) dX8_inLayer_121 rfl rfl rfl ?_
      refine x_getr (pc' := 125) dX8_inLayer_122 rfl lfX8_7 kd_94 rfl rf_94_0 ?_
      refine x_sipush (pc' := 128) (v := 616) dX8_inLayer_125 rfl (by decide) ?_
      refine x_iload (pc' := 130) dX8_inLayer_128 rfl rfl ?_
      refine x_iadd (pc' := 131) dX8_inLayer_130 rfl ?_
      obtain ⟨hb, h⟩ := h
      refine x_iald (pc' := 132) dX8_inLayer_131 rfl kd_95 (by rw [ln_95]; exact hb) ?_
      refine x_iload_n (pc' := 133) dX8_inLayer_132 rfl rfl rfl ?_
      refine x_iload (pc' := 135) dX8_inLayer_133 rfl rfl ?_
      refine x_iload (pc' := 137) dX8_inLayer_135 rfl rfl ?_
      refine x_iload (pc' := 139) dX8_inLayer_137 rfl rfl ?_
      refine x_callV (pc' := 142) (As := [.int (σ.1 95 (616 + x10).toNatClampNeg), .int x3, .int x4, .int x5, .int x6]) dX8_inLayer_139 rfl lmX8_120 kd_94 rfl rfl (Nat.le_of_ble_eq_true rfl) (Nat.le_of_ble_eq_true rfl) ?_
      show X none (d + 2) mX8_isIn 0 [.ref 94, .int (σ.1 95 (616 + x10).toNatClampNeg), .int x3, .int x4, .int x5, .int x6] [] σ _
      refine X.mono h ?_
      rintro r τ1 ⟨u2, rfl, h⟩
      show X none (d + 3) mX8_inLayer 142 [.ref 94, .int x1, .int x2, .int x3, .int x4, .int x5, .int x6, .int x7, .int x8, .int x9, .int x10] [.int u2, .int x9] τ1 _
      refine x_if_eq (pc' := 145) (tgt := 149) dX8_inLayer_142 (by decide) rfl (fun hc => ?_) (fun hc => ?_)
      · replace h := h.1 hc
        refine x_iconst (pc' := 150) (v := 0) dX8_inLayer_149 rfl (by decide) ?_
        refine x_iadd (pc' := 151) dX8_inLayer_150 rfl ?_
        refine x_istore (pc' := 153) dX8_inLayer_151 rfl (by decide) rfl (ls' := [.ref 94, .int x1, .int x2, .int x3, .int x4, .int x5, .int x6, .int x7, .int x8, .int (x9 + 0), .int x10]) rfl ?_
        refine x_iinc (pc' := 156) (v := 1) dX8_inLayer_153 rfl (by decide) rfl rfl (by decide) (ls' := [.ref 94, .int x1, .int x2, .int x3, .int x4, .int x5, .int x6, .int x7, .int x8, .int (x9 + 0), .int (x10 + 1)]) rfl ?_
        refine x_goto (pc' := 100) dX8_inLayer_156 (by decide) ?_
        exact h
      · replace h := h.2 hc
        refine x_iconst (pc' := 146) (v := 1) dX8_inLayer_145 rfl (by decide) ?_
        refine x_goto (pc' := 150) dX8_inLayer_146 (by decide) ?_
        refine x_iadd (pc' := 151) dX8_inLayer_150 rfl ?_
        refine x_istore (pc' := 153) dX8_inLayer_151 rfl (by decide) rfl (ls' := [.ref 94, .int x1, .int x2, .int x3, .int x4, .int x5, .int x6, .int x7, .int x8, .int (x9 + 1), .int x10]) rfl ?_
        refine x_iinc (pc' := 156) (v := 1) dX8_inLayer_153 rfl (by decide) rfl rfl (by decide) (ls' := [.ref 94, .int x1, .int x2, .int x3, .int x4, .int x5, .int x6, .int x7, .int x8, .int (x9 + 1), .int (x10 + 1)]) rfl ?_
        refine x_goto (pc' := 100) dX8_inLayer_156 (by decide) ?_
        exact h
    · replace h := h.2 hc
      refine x_iload (pc' := 118) dX8_inLayer_116 rfl rfl ?_
      refine x_goto (pc' := 132) dX8_inLayer_118 (by decide) ?_
      refine x_iload_n (pc' := 133) dX8_inLayer_132 rfl rfl rfl ?_
      refine x_iload (pc' := 135) dX8_inLayer_133 rfl rfl ?_
      refine x_iload (pc' := 137) dX8_inLayer_135 rfl rfl ?_
      refine x_iload (pc' := 139) dX8_inLayer_137 rfl rfl ?_
      refine x_callV (pc' := 142) (As := [.int x10, .int x3, .int x4, .int x5, .int x6]) dX8_inLayer_139 rfl lmX8_120 kd_94 rfl rfl (Nat.le_of_ble_eq_true rfl) (Nat.le_of_ble_eq_true rfl) ?_
      show X none (d + 2) mX8_isIn 0 [.ref 94, .int x10, .int x3, .int x4, .int x5, .int x6] [] σ _
      refine X.mono h ?_
      rintro r τ3 ⟨u4, rfl, h⟩
      show X none (d + 3) mX8_inLayer 142 [.ref 94, .int x1, .int x2, .int x3, .int x4, .int x5, .int x6, .int x7, .int x8, .int x9, .int x10] [.int u4, .int x9] τ3 _
      refine x_if_eq (pc' := 145) (tgt := 149) dX8_inLayer_142 (by decide) rfl (fun hc => ?_) (fun hc => ?_)
      · replace h := h.1 hc
        refine x_iconst (pc' := 150) (v := 0) dX8_inLayer_149 rfl (by decide) ?_
        refine x_iadd (pc' := 151) dX8_inLayer_150 rfl ?_
        refine x_istore (pc' := 153) dX8_inLayer_151 rfl (by decide) rfl (ls' := [.ref 94, .int x1, .int x2, .int x3, .int x4, .int x5, .int x6, .int x7, .int x8, .int (x9 + 0), .int x10]) rfl ?_
        refine x_iinc (pc' := 156) (v := 1) dX8_inLayer_153 rfl (by decide) rfl rfl (by decide) (ls' := [.ref 94, .int x1, .int x2, .int x3, .int x4, .int x5, .int x6, .int x7, .int x8, .int (x9 + 0), .int (x10 + 1)]) rfl ?_
        refine x_goto (pc' := 100) dX8_inLayer_156 (by decide) ?_
        exact h
      · replace h := h.2 hc
        refine x_iconst (pc' := 146) (v := 1) dX8_inLayer_145 rfl (by decide) ?_
        refine x_goto (pc' := 150) dX8_inLayer_146 (by decide) ?_
        refine x_iadd (pc' := 151) dX8_inLayer_150 rfl ?_
        refine x_istore (pc' := 153) dX8_inLayer_151 rfl (by decide) rfl (ls' := [.ref 94, .int x1, .int x2, .int x3, .int x4, .int x5, .int x6, .int x7, .int x8, .int (x9 + 1), .int x10]) rfl ?_
        refine x_iinc (pc' := 156) (v := 1) dX8_inLayer_153 rfl (by decide) rfl rfl (by decide) (ls' := [.ref 94, .int x1, .int x2, .int x3, .int x4, .int x5, .int x6, .int x7, .int x8, .int (x9 + 1), .int (x10 + 1)]) rfl ?_
        refine x_goto (pc' := 100) dX8_inLayer_156 (by decide) ?_
        exact h
set_option maxRecDepth 100000 in
set_option maxHeartbeats 4000000 in
theorem vX8_type_0 {d : Nat} {σ : Mem} {Q : Option Value → Mem → Prop} {x1 : Int32} 
    (h : (((0 ≤ x1 ∧ x1 ≤ 127) → ((¬ (σ.1 94 6) = 120 → (vp_in (σ.1 94 6) 120 ∧ (∀ τ1 : Mem, τ1 = (w1 σ 98 (σ.1 94 6).toNatClampNeg x1) → (∀ τ2 : Mem, τ2 = (w1 τ1 94 6 ((τ1.1 94 6) + 1)) → Q (some (.int (τ2.1 94 6))) τ2)))) ∧ ((σ.1 94 6) = 120 → ((∀ τ3 : Mem, τ3 = (w1 σ 99 2 ((σ.1 99 2) + 1)) → Q (some (.int (-2000000004))) τ3))))) ∧ (¬ (0 ≤ x1 ∧ x1 ≤ 127) → ((∀ τ4 : Mem, τ4 = (w1 σ 99 0 ((σ.1 99 0) + 1)) → Q (some (.int (-2000000002))) τ4))))) :
    X none (d + 1) mX8_type 0 [.ref 94, .int x1] [] σ Q := by
  refine x_iload_n (pc' := 1) dX8_type_0 rfl rfl rfl ?_
  refine x_i2l (pc' := 2) dX8_type_1 rfl ?_
  refine x_lconst (pc' := 3) (v := 0) dX8_type_2 rfl (by decide) ?_
  refine x_ldc2 (pc' := 6) dX8_type_3 rfl llX8_186 ?_
  refine x_callS (pc' := 9) (As := [.long ((x1).toInt64), .long 0, .long 127]) dX8_type_6 rfl lmX8_49 rfl rfl (Nat.le_of_ble_eq_true rfl) (Nat.le_of_ble_eq_true rfl) ?_
  show X none d mX8_in 0 [.long ((x1).toInt64), Unk, .long 0, Unk, .long 127, Unk] [] σ _
  refine sp_in (x := x1) (lo := 0) (hi := 127) (by decide) (by decide) ?_
  show X none (d + 1) mX8_type 9 [.ref 94, .int x1] [.int (if (0 ≤ x1 ∧ x1 ≤ 127) then 1 else 0)] σ _
  refine x_if_ne (pc' := 12) (tgt := 17) dX8_type_9 (by decide) rfl (fun hc => ?_) (fun hc => ?_)
  · replace h := h.1 (b01_eq hc)
    refine x_aload_n (pc' := 18) dX8_type_17 rfl rfl rfl ?_
    refine x_geti (pc' := 21) dX8_type_18 rfl lfX8_188 kd_94 rfl ?_
    refine x_bipush (pc' := 23) (v := 120) dX8_type_21 rfl (by decide) ?_
    refine x_icmp_ne (pc' := 26) (tgt := 31) dX8_type_23 (by decide) rfl (fun hc => ?_) (fun hc => ?_)
    · replace h := h.1 hc
      refine x_aload_n (pc' := 32) dX8_type_31 rfl rfl rfl ?_
      refine x_getr (pc' := 35) dX8_type_32 rfl lfX8_20 kd_94 rfl rf_94_5 ?_
      refine x_aload_n (pc' := 36) dX8_type_35 rfl rfl rfl ?_
      refine x_geti (pc' := 39) dX8_type_36 rfl lfX8_188 kd_94 rfl ?_
      refine x_iload_n (pc' := 40) dX8_type_39 rfl rfl rfl ?_
      obtain ⟨hb, h⟩ := h
      refine x_iast (pc' := 41) dX8_type_40 rfl kd_98 (by rw [ln_98]; exact hb) ?_
      obtain ⟨τ1, eτ1⟩ : ∃ τ : Mem, τ = (w1 σ 98 (σ.1 94 6).toNatClampNeg x1) := ⟨_, rfl⟩
      show X none (d + 1) mX8_type 41 [.ref 94, .int x1] [] (w1 σ 98 (σ.1 94 6).toNatClampNeg x1) _
      rw [← eτ1]
      replace h := h τ1 eτ1
      refine x_aload_n (pc' := 42) dX8_type_41 rfl rfl rfl ?_
      refine x_dup (pc' := 43) dX8_type_42 rfl rfl ?_
      refine x_geti (pc' := 46) dX8_type_43 rfl lfX8_188 kd_94 rfl ?_
      refine x_iconst (pc' := 47) (v := 1) dX8_type_46 rfl (by decide) ?_
      refine x_iadd (pc' := 48) dX8_type_47 rfl ?_
      refine x_puti (pc' := 51) dX8_type_48 rfl lfX8_188 kd_94 rfl rfl rfl ?_
      obtain ⟨τ2, eτ2⟩ : ∃ τ : Mem, τ = (w1 τ1 94 6 ((τ1.1 94 6) + 1)) := ⟨_, rfl⟩
      show X none (d + 1) mX8_type 51 [.ref 94, .int x1] [] (w1 τ1 94 6 ((τ1.1 94 6) + 1)) _
      rw [← eτ2]
      replace h := h τ2 eτ2
      refine x_aload_n (pc' := 52) dX8_type_51 rfl rfl rfl ?_
      refine x_geti (pc' := 55) dX8_type_52 rfl lfX8_188 kd_94 rfl ?_
      exact x_iret dX8_type_55 rfl rfl h
    · replace h := h.2 hc
      refine x_aload_n (pc' := 27) dX8_type_26 rfl rfl rfl ?_
      refine x_callV (pc' := 30) (As := []) dX8_type_27 rfl lmX8_84 kd_94 rfl rfl (Nat.le_of_ble_eq_true rfl) (Nat.le_of_ble_eq_true rfl) ?_
      show X none d mX8_full 0 [.ref 94] [] σ _
      refine x_aload_n (pc' := 1) dX8_full_0 rfl rfl rfl ?_
      refine x_getr (pc' := 4) dX8_full_1 rfl lfX8_30 kd_94 rfl rf_94_9 ?_
      refine x_iconst (pc' := 5) (v := 2) dX8_full_4 rfl (by decide) ?_
      refine x_dup2 (pc' := 6) dX8_full_5 rfl rfl rfl ?_
      refine x_iald (pc' := 7) dX8_full_6 rfl kd_99 (by rw [ln_99]; unfold vp_in; decide) ?_
      show X none d mX8_full 7 [.ref 94] [.int (σ.1 99 2), .int 2, .ref 99] σ _
      refine x_iconst (pc' := 8) (v := 1) dX8_full_7 rfl (by decide) ?_
      refine x_iadd (pc' := 9) dX8_full_8 rfl ?_
      refine x_iast (pc' := 10) dX8_full_9 rfl kd_99 (by rw [ln_99]; unfold vp_in; decide) ?_
      obtain ⟨τ3, eτ3⟩ : ∃ τ : Mem, τ = (w1 σ 99 2 ((σ.1 99 2) + 1)) := ⟨_, rfl⟩
      show X none d mX8_full 10 [.ref 94] [] (w1 σ 99 2 ((σ.1 99 2) + 1)) _
      rw [← eτ3]
      replace h := h τ3 eτ3
      refine x_ldc (pc' := 12) dX8_full_10 rfl lcX8_44 ?_
      refine x_iret dX8_full_12 rfl rfl ?_
      show X none (d + 1) mX8_type 30 [.ref 94, .int x1] [.int (-2000000004)] τ3 _
      exact x_iret dX8_type_30 rfl rfl h
  · replace h := h.2 (b01_ne hc)
    refine x_aload_n (pc' := 13) dX8_type_12 rfl rfl rfl ?_
    refine x_callV (pc' := 16) (As := []) dX8_type_13 rfl lmX8_81 kd_94 rfl rfl (Nat.le_of_ble_eq_true rfl) (Nat.le_of_ble_eq_true rfl) ?_
    show X none d mX8_bad 0 [.ref 94] [] σ _
    refine x_aload_n (pc' := 1) dX8_bad_0 rfl rfl rfl ?_
    refine x_getr (pc' := 4) dX8_bad_1 rfl lfX8_30 kd_94 rfl rf_94_9 ?_
    refine x_iconst (pc' := 5) (v := 0) dX8_bad_4 rfl (by decide) ?_
    refine x_dup2 (pc' := 6) dX8_bad_5 rfl rfl rfl ?_
    refine x_iald (pc' := 7) dX8_bad_6 rfl kd_99 (by rw [ln_99]; unfold vp_in; decide) ?_
    show X none d mX8_bad 7 [.ref 94] [.int (σ.1 99 0), .int 0, .ref 99] σ _
    refine x_iconst (pc' := 8) (v := 1) dX8_bad_7 rfl (by decide) ?_
    refine x_iadd (pc' := 9) dX8_bad_8 rfl ?_
    refine x_iast (pc' := 10) dX8_bad_9 rfl kd_99 (by rw [ln_99]; unfold vp_in; decide) ?_
    obtain ⟨τ4, eτ4⟩ : ∃ τ : Mem, τ = (w1 σ 99 0 ((σ.1 99 0) + 1)) := ⟨_, rfl⟩
    show X none d mX8_bad 10 [.ref 94] [] (w1 σ 99 0 ((σ.1 99 0) + 1)) _
    rw [← eτ4]
    replace h := h τ4 eτ4
    refine x_ldc (pc' := 12) dX8_bad_10 rfl lcX8_42 ?_
    refine x_iret dX8_bad_12 rfl rfl ?_
    show X none (d + 1) mX8_type 16 [.ref 94, .int x1] [.int (-2000000002)] τ4 _
    exact x_iret dX8_type_16 rfl rfl h
set_option maxRecDepth 100000 in
set_option maxHeartbeats 4000000 in
theorem vX8_clear_0 {d : Nat} {σ : Mem} {Q : Option Value → Mem → Prop} 
    (h : (∀ τ1 : Mem, τ1 = (w1 σ 94 6 0) → Q (some (.int (σ.1 94 6))) τ1)) :
    X none d mX8_clear 0 [.ref 94, Unk] [] σ Q := by
  refine x_aload_n (pc' := 1) dX8_clear_0 rfl rfl rfl ?_
  refine x_geti (pc' := 4) dX8_clear_1 rfl lfX8_188 kd_94 rfl ?_
  refine x_istore_n (pc' := 5) dX8_clear_4 rfl rfl (by decide) rfl (ls' := [.ref 94, .int (σ.1 94 6)]) rfl ?_
  refine x_aload_n (pc' := 6) dX8_clear_5 rfl rfl rfl ?_
  refine x_iconst (pc' := 7) (v := 0) dX8_clear_6 rfl (by decide) ?_
  refine x_puti (pc' := 10) dX8_clear_7 rfl lfX8_188 kd_94 rfl rfl rfl ?_
  obtain ⟨τ1, eτ1⟩ : ∃ τ : Mem, τ = (w1 σ 94 6 0) := ⟨_, rfl⟩
  show X none d mX8_clear 10 [.ref 94, .int (σ.1 94 6)] [] (w1 σ 94 6 0) _
  rw [← eτ1]
  replace h := h τ1 eτ1
  refine x_iload_n (pc' := 11) dX8_clear_10 rfl rfl rfl ?_
  exact x_iret dX8_clear_11 rfl rfl h
