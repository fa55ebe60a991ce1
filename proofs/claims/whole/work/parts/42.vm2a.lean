set_option maxRecDepth 100000 in
set_option maxHeartbeats 4000000 in
theorem vX8_put_0 {d : Nat} {σ : Mem} {Q : Option Value → Mem → Prop} {x1 x2 x3 : Int32} 
    (h : ((¬ (onA x1) → ((∀ τ1 : Mem, τ1 = (w1 σ 99 0 ((σ.1 99 0) + 1)) → Q (some (.int (-2000000002))) τ1))) ∧ ((onA x1) → ((¬ (onA x2) → ((∀ τ2 : Mem, τ2 = (w1 σ 99 0 ((σ.1 99 0) + 1)) → Q (some (.int (-2000000002))) τ2))) ∧ ((onA x2) → (((1 ≤ x3 ∧ x3 ≤ 100) → ((((σ.1 95 0) - (σ.1 95 1)) = 60 → ((∀ τ3 : Mem, τ3 = (w1 σ 99 2 ((σ.1 99 2) + 1)) → Q (some (.int (-2000000004))) τ3))) ∧ (¬ ((σ.1 95 0) - (σ.1 95 1)) = 60 → ((¬ (σ.1 95 2) = 10000 → (X none (d + 1) mX8_minds 0 [.ref 94, Unk] [] σ (fun r τ4 => r = none ∧ (X none (d + 1) mX8_comes 0 [.ref 94, .int x1, .int x2, .int x3, Unk] [] τ4 (fun r τ5 => r = none ∧ Q (some (.int ((τ5.1 95 2) - 1))) τ5))))) ∧ ((σ.1 95 2) = 10000 → ((∀ τ6 : Mem, τ6 = (w1 σ 99 2 ((σ.1 99 2) + 1)) → Q (some (.int (-2000000004))) τ6))))))) ∧ (¬ (1 ≤ x3 ∧ x3 ≤ 100) → ((∀ τ7 : Mem, τ7 = (w1 σ 99 0 ((σ.1 99 0) + 1)) → Q (some (.int (-2000000002))) τ7))))))))) :
    X none (d + 2) mX8_put 0 [.ref 94, .int x1, .int x2, .int x3] [] σ Q := by
  refine x_iload_n (pc' := 1) dX8_put_0 rfl rfl rfl ?_
  refine x_callS (pc' := 4) (As := [.int x1]) dX8_put_1 rfl lmX8_53 rfl rfl (Nat.le_of_ble_eq_true rfl) (Nat.le_of_ble_eq_true rfl) ?_
  show X none (d + 1) mX8_isPlace 0 [.int x1] [] σ _
  refine sp_isPlace ?_
  show X none (d + 2) mX8_put 4 [.ref 94, .int x1, .int x2, .int x3] [.int (if (onA x1) then 1 else 0)] σ _
  refine x_if_eq (pc' := 7) (tgt := 26) dX8_put_4 (by decide) rfl (fun hc => ?_) (fun hc => ?_)
  · replace h := h.1 (b01_ne hc)
    refine x_aload_n (pc' := 27) dX8_put_26 rfl rfl rfl ?_
    refine x_callV (pc' := 30) (As := []) dX8_put_27 rfl lmX8_81 kd_94 rfl rfl (Nat.le_of_ble_eq_true rfl) (Nat.le_of_ble_eq_true rfl) ?_
    show X none (d + 1) mX8_bad 0 [.ref 94] [] σ _
    refine x_aload_n (pc' := 1) dX8_bad_0 rfl rfl rfl ?_
    refine x_getr (pc' := 4) dX8_bad_1 rfl lfX8_30 kd_94 rfl rf_94_9 ?_
    refine x_iconst (pc' := 5) (v := 0) dX8_bad_4 rfl (by decide) ?_
    refine x_dup2 (pc' := 6) dX8_bad_5 rfl rfl rfl ?_
    refine x_iald (pc' := 7) dX8_bad_6 rfl kd_99 (by rw [ln_99]; unfold vp_in; decide) ?_
    show X none (d + 1) mX8_bad 7 [.ref 94] [.int (σ.1 99 0), .int 0, .ref 99] σ _
    refine x_iconst (pc' := 8) (v := 1) dX8_bad_7 rfl (by decide) ?_
    refine x_iadd (pc' := 9) dX8_bad_8 rfl ?_
    refine x_iast (pc' := 10) dX8_bad_9 rfl kd_99 (by rw [ln_99]; unfold vp_in; decide) ?_
    obtain ⟨τ1, eτ1⟩ : ∃ τ : Mem, τ = (w1 σ 99 0 ((σ.1 99 0) + 1)) := ⟨_, rfl⟩
    show X none (d + 1) mX8_bad 10 [.ref 94] [] (w1 σ 99 0 ((σ.1 99 0) + 1)) _
    rw [← eτ1]
    replace h := h τ1 eτ1
    refine x_ldc (pc' := 12) dX8_bad_10 rfl lcX8_42 ?_
    refine x_iret dX8_bad_12 rfl rfl ?_
    show X none (d + 2) mX8_put 30 [.ref 94, .int x1, .int x2, .int x3] [.int (-2000000002)] τ1 _
    exact x_iret dX8_put_30 rfl rfl h
  · replace h := h.2 (b01_eq hc)
    refine x_iload_n (pc' := 8) dX8_put_7 rfl rfl rfl ?_
    refine x_callS (pc' := 11) (As := [.int x2]) dX8_put_8 rfl lmX8_53 rfl rfl (Nat.le_of_ble_eq_true rfl) (Nat.le_of_ble_eq_true rfl) ?_
    show X none (d + 1) mX8_isPlace 0 [.int x2] [] σ _
    refine sp_isPlace ?_
    show X none (d + 2) mX8_put 11 [.ref 94, .int x1, .int x2, .int x3] [.int (if (onA x2) then 1 else 0)] σ _
    refine x_if_eq (pc' := 14) (tgt := 26) dX8_put_11 (by decide) rfl (fun hc => ?_) (fun hc => ?_)
    · replace h := h.1 (b01_ne hc)
      refine x_aload_n (pc' := 27) dX8_put_26 rfl rfl rfl ?_
      refine x_callV (pc' := 30) (As := []) dX8_put_27 rfl lmX8_81 kd_94 rfl rfl (Nat.le_of_ble_eq_true rfl) (Nat.le_of_ble_eq_true rfl) ?_
      show X none (d + 1) mX8_bad 0 [.ref 94] [] σ _
      refine x_aload_n (pc' := 1) dX8_bad_0 rfl rfl rfl ?_
      refine x_getr (pc' := 4) dX8_bad_1 rfl lfX8_30 kd_94 rfl rf_94_9 ?_
      refine x_iconst (pc' := 5) (v := 0) dX8_bad_4 rfl (by decide) ?_
      refine x_dup2 (pc' := 6) dX8_bad_5 rfl rfl rfl ?_
      refine x_iald (pc' := 7) dX8_bad_6 rfl kd_99 (by rw [ln_99]; unfold vp_in; decide) ?_
      show X none (d + 1) mX8_bad 7 [.ref 94] [.int (σ.1 99 0), .int 0, .ref 99] σ _
      refine x_iconst (pc' := 8) (v := 1) dX8_bad_7 rfl (by decide) ?_
      refine x_iadd (pc' := 9) dX8_bad_8 rfl ?_
      refine x_iast (pc' := 10) dX8_bad_9 rfl kd_99 (by rw [ln_99]; unfold vp_in; decide) ?_
      obtain ⟨τ2, eτ2⟩ : ∃ τ : Mem, τ = (w1 σ 99 0 ((σ.1 99 0) + 1)) := ⟨_, rfl⟩
      show X none (d + 1) mX8_bad 10 [.ref 94] [] (w1 σ 99 0 ((σ.1 99 0) + 1)) _
      rw [← eτ2]
      replace h := h τ2 eτ2
      refine x_ldc (pc' := 12) dX8_bad_10 rfl lcX8_42 ?_
      refine x_iret dX8_bad_12 rfl rfl ?_
      show X none (d + 2) mX8_put 30 [.ref 94, .int x1, .int x2, .int x3] [.int (-2000000002)] τ2 _
      exact x_iret dX8_put_30 rfl rfl h
    · replace h := h.2 (b01_eq hc)
      refine x_iload_n (pc' := 15) dX8_put_14 rfl rfl rfl ?_
      refine x_i2l (pc' := 16) dX8_put_15 rfl ?_
      refine x_lconst (pc' := 17) (v := 1) dX8_put_16 rfl (by decide) ?_
      refine x_ldc2 (pc' := 20) dX8_put_17 rfl llX8_79 ?_
      refine x_callS (pc' := 23) (As := [.long ((x3).toInt64), .long 1, .long 100]) dX8_put_20 rfl lmX8_49 rfl rfl (Nat.le_of_ble_eq_true rfl) (Nat.le_of_ble_eq_true rfl) ?_
      show X none (d + 1) mX8_in 0 [.long ((x3).toInt64), Unk, .long 1, Unk, .long 100, Unk] [] σ _
      refine sp_in (x := x3) (lo := 1) (hi := 100) (by decide) (by decide) ?_
      show X none (d + 2) mX8_put 23 [.ref 94, .int x1, .int x2, .int x3] [.int (if (1 ≤ x3 ∧ x3 ≤ 100) then 1 else 0)] σ _
      refine x_if_ne (pc' := 26) (tgt := 31) dX8_put_23 (by decide) rfl (fun hc => ?_) (fun hc => ?_)
      · replace h := h.1 (b01_eq hc)
        refine x_aload_n (pc' := 32) dX8_put_31 rfl rfl rfl ?_
        refine x_callV (pc' := 35) (As := []) dX8_put_32 rfl lmX8_72 kd_94 rfl rfl (Nat.le_of_ble_eq_true rfl) (Nat.le_of_ble_eq_true rfl) ?_
        show X none (d + 1) mX8_points 0 [.ref 94] [] σ _
        refine x_aload_n (pc' := 1) dX8_points_0 rfl rfl rfl ?_
        refine x_getr (pc' := 4) dX8_points_1 rfl lfX8_7 kd_94 rfl rf_94_0 ?_
        refine x_iconst (pc' := 5) (v := 0) dX8_points_4 rfl (by decide) ?_
        refine x_iald (pc' := 6) dX8_points_5 rfl kd_95 (by rw [ln_95]; unfold vp_in; decide) ?_
        show X none (d + 1) mX8_points 6 [.ref 94] [.int (σ.1 95 0)] σ _
        refine x_aload_n (pc' := 7) dX8_points_6 rfl rfl rfl ?_
        refine x_getr (pc' := 10) dX8_points_7 rfl lfX8_7 kd_94 rfl rf_94_0 ?_
        refine x_iconst (pc' := 11) (v := 1) dX8_points_10 rfl (by decide) ?_
        refine x_iald (pc' := 12) dX8_points_11 rfl kd_95 (by rw [ln_95]; unfold vp_in; decide) ?_
        show X none (d + 1) mX8_points 12 [.ref 94] [.int (σ.1 95 1), .int (σ.1 95 0)] σ _
        refine x_isub (pc' := 13) dX8_points_12 rfl ?_
        refine x_iret dX8_points_13 rfl rfl ?_
        show X none (d + 2) mX8_put 35 [.ref 94, .int x1, .int x2, .int x3] [.int ((σ.1 95 0) - (σ.1 95 1))] σ _
        refine x_bipush (pc' := 37) (v := 60) dX8_put_35 rfl (by decide) ?_
        refine x_icmp_eq (pc' := 40) (tgt := 52) dX8_put_37 (by decide) rfl (fun hc => ?_) (fun hc => ?_)
        · replace h := h.1 hc
          refine x_aload_n (pc' := 53) dX8_put_52 rfl rfl rfl ?_
          refine x_callV (pc' := 56) (As := []) dX8_put_53 rfl lmX8_84 kd_94 rfl rfl (Nat.le_of_ble_eq_true rfl) (Nat.le_of_ble_eq_true rfl) ?_
          show X none (d + 1) mX8_full 0 [.ref 94] [] σ _
          refine x_aload_n (pc' := 1) dX8_full_0 rfl rfl rfl ?_
          refine x_getr (pc' := 4) dX8_full_1 rfl lfX8_30 kd_94 rfl rf_94_9 ?_
          refine x_iconst (pc' := 5) (v := 2) dX8_full_4 rfl (by decide) ?_
          refine x_dup2 (pc' := 6) dX8_full_5 rfl rfl rfl ?_
          refine x_iald (pc' := 7) dX8_full_6 rfl kd_99 (by rw [ln_99]; unfold vp_in; decide) ?_
          show X none (d + 1) mX8_full 7 [.ref 94] [.int (σ.1 99 2), .int 2, .ref 99] σ _
          refine x_iconst (pc' := 8) (v := 1) dX8_full_7 rfl (by decide) ?_
          refine x_iadd (pc' := 9) dX8_full_8 rfl ?_
          refine x_iast (pc' := 10) dX8_full_9 rfl kd_99 (by rw [ln_99]; unfold vp_in; decide) ?_
          obtain ⟨τ3, eτ3⟩ : ∃ τ : Mem, τ = (w1 σ 99 2 ((σ.1 99 2) + 1)) := ⟨_, rfl⟩
          show X none (d + 1) mX8_full 10 [.ref 94] [] (w1 σ 99 2 ((σ.1 99 2) + 1)) _
          rw [← eτ3]
          replace h := h τ3 eτ3
          refine x_ldc (pc' := 12) dX8_full_10 rfl lcX8_44 ?_
          refine x_iret dX8_full_12 rfl rfl ?_
          show X none (d + 2) mX8_put 56 [.ref 94, .int x1, .int x2, .int x3] [.int (-2000000004)] τ3 _
          exact x_iret dX8_put_56 rfl rfl h
        · replace h := h.2 hc
          refine x_aload_n (pc' := 41) dX8_put_40 rfl rfl rfl ?_
          refine x_getr (pc' := 44) dX8_put_41 rfl lfX8_7 kd_94 rfl rf_94_0 ?_
          refine x_iconst (pc' := 45) (v := 2) dX8_put_44 rfl (by decide) ?_
          refine x_iald (pc' := 46) dX8_put_45 rfl kd_95 (by rw [ln_95]; unfold vp_in; decide) ?_
          show X none (d + 2) mX8_put 46 [.ref 94, .int x1, .int x2, .int x3] [.int (σ.1 95 2)] σ _
          refine x_sipush (pc' := 49) (v := 10000) dX8_put_46 rfl (by decide) ?_
          refine x_icmp_ne (pc' := 52) (tgt := 57) dX8_put_49 (by decide) rfl (fun hc => ?_) (fun hc => ?_)
          · replace h := h.1 hc
            refine x_aload_n (pc' := 58) dX8_put_57 rfl rfl rfl ?_
            refine x_callV (pc' := 61) (As := []) dX8_put_58 rfl lmX8_87 kd_94 rfl rfl (Nat.le_of_ble_eq_true rfl) (Nat.le_of_ble_eq_true rfl) ?_
            show X none (d + 1) mX8_minds 0 [.ref 94, Unk] [] σ _
            refine X.mono h ?_
            rintro r τ4 ⟨rfl, h⟩
            show X none (d + 2) mX8_put 61 [.ref 94, .int x1, .int x2, .int x3] [] τ4 _
            refine x_aload_n (pc' := 62) dX8_put_61 rfl rfl rfl ?_
            refine x_iload_n (pc' := 63) dX8_put_62 rfl rfl rfl ?_
            refine x_iload_n (pc' := 64) dX8_put_63 rfl rfl rfl ?_
            refine x_iload_n (pc' := 65) dX8_put_64 rfl rfl rfl ?_
            refine x_callV (pc' := 68) (As := [.int x1, .int x2, .int x3]) dX8_put_65 rfl lmX8_90 kd_94 rfl rfl (Nat.le_of_ble_eq_true rfl) (Nat.le_of_ble_eq_true rfl) ?_
            show X none (d + 1) mX8_comes 0 [.ref 94, .int x1, .int x2, .int x3, Unk] [] τ4 _
            refine X.mono h ?_
            rintro r τ5 ⟨rfl, h⟩
            show X none (d + 2) mX8_put 68 [.ref 94, .int x1, .int x2, .int x3] [] τ5 _
            refine x_aload_n (pc' := 69) dX8_put_68 rfl rfl rfl ?_
            refine x_getr (pc' := 72) dX8_put_69 rfl lfX8_7 kd_94 rfl rf_94_0 ?_
            refine x_iconst (pc' := 73) (v := 2) dX8_put_72 rfl (by decide) ?_
            refine x_iald (pc' := 74) dX8_put_73 rfl kd_95 (by rw [ln_95]; unfold vp_in; decide) ?_
            show X none (d + 2) mX8_put 74 [.ref 94, .int x1, .int x2, .int x3] [.int (τ5.1 95 2)] τ5 _
            refine x_iconst (pc' := 75) (v := 1) dX8_put_74 rfl (by decide) ?_
            refine x_isub (pc' := 76) dX8_put_75 rfl ?_
            exact x_iret dX8_put_76 rfl rfl h
          · replace h := h.2 hc
            refine x_aload_n (pc' := 53) dX8_put_52 rfl rfl rfl ?_
            refine x_callV (pc' := 56) (As := []) dX8_put_53 rfl lmX8_84 kd_94 rfl rfl (Nat.le_of_ble_eq_true rfl) (Nat.le_of_ble_eq_true rfl) ?_
            show X none (d + 1) mX8_full 0 [.ref 94] [] σ _
            refine x_aload_n (pc' := 1) dX8_full_0 rfl rfl rfl ?_
            refine x_getr (pc' := 4) dX8_full_1 rfl lfX8_30 kd_94 rfl rf_94_9 ?_
            refine x_iconst (pc' := 5) (v := 2) dX8_full_4 rfl (by decide) ?_
            refine x_dup2 (pc' := 6) dX8_full_5 rfl rfl rfl ?_
            refine x_iald (pc' := 7) dX8_full_6 rfl kd_99 (by rw [ln_99]; unfold vp_in; decide) ?_
            show X none (d + 1) mX8_full 7 [.ref 94] [.int (σ.1 99 2), .int 2, .ref 99] σ _
            refine x_iconst (pc' := 8) (v := 1) dX8_full_7 rfl (by decide) ?_
            refine x_iadd (pc' := 9) dX8_full_8 rfl ?_
            refine x_iast (pc' := 10) dX8_full_9 rfl kd_99 (by rw [ln_99]; unfold vp_in; decide) ?_
            obtain ⟨τ6, eτ6⟩ : ∃ τ : Mem, τ = (w1 σ 99 2 ((σ.1 99 2) + 1)) := ⟨_, rfl⟩
            show X none (d + 1) mX8_full 10 [.ref 94] [] (w1 σ 99 2 ((σ.1 99 2) + 1)) _
            rw [← eτ6]
            replace h := h τ6 eτ6
            refine x_ldc (pc' := 12) dX8_full_10 rfl lcX8_44 ?_
            refine x_iret dX8_full_12 rfl rfl ?_
            show X none (d + 2) mX8_put 56 [.ref 94, .int x1, .int x2, .int x3] [.int (-2000000004)] τ6 _
            exact x_iret dX8_put_56 rfl rfl h
      · replace h := h.2 (b01_ne hc)
        refine x_aload_n (pc' := 27) dX8_put_26 rfl rfl rfl ?_
        refine x_callV (pc' := 30) (As := []) dX8_put_27 rfl lmX8_81 kd_94 rfl rfl (Nat.le_of_ble_eq_true rfl) (Nat.le_of_ble_eq_true rfl) ?_
        show X none (d + 1) mX8_bad 0 [.ref 94] [] σ _
        refine x_aload_n (pc' := 1) dX8_bad_0 rfl rfl rfl ?_
        refine x_getr (pc' := 4) dX8_bad_1 rfl lfX8_30 kd_94 rfl rf_94_9 ?_
        refine x_iconst (pc' := 5) (v := 0) dX8_bad_4 rfl (by decide) ?_
        refine x_dup2 (pc' := 6) dX8_bad_5 rfl rfl rfl ?_
        refine x_iald (pc' := 7) dX8_bad_6 rfl kd_99 (by rw [ln_99]; unfold vp_in; decide) ?_
        show X none (d + 1) mX8_bad 7 [.ref 94] [.int (σ.1 99 0), .int 0, .ref 99] σ _
        refine x_iconst (pc' := 8) (v := 1) dX8_bad_7 rfl (by decide) ?_
        refine x_iadd (pc' := 9) dX8_bad_8 rfl ?_
        refine x_iast (pc' := 10) dX8_bad_9 rfl kd_99 (by rw [ln_99]; unfold vp_in; decide) ?_
        obtain ⟨τ7, eτ7⟩ : ∃ τ : Mem, τ = (w1 σ 99 0 ((σ.1 99 0) + 1)) := ⟨_, rfl⟩
        show X none (d + 1) mX8_bad 10 [.ref 94] [] (w1 σ 99 0 ((σ.1 99 0) + 1)) _
        rw [← eτ7]
        replace h := h τ7 eτ7
        refine x_ldc (pc' := 12) dX8_bad_10 rfl lcX8_42 ?_
        refine x_iret dX8_bad_12 rfl rfl ?_
        show X none (d + 2) mX8_put 30 [.ref 94, .int x1, .int x2, .int x3] [.int (-2000000002)] τ7 _
        exact x_iret dX8_put_30 rfl rfl h
set_option maxRecDepth 100000 in
set_option maxHeartbeats 4000000 in
theorem vX8_take_0 {d : Nat} {σ : Mem} {Q : Option Value → Mem → Prop} {x1 : Int32} 
    (h : (X none (d + 2) mX8_find 0 [.ref 94, .int x1, Unk] [] σ (fun r τ1 => ∃ u2 : Int32, r = some (.int u2) ∧ ((0 ≤ u2 → (X none (d + 2) mX8_minds 0 [.ref 94, Unk] [] τ1 (fun r τ3 => r = none ∧ (vp_in (372 + u2) 7458 ∧ (X none (d + 2) mX8_goes 0 [.ref 94, .int u2] [] τ3 (fun r τ4 => r = none ∧ Q (some (.int (τ3.1 95 (372 + u2).toNatClampNeg))) τ4)))))) ∧ (¬ 0 ≤ u2 → ((∀ τ5 : Mem, τ5 = (w1 τ1 99 0 ((τ1.1 99 0) + 1)) → Q (some (.int (-2000000002))) τ5))))))) :
    X none (d + 3) mX8_take 0 [.ref 94, .int x1, Unk, Unk] [] σ Q := by
  refine x_aload_n (pc' := 1) dX8_take_0 rfl rfl rfl ?_
  refine x_iload_n (pc' := 2) dX8_take_1 rfl rfl rfl ?_
  refine x_callV (pc' := 5) (As := [.int x1]) dX8_take_2 rfl lmX8_94 kd_94 rfl rfl (Nat.le_of_ble_eq_true rfl) (Nat.le_of_ble_eq_true rfl) ?_
  show X none (d + 2) mX8_find 0 [.ref 94, .int x1, Unk] [] σ _
  refine X.mono h ?_
  rintro r τ1 ⟨u2, rfl, h⟩
  show X none (d + 3) mX8_take 5 [.ref 94, .int x1, Unk, Unk] [.int u2] τ1 _
  refine x_istore_n (pc' := 6) dX8_take_5 rfl rfl (by decide) rfl (ls' := [.ref 94, .int x1, .int u2, Unk]) rfl ?_
  refine x_iload_n (pc' := 7) dX8_take_6 rfl rfl rfl ?_
  refine x_if_ge (pc' := 10) (tgt := 15) dX8_take_7 (by decide) rfl (fun hc => ?_) (fun hc => ?_)
  · replace h := h.1 hc
    refine x_aload_n (pc' := 16) dX8_take_15 rfl rfl rfl ?_
    refine x_callV (pc' := 19) (As := []) dX8_take_16 rfl lmX8_87 kd_94 rfl rfl (Nat.le_of_ble_eq_true rfl) (Nat.le_of_ble_eq_true rfl) ?_
    show X none (d + 2) mX8_minds 0 [.ref 94, Unk] [] τ1 _
    refine X.mono h ?_
    rintro r τ3 ⟨rfl, h⟩
    show X none (d + 3) mX8_take 19 [.ref 94, .int x1, .int u2, Unk] [] τ3 _
    refine x_aload_n (pc' := 20) dX8_take_19 rfl rfl rfl ?_
    refine x_getr (pc' := 23) dX8_take_20 rfl lfX8_7 kd_94 rfl rf_94_0 ?_
    refine x_sipush (pc' := 26) (v := 372) dX8_take_23 rfl (by decide) ?_
    refine x_iload_n (pc' := 27) dX8_take_26 rfl rfl rfl ?_
    refine x_iadd (pc' := 28) dX8_take_27 rfl ?_
    obtain ⟨hb, h⟩ := h
    refine x_iald (pc' := 29) dX8_take_28 rfl kd_95 (by rw [ln_95]; exact hb) ?_
    refine x_istore_n (pc' := 30) dX8_take_29 rfl rfl (by decide) rfl (ls' := [.ref 94, .int x1, .int u2, .int (τ3.1 95 (372 + u2).toNatClampNeg)]) rfl ?_
    refine x_aload_n (pc' := 31) dX8_take_30 rfl rfl rfl ?_
    refine x_iload_n (pc' := 32) dX8_take_31 rfl rfl rfl ?_
    refine x_callV (pc' := 35) (As := [.int u2]) dX8_take_32 rfl lmX8_97 kd_94 rfl rfl (Nat.le_of_ble_eq_true rfl) (Nat.le_of_ble_eq_true rfl) ?_
    show X none (d + 2) mX8_goes 0 [.ref 94, .int u2] [] τ3 _
    refine X.mono h ?_
    rintro r τ4 ⟨rfl, h⟩
    show X none (d + 3) mX8_take 35 [.ref 94, .int x1, .int u2, .int (τ3.1 95 (372 + u2).toNatClampNeg)] [] τ4 _
    refine x_iload_n (pc' := 36) dX8_take_35 rfl rfl rfl ?_
    exact x_iret dX8_take_36 rfl rfl h
  · replace h := h.2 hc
    refine x_aload_n (pc' := 11) dX8_take_10 rfl rfl rfl ?_
    refine x_callV (pc' := 14) (As := []) dX8_take_11 rfl lmX8_81 kd_94 rfl rfl (Nat.le_of_ble_eq_true rfl) (Nat.le_of_ble_eq_true rfl) ?_
    show X none (d + 2) mX8_bad 0 [.ref 94] [] τ1 _
    refine x_aload_n (pc' := 1) dX8_bad_0 rfl rfl rfl ?_
    refine x_getr (pc' := 4) dX8_bad_1 rfl lfX8_30 kd_94 rfl rf_94_9 ?_
    refine x_iconst (pc' := 5) (v := 0) dX8_bad_4 rfl (by decide) ?_
    refine x_dup2 (pc' := 6) dX8_bad_5 rfl rfl rfl ?_
    refine x_iald (pc' := 7) dX8_bad_6 rfl kd_99 (by rw [ln_99]; unfold vp_in; decide) ?_
    show X none (d + 2) mX8_bad 7 [.ref 94] [.int (τ1.1 99 0), .int 0, .ref 99] τ1 _
    refine x_iconst (pc' := 8) (v := 1) dX8_bad_7 rfl (by decide) ?_
    refine x_iadd (pc' := 9) dX8_bad_8 rfl ?_
    refine x_iast (pc' := 10) dX8_bad_9 rfl kd_99 (by rw [ln_99]; unfold vp_in; decide) ?_
    obtain ⟨τ5, eτ5⟩ : ∃ τ : Mem, τ = (w1 τ1 99 0 ((τ1.1 99 0) + 1)) := ⟨_, rfl⟩
    show X none (d + 2) mX8_bad 10 [.ref 94] [] (w1 τ1 99 0 ((τ1.1 99 0) + 1)) _
    rw [← eτ5]
    replace h := h τ5 eτ5
    refine x_ldc (pc' := 12) dX8_bad_10 rfl lcX8_42 ?_
    refine x_iret dX8_bad_12 rfl rfl ?_
    show X none (d + 3) mX8_take 14 [.ref 94, .int x1, .int u2, Unk] [.int (-2000000002)] τ5 _
    exact x_iret dX8_take_14 rfl rfl h
set_option maxRecDepth 100000 in
set_option maxHeartbeats 4000000 in
theorem vX8_move_0 {d : Nat} {σ : Mem} {Q : Option Value → Mem → Prop} {x1 x2 x3 : Int32} 
    (h : (X none (d + 2) mX8_find 0 [.ref 94, .int x1, Unk] [] σ (fun r τ1 => ∃ u2 : Int32, r = some (.int u2) ∧ ((u2 < 0 → ((∀ τ3 : Mem, τ3 = (w1 τ1 99 0 ((τ1.1 99 0) + 1)) → Q (some (.int (-2000000002))) τ3))) ∧ (¬ u2 < 0 → ((¬ (onA x2) → ((∀ τ4 : Mem, τ4 = (w1 τ1 99 0 ((τ1.1 99 0) + 1)) → Q (some (.int (-2000000002))) τ4))) ∧ ((onA x2) → (((onA x3) → ((¬ (τ1.1 95 2) = 10000 → (X none (d + 2) mX8_minds 0 [.ref 94, Unk] [] τ1 (fun r τ5 => r = none ∧ (vp_in (372 + u2) 7458 ∧ (X none (d + 2) mX8_goes 0 [.ref 94, .int u2] [] τ5 (fun r τ6 => r = none ∧ (X none (d + 2) mX8_comes 0 [.ref 94, .int x2, .int x3, .int (τ5.1 95 (372 + u2).toNatClampNeg), Unk] [] τ6 (fun r τ7 => r = none ∧ Q (some (.int ((τ7.1 95 2) - 1))) τ7)))))))) ∧ ((τ1.1 95 2) = 10000 → ((∀ τ8 : Mem, τ8 = (w1 τ1 99 2 ((τ1.1 99 2) + 1)) → Q (some (.int (-2000000004))) τ8))))) ∧ (¬ (onA x3) → ((∀ τ9 : Mem, τ9 = (w1 τ1 99 0 ((τ1.1 99 0) + 1)) → Q (some (.int (-2000000002))) τ9))))))))))) :
    X none (d + 3) mX8_move 0 [.ref 94, .int x1, .int x2, .int x3, Unk, Unk] [] σ Q := by
  refine x_aload_n (pc' := 1) dX8_move_0 rfl rfl rfl ?_
  refine x_iload_n (pc' := 2) dX8_move_1 rfl rfl rfl ?_
  refine x_callV (pc' := 5) (As := [.int x1]) dX8_move_2 rfl lmX8_94 kd_94 rfl rfl (Nat.le_of_ble_eq_true rfl) (Nat.le_of_ble_eq_true rfl) ?_
  show X none (d + 2) mX8_find 0 [.ref 94, .int x1, Unk] [] σ _
  refine X.mono h ?_
  rintro r τ1 ⟨u2, rfl, h⟩
  show X none (d + 3) mX8_move 5 [.ref 94, .int x1, .int x2, .int x3, Unk, Unk] [.int u2] τ1 _
  refine x_istore (pc' := 7) dX8_move_5 rfl (by decide) rfl (ls' := [.ref 94, .int x1, .int x2, .int x3, .int u2, Unk]) rfl ?_
  refine x_iload (pc' := 9) dX8_move_7 rfl rfl ?_
  refine x_if_lt (pc' := 12) (tgt := 26) dX8_move_9 (by decide) rfl (fun hc => ?_) (fun hc => ?_)
  · replace h := h.1 hc
    refine x_aload_n (pc' := 27) dX8_move_26 rfl rfl rfl ?_
    refine x_callV (pc' := 30) (As := []) dX8_move_27 rfl lmX8_81 kd_94 rfl rfl (Nat.le_of_ble_eq_true rfl) (Nat.le_of_ble_eq_true rfl) ?_
    show X none (d + 2) mX8_bad 0 [.ref 94] [] τ1 _
    refine x_aload_n (pc' := 1) dX8_bad_0 rfl rfl rfl ?_
    refine x_getr (pc' := 4) dX8_bad_1 rfl lfX8_30 kd_94 rfl rf_94_9 ?_
    refine x_iconst (pc' := 5) (v := 0) dX8_bad_4 rfl (by decide) ?_
    refine x_dup2 (pc' := 6) dX8_bad_5 rfl rfl rfl ?_
    refine x_iald (pc' := 7) dX8_bad_6 rfl kd_99 (by rw [ln_99]; unfold vp_in; decide) ?_
    show X none (d + 2) mX8_bad 7 [.ref 94] [.int (τ1.1 99 0), .int 0, .ref 99] τ1 _
    refine x_iconst (pc' := 8) (v := 1) dX8_bad_7 rfl (by decide) ?_
    refine x_iadd (pc' := 9) dX8_bad_8 rfl ?_
    refine x_iast (pc' := 10) dX8_bad_9 rfl kd_99 (by rw [ln_99]; unfold vp_in; decide) ?_
    obtain ⟨τ3, eτ3⟩ : ∃ τ : Mem, τ = (w1 τ1 99 0 ((τ1.1 99 0) + 1)) := ⟨_, rfl⟩
    show X none (d + 2) mX8_bad 10 [.ref 94] [] (w1 τ1 99 0 ((τ1.1 99 0) + 1)) _
    rw [← eτ3]
    replace h := h τ3 eτ3
    refine x_ldc (pc' := 12) dX8_bad_10 rfl lcX8_42 ?_
    refine x_iret dX8_bad_12 rfl rfl ?_
    show X none (d + 3) mX8_move 30 [.ref 94, .int x1, .int x2, .int x3, .int u2, Unk] [.int (-2000000002)] τ3 _
    exact x_iret dX8_move_30 rfl rfl h
  · replace h := h.2 hc
    refine x_iload_n (pc' := 13) dX8_move_12 rfl rfl rfl ?_
    refine x_callS (pc' := 16) (As := [.int x2]) dX8_move_13 rfl lmX8_53 rfl rfl (Nat.le_of_ble_eq_true rfl) (Nat.le_of_ble_eq_true rfl) ?_
    show X none (d + 2) mX8_isPlace 0 [.int x2] [] τ1 _
    refine sp_isPlace ?_
    show X none (d + 3) mX8_move 16 [.ref 94, .int x1, .int x2, .int x3, .int u2, Unk] [.int (if (onA x2) then 1 else 0)] τ1 _
    refine x_if_eq (pc' := 19) (tgt := 26) dX8_move_16 (by decide) rfl (fun hc => ?_) (fun hc => ?_)
    · replace h := h.1 (b01_ne hc)
      refine x_aload_n (pc' := 27) dX8_move_26 rfl rfl rfl ?_
      refine x_callV (pc' := 30) (As := []) dX8_move_27 rfl lmX8_81 kd_94 rfl rfl (Nat.le_of_ble_eq_true rfl) (Nat.le_of_ble_eq_true rfl) ?_
      show X none (d + 2) mX8_bad 0 [.ref 94] [] τ1 _
      refine x_aload_n (pc' := 1) dX8_bad_0 rfl rfl rfl ?_
      refine x_getr (pc' := 4) dX8_bad_1 rfl lfX8_30 kd_94 rfl rf_94_9 ?_
      refine x_iconst (pc' := 5) (v := 0) dX8_bad_4 rfl (by decide) ?_
      refine x_dup2 (pc' := 6) dX8_bad_5 rfl rfl rfl ?_
      refine x_iald (pc' := 7) dX8_bad_6 rfl kd_99 (by rw [ln_99]; unfold vp_in; decide) ?_
      show X none (d + 2) mX8_bad 7 [.ref 94] [.int (τ1.1 99 0), .int 0, .ref 99] τ1 _
      refine x_iconst (pc' := 8) (v := 1) dX8_bad_7 rfl (by decide) ?_
      refine x_iadd (pc' := 9) dX8_bad_8 rfl ?_
      refine x_iast (pc' := 10) dX8_bad_9 rfl kd_99 (by rw [ln_99]; unfold vp_in; decide) ?_
      obtain ⟨τ4, eτ4⟩ : ∃ τ : Mem, τ = (w1 τ1 99 0 ((τ1.1 99 0) + 1)) := ⟨_, rfl⟩
      show X none (d + 2) mX8_bad 10 [.ref 94] [] (w1 τ1 99 0 ((τ1.1 99 0) + 1)) _
      rw [← eτ4]
      replace h := h τ4 eτ4
      refine x_ldc (pc' := 12) dX8_bad_10 rfl lcX8_42 ?_
      refine x_iret dX8_bad_12 rfl rfl ?_
      show X none (d + 3) mX8_move 30 [.ref 94, .int x1, .int x2, .int x3, .int u2, Unk] [.int (-2000000002)] τ4 _
      exact x_iret dX8_move_30 rfl rfl h
    · replace h := h.2 (b01_eq hc)
      refine x_iload_n (pc' := 20) dX8_move_19 rfl rfl rfl ?_
      refine x_callS (pc' := 23) (As := [.int x3]) dX8_move_20 rfl lmX8_53 rfl rfl (Nat.le_of_ble_eq_true rfl) (Nat.le_of_ble_eq_true rfl) ?_
      show X none (d + 2) mX8_isPlace 0 [.int x3] [] τ1 _
      refine sp_isPlace ?_
      show X none (d + 3) mX8_move 23 [.ref 94, .int x1, .int x2, .int x3, .int u2, Unk] [.int (if (onA x3) then 1 else 0)] τ1 _
      refine x_if_ne (pc' := 26) (tgt := 31) dX8_move_23 (by decide) rfl (fun hc => ?_) (fun hc => ?_)
      · replace h := h.1 (b01_eq hc)
        refine x_aload_n (pc' := 32) dX8_move_31 rfl rfl rfl ?_
        refine x_getr (pc' := 35) dX8_move_32 rfl lfX8_7 kd_94 rfl rf_94_0 ?_
        refine x_iconst (pc' := 36) (v := 2) dX8_move_35 rfl (by decide) ?_
        refine x_iald (pc' := 37) dX8_move_36 rfl kd_95 (by rw [ln_95]; unfold vp_in; decide) ?_
        show X none (d + 3) mX8_move 37 [.ref 94, .int x1, .int x2, .int x3, .int u2, Unk] [.int (τ1.1 95 2)] τ1 _
        refine x_sipush (pc' := 40) (v := 10000) dX8_move_37 rfl (by decide) ?_
        refine x_icmp_ne (pc' := 43) (tgt := 48) dX8_move_40 (by decide) rfl (fun hc => ?_) (fun hc => ?_)
        · replace h := h.1 hc
          refine x_aload_n (pc' := 49) dX8_move_48 rfl rfl rfl ?_
          refine x_callV (pc' := 52) (As := []) dX8_move_49 rfl lmX8_87 kd_94 rfl rfl (Nat.le_of_ble_eq_true rfl) (Nat.le_of_ble_eq_true rfl) ?_
          show X none (d + 2) mX8_minds 0 [.ref 94, Unk] [] τ1 _
          refine X.mono h ?_
          rintro r τ5 ⟨rfl, h⟩
          show X none (d + 3) mX8_move 52 [.ref 94, .int x1, .int x2, .int x3, .int u2, Unk] [] τ5 _
          refine x_aload_n (pc' := 53) dX8_move_52 rfl rfl rfl ?_
          refine x_getr (pc' := 56) dX8_move_53 rfl lfX8_7 kd_94 rfl rf_94_0 ?_
          refine x_sipush (pc' := 59) (v := 372) dX8_move_56 rfl (by decide) ?_
          refine x_iload (pc' := 61) dX8_move_59 rfl rfl ?_
          refine x_iadd (pc' := 62) dX8_move_61 rfl ?_
          obtain ⟨hb, h⟩ := h
          refine x_iald (pc' := 63) dX8_move_62 rfl kd_95 (by rw [ln_95]; exact hb) ?_
          refine x_istore (pc' := 65) dX8_move_63 rfl (by decide) rfl (ls' := [.ref 94, .int x1, .int x2, .int x3, .int u2, .int (τ5.1 95 (372 + u2).toNatClampNeg)]) rfl ?_
          refine x_aload_n (pc' := 66) dX8_move_65 rfl rfl rfl ?_
          refine x_iload (pc' := 68) dX8_move_66 rfl rfl ?_
          refine x_callV (pc' := 71) (As := [.int u2]) dX8_move_68 rfl lmX8_97 kd_94 rfl rfl (Nat.le_of_ble_eq_true rfl) (Nat.le_of_ble_eq_true rfl) ?_
          show X none (d + 2) mX8_goes 0 [.ref 94, .int u2] [] τ5 _
          refine X.mono h ?_
          rintro r τ6 ⟨rfl, h⟩
          show X none (d + 3) mX8_move 71 [.ref 94, .int x1, .int x2, .int x3, .int u2, .int (τ5.1 95 (372 + u2).toNatClampNeg)] [] τ6 _
          refine x_aload_n (pc' := 72) dX8_move_71 rfl rfl rfl ?_
          refine x_iload_n (pc' := 73) dX8_move_72 rfl rfl rfl ?_
          refine x_iload_n (pc' := 74) dX8_move_73 rfl rfl rfl ?_
          refine x_iload (pc' := 76) dX8_move_74 rfl rfl ?_
          refine x_callV (pc' := 79) (As := [.int x2, .int x3, .int (τ5.1 95 (372 + u2).toNatClampNeg)]) dX8_move_76 rfl lmX8_90 kd_94 rfl rfl (Nat.le_of_ble_eq_true rfl) (Nat.le_of_ble_eq_true rfl) ?_
          show X none (d + 2) mX8_comes 0 [.ref 94, .int x2, .int x3, .int (τ5.1 95 (372 + u2).toNatClampNeg), Unk] [] τ6 _
          refine X.mono h ?_
          rintro r τ7 ⟨rfl, h⟩
          show X none (d + 3) mX8_move 79 [.ref 94, .int x1, .int x2, .int x3, .int u2, .int (τ5.1 95 (372 + u2).toNatClampNeg)] [] τ7 _
          refine x_aload_n (pc' := 80) dX8_move_79 rfl rfl rfl ?_
          refine x_getr (pc' := 83) dX8_move_80 rfl lfX8_7 kd_94 rfl rf_94_0 ?_
          refine x_iconst (pc' := 84) (v := 2) dX8_move_83 rfl (by decide) ?_
          refine x_iald (pc' := 85) dX8_move_84 rfl kd_95 (by rw [ln_95]; unfold vp_in; decide) ?_
          show X none (d + 3) mX8_move 85 [.ref 94, .int x1, .int x2, .int x3, .int u2, .int (τ5.1 95 (372 + u2).toNatClampNeg)] [.int (τ7.1 95 2)] τ7 _
          refine x_iconst (pc' := 86) (v := 1) dX8_move_85 rfl (by decide) ?_
          refine x_isub (pc' := 87) dX8_move_86 rfl ?_
          exact x_iret dX8_move_87 rfl rfl h
        · replace h := h.2 hc
          refine x_aload_n (pc' := 44) dX8_move_43 rfl rfl rfl ?_
          refine x_callV (pc' := 47) (As := []) dX8_move_44 rfl lmX8_84 kd_94 rfl rfl (Nat.le_of_ble_eq_true rfl) (Nat.le_of_ble_eq_true rfl) ?_
          show X none (d + 2) mX8_full 0 [.ref 94] [] τ1 _
          refine x_aload_n (pc' := 1) dX8_full_0 rfl rfl rfl ?_
          refine x_getr (pc' := 4) dX8_full_1 rfl lfX8_30 kd_94 rfl rf_94_9 ?_
          refine x_iconst (pc' := 5) (v := 2) dX8_full_4 rfl (by decide) ?_
          refine x_dup2 (pc' := 6) dX8_full_5 rfl rfl rfl ?_
          refine x_iald (pc' := 7) dX8_full_6 rfl kd_99 (by rw [ln_99]; unfold vp_in; decide) ?_
          show X none (d + 2) mX8_full 7 [.ref 94] [.int (τ1.1 99 2), .int 2, .ref 99] τ1 _
          refine x_iconst (pc' := 8) (v := 1) dX8_full_7 rfl (by decide) ?_
          refine x_iadd (pc' := 9) dX8_full_8 rfl ?_
          refine x_iast (pc' := 10) dX8_full_9 rfl kd_99 (by rw [ln_99]; unfold vp_in; decide) ?_
          obtain ⟨τ8, eτ8⟩ : ∃ τ : Mem, τ = (w1 τ1 99 2 ((τ1.1 99 2) + 1)) := ⟨_, rfl⟩
          show X none (d + 2) mX8_full 10 [.ref 94] [] (w1 τ1 99 2 ((τ1.1 99 2) + 1)) _
          rw [← eτ8]
          replace h := h τ8 eτ8
          refine x_ldc (pc' := 12) dX8_full_10 rfl lcX8_44 ?_
          refine x_iret dX8_full_12 rfl rfl ?_
          show X none (d + 3) mX8_move 47 [.ref 94, .int x1, .int x2, .int x3, .int u2, Unk] [.int (-2000000004)] τ8 _
          exact x_iret dX8_move_47 rfl rfl h
      · replace h := h.2 (b01_ne hc)
        refine x_aload_n (pc' := 27) dX8_move_26 rfl rfl rfl ?_
        refine x_callV (pc' := 30) (As := []) dX8_move_27 rfl lmX8_81 kd_94 rfl rfl (Nat.le_of_ble_eq_true rfl) (Nat.le_of_ble_eq_true rfl) ?_
        show X none (d + 2) mX8_bad 0 [.ref 94] [] τ1 _
        refine x_aload_n (pc' := 1) dX8_bad_0 rfl rfl rfl ?_
        refine x_getr (pc' := 4) dX8_bad_1 rfl lfX8_30 kd_94 rfl rf_94_9 ?_
        refine x_iconst (pc' := 5) (v := 0) dX8_bad_4 rfl (by decide) ?_
        refine x_dup2 (pc' := 6) dX8_bad_5 rfl rfl rfl ?_
        refine x_iald (pc' := 7) dX8_bad_6 rfl kd_99 (by rw [ln_99]; unfold vp_in; decide) ?_
        show X none (d + 2) mX8_bad 7 [.ref 94] [.int (τ1.1 99 0), .int 0, .ref 99] τ1 _
        refine x_iconst (pc' := 8) (v := 1) dX8_bad_7 rfl (by decide) ?_
        refine x_iadd (pc' := 9) dX8_bad_8 rfl ?_
        refine x_iast (pc' := 10) dX8_bad_9 rfl kd_99 (by rw [ln_99]; unfold vp_in; decide) ?_
        obtain ⟨τ9, eτ9⟩ : ∃ τ : Mem, τ = (w1 τ1 99 0 ((τ1.1 99 0) + 1)) := ⟨_, rfl⟩
        show X none (d + 2) mX8_bad 10 [.ref 94] [] (w1 τ1 99 0 ((τ1.1 99 0) + 1)) _
        rw [← eτ9]
        replace h := h τ9 eτ9
        refine x_ldc (pc' := 12) dX8_bad_10 rfl lcX8_42 ?_
        refine x_iret dX8_bad_12 rfl rfl ?_
        show X none (d + 3) mX8_move 30 [.ref 94, .int x1, .int x2, .int x3, .int u2, Unk] [.int (-2000000002)] τ9 _
        exact x_iret dX8_move_30 rfl rfl h
