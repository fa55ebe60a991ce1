set_option maxRecDepth 100000 in
set_option maxHeartbeats 4000000 in
theorem vX8_scatter_0 {d : Nat} {σ : Mem} {Q : Option Value → Mem → Prop} {x1 x2 : Int32} 
    (h : ((¬ (0 ≤ x1 ∧ x1 ≤ 999999) → ((∀ τ1 : Mem, τ1 = (w1 σ 99 0 ((σ.1 99 0) + 1)) → Q (some (.int (-2000000002))) τ1))) ∧ ((0 ≤ x1 ∧ x1 ≤ 999999) → (((1 ≤ x2 ∧ x2 ≤ 30) → ((60 < (((σ.1 95 0) - (σ.1 95 1)) + x2) → ((∀ τ2 : Mem, τ2 = (w1 σ 99 2 ((σ.1 99 2) + 1)) → Q (some (.int (-2000000004))) τ2))) ∧ (¬ 60 < (((σ.1 95 0) - (σ.1 95 1)) + x2) → ((((σ.1 95 2) + x2) ≤ 10000 → (X none (d + 1) mX8_minds 0 [.ref 94, Unk] [] σ (fun r τ3 => r = none ∧ (∀ τ4 : Mem, τ4 = (w1 τ3 94 10 x1) → X none (d + 2) mX8_scatter 70 [.ref 94, .int x1, .int x2, .int 0, Unk, Unk] [] τ4 Q)))) ∧ (¬ ((σ.1 95 2) + x2) ≤ 10000 → ((∀ τ5 : Mem, τ5 = (w1 σ 99 2 ((σ.1 99 2) + 1)) → Q (some (.int (-2000000004))) τ5))))))) ∧ (¬ (1 ≤ x2 ∧ x2 ≤ 30) → ((∀ τ6 : Mem, τ6 = (w1 σ 99 0 ((σ.1 99 0) + 1)) → Q (some (.int (-2000000002))) τ6))))))) :
    X none (d + 2) mX8_scatter 0 [.ref 94, .int x1, .int x2, Unk, Unk, Unk] [] σ Q := by
  refine x_iload_n (pc' := 1) dX8_scatter_0 rfl rfl rfl ?_
  refine x_i2l (pc' := 2) dX8_scatter_1 rfl ?_
  refine x_lconst (pc' := 3) (v := 0) dX8_scatter_2 rfl (by decide) ?_
  refine x_ldc2 (pc' := 6) dX8_scatter_3 rfl llX8_106 ?_
  refine x_callS (pc' := 9) (As := [.long ((x1).toInt64), .long 0, .long 999999]) dX8_scatter_6 rfl lmX8_49 rfl rfl (Nat.le_of_ble_eq_true rfl) (Nat.le_of_ble_eq_true rfl) ?_
  show X none (d + 1) mX8_in 0 [.long ((x1).toInt64), Unk, .long 0, Unk, .long 999999, Unk] [] σ _
  refine sp_in (x := x1) (lo := 0) (hi := 999999) (by decide) (by decide) ?_
  show X none (d + 2) mX8_scatter 9 [.ref 94, .int x1, .int x2, Unk, Unk, Unk] [.int (if (0 ≤ x1 ∧ x1 ≤ 999999) then 1 else 0)] σ _
  refine x_if_eq (pc' := 12) (tgt := 24) dX8_scatter_9 (by decide) rfl (fun hc => ?_) (fun hc => ?_)
  · replace h := h.1 (b01_ne hc)
    refine x_aload_n (pc' := 25) dX8_scatter_24 rfl rfl rfl ?_
    refine x_callV (pc' := 28) (As := []) dX8_scatter_25 rfl lmX8_81 kd_94 rfl rfl (Nat.le_of_ble_eq_true rfl) (Nat.le_of_ble_eq_true rfl) ?_
    show X none (d + 1) mX8_bad 0 [.ref 94] [] σ _
    refine x_aload_n (pc' := 1) dX8_bad_0 rfl rfl rfl ?_
    refine x_getr (pc' := 4) dX8_bad_1 rfl lfX8_30 kd_94 rfl rf_94_9 ?_
    refine x_iconst (pc' := 5) (v := 0) dX8_bad_4 rfl (by decide) ?_
    refine x_dup2 (pc' := 6) dX8_bad_5 rfl rfl rfl ?_
    refine x_iald (pc' := 7) dX8_bad_6 rfl kd_99 (by rw [ln_99]; unfold vp_in; decide) ?_
    show X none (d + 1) mX8_bad 7 [.ref 94] [.int (σ.1 99 0), .int 0, .ref 99] σ _
    refine x_iconst (pc' := 8) (v := 1) dX8_bad_7 rfl (by decide) ?_
    refine x_iadd (pc' := 9) dX8_bad_8 rfl ?_
    refine x_iast (pc' := 10) dX8_bad_9 rfl kd_99 (by rw [ln_99]; unfold vp_in; decide) ?_
    obtain ⟨τ1, eτ1⟩ : ∃ τ : Mem, τ = (w1 σ 99 0 ((σ.1 99 0) + 1)) := ⟨_, rfl⟩
    show X none (d + 1) mX8_bad 10 [.ref 94] [] (w1 σ 99 0 ((σ.1 99 0) + 1)) _
    rw [← eτ1]
    replace h := h τ1 eτ1
    refine x_ldc (pc' := 12) dX8_bad_10 rfl lcX8_42 ?_
    refine x_iret dX8_bad_12 rfl rfl ?_
    show X none (d + 2) mX8_scatter 28 [.ref 94, .int x1, .int x2, Unk, Unk, Unk] [.int (-2000000002)] τ1 _
    exact x_iret dX8_scatter_28 rfl rfl h
  · replace h := h.2 (b01_eq hc)
    refine x_iload_n (pc' := 13) dX8_scatter_12 rfl rfl rfl ?_
    refine x_i2l (pc' := 14) dX8_scatter_13 rfl ?_
    refine x_lconst (pc' := 15) (v := 1) dX8_scatter_14 rfl (by decide) ?_
    refine x_ldc2 (pc' := 18) dX8_scatter_15 rfl llX8_108 ?_
    refine x_callS (pc' := 21) (As := [.long ((x2).toInt64), .long 1, .long 30]) dX8_scatter_18 rfl lmX8_49 rfl rfl (Nat.le_of_ble_eq_true rfl) (Nat.le_of_ble_eq_true rfl) ?_
    show X none (d + 1) mX8_in 0 [.long ((x2).toInt64), Unk, .long 1, Unk, .long 30, Unk] [] σ _
    refine sp_in (x := x2) (lo := 1) (hi := 30) (by decide) (by decide) ?_
    show X none (d + 2) mX8_scatter 21 [.ref 94, .int x1, .int x2, Unk, Unk, Unk] [.int (if (1 ≤ x2 ∧ x2 ≤ 30) then 1 else 0)] σ _
    refine x_if_ne (pc' := 24) (tgt := 29) dX8_scatter_21 (by decide) rfl (fun hc => ?_) (fun hc => ?_)
    · replace h := h.1 (b01_eq hc)
      refine x_aload_n (pc' := 30) dX8_scatter_29 rfl rfl rfl ?_
      refine x_callV (pc' := 33) (As := []) dX8_scatter_30 rfl lmX8_72 kd_94 rfl rfl (Nat.le_of_ble_eq_true rfl) (Nat.le_of_ble_eq_true rfl) ?_
      show X none (d + 1) mX8_points 0 [.ref 94] [] σ _
      refine x_aload_n (pc' := 1) dX8_points_0 rfl rfl rfl ?_
      refine x_getr (pc' := 4) dX8_points_1 rfl lfX8_7 kd_94 rfl rf_94_0 ?_
      refine x_iconst (pc' := 5) (v := 0) dX8_points_4 rfl (by decide) ?_
      refine x_iald (pc' := 6) dX8_points_5 rfl kd_95 (by rw [ln_95]; unfold vp_in; decide) ?_
      show X none (d + 1) mX8_points 6 [.ref 94] [.int (σ.1 95 0)] σ _
      refine x_aload_n (pc' := 7) dX8_points_6 rfl rfl rfl ?_
      refine x_getr (pc' := 10) dX8_points_7 rfl lfX8_7 kd_94 rfl rf_94_0 ?_
      refine x_iconst (pc' := 11) (v := 1) dX8_points_10 rfl (by decide) ?_
      refine x_iald (pc' := 12) dX8_points_11 rfl kd_95 (by rw [ln_95]; unfold vp_in; decide) ?_
      show X none (d + 1) mX8_points 12 [.ref 94] [.int (σ.1 95 1), .int (σ.1 95 0)] σ _
      refine x_isub (pc' := 13) dX8_points_12 rfl ?_
      refine x_iret dX8_points_13 rfl rfl ?_
      show X none (d + 2) mX8_scatter 33 [.ref 94, .int x1, .int x2, Unk, Unk, Unk] [.int ((σ.1 95 0) - (σ.1 95 1))] σ _
      refine x_iload_n (pc' := 34) dX8_scatter_33 rfl rfl rfl ?_
      refine x_iadd (pc' := 35) dX8_scatter_34 rfl ?_
      refine x_bipush (pc' := 37) (v := 60) dX8_scatter_35 rfl (by decide) ?_
      refine x_icmp_gt (pc' := 40) (tgt := 54) dX8_scatter_37 (by decide) rfl (fun hc => ?_) (fun hc => ?_)
      · replace h := h.1 hc
        refine x_aload_n (pc' := 55) dX8_scatter_54 rfl rfl rfl ?_
        refine x_callV (pc' := 58) (As := []) dX8_scatter_55 rfl lmX8_84 kd_94 rfl rfl (Nat.le_of_ble_eq_true rfl) (Nat.le_of_ble_eq_true rfl) ?_
        show X none (d + 1) mX8_full 0 [.ref 94] [] σ _
        refine x_aload_n (pc' := 1) dX8_full_0 rfl rfl rfl ?_
        refine x_getr (pc' := 4) dX8_full_1 rfl lfX8_30 kd_94 rfl rf_94_9 ?_
        refine x_iconst (pc' := 5) (v := 2) dX8_full_4 rfl (by decide) ?_
        refine x_dup2 (pc' := 6) dX8_full_5 rfl rfl rfl ?_
        refine x_iald (pc' := 7) dX8_full_6 rfl kd_99 (by rw [ln_99]; unfold vp_in; decide) ?_
        show X none (d + 1) mX8_full 7 [.ref 94] [.int (σ.1 99 2), .int 2, .ref 99] σ _
        refine x_iconst (pc' := 8) (v := 1) dX8_full_7 rfl (by decide) ?_
        refine x_iadd (pc' := 9) dX8_full_8 rfl ?_
        refine x_iast (pc' := 10) dX8_full_9 rfl kd_99 (by rw [ln_99]; unfold vp_in; decide) ?_
        obtain ⟨τ2, eτ2⟩ : ∃ τ : Mem, τ = (w1 σ 99 2 ((σ.1 99 2) + 1)) := ⟨_, rfl⟩
        show X none (d + 1) mX8_full 10 [.ref 94] [] (w1 σ 99 2 ((σ.1 99 2) + 1)) _
        rw [← eτ2]
        replace h := h τ2 eτ2
        refine x_ldc (pc' := 12) dX8_full_10 rfl lcX8_44 ?_
        refine x_iret dX8_full_12 rfl rfl ?_
        show X none (d + 2) mX8_scatter 58 [.ref 94, .int x1, .int x2, Unk, Unk, Unk] [.int (-2000000004)] τ2 _
        exact x_iret dX8_scatter_58 rfl rfl h
      · replace h := h.2 hc
        refine x_aload_n (pc' := 41) dX8_scatter_40 rfl rfl rfl ?_
        refine x_getr (pc' := 44) dX8_scatter_41 rfl lfX8_7 kd_94 rfl rf_94_0 ?_
        refine x_iconst (pc' := 45) (v := 2) dX8_scatter_44 rfl (by decide) ?_
        refine x_iald (pc' := 46) dX8_scatter_45 rfl kd_95 (by rw [ln_95]; unfold vp_in; decide) ?_
        show X none (d + 2) mX8_scatter 46 [.ref 94, .int x1, .int x2, Unk, Unk, Unk] [.int (σ.1 95 2)] σ _
        refine x_iload_n (pc' := 47) dX8_scatter_46 rfl rfl rfl ?_
        refine x_iadd (pc' := 48) dX8_scatter_47 rfl ?_
        refine x_sipush (pc' := 51) (v := 10000) dX8_scatter_48 rfl (by decide) ?_
        refine x_icmp_le (pc' := 54) (tgt := 59) dX8_scatter_51 (by decide) rfl (fun hc => ?_) (fun hc => ?_)
        · replace h := h.1 hc
          refine x_aload_n (pc' := 60) dX8_scatter_59 rfl rfl rfl ?_
          refine x_callV (pc' := 63) (As := []) dX8_scatter_60 rfl lmX8_87 kd_94 rfl rfl (Nat.le_of_ble_eq_true rfl) (Nat.le_of_ble_eq_true rfl) ?_
          show X none (d + 1) mX8_minds 0 [.ref 94, Unk] [] σ _
          refine X.mono h ?_
          rintro r τ3 ⟨rfl, h⟩
          show X none (d + 2) mX8_scatter 63 [.ref 94, .int x1, .int x2, Unk, Unk, Unk] [] τ3 _
          refine x_aload_n (pc' := 64) dX8_scatter_63 rfl rfl rfl ?_
          refine x_iload_n (pc' := 65) dX8_scatter_64 rfl rfl rfl ?_
          refine x_puti (pc' := 68) dX8_scatter_65 rfl lfX8_101 kd_94 rfl rfl rfl ?_
          obtain ⟨τ4, eτ4⟩ : ∃ τ : Mem, τ = (w1 τ3 94 10 x1) := ⟨_, rfl⟩
          show X none (d + 2) mX8_scatter 68 [.ref 94, .int x1, .int x2, Unk, Unk, Unk] [] (w1 τ3 94 10 x1) _
          rw [← eτ4]
          replace h := h τ4 eτ4
          refine x_iconst (pc' := 69) (v := 0) dX8_scatter_68 rfl (by decide) ?_
          refine x_istore_n (pc' := 70) dX8_scatter_69 rfl rfl (by decide) rfl (ls' := [.ref 94, .int x1, .int x2, .int 0, Unk, Unk]) rfl ?_
          exact h
        · replace h := h.2 hc
          refine x_aload_n (pc' := 55) dX8_scatter_54 rfl rfl rfl ?_
          refine x_callV (pc' := 58) (As := []) dX8_scatter_55 rfl lmX8_84 kd_94 rfl rfl (Nat.le_of_ble_eq_true rfl) (Nat.le_of_ble_eq_true rfl) ?_
          show X none (d + 1) mX8_full 0 [.ref 94] [] σ _
          refine x_aload_n (pc' := 1) dX8_full_0 rfl rfl rfl ?_
          refine x_getr (pc' := 4) dX8_full_1 rfl lfX8_30 kd_94 rfl rf_94_9 ?_
          refine x_iconst (pc' := 5) (v := 2) dX8_full_4 rfl (by decide) ?_
          refine x_dup2 (pc' := 6) dX8_full_5 rfl rfl rfl ?_
          refine x_iald (pc' := 7) dX8_full_6 rfl kd_99 (by rw [ln_99]; unfold vp_in; decide) ?_
          show X none (d + 1) mX8_full 7 [.ref 94] [.int (σ.1 99 2), .int 2, .ref 99] σ _
          refine x_iconst (pc' := 8) (v := 1) dX8_full_7 rfl (by decide) ?_
          refine x_iadd (pc' := 9) dX8_full_8 rfl ?_
          refine x_iast (pc' := 10) dX8_full_9 rfl kd_99 (by rw [ln_99]; unfold vp_in; decide) ?_
          obtain ⟨τ5, eτ5⟩ : ∃ τ : Mem, τ = (w1 σ 99 2 ((σ.1 99 2) + 1)) := ⟨_, rfl⟩
          show X none (d + 1) mX8_full 10 [.ref 94] [] (w1 σ 99 2 ((σ.1 99 2) + 1)) _
          rw [← eτ5]
          replace h := h τ5 eτ5
          refine x_ldc (pc' := 12) dX8_full_10 rfl lcX8_44 ?_
          refine x_iret dX8_full_12 rfl rfl ?_
          show X none (d + 2) mX8_scatter 58 [.ref 94, .int x1, .int x2, Unk, Unk, Unk] [.int (-2000000004)] τ5 _
          exact x_iret dX8_scatter_58 rfl rfl h
    · replace h := h.2 (b01_ne hc)
      refine x_aload_n (pc' := 25) dX8_scatter_24 rfl rfl rfl ?_
      refine x_callV (pc' := 28) (As := []) dX8_scatter_25 rfl lmX8_81 kd_94 rfl rfl (Nat.le_of_ble_eq_true rfl) (Nat.le_of_ble_eq_true rfl) ?_
      show X none (d + 1) mX8_bad 0 [.ref 94] [] σ _
      refine x_aload_n (pc' := 1) dX8_bad_0 rfl rfl rfl ?_
      refine x_getr (pc' := 4) dX8_bad_1 rfl lfX8_30 kd_94 rfl rf_94_9 ?_
      refine x_iconst (pc' := 5) (v := 0) dX8_bad_4 rfl (by decide) ?_
      refine x_dup2 (pc' := 6) dX8_bad_5 rfl rfl rfl ?_
      refine x_iald (pc' := 7) dX8_bad_6 rfl kd_99 (by rw [ln_99]; unfold vp_in; decide) ?_
      show X none (d + 1) mX8_bad 7 [.ref 94] [.int (σ.1 99 0), .int 0, .ref 99] σ _
      refine x_iconst (pc' := 8) (v := 1) dX8_bad_7 rfl (by decide) ?_
      refine x_iadd (pc' := 9) dX8_bad_8 rfl ?_
      refine x_iast (pc' := 10) dX8_bad_9 rfl kd_99 (by rw [ln_99]; unfold vp_in; decide) ?_
      obtain ⟨τ6, eτ6⟩ : ∃ τ : Mem, τ = (w1 σ 99 0 ((σ.1 99 0) + 1)) := ⟨_, rfl⟩
      show X none (d + 1) mX8_bad 10 [.ref 94] [] (w1 σ 99 0 ((σ.1 99 0) + 1)) _
      rw [← eτ6]
      replace h := h τ6 eτ6
      refine x_ldc (pc' := 12) dX8_bad_10 rfl lcX8_42 ?_
      refine x_iret dX8_bad_12 rfl rfl ?_
      show X none (d + 2) mX8_scatter 28 [.ref 94, .int x1, .int x2, Unk, Unk, Unk] [.int (-2000000002)] τ6 _
      exact x_iret dX8_scatter_28 rfl rfl h
set_option maxRecDepth 100000 in
set_option maxHeartbeats 4000000 in
theorem vX8_scatter_70 {d : Nat} {σ : Mem} {Q : Option Value → Mem → Prop} {x1 x2 x3 : Int32} 
    (h : ((x2 ≤ x3 → Q (some (.int ((σ.1 95 0) - (σ.1 95 1)))) σ) ∧ (¬ x2 ≤ x3 → (∀ τ1 : Mem, τ1 = (w1 σ 94 10 ((((σ.1 94 10) * 1103515245) + 12345) &&& 2147483647)) → (∀ τ2 : Mem, τ2 = (w1 τ1 94 10 ((((τ1.1 94 10) * 1103515245) + 12345) &&& 2147483647)) → (∀ τ3 : Mem, τ3 = (w1 τ2 94 10 ((((τ2.1 94 10) * 1103515245) + 12345) &&& 2147483647)) → (X none (d + 1) mX8_comes 0 [.ref 94, .int ((((τ1.1 94 10) >>> ((16 : Int32) &&& 31)) - ((τ1.1 94 10) >>> ((16 : Int32) &&& 31)) / 1001 * 1001) - 500), .int ((((τ2.1 94 10) >>> ((16 : Int32) &&& 31)) - ((τ2.1 94 10) >>> ((16 : Int32) &&& 31)) / 1001 * 1001) - 500), .int (1 + (((τ3.1 94 10) >>> ((16 : Int32) &&& 31)) - ((τ3.1 94 10) >>> ((16 : Int32) &&& 31)) / 100 * 100)), Unk] [] τ3 (fun r τ4 => r = none ∧ X none (d + 2) mX8_scatter 70 [.ref 94, .int x1, .int x2, .int (x3 + 1), Unk, Unk] [] τ4 Q)))))))) :
    X none (d + 2) mX8_scatter 70 [.ref 94, .int x1, .int x2, .int x3, Unk, Unk] [] σ Q := by
  refine x_iload_n (pc' := 71) dX8_scatter_70 rfl rfl rfl ?_
  refine x_iload_n (pc' := 72) dX8_scatter_71 rfl rfl rfl ?_
  refine x_icmp_ge (pc' := 75) (tgt := 123) dX8_scatter_72 (by decide) rfl (fun hc => ?_) (fun hc => ?_)
  · replace h := h.1 hc
    refine x_aload_n (pc' := 124) dX8_scatter_123 rfl rfl rfl ?_
    refine x_callV (pc' := 127) (As := []) dX8_scatter_124 rfl lmX8_72 kd_94 rfl rfl (Nat.le_of_ble_eq_true rfl) (Nat.le_of_ble_eq_true rfl) ?_
    show X none (d + 1) mX8_points 0 [.ref 94] [] σ _
    refine x_aload_n (pc' := 1) dX8_points_0 rfl rfl rfl ?_
    refine x_getr (pc' := 4) dX8_points_1 rfl lfX8_7 kd_94 rfl rf_94_0 ?_
    refine x_iconst (pc' := 5) (v := 0) dX8_points_4 rfl (by decide) ?_
    refine x_iald (pc' := 6) dX8_points_5 rfl kd_95 (by rw [ln_95]; unfold vp_in; decide) ?_
    show X none (d + 1) mX8_points 6 [.ref 94] [.int (σ.1 95 0)] σ _
    refine x_aload_n (pc' := 7) dX8_points_6 rfl rfl rfl ?_
    refine x_getr (pc' := 10) dX8_points_7 rfl lfX8_7 kd_94 rfl rf_94_0 ?_
    refine x_iconst (pc' := 11) (v := 1) dX8_points_10 rfl (by decide) ?_
    refine x_iald (pc' := 12) dX8_points_11 rfl kd_95 (by rw [ln_95]; unfold vp_in; decide) ?_
    show X none (d + 1) mX8_points 12 [.ref 94] [.int (σ.1 95 1), .int (σ.1 95 0)] σ _
    refine x_isub (pc' := 13) dX8_points_12 rfl ?_
    refine x_iret dX8_points_13 rfl rfl ?_
    show X none (d + 2) mX8_scatter 127 [.ref 94, .int x1, .int x2, .int x3, Unk, Unk] [.int ((σ.1 95 0) - (σ.1 95 1))] σ _
    exact x_iret dX8_scatter_127 rfl rfl h
  · replace h := h.2 hc
    refine x_aload_n (pc' := 76) dX8_scatter_75 rfl rfl rfl ?_
    refine x_sipush (pc' := 79) (v := 1001) dX8_scatter_76 rfl (by decide) ?_
    refine x_callV (pc' := 82) (As := [.int 1001]) dX8_scatter_79 rfl lmX8_110 kd_94 rfl rfl (Nat.le_of_ble_eq_true rfl) (Nat.le_of_ble_eq_true rfl) ?_
    show X none (d + 1) mX8_draws 0 [.ref 94, .int 1001] [] σ _
    refine x_aload_n (pc' := 1) dX8_draws_0 rfl rfl rfl ?_
    refine x_aload_n (pc' := 2) dX8_draws_1 rfl rfl rfl ?_
    refine x_geti (pc' := 5) dX8_draws_2 rfl lfX8_101 kd_94 rfl ?_
    refine x_ldc (pc' := 7) dX8_draws_5 rfl lcX8_104 ?_
    refine x_imul (pc' := 8) dX8_draws_7 rfl ?_
    refine x_sipush (pc' := 11) (v := 12345) dX8_draws_8 rfl (by decide) ?_
    refine x_iadd (pc' := 12) dX8_draws_11 rfl ?_
    refine x_ldc (pc' := 14) dX8_draws_12 rfl lcX8_105 ?_
    refine x_iand (pc' := 15) dX8_draws_14 rfl ?_
    refine x_puti (pc' := 18) dX8_draws_15 rfl lfX8_101 kd_94 rfl rfl rfl ?_
    obtain ⟨τ1, eτ1⟩ : ∃ τ : Mem, τ = (w1 σ 94 10 ((((σ.1 94 10) * 1103515245) + 12345) &&& 2147483647)) := ⟨_, rfl⟩
    show X none (d + 1) mX8_draws 18 [.ref 94, .int 1001] [] (w1 σ 94 10 ((((σ.1 94 10) * 1103515245) + 12345) &&& 2147483647)) _
    rw [← eτ1]
    replace h := h τ1 eτ1
    refine x_aload_n (pc' := 19) dX8_draws_18 rfl rfl rfl ?_
    refine x_geti (pc' := 22) dX8_draws_19 rfl lfX8_101 kd_94 rfl ?_
    refine x_bipush (pc' := 24) (v := 16) dX8_draws_22 rfl (by decide) ?_
    refine x_ishr (pc' := 25) dX8_draws_24 rfl ?_
    refine x_iload_n (pc' := 26) dX8_draws_25 rfl rfl rfl ?_
    refine x_irem (pc' := 27) dX8_draws_26 rfl (by decide) ?_
    refine x_iret dX8_draws_27 rfl rfl ?_
    show X none (d + 2) mX8_scatter 82 [.ref 94, .int x1, .int x2, .int x3, Unk, Unk] [.int (((τ1.1 94 10) >>> ((16 : Int32) &&& 31)) - ((τ1.1 94 10) >>> ((16 : Int32) &&& 31)) / 1001 * 1001)] τ1 _
    refine x_sipush (pc' := 85) (v := 500) dX8_scatter_82 rfl (by decide) ?_
    refine x_isub (pc' := 86) dX8_scatter_85 rfl ?_
    refine x_istore (pc' := 88) dX8_scatter_86 rfl (by decide) rfl (ls' := [.ref 94, .int x1, .int x2, .int x3, .int ((((τ1.1 94 10) >>> ((16 : Int32) &&& 31)) - ((τ1.1 94 10) >>> ((16 : Int32) &&& 31)) / 1001 * 1001) - 500), Unk]) rfl ?_
    refine x_aload_n (pc' := 89) dX8_scatter_88 rfl rfl rfl ?_
    refine x_sipush (pc' := 92) (v := 1001) dX8_scatter_89 rfl (by decide) ?_
    refine x_callV (pc' := 95) (As := [.int 1001]) dX8_scatter_92 rfl lmX8_110 kd_94 rfl rfl (Nat.le_of_ble_eq_true rfl) (Nat.le_of_ble_eq_true rfl) ?_
    show X none (d + 1) mX8_draws 0 [.ref 94, .int 1001] [] τ1 _
    refine x_aload_n (pc' := 1) dX8_draws_0 rfl rfl rfl ?_
    refine x_aload_n (pc' := 2) dX8_draws_1 rfl rfl rfl ?_
    refine x_geti (pc' := 5) dX8_draws_2 rfl lfX8_101 kd_94 rfl ?_
    refine x_ldc (pc' := 7) dX8_draws_5 rfl lcX8_104 ?_
    refine x_imul (pc' := 8) dX8_draws_7 rfl ?_
    refine x_sipush (pc' := 11) (v := 12345) dX8_draws_8 rfl (by decide) ?_
    refine x_iadd (pc' := 12) dX8_draws_11 rfl ?_
    refine x_ldc (pc' := 14) dX8_draws_12 rfl lcX8_105 ?_
    refine x_iand (pc' := 15) dX8_draws_14 rfl ?_
    refine x_puti (pc' := 18) dX8_draws_15 rfl lfX8_101 kd_94 rfl rfl rfl ?_
    obtain ⟨τ2, eτ2⟩ : ∃ τ : Mem, τ = (w1 τ1 94 10 ((((τ1.1 94 10) * 1103515245) + 12345) &&& 2147483647)) := ⟨_, rfl⟩
    show X none (d + 1) mX8_draws 18 [.ref 94, .int 1001] [] (w1 τ1 94 10 ((((τ1.1 94 10) * 1103515245) + 12345) &&& 2147483647)) _
    rw [← eτ2]
    replace h := h τ2 eτ2
    refine x_aload_n (pc' := 19) dX8_draws_18 rfl rfl rfl ?_
    refine x_geti (pc' := 22) dX8_draws_19 rfl lfX8_101 kd_94 rfl ?_
    refine x_bipush (pc' := 24) (v := 16) dX8_draws_22 rfl (by decide) ?_
    refine x_ishr (pc' := 25) dX8_draws_24 rfl ?_
    refine x_iload_n (pc' := 26) dX8_draws_25 rfl rfl rfl ?_
    refine x_irem (pc' := 27) dX8_draws_26 rfl (by decide) ?_
    refine x_iret dX8_draws_27 rfl rfl ?_
    show X none (d + 2) mX8_scatter 95 [.ref 94, .int x1, .int x2, .int x3, .int ((((τ1.1 94 10) >>> ((16 : Int32) &&& 31)) - ((τ1.1 94 10) >>> ((16 : Int32) &&& 31)) / 1001 * 1001) - 500), Unk] [.int (((τ2.1 94 10) >>> ((16 : Int32) &&& 31)) - ((τ2.1 94 10) >>> ((16 : Int32) &&& 31)) / 1001 * 1001)] τ2 _
    refine x_sipush (pc' := 98) (v := 500) dX8_scatter_95 rfl (by decide) ?_
    refine x_isub (pc' := 99) dX8_scatter_98 rfl ?_
    refine x_istore (pc' := 101) dX8_scatter_99 rfl (by decide) rfl (ls' := [.ref 94, .int x1, .int x2, .int x3, .int ((((τ1.1 94 10) >>> ((16 : Int32) &&& 31)) - ((τ1.1 94 10) >>> ((16 : Int32) &&& 31)) / 1001 * 1001) - 500), .int ((((τ2.1 94 10) >>> ((16 : Int32) &&& 31)) - ((τ2.1 94 10) >>> ((16 : Int32) &&& 31)) / 1001 * 1001) - 500)]) rfl ?_
    refine x_aload_n (pc' := 102) dX8_scatter_101 rfl rfl rfl ?_
    refine x_iload (pc' := 104) dX8_scatter_102 rfl rfl ?_
    refine x_iload (pc' := 106) dX8_scatter_104 rfl rfl ?_
    refine x_iconst (pc' := 107) (v := 1) dX8_scatter_106 rfl (by decide) ?_
    refine x_aload_n (pc' := 108) dX8_scatter_107 rfl rfl rfl ?_
    refine x_bipush (pc' := 110) (v := 100) dX8_scatter_108 rfl (by decide) ?_
    refine x_callV (pc' := 113) (As := [.int 100]) dX8_scatter_110 rfl lmX8_110 kd_94 rfl rfl (Nat.le_of_ble_eq_true rfl) (Nat.le_of_ble_eq_true rfl) ?_
    show X none (d + 1) mX8_draws 0 [.ref 94, .int 100] [] τ2 _
    refine x_aload_n (pc' := 1) dX8_draws_0 rfl rfl rfl ?_
    refine x_aload_n (pc' := 2) dX8_draws_1 rfl rfl rfl ?_
    refine x_geti (pc' := 5) dX8_draws_2 rfl lfX8_101 kd_94 rfl ?_
    refine x_ldc (pc' := 7) dX8_draws_5 rfl lcX8_104 ?_
    refine x_imul (pc' := 8) dX8_draws_7 rfl ?_
    refine x_sipush (pc' := 11) (v := 12345) dX8_draws_8 rfl (by decide) ?_
    refine x_iadd (pc' := 12) dX8_draws_11 rfl ?_
    refine x_ldc (pc' := 14) dX8_draws_12 rfl lcX8_105 ?_
    refine x_iand (pc' := 15) dX8_draws_14 rfl ?_
    refine x_puti (pc' := 18) dX8_draws_15 rfl lfX8_101 kd_94 rfl rfl rfl ?_
    obtain ⟨τ3, eτ3⟩ : ∃ τ : Mem, τ = (w1 τ2 94 10 ((((τ2.1 94 10) * 1103515245) + 12345) &&& 2147483647)) := ⟨_, rfl⟩
    show X none (d + 1) mX8_draws 18 [.ref 94, .int 100] [] (w1 τ2 94 10 ((((τ2.1 94 10) * 1103515245) + 12345) &&& 2147483647)) _
    rw [← eτ3]
    replace h := h τ3 eτ3
    refine x_aload_n (pc' := 19) dX8_draws_18 rfl rfl rfl ?_
    refine x_geti (pc' := 22) dX8_draws_19 rfl lfX8_101 kd_94 rfl ?_
    refine x_bipush (pc' := 24) (v := 16) dX8_draws_22 rfl (by decide) ?_
    refine x_ishr (pc' := 25) dX8_draws_24 rfl ?_
    refine x_iload_n (pc' := 26) dX8_draws_25 rfl rfl rfl ?_
    refine x_irem (pc' := 27) dX8_draws_26 rfl (by decide) ?_
    refine x_iret dX8_draws_27 rfl rfl ?_
    show X none (d + 2) mX8_scatter 113 [.ref 94, .int x1, .int x2, .int x3, .int ((((τ1.1 94 10) >>> ((16 : Int32) &&& 31)) - ((τ1.1 94 10) >>> ((16 : Int32) &&& 31)) / 1001 * 1001) - 500), .int ((((τ2.1 94 10) >>> ((16 : Int32) &&& 31)) - ((τ2.1 94 10) >>> ((16 : Int32) &&& 31)) / 1001 * 1001) - 500)] [.int (((τ3.1 94 10) >>> ((16 : Int32) &&& 31)) - ((τ3.1 94 10) >>> ((16 : Int32) &&& 31)) / 100 * 100), .int 1, .int ((((τ2.1 94 10) >>> ((16 : Int32) &&& 31)) - ((τ2.1 94 10) >>> ((16 : Int32) &&& 31)) / 1001 * 1001) - 500), .int ((((τ1.1 94 10) >>> ((16 : Int32) &&& 31)) - ((τ1.1 94 10) >>> ((16 : Int32) &&& 31)) / 1001 * 1001) - 500), .ref 94] τ3 _
    refine x_iadd (pc' := 114) dX8_scatter_113 rfl ?_
    refine x_callV (pc' := 117) (As := [.int ((((τ1.1 94 10) >>> ((16 : Int32) &&& 31)) - ((τ1.1 94 10) >>> ((16 : Int32) &&& 31)) / 1001 * 1001) - 500), .int ((((τ2.1 94 10) >>> ((16 : Int32) &&& 31)) - ((τ2.1 94 10) >>> ((16 : Int32) &&& 31)) / 1001 * 1001) - 500), .int (1 + (((τ3.1 94 10) >>> ((16 : Int32) &&& 31)) - ((τ3.1 94 10) >>> ((16 : Int32) &&& 31)) / 100 * 100))]) dX8_scatter_114 rfl lmX8_90 kd_94 rfl rfl (Nat.le_of_ble_eq_true rfl) (Nat.le_of_ble_eq_true rfl) ?_
    show X none (d + 1) mX8_comes 0 [.ref 94, .int ((((τ1.1 94 10) >>> ((16 : Int32) &&& 31)) - ((τ1.1 94 10) >>> ((16 : Int32) &&& 31)) / 1001 * 1001) - 500), .int ((((τ2.1 94 10) >>> ((16 : Int32) &&& 31)) - ((τ2.1 94 10) >>> ((16 : Int32) &&& 31)) / 1001 * 1001) - 500), .int (1 + (((τ3.1 94 10) >>> ((16 : Int32) &&& 31)) - ((τ3.1 94 10) >>> ((16 : Int32) &&& 31)) / 100 * 100)), Unk] [] τ3 _
    refine X.mono h ?_
    rintro r τ4 ⟨rfl, h⟩
    show X none (d + 2) mX8_scatter 117 [.ref 94, .int x1, .int x2, .int x3, .int ((((τ1.1 94 10) >>> ((16 : Int32) &&& 31)) - ((τ1.1 94 10) >>> ((16 : Int32) &&& 31)) / 1001 * 1001) - 500), .int ((((τ2.1 94 10) >>> ((16 : Int32) &&& 31)) - ((τ2.1 94 10) >>> ((16 : Int32) &&& 31)) / 1001 * 1001) - 500)] [] τ4 _
    refine x_iinc (pc' := 120) (v := 1) dX8_scatter_117 rfl (by decide) rfl rfl (by decide) (ls' := [.ref 94, .int x1, .int x2, .int (x3 + 1), .int ((((τ1.1 94 10) >>> ((16 : Int32) &&& 31)) - ((τ1.1 94 10) >>> ((16 : Int32) &&& 31)) / 1001 * 1001) - 500), .int ((((τ2.1 94 10) >>> ((16 : Int32) &&& 31)) - ((τ2.1 94 10) >>> ((16 : Int32) &&& 31)) / 1001 * 1001) - 500)]) rfl ?_
    refine x_goto (pc' := 70) dX8_scatter_120 (by decide) ?_
    refine x_forget 4 (ls' := [.ref 94, .int x1, .int x2, .int (x3 + 1), Unk, .int ((((τ2.1 94 10) >>> ((16 : Int32) &&& 31)) - ((τ2.1 94 10) >>> ((16 : Int32) &&& 31)) / 1001 * 1001) - 500)]) rfl ?_
    refine x_forget 5 (ls' := [.ref 94, .int x1, .int x2, .int (x3 + 1), Unk, Unk]) rfl ?_
    exact h
