set_option maxRecDepth 100000 in
set_option maxHeartbeats 4000000 in
theorem vX8_part_0 {d : Nat} {σ : Mem} {Q : Option Value → Mem → Prop} {x1 : Int32} 
    (h : (((0 ≤ x1 ∧ x1 ≤ 1) → ((¬ x1 = 0 → Q (some (.long (σ.2 94 8))) σ) ∧ (x1 = 0 → Q (some (.long (σ.2 94 7))) σ))) ∧ (¬ (0 ≤ x1 ∧ x1 ≤ 1) → ((∀ τ1 : Mem, τ1 = (w1 σ 99 0 ((σ.1 99 0) + 1)) → Q (some (.long (-2000000002))) τ1))))) :
    X none (d + 1) mX8_part 0 [.ref 94, .int x1] [] σ Q := by
  refine x_iload_n (pc' := 1) dX8_part_0 rfl rfl rfl ?_
  refine x_i2l (pc' := 2) dX8_part_1 rfl ?_
  refine x_lconst (pc' := 3) (v := 0) dX8_part_2 rfl (by decide) ?_
  refine x_lconst (pc' := 4) (v := 1) dX8_part_3 rfl (by decide) ?_
  refine x_callS (pc' := 7) (As := [.long ((x1).toInt64), .long 0, .long 1]) dX8_part_4 rfl lmX8_49 rfl rfl (Nat.le_of_ble_eq_true rfl) (Nat.le_of_ble_eq_true rfl) ?_
  show X none d mX8_in 0 [.long ((x1).toInt64), Unk, .long 0, Unk, .long 1, Unk] [] σ _
  refine sp_in (x := x1) (lo := 0) (hi := 1) (by decide) (by decide) ?_
  show X none (d + 1) mX8_part 7 [.ref 94, .int x1] [.int (if (0 ≤ x1 ∧ x1 ≤ 1) then 1 else 0)] σ _
  refine x_if_ne (pc' := 10) (tgt := 24) dX8_part_7 (by decide) rfl (fun hc => ?_) (fun hc => ?_)
  · replace h := h.1 (b01_eq hc)
    refine x_iload_n (pc' := 25) dX8_part_24 rfl rfl rfl ?_
    refine x_if_ne (pc' := 28) (tgt := 35) dX8_part_25 (by decide) rfl (fun hc => ?_) (fun hc => ?_)
    · replace h := h.1 hc
      refine x_aload_n (pc' := 36) dX8_part_35 rfl rfl rfl ?_
      refine x_getl (pc' := 39) dX8_part_36 rfl lfX8_27 kd_94 rfl ?_
      exact x_lret dX8_part_39 rfl h
    · replace h := h.2 hc
      refine x_aload_n (pc' := 29) dX8_part_28 rfl rfl rfl ?_
      refine x_getl (pc' := 32) dX8_part_29 rfl lfX8_23 kd_94 rfl ?_
      refine x_goto (pc' := 39) dX8_part_32 (by decide) ?_
      exact x_lret dX8_part_39 rfl h
  · replace h := h.2 (b01_ne hc)
    refine x_aload_n (pc' := 11) dX8_part_10 rfl rfl rfl ?_
    refine x_getr (pc' := 14) dX8_part_11 rfl lfX8_30 kd_94 rfl rf_94_9 ?_
    refine x_iconst (pc' := 15) (v := 0) dX8_part_14 rfl (by decide) ?_
    refine x_dup2 (pc' := 16) dX8_part_15 rfl rfl rfl ?_
    refine x_iald (pc' := 17) dX8_part_16 rfl kd_99 (by rw [ln_99]; unfold vp_in; decide) ?_
    show X none (d + 1) mX8_part 17 [.ref 94, .int x1] [.int (σ.1 99 0), .int 0, .ref 99] σ _
    refine x_iconst (pc' := 18) (v := 1) dX8_part_17 rfl (by decide) ?_
    refine x_iadd (pc' := 19) dX8_part_18 rfl ?_
    refine x_iast (pc' := 20) dX8_part_19 rfl kd_99 (by rw [ln_99]; unfold vp_in; decide) ?_
    obtain ⟨τ1, eτ1⟩ : ∃ τ : Mem, τ = (w1 σ 99 0 ((σ.1 99 0) + 1)) := ⟨_, rfl⟩
    show X none (d + 1) mX8_part 20 [.ref 94, .int x1] [] (w1 σ 99 0 ((σ.1 99 0) + 1)) _
    rw [← eτ1]
    replace h := h τ1 eτ1
    refine x_ldc2 (pc' := 23) dX8_part_20 rfl llX8_262 ?_
    exact x_lret dX8_part_23 rfl h
set_option maxRecDepth 100000 in
set_option maxHeartbeats 4000000 in
theorem vX8_image_0 {d : Nat} {σ : Mem} {Q : Option Value → Mem → Prop} {x1 : Int32} 
    (h : (((0 ≤ x1 ∧ x1 ≤ 1) → (X none d mX8_copy 0 [.ref 94, .int 0, .int (678 + (678 * x1)), Unk] [] σ (fun r τ1 => r = none ∧ (X none d mX8_copyArea 0 [.ref 94, .int 0, .int (182 * (1 + x1)), Unk] [] τ1 (fun r τ2 => r = none ∧ (vp_in x1 2 ∧ (∀ τ3 : Mem, τ3 = (w1 τ2 97 x1.toNatClampNeg 1) → Q (some (.int 1)) τ3))))))) ∧ (¬ (0 ≤ x1 ∧ x1 ≤ 1) → ((∀ τ4 : Mem, τ4 = (w1 σ 99 0 ((σ.1 99 0) + 1)) → Q (some (.int (-2000000002))) τ4))))) :
    X none (d + 1) mX8_image 0 [.ref 94, .int x1] [] σ Q := by
  refine x_iload_n (pc' := 1) dX8_image_0 rfl rfl rfl ?_
  refine x_i2l (pc' := 2) dX8_image_1 rfl ?_
  refine x_lconst (pc' := 3) (v := 0) dX8_image_2 rfl (by decide) ?_
  refine x_lconst (pc' := 4) (v := 1) dX8_image_3 rfl (by decide) ?_
  refine x_callS (pc' := 7) (As := [.long ((x1).toInt64), .long 0, .long 1]) dX8_image_4 rfl lmX8_49 rfl rfl (Nat.le_of_ble_eq_true rfl) (Nat.le_of_ble_eq_true rfl) ?_
  show X none d mX8_in 0 [.long ((x1).toInt64), Unk, .long 0, Unk, .long 1, Unk] [] σ _
  refine sp_in (x := x1) (lo := 0) (hi := 1) (by decide) (by decide) ?_
  show X none (d + 1) mX8_image 7 [.ref 94, .int x1] [.int (if (0 ≤ x1 ∧ x1 ≤ 1) then 1 else 0)] σ _
  refine x_if_ne (pc' := 10) (tgt := 15) dX8_image_7 (by decide) rfl (fun hc => ?_) (fun hc => ?_)
  · replace h := h.1 (b01_eq hc)
    refine x_aload_n (pc' := 16) dX8_image_15 rfl rfl rfl ?_
    refine x_iconst (pc' := 17) (v := 0) dX8_image_16 rfl (by decide) ?_
    refine x_sipush (pc' := 20) (v := 678) dX8_image_17 rfl (by decide) ?_
    refine x_sipush (pc' := 23) (v := 678) dX8_image_20 rfl (by decide) ?_
    refine x_iload_n (pc' := 24) dX8_image_23 rfl rfl rfl ?_
    refine x_imul (pc' := 25) dX8_image_24 rfl ?_
    refine x_iadd (pc' := 26) dX8_image_25 rfl ?_
    refine x_callV (pc' := 29) (As := [.int 0, .int (678 + (678 * x1))]) dX8_image_26 rfl lmX8_64 kd_94 rfl rfl (Nat.le_of_ble_eq_true rfl) (Nat.le_of_ble_eq_true rfl) ?_
    show X none d mX8_copy 0 [.ref 94, .int 0, .int (678 + (678 * x1)), Unk] [] σ _
    refine X.mono h ?_
    rintro r τ1 ⟨rfl, h⟩
    show X none (d + 1) mX8_image 29 [.ref 94, .int x1] [] τ1 _
    refine x_aload_n (pc' := 30) dX8_image_29 rfl rfl rfl ?_
    refine x_iconst (pc' := 31) (v := 0) dX8_image_30 rfl (by decide) ?_
    refine x_sipush (pc' := 34) (v := 182) dX8_image_31 rfl (by decide) ?_
    refine x_iconst (pc' := 35) (v := 1) dX8_image_34 rfl (by decide) ?_
    refine x_iload_n (pc' := 36) dX8_image_35 rfl rfl rfl ?_
    refine x_iadd (pc' := 37) dX8_image_36 rfl ?_
    refine x_imul (pc' := 38) dX8_image_37 rfl ?_
    refine x_callV (pc' := 41) (As := [.int 0, .int (182 * (1 + x1))]) dX8_image_38 rfl lmX8_245 kd_94 rfl rfl (Nat.le_of_ble_eq_true rfl) (Nat.le_of_ble_eq_true rfl) ?_
    show X none d mX8_copyArea 0 [.ref 94, .int 0, .int (182 * (1 + x1)), Unk] [] τ1 _
    refine X.mono h ?_
    rintro r τ2 ⟨rfl, h⟩
    show X none (d + 1) mX8_image 41 [.ref 94, .int x1] [] τ2 _
    refine x_aload_n (pc' := 42) dX8_image_41 rfl rfl rfl ?_
    refine x_getr (pc' := 45) dX8_image_42 rfl lfX8_16 kd_94 rfl rf_94_4 ?_
    refine x_iload_n (pc' := 46) dX8_image_45 rfl rfl rfl ?_
    refine x_iconst (pc' := 47) (v := 1) dX8_image_46 rfl (by decide) ?_
    obtain ⟨hb, h⟩ := h
    refine x_zast (pc' := 48) dX8_image_47 rfl kd_97 (by rw [ln_97]; exact hb) (by decide) ?_
    obtain ⟨τ3, eτ3⟩ : ∃ τ : Mem, τ = (w1 τ2 97 x1.toNatClampNeg 1) := ⟨_, rfl⟩
    show X none (d + 1) mX8_image 48 [.ref 94, .int x1] [] (w1 τ2 97 x1.toNatClampNeg 1) _
    rw [← eτ3]
    replace h := h τ3 eτ3
    refine x_iconst (pc' := 49) (v := 1) dX8_image_48 rfl (by decide) ?_
    exact x_iret dX8_image_49 rfl rfl h
  · replace h := h.2 (b01_ne hc)
    refine x_aload_n (pc' := 11) dX8_image_10 rfl rfl rfl ?_
    refine x_callV (pc' := 14) (As := []) dX8_image_11 rfl lmX8_81 kd_94 rfl rfl (Nat.le_of_ble_eq_true rfl) (Nat.le_of_ble_eq_true rfl) ?_
    show X none d mX8_bad 0 [.ref 94] [] σ _
    refine x_aload_n (pc' := 1) dX8_bad_0 rfl rfl rfl ?_
    refine x_getr (pc' := 4) dX8_bad_1 rfl lfX8_30 kd_94 rfl rf_94_9 ?_
    refine x_iconst (pc' := 5) (v := 0) dX8_bad_4 rfl (by decide) ?_
    refine x_dup2 (pc' := 6) dX8_bad_5 rfl rfl rfl ?_
    refine x_iald (pc' := 7) dX8_bad_6 rfl kd_99 (by rw [ln_99]; unfold vp_in; decide) ?_
    show X none d mX8_bad 7 [.ref 94] [.int (σ.1 99 0), .int 0, .ref 99] σ _
    refine x_iconst (pc' := 8) (v := 1) dX8_bad_7 rfl (by decide) ?_
    refine x_iadd (pc' := 9) dX8_bad_8 rfl ?_
    refine x_iast (pc' := 10) dX8_bad_9 rfl kd_99 (by rw [ln_99]; unfold vp_in; decide) ?_
    obtain ⟨τ4, eτ4⟩ : ∃ τ : Mem, τ = (w1 σ 99 0 ((σ.1 99 0) + 1)) := ⟨_, rfl⟩
    show X none d mX8_bad 10 [.ref 94] [] (w1 σ 99 0 ((σ.1 99 0) + 1)) _
    rw [← eτ4]
    replace h := h τ4 eτ4
    refine x_ldc (pc' := 12) dX8_bad_10 rfl lcX8_42 ?_
    refine x_iret dX8_bad_12 rfl rfl ?_
    show X none (d + 1) mX8_image 14 [.ref 94, .int x1] [.int (-2000000002)] τ4 _
    exact x_iret dX8_image_14 rfl rfl h
set_option maxRecDepth 100000 in
set_option maxHeartbeats 4000000 in
theorem vX8_from_0 {d : Nat} {σ : Mem} {Q : Option Value → Mem → Prop} {x1 : Int32} 
    (h : (((0 ≤ x1 ∧ x1 ≤ 1) → (vp_in x1 2 ∧ ((¬ (σ.1 97 x1.toNatClampNeg) = 0 → (X none d mX8_copy 0 [.ref 94, .int (678 + (678 * x1)), .int 0, Unk] [] σ (fun r τ1 => r = none ∧ (X none d mX8_copyArea 0 [.ref 94, .int (182 * (1 + x1)), .int 0, Unk] [] τ1 (fun r τ2 => r = none ∧ (∀ τ3 : Mem, τ3 = (w1 τ2 94 2 0) → Q (some (.int 1)) τ3)))))) ∧ ((σ.1 97 x1.toNatClampNeg) = 0 → ((∀ τ4 : Mem, τ4 = (w1 σ 99 1 ((σ.1 99 1) + 1)) → Q (some (.int (-2000000003))) τ4)))))) ∧ (¬ (0 ≤ x1 ∧ x1 ≤ 1) → ((∀ τ5 : Mem, τ5 = (w1 σ 99 0 ((σ.1 99 0) + 1)) → Q (some (.int (-2000000002))) τ5))))) :
    X none (d + 1) mX8_from 0 [.ref 94, .int x1] [] σ Q := by
  refine x_iload_n (pc' := 1) dX8_from_0 rfl rfl rfl ?_
  refine x_i2l (pc' := 2) dX8_from_1 rfl ?_
  refine x_lconst (pc' := 3) (v := 0) dX8_from_2 rfl (by decide) ?_
  refine x_lconst (pc' := 4) (v := 1) dX8_from_3 rfl (by decide) ?_
  refine x_callS (pc' := 7) (As := [.long ((x1).toInt64), .long 0, .long 1]) dX8_from_4 rfl lmX8_49 rfl rfl (Nat.le_of_ble_eq_true rfl) (Nat.le_of_ble_eq_true rfl) ?_
  show X none d mX8_in 0 [.long ((x1).toInt64), Unk, .long 0, Unk, .long 1, Unk] [] σ _
  refine sp_in (x := x1) (lo := 0) (hi := 1) (by decide) (by decide) ?_
  show X none (d + 1) mX8_from 7 [.ref 94, .int x1] [.int (if (0 ≤ x1 ∧ x1 ≤ 1) then 1 else 0)] σ _
  refine x_if_ne (pc' := 10) (tgt := 15) dX8_from_7 (by decide) rfl (fun hc => ?_) (fun hc => ?_)
  · replace h := h.1 (b01_eq hc)
    refine x_aload_n (pc' := 16) dX8_from_15 rfl rfl rfl ?_
    refine x_getr (pc' := 19) dX8_from_16 rfl lfX8_16 kd_94 rfl rf_94_4 ?_
    refine x_iload_n (pc' := 20) dX8_from_19 rfl rfl rfl ?_
    obtain ⟨hb, h⟩ := h
    refine x_zald (pc' := 21) dX8_from_20 rfl kd_97 (by rw [ln_97]; exact hb) ?_
    refine x_if_ne (pc' := 24) (tgt := 29) dX8_from_21 (by decide) rfl (fun hc => ?_) (fun hc => ?_)
    · replace h := h.1 hc
      refine x_aload_n (pc' := 30) dX8_from_29 rfl rfl rfl ?_
      refine x_sipush (pc' := 33) (v := 678) dX8_from_30 rfl (by decide) ?_
      refine x_sipush (pc' := 36) (v := 678) dX8_from_33 rfl (by decide) ?_
      refine x_iload_n (pc' := 37) dX8_from_36 rfl rfl rfl ?_
      refine x_imul (pc' := 38) dX8_from_37 rfl ?_
      refine x_iadd (pc' := 39) dX8_from_38 rfl ?_
      refine x_iconst (pc' := 40) (v := 0) dX8_from_39 rfl (by decide) ?_
      refine x_callV (pc' := 43) (As := [.int (678 + (678 * x1)), .int 0]) dX8_from_40 rfl lmX8_64 kd_94 rfl rfl (Nat.le_of_ble_eq_true rfl) (Nat.le_of_ble_eq_true rfl) ?_
      show X none d mX8_copy 0 [.ref 94, .int (678 + (678 * x1)), .int 0, Unk] [] σ _
      refine X.mono h ?_
      rintro r τ1 ⟨rfl, h⟩
      show X none (d + 1) mX8_from 43 [.ref 94, .int x1] [] τ1 _
      refine x_aload_n (pc' := 44) dX8_from_43 rfl rfl rfl ?_
      refine x_sipush (pc' := 47) (v := 182) dX8_from_44 rfl (by decide) ?_
      refine x_iconst (pc' := 48) (v := 1) dX8_from_47 rfl (by decide) ?_
      refine x_iload_n (pc' := 49) dX8_from_48 rfl rfl rfl ?_
      refine x_iadd (pc' := 50) dX8_from_49 rfl ?_
      refine x_imul (pc' := 51) dX8_from_50 rfl ?_
      refine x_iconst (pc' := 52) (v := 0) dX8_from_51 rfl (by decide) ?_
      refine x_callV (pc' := 55) (As := [.int (182 * (1 + x1)), .int 0]) dX8_from_52 rfl lmX8_245 kd_94 rfl rfl (Nat.le_of_ble_eq_true rfl) (Nat.le_of_ble_eq_true rfl) ?_
      show X none d mX8_copyArea 0 [.ref 94, .int (182 * (1 + x1)), .int 0, Unk] [] τ1 _
      refine X.mono h ?_
      rintro r τ2 ⟨rfl, h⟩
      show X none (d + 1) mX8_from 55 [.ref 94, .int x1] [] τ2 _
      refine x_aload_n (pc' := 56) dX8_from_55 rfl rfl rfl ?_
      refine x_iconst (pc' := 57) (v := 0) dX8_from_56 rfl (by decide) ?_
      refine x_puti (pc' := 60) dX8_from_57 rfl lfX8_60 kd_94 rfl rfl rfl ?_
      obtain ⟨τ3, eτ3⟩ : ∃ τ : Mem, τ = (w1 τ2 94 2 0) := ⟨_, rfl⟩
      show X none (d + 1) mX8_from 60 [.ref 94, .int x1] [] (w1 τ2 94 2 0) _
      rw [← eτ3]
      replace h := h τ3 eτ3
      refine x_iconst (pc' := 61) (v := 1) dX8_from_60 rfl (by decide) ?_
      exact x_iret dX8_from_61 rfl rfl h
    · replace h := h.2 hc
      refine x_aload_n (pc' := 25) dX8_from_24 rfl rfl rfl ?_
      refine x_callV (pc' := 28) (As := []) dX8_from_25 rfl lmX8_140 kd_94 rfl rfl (Nat.le_of_ble_eq_true rfl) (Nat.le_of_ble_eq_true rfl) ?_
      show X none d mX8_no 0 [.ref 94] [] σ _
      refine x_aload_n (pc' := 1) dX8_no_0 rfl rfl rfl ?_
      refine x_getr (pc' := 4) dX8_no_1 rfl lfX8_30 kd_94 rfl rf_94_9 ?_
      refine x_iconst (pc' := 5) (v := 1) dX8_no_4 rfl (by decide) ?_
      refine x_dup2 (pc' := 6) dX8_no_5 rfl rfl rfl ?_
      refine x_iald (pc' := 7) dX8_no_6 rfl kd_99 (by rw [ln_99]; unfold vp_in; decide) ?_
      show X none d mX8_no 7 [.ref 94] [.int (σ.1 99 1), .int 1, .ref 99] σ _
      refine x_iconst (pc' := 8) (v := 1) dX8_no_7 rfl (by decide) ?_
      refine x_iadd (pc' := 9) dX8_no_8 rfl ?_
      refine x_iast (pc' := 10) dX8_no_9 rfl kd_99 (by rw [ln_99]; unfold vp_in; decide) ?_
      obtain ⟨τ4, eτ4⟩ : ∃ τ : Mem, τ = (w1 σ 99 1 ((σ.1 99 1) + 1)) := ⟨_, rfl⟩
      show X none d mX8_no 10 [.ref 94] [] (w1 σ 99 1 ((σ.1 99 1) + 1)) _
      rw [← eτ4]
      replace h := h τ4 eτ4
      refine x_ldc (pc' := 12) dX8_no_10 rfl lcX8_43 ?_
      refine x_iret dX8_no_12 rfl rfl ?_
      show X none (d + 1) mX8_from 28 [.ref 94, .int x1] [.int (-2000000003)] τ4 _
      exact x_iret dX8_from_28 rfl rfl h
  · replace h := h.2 (b01_ne hc)
    refine x_aload_n (pc' := 11) dX8_from_10 rfl rfl rfl ?_
    refine x_callV (pc' := 14) (As := []) dX8_from_11 rfl lmX8_81 kd_94 rfl rfl (Nat.le_of_ble_eq_true rfl) (Nat.le_of_ble_eq_true rfl) ?_
    show X none d mX8_bad 0 [.ref 94] [] σ _
    refine x_aload_n (pc' := 1) dX8_bad_0 rfl rfl rfl ?_
    refine x_getr (pc' := 4) dX8_bad_1 rfl lfX8_30 kd_94 rfl rf_94_9 ?_
    refine x_iconst (pc' := 5) (v := 0) dX8_bad_4 rfl (by decide) ?_
    refine x_dup2 (pc' := 6) dX8_bad_5 rfl rfl rfl ?_
    refine x_iald (pc' := 7) dX8_bad_6 rfl kd_99 (by rw [ln_99]; unfold vp_in; decide) ?_
    show X none d mX8_bad 7 [.ref 94] [.int (σ.1 99 0), .int 0, .ref 99] σ _
    refine x_iconst (pc' := 8) (v := 1) dX8_bad_7 rfl (by decide) ?_
    refine x_iadd (pc' := 9) dX8_bad_8 rfl ?_
    refine x_iast (pc' := 10) dX8_bad_9 rfl kd_99 (by rw [ln_99]; unfold vp_in; decide) ?_
    obtain ⟨τ5, eτ5⟩ : ∃ τ : Mem, τ = (w1 σ 99 0 ((σ.1 99 0) + 1)) := ⟨_, rfl⟩
    show X none d mX8_bad 10 [.ref 94] [] (w1 σ 99 0 ((σ.1 99 0) + 1)) _
    rw [← eτ5]
    replace h := h τ5 eτ5
    refine x_ldc (pc' := 12) dX8_bad_10 rfl lcX8_42 ?_
    refine x_iret dX8_bad_12 rfl rfl ?_
    show X none (d + 1) mX8_from 14 [.ref 94, .int x1] [.int (-2000000002)] τ5 _
    exact x_iret dX8_from_14 rfl rfl h
set_option maxRecDepth 100000 in
set_option maxHeartbeats 4000000 in
theorem vX8_status_0 {d : Nat} {σ : Mem} {Q : Option Value → Mem → Prop} {x1 : Int32} 
    (h : (((0 ≤ x1 ∧ x1 ≤ 2) → (vp_in x1 3 ∧ Q (some (.int (σ.1 99 x1.toNatClampNeg))) σ)) ∧ (¬ (0 ≤ x1 ∧ x1 ≤ 2) → ((∀ τ1 : Mem, τ1 = (w1 σ 99 0 ((σ.1 99 0) + 1)) → Q (some (.int (-1))) τ1))))) :
    X none (d + 1) mX8_status 0 [.ref 94, .int x1] [] σ Q := by
  refine x_iload_n (pc' := 1) dX8_status_0 rfl rfl rfl ?_
  refine x_i2l (pc' := 2) dX8_status_1 rfl ?_
  refine x_lconst (pc' := 3) (v := 0) dX8_status_2 rfl (by decide) ?_
  refine x_ldc2 (pc' := 6) dX8_status_3 rfl llX8_174 ?_
  refine x_callS (pc' := 9) (As := [.long ((x1).toInt64), .long 0, .long 2]) dX8_status_6 rfl lmX8_49 rfl rfl (Nat.le_of_ble_eq_true rfl) (Nat.le_of_ble_eq_true rfl) ?_
  show X none d mX8_in 0 [.long ((x1).toInt64), Unk, .long 0, Unk, .long 2, Unk] [] σ _
  refine sp_in (x := x1) (lo := 0) (hi := 2) (by decide) (by decide) ?_
  show X none (d + 1) mX8_status 9 [.ref 94, .int x1] [.int (if (0 ≤ x1 ∧ x1 ≤ 2) then 1 else 0)] σ _
  refine x_if_ne (pc' := 12) (tgt := 24) dX8_status_9 (by decide) rfl (fun hc => ?_) (fun hc => ?_)
  · replace h := h.1 (b01_eq hc)
    refine x_aload_n (pc' := 25) dX8_status_24 rfl rfl rfl ?_
    refine x_getr (pc' := 28) dX8_status_25 rfl lfX8_30 kd_94 rfl rf_94_9 ?_
    refine x_iload_n (pc' := 29) dX8_status_28 rfl rfl rfl ?_
    obtain ⟨hb, h⟩ := h
    refine x_iald (pc' := 30) dX8_status_29 rfl kd_99 (by rw [ln_99]; exact hb) ?_
    exact x_iret dX8_status_30 rfl rfl h
  · replace h := h.2 (b01_ne hc)
    refine x_aload_n (pc' := 13) dX8_status_12 rfl rfl rfl ?_
    refine x_getr (pc' := 16) dX8_status_13 rfl lfX8_30 kd_94 rfl rf_94_9 ?_
    refine x_iconst (pc' := 17) (v := 0) dX8_status_16 rfl (by decide) ?_
    refine x_dup2 (pc' := 18) dX8_status_17 rfl rfl rfl ?_
    refine x_iald (pc' := 19) dX8_status_18 rfl kd_99 (by rw [ln_99]; unfold vp_in; decide) ?_
    show X none (d + 1) mX8_status 19 [.ref 94, .int x1] [.int (σ.1 99 0), .int 0, .ref 99] σ _
    refine x_iconst (pc' := 20) (v := 1) dX8_status_19 rfl (by decide) ?_
    refine x_iadd (pc' := 21) dX8_status_20 rfl ?_
    refine x_iast (pc' := 22) dX8_status_21 rfl kd_99 (by rw [ln_99]; unfold vp_in; decide) ?_
    obtain ⟨τ1, eτ1⟩ : ∃ τ : Mem, τ = (w1 σ 99 0 ((σ.1 99 0) + 1)) := ⟨_, rfl⟩
    show X none (d + 1) mX8_status 22 [.ref 94, .int x1] [] (w1 σ 99 0 ((σ.1 99 0) + 1)) _
    rw [← eτ1]
    replace h := h τ1 eτ1
    refine x_iconst (pc' := 23) (v := (-1)) dX8_status_22 rfl (by decide) ?_
    exact x_iret dX8_status_23 rfl rfl h
set_option maxRecDepth 100000 in
set_option maxHeartbeats 4000000 in
theorem vX8_weights_0 {d : Nat} {σ : Mem} {Q : Option Value → Mem → Prop} 
    (h : X none (d + 1) mX8_weights 4 [.ref 94, .int 0, .int 0] [] σ Q) :
    X none (d + 1) mX8_weights 0 [.ref 94, Unk, Unk] [] σ Q := by
  refine x_iconst (pc' := 1) (v := 0) dX8_weights_0 rfl (by decide) ?_
  refine x_istore_n (pc' := 2) dX8_weights_1 rfl rfl (by decide) rfl (ls' := [.ref 94, .int 0, Unk]) rfl ?_
  refine x_iconst (pc' := 3) (v := 0) dX8_weights_2 rfl (by decide) ?_
  refine x_istore_n (pc' := 4) dX8_weights_3 rfl rfl (by decide) rfl (ls' := [.ref 94, .int 0, .int 0]) rfl ?_
  exact h
set_option maxRecDepth 100000 in
set_option maxHeartbeats 4000000 in
theorem vX8_weights_4 {d : Nat} {σ : Mem} {Q : Option Value → Mem → Prop} {x1 x2 : Int32} 
    (h : (((σ.1 95 0) ≤ x2 → Q (some (.int x1)) σ) ∧ (¬ (σ.1 95 0) ≤ x2 → (vp_in (494 + x2) 7458 ∧ ((¬ (σ.1 95 (494 + x2).toNatClampNeg) = 0 → X none (d + 1) mX8_weights 4 [.ref 94, .int (x1 + 0), .int (x2 + 1)] [] σ Q) ∧ ((σ.1 95 (494 + x2).toNatClampNeg) = 0 → (vp_in (372 + x2) 7458 ∧ X none (d + 1) mX8_weights 4 [.ref 94, .int (x1 + (σ.1 95 (372 + x2).toNatClampNeg)), .int (x2 + 1)] [] σ Q))))))) :
    X none (d + 1) mX8_weights 4 [.ref 94, .int x1, .int x2] [] σ Q := by
  refine x_iload_n (pc' := 5) dX8_weights_4 rfl rfl rfl ?_
  refine x_aload_n (pc' := 6) dX8_weights_5 rfl rfl rfl ?_
  refine x_getr (pc' := 9) dX8_weights_6 rfl lfX8_7 kd_94 rfl rf_94_0 ?_
  refine x_iconst (pc' := 10) (v := 0) dX8_weights_9 rfl (by decide) ?_
  refine x_iald (pc' := 11) dX8_weights_10 rfl kd_95 (by rw [ln_95]; unfold vp_in; decide) ?_
  show X none (d + 1) mX8_weights 11 [.ref 94, .int x1, .int x2] [.int (σ.1 95 0), .int x2] σ _
  refine x_icmp_ge (pc' := 14) (tgt := 45) dX8_weights_11 (by decide) rfl (fun hc => ?_) (fun hc => ?_)
  · replace h := h.1 hc
    refine x_iload_n (pc' := 46) dX8_weights_45 rfl rfl rfl ?_
    exact x_iret dX8_weights_46 rfl rfl h
  · replace h := h.2 hc
    refine x_iload_n (pc' := 15) dX8_weights_14 rfl rfl rfl ?_
    refine x_aload_n (pc' := 16) dX8_weights_15 rfl rfl rfl ?_
    refine x_iload_n (pc' := 17) dX8_weights_16 rfl rfl rfl ?_
    refine x_callV (pc' := 20) (As := [.int x2]) dX8_weights_17 rfl lmX8_57 kd_94 rfl rfl (Nat.le_of_ble_eq_true rfl) (Nat.le_of_ble_eq_true rfl) ?_
    show X none d mX8_isThere 0 [.ref 94, .int x2] [] σ _
    refine x_aload_n (pc' := 1) dX8_isThere_0 rfl rfl rfl ?_
    refine x_getr (pc' := 4) dX8_isThere_1 rfl lfX8_7 kd_94 rfl rf_94_0 ?_
    refine x_sipush (pc' := 7) (v := 494) dX8_isThere_4 rfl (by decide) ?_
    refine x_iload_n (pc' := 8) dX8_isThere_7 rfl rfl rfl ?_
    refine x_iadd (pc' := 9) dX8_isThere_8 rfl ?_
    obtain ⟨hb, h⟩ := h
    refine x_iald (pc' := 10) dX8_isThere_9 rfl kd_95 (by rw [ln_95]; exact hb) ?_
    refine x_if_ne (pc' := 13) (tgt := 17) dX8_isThere_10 (by decide) rfl (fun hc => ?_) (fun hc => ?_)
    · replace h := h.1 hc
      refine x_iconst (pc' := 18) (v := 0) dX8_isThere_17 rfl (by decide) ?_
      refine x_iret dX8_isThere_18 rfl rfl ?_
      show X none (d + 1) mX8_weights 20 [.ref 94, .int x1, .int x2] [.int 0, .int x1] σ _
      refine x_if_eq (pc' := 23) (tgt := 36) dX8_weights_20 (by decide) rfl (fun _ => ?_) (fun hc => absurd hc (by decide))
      refine x_iconst (pc' := 37) (v := 0) dX8_weights_36 rfl (by decide) ?_
      refine x_iadd (pc' := 38) dX8_weights_37 rfl ?_
      refine x_istore_n (pc' := 39) dX8_weights_38 rfl rfl (by decide) rfl (ls' := [.ref 94, .int (x1 + 0), .int x2]) rfl ?_
      refine x_iinc (pc' := 42) (v := 1) dX8_weights_39 rfl (by decide) rfl rfl (by decide) (ls' := [.ref 94, .int (x1 + 0), .int (x2 + 1)]) rfl ?_
      refine x_goto (pc' := 4) dX8_weights_42 (by decide) ?_
      exact h
    · replace h := h.2 hc
      refine x_iconst (pc' := 14) (v := 1) dX8_isThere_13 rfl (by decide) ?_
      refine x_goto (pc' := 18) dX8_isThere_14 (by decide) ?_
      refine x_iret dX8_isThere_18 rfl rfl ?_
      show X none (d + 1) mX8_weights 20 [.ref 94, .int x1, .int x2] [.int 1, .int x1] σ _
      refine x_if_eq (pc' := 23) (tgt := 36) dX8_weights_20 (by decide) rfl (fun hc => absurd hc (by decide)) (fun _ => ?_)
      refine x_aload_n (pc' := 24) dX8_weights_23 rfl rfl rfl ?_
      refine x_getr (pc' := 27) dX8_weights_24 rfl lfX8_7 kd_94 rfl rf_94_0 ?_
      refine x_sipush (pc' := 30) (v := 372) dX8_weights_27 rfl (by decide) ?_
      refine x_iload_n (pc' := 31) dX8_weights_30 rfl rfl rfl ?_
      refine x_iadd (pc' := 32) dX8_weights_31 rfl ?_
      obtain ⟨hb, h⟩ := h
      refine x_iald (pc' := 33) dX8_weights_32 rfl kd_95 (by rw [ln_95]; exact hb) ?_
      refine x_goto (pc' := 37) dX8_weights_33 (by decide) ?_
      refine x_iadd (pc' := 38) dX8_weights_37 rfl ?_
      refine x_istore_n (pc' := 39) dX8_weights_38 rfl rfl (by decide) rfl (ls' := [.ref 94, .int (x1 + (σ.1 95 (372 + x2).toNatClampNeg)), .int x2]) rfl ?_
      refine x_iinc (pc' := 42) (v := 1) dX8_weights_39 rfl (by decide) rfl rfl (by decide) (ls' := [.ref 94, .int (x1 + (σ.1 95 (372 + x2).toNatClampNeg)), .int (x2 + 1)]) rfl ?_
      refine x_goto (pc' := 4) dX8_weights_42 (by decide) ?_
      exact h
set_option maxRecDepth 100000 in
set_option maxHeartbeats 4000000 in
theorem vX8_sizeOf_0 {d : Nat} {σ : Mem} {Q : Option Value → Mem → Prop} {x1 : Int32} 
    (h : ((x1.toInt < 0 ∨ 6 < x1.toInt → Q (some (.int (σ.1 96 1))) σ) ∧ (x1.toInt = 0 → Q (some (.int ((σ.1 95 0) - (σ.1 95 1)))) σ) ∧ (x1.toInt = 1 → Q (some (.int (σ.1 95 1))) σ) ∧ (x1.toInt = 2 → Q (some (.int (σ.1 95 2))) σ) ∧ (x1.toInt = 3 → Q (some (.int (σ.1 95 3))) σ) ∧ (x1.toInt = 4 → (X none (d + 1) mX8_weights 0 [.ref 94, Unk, Unk] [] σ (fun r τ1 => ∃ u2 : Int32, r = some (.int u2) ∧ Q (some (.int u2)) τ1))) ∧ (x1.toInt = 5 → Q (some (.int (σ.1 94 2))) σ) ∧ (x1.toInt = 6 → Q (some (.int (σ.1 94 6))) σ))) :
    X none (d + 2) mX8_sizeOf 0 [.ref 94, .int x1] [] σ Q := by
  refine x_iload_n (pc' := 1) dX8_sizeOf_0 rfl rfl rfl ?_
  by_cases hc : x1.toInt < 0 ∨ 6 < x1.toInt
  · refine x_tblOut (pc' := 85) dX8_sizeOf_1 hc (by decide) ?_
    replace h := h.1 hc
    refine x_aload_n (pc' := 86) dX8_sizeOf_85 rfl rfl rfl ?_
    refine x_getr (pc' := 89) dX8_sizeOf_86 rfl lfX8_13 kd_94 rfl rf_94_1 ?_
    refine x_iconst (pc' := 90) (v := 1) dX8_sizeOf_89 rfl (by decide) ?_
    refine x_iald (pc' := 91) dX8_sizeOf_90 rfl kd_96 (by rw [ln_96]; unfold vp_in; decide) ?_
    show X none (d + 2) mX8_sizeOf 91 [.ref 94, .int x1] [.int (σ.1 96 1)] σ _
    exact x_iret dX8_sizeOf_91 rfl rfl h
  · replace h := h.2
    have hr : x1.toInt = 0 ∨ x1.toInt = 1 ∨ x1.toInt = 2 ∨ x1.toInt = 3 ∨ x1.toInt = 4 ∨ x1.toInt = 5 ∨ x1.toInt = 6 := by omega
    rcases hr with hr | hr | hr | hr | hr | hr | hr
    · refine x_tblIn (pc' := 44) dX8_sizeOf_1 (by omega) (by omega) (off := 43) (by rw [hr]; rfl) (by decide) ?_
      replace h := h.1 hr
      refine x_aload_n (pc' := 45) dX8_sizeOf_44 rfl rfl rfl ?_
      refine x_callV (pc' := 48) (As := []) dX8_sizeOf_45 rfl lmX8_72 kd_94 rfl rfl (Nat.le_of_ble_eq_true rfl) (Nat.le_of_ble_eq_true rfl) ?_
      show X none (d + 1) mX8_points 0 [.ref 94] [] σ _
      refine x_aload_n (pc' := 1) dX8_points_0 rfl rfl rfl ?_
      refine x_getr (pc' := 4) dX8_points_1 rfl lfX8_7 kd_94 rfl rf_94_0 ?_
      refine x_iconst (pc' := 5) (v := 0) dX8_points_4 rfl (by decide) ?_
      refine x_iald (pc' := 6) dX8_points_5 rfl kd_95 (by rw [ln_95]; unfold vp_in; decide) ?_
      show X none (d + 1) mX8_points 6 [.ref 94] [.int (σ.1 95 0)] σ _
      refine x_aload_n (pc' := 7) dX8_points_6 rfl rfl rfl ?_
      refine x_getr (pc' := 10) dX8_points_7 rfl lfX8_7 kd_94 rfl rf_94_0 ?_
      refine x_iconst (pc' := 11) (v := 1) dX8_points_10 rfl (by decide) ?_
      refine x_iald (pc' := 12) dX8_points_11 rfl kd_95 (by rw [ln_95]; unfold vp_in; decide) ?_
      show X none (d + 1) mX8_points 12 [.ref 94] [.int (σ.1 95 1), .int (σ.1 95 0)] σ _
      refine x_isub (pc' := 13) dX8_points_12 rfl ?_
      refine x_iret dX8_points_13 rfl rfl ?_
      show X none (d + 2) mX8_sizeOf 48 [.ref 94, .int x1] [.int ((σ.1 95 0) - (σ.1 95 1))] σ _
      exact x_iret dX8_sizeOf_48 rfl rfl h
    · refine x_tblIn (pc' := 49) dX8_sizeOf_1 (by omega) (by omega) (off := 48) (by rw [hr]; rfl) (by decide) ?_
      replace h := h.2.1 hr
      refine x_aload_n (pc' := 50) dX8_sizeOf_49 rfl rfl rfl ?_
      refine x_getr (pc' := 53) dX8_sizeOf_50 rfl lfX8_7 kd_94 rfl rf_94_0 ?_
      refine x_iconst (pc' := 54) (v := 1) dX8_sizeOf_53 rfl (by decide) ?_
      refine x_iald (pc' := 55) dX8_sizeOf_54 rfl kd_95 (by rw [ln_95]; unfold vp_in; decide) ?_
      show X none (d + 2) mX8_sizeOf 55 [.ref 94, .int x1] [.int (σ.1 95 1)] σ _
      exact x_iret dX8_sizeOf_55 rfl rfl h
    · refine x_tblIn (pc' := 56) dX8_sizeOf_1 (by omega) (by omega) (off := 55) (by rw [hr]; rfl) (by decide) ?_
      replace h := h.2.2.1 hr
      refine x_aload_n (pc' := 57) dX8_sizeOf_56 rfl rfl rfl ?_
      refine x_getr (pc' := 60) dX8_sizeOf_57 rfl lfX8_7 kd_94 rfl rf_94_0 ?_
      refine x_iconst (pc' := 61) (v := 2) dX8_sizeOf_60 rfl (by decide) ?_
      refine x_iald (pc' := 62) dX8_sizeOf_61 rfl kd_95 (by rw [ln_95]; unfold vp_in; decide) ?_
      show X none (d + 2) mX8_sizeOf 62 [.ref 94, .int x1] [.int (σ.1 95 2)] σ _
      exact x_iret dX8_sizeOf_62 rfl rfl h
    · refine x_tblIn (pc' := 63) dX8_sizeOf_1 (by omega) (by omega) (off := 62) (by rw [hr]; rfl) (by decide) ?_
      replace h := h.2.2.2.1 hr
      refine x_aload_n (pc' := 64) dX8_sizeOf_63 rfl rfl rfl ?_
      refine x_getr (pc' := 67) dX8_sizeOf_64 rfl lfX8_7 kd_94 rfl rf_94_0 ?_
      refine x_iconst (pc' := 68) (v := 3) dX8_sizeOf_67 rfl (by decide) ?_
      refine x_iald (pc' := 69) dX8_sizeOf_68 rfl kd_95 (by rw [ln_95]; unfold vp_in; decide) ?_
      show X none (d + 2) mX8_sizeOf 69 [.ref 94, .int x1] [.int (σ.1 95 3)] σ _
      exact x_iret dX8_sizeOf_69 rfl rfl h
    · refine x_tblIn (pc' := 70) dX8_sizeOf_1 (by omega) (by omega) (off := 69) (by rw [hr]; rfl) (by decide) ?_
      replace h := h.2.2.2.2.1 hr
      refine x_aload_n (pc' := 71) dX8_sizeOf_70 rfl rfl rfl ?_
      refine x_callV (pc' := 74) (As := []) dX8_sizeOf_71 rfl lmX8_264 kd_94 rfl rfl (Nat.le_of_ble_eq_true rfl) (Nat.le_of_ble_eq_true rfl) ?_
      show X none (d + 1) mX8_weights 0 [.ref 94, Unk, Unk] [] σ _
      refine X.mono h ?_
      rintro r τ1 ⟨u2, rfl, h⟩
      show X none (d + 2) mX8_sizeOf 74 [.ref 94, .int x1] [.int u2] τ1 _
      exact x_iret dX8_sizeOf_74 rfl rfl h
    · refine x_tblIn (pc' := 75) dX8_sizeOf_1 (by omega) (by omega) (off := 74) (by rw [hr]; rfl) (by decide) ?_
      replace h := h.2.2.2.2.2.1 hr
      refine x_aload_n (pc' := 76) dX8_sizeOf_75 rfl rfl rfl ?_
      refine x_geti (pc' := 79) dX8_sizeOf_76 rfl lfX8_60 kd_94 rfl ?_
      exact x_iret dX8_sizeOf_79 rfl rfl h
    · refine x_tblIn (pc' := 80) dX8_sizeOf_1 (by omega) (by omega) (off := 79) (by rw [hr]; rfl) (by decide) ?_
      replace h := h.2.2.2.2.2.2 hr
      refine x_aload_n (pc' := 81) dX8_sizeOf_80 rfl rfl rfl ?_
      refine x_geti (pc' := 84) dX8_sizeOf_81 rfl lfX8_188 kd_94 rfl ?_
      exact x_iret dX8_sizeOf_84 rfl rfl h
set_option maxRecDepth 100000 in
set_option maxHeartbeats 4000000 in
theorem vX8_size_0 {d : Nat} {σ : Mem} {Q : Option Value → Mem → Prop} {x1 : Int32} 
    (h : ((¬ (0 ≤ x1 ∧ x1 ≤ 7) → ((∀ τ1 : Mem, τ1 = (w1 σ 99 0 ((σ.1 99 0) + 1)) → Q (some (.int (-2000000002))) τ1))) ∧ ((0 ≤ x1 ∧ x1 ≤ 7) → (X none (d + 2) mX8_sizeOf 0 [.ref 94, .int x1] [] σ (fun r τ2 => ∃ u3 : Int32, r = some (.int u3) ∧ Q (some (.int u3)) τ2))))) :
    X none (d + 3) mX8_size 0 [.ref 94, .int x1] [] σ Q := by
  refine x_iload_n (pc' := 1) dX8_size_0 rfl rfl rfl ?_
  refine x_i2l (pc' := 2) dX8_size_1 rfl ?_
  refine x_lconst (pc' := 3) (v := 0) dX8_size_2 rfl (by decide) ?_
  refine x_ldc2 (pc' := 6) dX8_size_3 rfl llX8_267 ?_
  refine x_callS (pc' := 9) (As := [.long ((x1).toInt64), .long 0, .long 7]) dX8_size_6 rfl lmX8_49 rfl rfl (Nat.le_of_ble_eq_true rfl) (Nat.le_of_ble_eq_true rfl) ?_
  show X none (d + 2) mX8_in 0 [.long ((x1).toInt64), Unk, .long 0, Unk, .long 7, Unk] [] σ _
  refine sp_in (x := x1) (lo := 0) (hi := 7) (by decide) (by decide) ?_
  show X none (d + 3) mX8_size 9 [.ref 94, .int x1] [.int (if (0 ≤ x1 ∧ x1 ≤ 7) then 1 else 0)] σ _
  refine x_if_eq (pc' := 12) (tgt := 20) dX8_size_9 (by decide) rfl (fun hc => ?_) (fun hc => ?_)
  · replace h := h.1 (b01_ne hc)
    refine x_aload_n (pc' := 21) dX8_size_20 rfl rfl rfl ?_
    refine x_callV (pc' := 24) (As := []) dX8_size_21 rfl lmX8_81 kd_94 rfl rfl (Nat.le_of_ble_eq_true rfl) (Nat.le_of_ble_eq_true rfl) ?_
    show X none (d + 2) mX8_bad 0 [.ref 94] [] σ _
    refine x_aload_n (pc' := 1) dX8_bad_0 rfl rfl rfl ?_
    refine x_getr (pc' := 4) dX8_bad_1 rfl lfX8_30 kd_94 rfl rf_94_9 ?_
    refine x_iconst (pc' := 5) (v := 0) dX8_bad_4 rfl (by decide) ?_
    refine x_dup2 (pc' := 6) dX8_bad_5 rfl rfl rfl ?_
    refine x_iald (pc' := 7) dX8_bad_6 rfl kd_99 (by rw [ln_99]; unfold vp_in; decide) ?_
    show X none (d + 2) mX8_bad 7 [.ref 94] [.int (σ.1 99 0), .int 0, .ref 99] σ _
    refine x_iconst (pc' := 8) (v := 1) dX8_bad_7 rfl (by decide) ?_
    refine x_iadd (pc' := 9) dX8_bad_8 rfl ?_
    refine x_iast (pc' := 10) dX8_bad_9 rfl kd_99 (by rw [ln_99]; unfold vp_in; decide) ?_
    obtain ⟨τ1, eτ1⟩ : ∃ τ : Mem, τ = (w1 σ 99 0 ((σ.1 99 0) + 1)) := ⟨_, rfl⟩
    show X none (d + 2) mX8_bad 10 [.ref 94] [] (w1 σ 99 0 ((σ.1 99 0) + 1)) _
    rw [← eτ1]
    replace h := h τ1 eτ1
    refine x_ldc (pc' := 12) dX8_bad_10 rfl lcX8_42 ?_
    refine x_iret dX8_bad_12 rfl rfl ?_
    show X none (d + 3) mX8_size 24 [.ref 94, .int x1] [.int (-2000000002)] τ1 _
    exact x_iret dX8_size_24 rfl rfl h
  · replace h := h.2 (b01_eq hc)
    refine x_aload_n (pc' := 13) dX8_size_12 rfl rfl rfl ?_
    refine x_iload_n (pc' := 14) dX8_size_13 rfl rfl rfl ?_
    refine x_callV (pc' := 17) (As := [.int x1]) dX8_size_14 rfl lmX8_269 kd_94 rfl rfl (Nat.le_of_ble_eq_true rfl) (Nat.le_of_ble_eq_true rfl) ?_
    show X none (d + 2) mX8_sizeOf 0 [.ref 94, .int x1] [] σ _
    refine X.mono h ?_
    rintro r τ2 ⟨u3, rfl, h⟩
    show X none (d + 3) mX8_size 17 [.ref 94, .int x1] [.int u3] τ2 _
    refine x_goto (pc' := 24) dX8_size_17 (by decide) ?_
    exact x_iret dX8_size_24 rfl rfl h
set_option maxRecDepth 100000 in
set_option maxHeartbeats 4000000 in
theorem vX8_digest_0 {d : Nat} {σ : Mem} {Q : Option Value → Mem → Prop} 
    (h : (∀ τ1 : Mem, τ1 = (w2 σ 94 19 1901) → X none (d + 3) mX8_digest 9 [.ref 94, .int 0, Unk] [] τ1 Q)) :
    X none (d + 3) mX8_digest 0 [.ref 94, Unk, Unk] [] σ Q := by
  refine x_aload_n (pc' := 1) dX8_digest_0 rfl rfl rfl ?_
  refine x_ldc2 (pc' := 4) dX8_digest_1 rfl llX8_277 ?_
  refine x_putl (pc' := 7) dX8_digest_4 rfl lfX8_274 kd_94 rfl ?_
  obtain ⟨τ1, eτ1⟩ : ∃ τ : Mem, τ = (w2 σ 94 19 1901) := ⟨_, rfl⟩
  show X none (d + 3) mX8_digest 7 [.ref 94, Unk, Unk] [] (w2 σ 94 19 1901) _
  rw [← eτ1]
  replace h := h τ1 eτ1
  refine x_iconst (pc' := 8) (v := 0) dX8_digest_7 rfl (by decide) ?_
  refine x_istore_n (pc' := 9) dX8_digest_8 rfl rfl (by decide) rfl (ls' := [.ref 94, .int 0, Unk]) rfl ?_
  exact h
set_option maxRecDepth 100000 in
set_option maxHeartbeats 4000000 in
theorem vX8_digest_9 {d : Nat} {σ : Mem} {Q : Option Value → Mem → Prop} {x1 : Int32} 
    (h : ((8 ≤ x1 → X none (d + 3) mX8_digest 33 [.ref 94, .int 0, Unk] [] σ Q) ∧ (¬ 8 ≤ x1 → (X none (d + 2) mX8_sizeOf 0 [.ref 94, .int x1] [] σ (fun r τ1 => ∃ u2 : Int32, r = some (.int u2) ∧ (∀ τ3 : Mem, τ3 = (w2 τ1 94 19 ((31 * (τ1.2 94 19)) + ((u2).toInt64))) → X none (d + 3) mX8_digest 9 [.ref 94, .int (x1 + 1), Unk] [] τ3 Q)))))) :
    X none (d + 3) mX8_digest 9 [.ref 94, .int x1, Unk] [] σ Q := by
  refine x_iload_n (pc' := 10) dX8_digest_9 rfl rfl rfl ?_
  refine x_bipush (pc' := 12) (v := 8) dX8_digest_10 rfl (by decide) ?_
  refine x_icmp_ge (pc' := 15) (tgt := 31) dX8_digest_12 (by decide) rfl (fun hc => ?_) (fun hc => ?_)
  · replace h := h.1 hc
    refine x_iconst (pc' := 32) (v := 0) dX8_digest_31 rfl (by decide) ?_
    refine x_istore_n (pc' := 33) dX8_digest_32 rfl rfl (by decide) rfl (ls' := [.ref 94, .int 0, Unk]) rfl ?_
    exact h
  · replace h := h.2 hc
    refine x_aload_n (pc' := 16) dX8_digest_15 rfl rfl rfl ?_
    refine x_aload_n (pc' := 17) dX8_digest_16 rfl rfl rfl ?_
    refine x_iload_n (pc' := 18) dX8_digest_17 rfl rfl rfl ?_
    refine x_callV (pc' := 21) (As := [.int x1]) dX8_digest_18 rfl lmX8_269 kd_94 rfl rfl (Nat.le_of_ble_eq_true rfl) (Nat.le_of_ble_eq_true rfl) ?_
    show X none (d + 2) mX8_sizeOf 0 [.ref 94, .int x1] [] σ _
    refine X.mono h ?_
    rintro r τ1 ⟨u2, rfl, h⟩
    show X none (d + 3) mX8_digest 21 [.ref 94, .int x1, Unk] [.int u2, .ref 94] τ1 _
    refine x_i2l (pc' := 22) dX8_digest_21 rfl ?_
    refine x_callV (pc' := 25) (As := [.long ((u2).toInt64)]) dX8_digest_22 rfl lmX8_279 kd_94 rfl rfl (Nat.le_of_ble_eq_true rfl) (Nat.le_of_ble_eq_true rfl) ?_
    show X none (d + 2) mX8_mix 0 [.ref 94, .long ((u2).toInt64), Unk] [] τ1 _
    refine x_aload_n (pc' := 1) dX8_mix_0 rfl rfl rfl ?_
    refine x_ldc2 (pc' := 4) dX8_mix_1 rfl llX8_272 ?_
    refine x_aload_n (pc' := 5) dX8_mix_4 rfl rfl rfl ?_
    refine x_getl (pc' := 8) dX8_mix_5 rfl lfX8_274 kd_94 rfl ?_
    refine x_lmul (pc' := 9) dX8_mix_8 rfl ?_
    refine x_lload_n (pc' := 10) dX8_mix_9 rfl rfl rfl ?_
    refine x_ladd (pc' := 11) dX8_mix_10 rfl ?_
    refine x_putl (pc' := 14) dX8_mix_11 rfl lfX8_274 kd_94 rfl ?_
    obtain ⟨τ3, eτ3⟩ : ∃ τ : Mem, τ = (w2 τ1 94 19 ((31 * (τ1.2 94 19)) + ((u2).toInt64))) := ⟨_, rfl⟩
    show X none (d + 2) mX8_mix 14 [.ref 94, .long ((u2).toInt64), Unk] [] (w2 τ1 94 19 ((31 * (τ1.2 94 19)) + ((u2).toInt64))) _
    rw [← eτ3]
    replace h := h τ3 eτ3
    refine x_vret dX8_mix_14 rfl ?_
    show X none (d + 3) mX8_digest 25 [.ref 94, .int x1, Unk] [] τ3 _
    refine x_iinc (pc' := 28) (v := 1) dX8_digest_25 rfl (by decide) rfl rfl (by decide) (ls' := [.ref 94, .int (x1 + 1), Unk]) rfl ?_
    refine x_goto (pc' := 9) dX8_digest_28 (by decide) ?_
    exact h
set_option maxRecDepth 100000 in
set_option maxHeartbeats 4000000 in
theorem vX8_digest_33 {d : Nat} {σ : Mem} {Q : Option Value → Mem → Prop} {x1 : Int32} 
    (h : ((5 ≤ x1 → X none (d + 3) mX8_digest 56 [.ref 94, .int 0, Unk] [] σ Q) ∧ (¬ 5 ≤ x1 → ((¬ x1 = 0 → ((¬ x1 = 1 → ((¬ x1 = 2 → ((¬ x1 = 3 → (∀ τ1 : Mem, τ1 = (w2 σ 94 19 ((31 * (σ.2 94 19)) + (((σ.1 95 5)).toInt64))) → X none (d + 3) mX8_digest 33 [.ref 94, .int (x1 + 1), Unk] [] τ1 Q)) ∧ (x1 = 3 → (∀ τ2 : Mem, τ2 = (w2 σ 94 19 ((31 * (σ.2 94 19)) + (((σ.1 94 3)).toInt64))) → X none (d + 3) mX8_digest 33 [.ref 94, .int (x1 + 1), Unk] [] τ2 Q)))) ∧ (x1 = 2 → (∀ τ3 : Mem, τ3 = (w2 σ 94 19 ((31 * (σ.2 94 19)) + (((σ.1 95 4)).toInt64))) → X none (d + 3) mX8_digest 33 [.ref 94, .int (x1 + 1), Unk] [] τ3 Q)))) ∧ (x1 = 1 → (∀ τ4 : Mem, τ4 = (w2 σ 94 19 ((31 * (σ.2 94 19)) + (((σ.1 95 1)).toInt64))) → X none (d + 3) mX8_digest 33 [.ref 94, .int (x1 + 1), Unk] [] τ4 Q)))) ∧ (x1 = 0 → (∀ τ5 : Mem, τ5 = (w2 σ 94 19 ((31 * (σ.2 94 19)) + (((σ.1 95 0)).toInt64))) → X none (d + 3) mX8_digest 33 [.ref 94, .int (x1 + 1), Unk] [] τ5 Q)))))) :
    X none (d + 3) mX8_digest 33 [.ref 94, .int x1, Unk] [] σ Q := by
  refine x_iload_n (pc' := 34) dX8_digest_33 rfl rfl rfl ?_
  refine x_iconst (pc' := 35) (v := 5) dX8_digest_34 rfl (by decide) ?_
  refine x_icmp_ge (pc' := 38) (tgt := 54) dX8_digest_35 (by decide) rfl (fun hc => ?_) (fun hc => ?_)
  · replace h := h.1 hc
    refine x_iconst (pc' := 55) (v := 0) dX8_digest_54 rfl (by decide) ?_
    refine x_istore_n (pc' := 56) dX8_digest_55 rfl rfl (by decide) rfl (ls' := [.ref 94, .int 0, Unk]) rfl ?_
    exact h
  · replace h := h.2 hc
    refine x_aload_n (pc' := 39) dX8_digest_38 rfl rfl rfl ?_
    refine x_aload_n (pc' := 40) dX8_digest_39 rfl rfl rfl ?_
    refine x_iload_n (pc' := 41) dX8_digest_40 rfl rfl rfl ?_
    refine x_callV (pc' := 44) (As := [.int x1]) dX8_digest_41 rfl lmX8_181 kd_94 rfl rfl (Nat.le_of_ble_eq_true rfl) (Nat.le_of_ble_eq_true rfl) ?_
    show X none (d + 2) mX8_layersOf 0 [.ref 94, .int x1] [] σ _
    refine x_iload_n (pc' := 1) dX8_layersOf_0 rfl rfl rfl ?_
    refine x_if_ne (pc' := 4) (tgt := 13) dX8_layersOf_1 (by decide) rfl (fun hc => ?_) (fun hc => ?_)
    · replace h := h.1 hc
      refine x_iload_n (pc' := 14) dX8_layersOf_13 rfl rfl rfl ?_
      refine x_iconst (pc' := 15) (v := 1) dX8_layersOf_14 rfl (by decide) ?_
      refine x_icmp_ne (pc' := 18) (tgt := 27) dX8_layersOf_15 (by decide) rfl (fun hc => ?_) (fun hc => ?_)
      · replace h := h.1 hc
        refine x_iload_n (pc' := 28) dX8_layersOf_27 rfl rfl rfl ?_
        refine x_iconst (pc' := 29) (v := 2) dX8_layersOf_28 rfl (by decide) ?_
        refine x_icmp_ne (pc' := 32) (tgt := 41) dX8_layersOf_29 (by decide) rfl (fun hc => ?_) (fun hc => ?_)
        · replace h := h.1 hc
          refine x_iload_n (pc' := 42) dX8_layersOf_41 rfl rfl rfl ?_
          refine x_iconst (pc' := 43) (v := 3) dX8_layersOf_42 rfl (by decide) ?_
          refine x_icmp_ne (pc' := 46) (tgt := 53) dX8_layersOf_43 (by decide) rfl (fun hc => ?_) (fun hc => ?_)
          · replace h := h.1 hc
            refine x_aload_n (pc' := 54) dX8_layersOf_53 rfl rfl rfl ?_
            refine x_getr (pc' := 57) dX8_layersOf_54 rfl lfX8_7 kd_94 rfl rf_94_0 ?_
            refine x_iconst (pc' := 58) (v := 5) dX8_layersOf_57 rfl (by decide) ?_
            refine x_iald (pc' := 59) dX8_layersOf_58 rfl kd_95 (by rw [ln_95]; unfold vp_in; decide) ?_
            show X none (d + 2) mX8_layersOf 59 [.ref 94, .int x1] [.int (σ.1 95 5)] σ _
            refine x_iret dX8_layersOf_59 rfl rfl ?_
            show X none (d + 3) mX8_digest 44 [.ref 94, .int x1, Unk] [.int (σ.1 95 5), .ref 94] σ _
            refine x_i2l (pc' := 45) dX8_digest_44 rfl ?_
            refine x_callV (pc' := 48) (As := [.long (((σ.1 95 5)).toInt64)]) dX8_digest_45 rfl lmX8_279 kd_94 rfl rfl (Nat.le_of_ble_eq_true rfl) (Nat.le_of_ble_eq_true rfl) ?_
            show X none (d + 2) mX8_mix 0 [.ref 94, .long (((σ.1 95 5)).toInt64), Unk] [] σ _
            refine x_aload_n (pc' := 1) dX8_mix_0 rfl rfl rfl ?_
            refine x_ldc2 (pc' := 4) dX8_mix_1 rfl llX8_272 ?_
            refine x_aload_n (pc' := 5) dX8_mix_4 rfl rfl rfl ?_
            refine x_getl (pc' := 8) dX8_mix_5 rfl lfX8_274 kd_94 rfl ?_
            refine x_lmul (pc' := 9) dX8_mix_8 rfl ?_
            refine x_lload_n (pc' := 10) dX8_mix_9 rfl rfl rfl ?_
            refine x_ladd (pc' := 11) dX8_mix_10 rfl ?_
            refine x_putl (pc' := 14) dX8_mix_11 rfl lfX8_274 kd_94 rfl ?_
            obtain ⟨τ1, eτ1⟩ : ∃ τ : Mem, τ = (w2 σ 94 19 ((31 * (σ.2 94 19)) + (((σ.1 95 5)).toInt64))) := ⟨_, rfl⟩
            show X none (d + 2) mX8_mix 14 [.ref 94, .long (((σ.1 95 5)).toInt64), Unk] [] (w2 σ 94 19 ((31 * (σ.2 94 19)) + (((σ.1 95 5)).toInt64))) _
            rw [← eτ1]
            replace h := h τ1 eτ1
            refine x_vret dX8_mix_14 rfl ?_
            show X none (d + 3) mX8_digest 48 [.ref 94, .int x1, Unk] [] τ1 _
            refine x_iinc (pc' := 51) (v := 1) dX8_digest_48 rfl (by decide) rfl rfl (by decide) (ls' := [.ref 94, .int (x1 + 1), Unk]) rfl ?_
            refine x_goto (pc' := 33) dX8_digest_51 (by decide) ?_
            exact h
          · replace h := h.2 hc
            refine x_aload_n (pc' := 47) dX8_layersOf_46 rfl rfl rfl ?_
            refine x_geti (pc' := 50) dX8_layersOf_47 rfl lfX8_153 kd_94 rfl ?_
            refine x_goto (pc' := 59) dX8_layersOf_50 (by decide) ?_
            refine x_iret dX8_layersOf_59 rfl rfl ?_
            show X none (d + 3) mX8_digest 44 [.ref 94, .int x1, Unk] [.int (σ.1 94 3), .ref 94] σ _
            refine x_i2l (pc' := 45) dX8_digest_44 rfl ?_
            refine x_callV (pc' := 48) (As := [.long (((σ.1 94 3)).toInt64)]) dX8_digest_45 rfl lmX8_279 kd_94 rfl rfl (Nat.le_of_ble_eq_true rfl) (Nat.le_of_ble_eq_true rfl) ?_
            show X none (d + 2) mX8_mix 0 [.ref 94, .long (((σ.1 94 3)).toInt64), Unk] [] σ _
            refine x_aload_n (pc' := 1) dX8_mix_0 rfl rfl rfl ?_
            refine x_ldc2 (pc' := 4) dX8_mix_1 rfl llX8_272 ?_
            refine x_aload_n (pc' := 5) dX8_mix_4 rfl rfl rfl ?_
            refine x_getl (pc' := 8) dX8_mix_5 rfl lfX8_274 kd_94 rfl ?_
            refine x_lmul (pc' := 9) dX8_mix_8 rfl ?_
            refine x_lload_n (pc' := 10) dX8_mix_9 rfl rfl rfl ?_
            refine x_ladd (pc' := 11) dX8_mix_10 rfl ?_
            refine x_putl (pc' := 14) dX8_mix_11 rfl lfX8_274 kd_94 rfl ?_
            obtain ⟨τ2, eτ2⟩ : ∃ τ : Mem, τ = (w2 σ 94 19 ((31 * (σ.2 94 19)) + (((σ.1 94 3)).toInt64))) := ⟨_, rfl⟩
            show X none (d + 2) mX8_mix 14 [.ref 94, .long (((σ.1 94 3)).toInt64), Unk] [] (w2 σ 94 19 ((31 * (σ.2 94 19)) + (((σ.1 94 3)).toInt64))) _
            rw [← eτ2]
            replace h := h τ2 eτ2
            refine x_vret dX8_mix_14 rfl ?_
            show X none (d + 3) mX8_digest 48 [.ref 94, .int x1, Unk] [] τ2 _
            refine x_iinc (pc' := 51) (v := 1) dX8_digest_48 rfl (by decide) rfl rfl (by decide) (ls' := [.ref 94, .int (x1 + 1), Unk]) rfl ?_
            refine x_goto (pc' := 33) dX8_digest_51 (by decide) ?_
            exact h
        · replace h := h.2 hc
          refine x_aload_n (pc' := 33) dX8_layersOf_32 rfl rfl rfl ?_
          refine x_getr (pc' := 36) dX8_layersOf_33 rfl lfX8_7 kd_94 rfl rf_94_0 ?_
          refine x_iconst (pc' := 37) (v := 4) dX8_layersOf_36 rfl (by decide) ?_
          refine x_iald (pc' := 38) dX8_layersOf_37 rfl kd_95 (by rw [ln_95]; unfold vp_in; decide) ?_
          show X none (d + 2) mX8_layersOf 38 [.ref 94, .int x1] [.int (σ.1 95 4)] σ _
          refine x_goto (pc' := 59) dX8_layersOf_38 (by decide) ?_
          refine x_iret dX8_layersOf_59 rfl rfl ?_
          show X none (d + 3) mX8_digest 44 [.ref 94, .int x1, Unk] [.int (σ.1 95 4), .ref 94] σ _
          refine x_i2l (pc' := 45) dX8_digest_44 rfl ?_
          refine x_callV (pc' := 48) (As := [.long (((σ.1 95 4)).toInt64)]) dX8_digest_45 rfl lmX8_279 kd_94 rfl rfl (Nat.le_of_ble_eq_true rfl) (Nat.le_of_ble_eq_true rfl) ?_
          show X none (d + 2) mX8_mix 0 [.ref 94, .long (((σ.1 95 4)).toInt64), Unk] [] σ _
          refine x_aload_n (pc' := 1) dX8_mix_0 rfl rfl rfl ?_
          refine x_ldc2 (pc' := 4) dX8_mix_1 rfl llX8_272 ?_
          refine x_aload_n (pc' := 5) dX8_mix_4 rfl rfl rfl ?_
          refine x_getl (pc' := 8) dX8_mix_5 rfl lfX8_274 kd_94 rfl ?_
          refine x_lmul (pc' := 9) dX8_mix_8 rfl ?_
          refine x_lload_n (pc' := 10) dX8_mix_9 rfl rfl rfl ?_
          refine x_ladd (pc' := 11) dX8_mix_10 rfl ?_
          refine x_putl (pc' := 14) dX8_mix_11 rfl lfX8_274 kd_94 rfl ?_
          obtain ⟨τ3, eτ3⟩ : ∃ τ : Mem, τ = (w2 σ 94 19 ((31 * (σ.2 94 19)) + (((σ.1 95 4)).toInt64))) := ⟨_, rfl⟩
          show X none (d + 2) mX8_mix 14 [.ref 94, .long (((σ.1 95 4)).toInt64), Unk] [] (w2 σ 94 19 ((31 * (σ.2 94 19)) + (((σ.1 95 4)).toInt64))) _
          rw [← eτ3]
          replace h := h τ3 eτ3
          refine x_vret dX8_mix_14 rfl ?_
          show X none (d + 3) mX8_digest 48 [.ref 94, .int x1, Unk] [] τ3 _
          refine x_iinc (pc' := 51) (v := 1) dX8_digest_48 rfl (by decide) rfl rfl (by decide) (ls' := [.ref 94, .int (x1 + 1), Unk]) rfl ?_
          refine x_goto (pc' := 33) dX8_digest_51 (by decide) ?_
          exact h
      · replace h := h.2 hc
        refine x_aload_n (pc' := 19) dX8_layersOf_18 rfl rfl rfl ?_
        refine x_getr (pc' := 22) dX8_layersOf_19 rfl lfX8_7 kd_94 rfl rf_94_0 ?_
        refine x_iconst (pc' := 23) (v := 1) dX8_layersOf_22 rfl (by decide) ?_
        refine x_iald (pc' := 24) dX8_layersOf_23 rfl kd_95 (by rw [ln_95]; unfold vp_in; decide) ?_
        show X none (d + 2) mX8_layersOf 24 [.ref 94, .int x1] [.int (σ.1 95 1)] σ _
        refine x_goto (pc' := 59) dX8_layersOf_24 (by decide) ?_
        refine x_iret dX8_layersOf_59 rfl rfl ?_
        show X none (d + 3) mX8_digest 44 [.ref 94, .int x1, Unk] [.int (σ.1 95 1), .ref 94] σ _
        refine x_i2l (pc' := 45) dX8_digest_44 rfl ?_
        refine x_callV (pc' := 48) (As := [.long (((σ.1 95 1)).toInt64)]) dX8_digest_45 rfl lmX8_279 kd_94 rfl rfl (Nat.le_of_ble_eq_true rfl) (Nat.le_of_ble_eq_true rfl) ?_
        show X none (d + 2) mX8_mix 0 [.ref 94, .long (((σ.1 95 1)).toInt64), Unk] [] σ _
        refine x_aload_n (pc' := 1) dX8_mix_0 rfl rfl rfl ?_
        refine x_ldc2 (pc' := 4) dX8_mix_1 rfl llX8_272 ?_
        refine x_aload_n (pc' := 5) dX8_mix_4 rfl rfl rfl ?_
        refine x_getl (pc' := 8) dX8_mix_5 rfl lfX8_274 kd_94 rfl ?_
        refine x_lmul (pc' := 9) dX8_mix_8 rfl ?_
        refine x_lload_n (pc' := 10) dX8_mix_9 rfl rfl rfl ?_
        refine x_ladd (pc' := 11) dX8_mix_10 rfl ?_
        refine x_putl (pc' := 14) dX8_mix_11 rfl lfX8_274 kd_94 rfl ?_
        obtain ⟨τ4, eτ4⟩ : ∃ τ : Mem, τ = (w2 σ 94 19 ((31 * (σ.2 94 19)) + (((σ.1 95 1)).toInt64))) := ⟨_, rfl⟩
        show X none (d + 2) mX8_mix 14 [.ref 94, .long (((σ.1 95 1)).toInt64), Unk] [] (w2 σ 94 19 ((31 * (σ.2 94 19)) + (((σ.1 95 1)).toInt64))) _
        rw [← eτ4]
        replace h := h τ4 eτ4
        refine x_vret dX8_mix_14 rfl ?_
        show X none (d + 3) mX8_digest 48 [.ref 94, .int x1, Unk] [] τ4 _
        refine x_iinc (pc' := 51) (v := 1) dX8_digest_48 rfl (by decide) rfl rfl (by decide) (ls' := [.ref 94, .int (x1 + 1), Unk]) rfl ?_
        refine x_goto (pc' := 33) dX8_digest_51 (by decide) ?_
        exact h
    · replace h := h.2 hc
      refine x_aload_n (pc' := 5) dX8_layersOf_4 rfl rfl rfl ?_
      refine x_getr (pc' := 8) dX8_layersOf_5 rfl lfX8_7 kd_94 rfl rf_94_0 ?_
      refine x_iconst (pc' := 9) (v := 0) dX8_layersOf_8 rfl (by decide) ?_
      refine x_iald (pc' := 10) dX8_layersOf_9 rfl kd_95 (by rw [ln_95]; unfold vp_in; decide) ?_
      show X none (d + 2) mX8_layersOf 10 [.ref 94, .int x1] [.int (σ.1 95 0)] σ _
      refine x_goto (pc' := 59) dX8_layersOf_10 (by decide) ?_
      refine x_iret dX8_layersOf_59 rfl rfl ?_
      show X none (d + 3) mX8_digest 44 [.ref 94, .int x1, Unk] [.int (σ.1 95 0), .ref 94] σ _
      refine x_i2l (pc' := 45) dX8_digest_44 rfl ?_
      refine x_callV (pc' := 48) (As := [.long (((σ.1 95 0)).toInt64)]) dX8_digest_45 rfl lmX8_279 kd_94 rfl rfl (Nat.le_of_ble_eq_true rfl) (Nat.le_of_ble_eq_true rfl) ?_
      show X none (d + 2) mX8_mix 0 [.ref 94, .long (((σ.1 95 0)).toInt64), Unk] [] σ _
      refine x_aload_n (pc' := 1) dX8_mix_0 rfl rfl rfl ?_
      refine x_ldc2 (pc' := 4) dX8_mix_1 rfl llX8_272 ?_
      refine x_aload_n (pc' := 5) dX8_mix_4 rfl rfl rfl ?_
      refine x_getl (pc' := 8) dX8_mix_5 rfl lfX8_274 kd_94 rfl ?_
      refine x_lmul (pc' := 9) dX8_mix_8 rfl ?_
      refine x_lload_n (pc' := 10) dX8_mix_9 rfl rfl rfl ?_
      refine x_ladd (pc' := 11) dX8_mix_10 rfl ?_
      refine x_putl (pc' := 14) dX8_mix_11 rfl lfX8_274 kd_94 rfl ?_
      obtain ⟨τ5, eτ5⟩ : ∃ τ : Mem, τ = (w2 σ 94 19 ((31 * (σ.2 94 19)) + (((σ.1 95 0)).toInt64))) := ⟨_, rfl⟩
      show X none (d + 2) mX8_mix 14 [.ref 94, .long (((σ.1 95 0)).toInt64), Unk] [] (w2 σ 94 19 ((31 * (σ.2 94 19)) + (((σ.1 95 0)).toInt64))) _
      rw [← eτ5]
      replace h := h τ5 eτ5
      refine x_vret dX8_mix_14 rfl ?_
      show X none (d + 3) mX8_digest 48 [.ref 94, .int x1, Unk] [] τ5 _
      refine x_iinc (pc' := 51) (v := 1) dX8_digest_48 rfl (by decide) rfl rfl (by decide) (ls' := [.ref 94, .int (x1 + 1), Unk]) rfl ?_
      refine x_goto (pc' := 33) dX8_digest_51 (by decide) ?_
      exact h
set_option maxRecDepth 100000 in
set_option maxHeartbeats 4000000 in
theorem vX8_digest_56 {d : Nat} {σ : Mem} {Q : Option Value → Mem → Prop} {x1 : Int32} 
    (h : (((σ.1 95 0) ≤ x1 → (∀ τ1 : Mem, τ1 = (w2 σ 94 19 ((31 * (σ.2 94 19)) + (σ.2 94 7))) → (∀ τ2 : Mem, τ2 = (w2 τ1 94 19 ((31 * (τ1.2 94 19)) + (τ1.2 94 8))) → Q (some (.long (τ2.2 94 19))) τ2))) ∧ (¬ (σ.1 95 0) ≤ x1 → (vp_in (494 + x1) 7458 ∧ ((¬ (σ.1 95 (494 + x1).toNatClampNeg) = 0 → X none (d + 3) mX8_digest 56 [.ref 94, .int (x1 + 1), Unk] [] σ Q) ∧ ((σ.1 95 (494 + x1).toNatClampNeg) = 0 → (vp_in (6 + x1) 7458 ∧ (∀ τ3 : Mem, τ3 = (w2 σ 94 19 ((31 * (σ.2 94 19)) + (((σ.1 95 (6 + x1).toNatClampNeg)).toInt64))) → X none (d + 3) mX8_digest 90 [.ref 94, .int x1, .int 0] [] τ3 Q)))))))) :
    X none (d + 3) mX8_digest 56 [.ref 94, .int x1, Unk] [] σ Q := by
  refine x_iload_n (pc' := 57) dX8_digest_56 rfl rfl rfl ?_
  refine x_aload_n (pc' := 58) dX8_digest_57 rfl rfl rfl ?_
  refine x_getr (pc' := 61) dX8_digest_58 rfl lfX8_7 kd_94 rfl rf_94_0 ?_
  refine x_iconst (pc' := 62) (v := 0) dX8_digest_61 rfl (by decide) ?_
  refine x_iald (pc' := 63) dX8_digest_62 rfl kd_95 (by rw [ln_95]; unfold vp_in; decide) ?_
  show X none (d + 3) mX8_digest 63 [.ref 94, .int x1, Unk] [.int (σ.1 95 0), .int x1] σ _
  refine x_icmp_ge (pc' := 66) (tgt := 118) dX8_digest_63 (by decide) rfl (fun hc => ?_) (fun hc => ?_)
  · replace h := h.1 hc
    refine x_aload_n (pc' := 119) dX8_digest_118 rfl rfl rfl ?_
    refine x_aload_n (pc' := 120) dX8_digest_119 rfl rfl rfl ?_
    refine x_getl (pc' := 123) dX8_digest_120 rfl lfX8_23 kd_94 rfl ?_
    refine x_callV (pc' := 126) (As := [.long (σ.2 94 7)]) dX8_digest_123 rfl lmX8_279 kd_94 rfl rfl (Nat.le_of_ble_eq_true rfl) (Nat.le_of_ble_eq_true rfl) ?_
    show X none (d + 2) mX8_mix 0 [.ref 94, .long (σ.2 94 7), Unk] [] σ _
    refine x_aload_n (pc' := 1) dX8_mix_0 rfl rfl rfl ?_
    refine x_ldc2 (pc' := 4) dX8_mix_1 rfl llX8_272 ?_
    refine x_aload_n (pc' := 5) dX8_mix_4 rfl rfl rfl ?_
    refine x_getl (pc' := 8) dX8_mix_5 rfl lfX8_274 kd_94 rfl ?_
    refine x_lmul (pc' := 9) dX8_mix_8 rfl ?_
    refine x_lload_n (pc' := 10) dX8_mix_9 rfl rfl rfl ?_
    refine x_ladd (pc' := 11) dX8_mix_10 rfl ?_
    refine x_putl (pc' := 14) dX8_mix_11 rfl lfX8_274 kd_94 rfl ?_
    obtain ⟨τ1, eτ1⟩ : ∃ τ : Mem, τ = (w2 σ 94 19 ((31 * (σ.2 94 19)) + (σ.2 94 7))) := ⟨_, rfl⟩
    show X none (d + 2) mX8_mix 14 [.ref 94, .long (σ.2 94 7), Unk] [] (w2 σ 94 19 ((31 * (σ.2 94 19)) + (σ.2 94 7))) _
    rw [← eτ1]
    replace h := h τ1 eτ1
    refine x_vret dX8_mix_14 rfl ?_
    show X none (d + 3) mX8_digest 126 [.ref 94, .int x1, Unk] [] τ1 _
    refine x_aload_n (pc' := 127) dX8_digest_126 rfl rfl rfl ?_
    refine x_aload_n (pc' := 128) dX8_digest_127 rfl rfl rfl ?_
    refine x_getl (pc' := 131) dX8_digest_128 rfl lfX8_27 kd_94 rfl ?_
    refine x_callV (pc' := 134) (As := [.long (τ1.2 94 8)]) dX8_digest_131 rfl lmX8_279 kd_94 rfl rfl (Nat.le_of_ble_eq_true rfl) (Nat.le_of_ble_eq_true rfl) ?_
    show X none (d + 2) mX8_mix 0 [.ref 94, .long (τ1.2 94 8), Unk] [] τ1 _
    refine x_aload_n (pc' := 1) dX8_mix_0 rfl rfl rfl ?_
    refine x_ldc2 (pc' := 4) dX8_mix_1 rfl llX8_272 ?_
    refine x_aload_n (pc' := 5) dX8_mix_4 rfl rfl rfl ?_
    refine x_getl (pc' := 8) dX8_mix_5 rfl lfX8_274 kd_94 rfl ?_
    refine x_lmul (pc' := 9) dX8_mix_8 rfl ?_
    refine x_lload_n (pc' := 10) dX8_mix_9 rfl rfl rfl ?_
    refine x_ladd (pc' := 11) dX8_mix_10 rfl ?_
    refine x_putl (pc' := 14) dX8_mix_11 rfl lfX8_274 kd_94 rfl ?_
    obtain ⟨τ2, eτ2⟩ : ∃ τ : Mem, τ = (w2 τ1 94 19 ((31 * (τ1.2 94 19)) + (τ1.2 94 8))) := ⟨_, rfl⟩
    show X none (d + 2) mX8_mix 14 [.ref 94, .long (τ1.2 94 8), Unk] [] (w2 τ1 94 19 ((31 * (τ1.2 94 19)) + (τ1.2 94 8))) _
    rw [← eτ2]
    replace h := h τ2 eτ2
    refine x_vret dX8_mix_14 rfl ?_
    show X none (d + 3) mX8_digest 134 [.ref 94, .int x1, Unk] [] τ2 _
    refine x_aload_n (pc' := 135) dX8_digest_134 rfl rfl rfl ?_
    refine x_getl (pc' := 138) dX8_digest_135 rfl lfX8_274 kd_94 rfl ?_
    exact x_lret dX8_digest_138 rfl h
  · replace h := h.2 hc
    refine x_aload_n (pc' := 67) dX8_digest_66 rfl rfl rfl ?_
    refine x_iload_n (pc' := 68) dX8_digest_67 rfl rfl rfl ?_
    refine x_callV (pc' := 71) (As := [.int x1]) dX8_digest_68 rfl lmX8_57 kd_94 rfl rfl (Nat.le_of_ble_eq_true rfl) (Nat.le_of_ble_eq_true rfl) ?_
    show X none (d + 2) mX8_isThere 0 [.ref 94, .int x1] [] σ _
    refine x_aload_n (pc' := 1) dX8_isThere_0 rfl rfl rfl ?_
    refine x_getr (pc' := 4) dX8_isThere_1 rfl lfX8_7 kd_94 rfl rf_94_0 ?_
    refine x_sipush (pc' := 7) (v := 494) dX8_isThere_4 rfl (by decide) ?_
    refine x_iload_n (pc' := 8) dX8_isThere_7 rfl rfl rfl ?_
    refine x_iadd (pc' := 9) dX8_isThere_8 rfl ?_
    obtain ⟨hb, h⟩ := h
    refine x_iald (pc' := 10) dX8_isThere_9 rfl kd_95 (by rw [ln_95]; exact hb) ?_
    refine x_if_ne (pc' := 13) (tgt := 17) dX8_isThere_10 (by decide) rfl (fun hc => ?_) (fun hc => ?_)
    · replace h := h.1 hc
      refine x_iconst (pc' := 18) (v := 0) dX8_isThere_17 rfl (by decide) ?_
      refine x_iret dX8_isThere_18 rfl rfl ?_
      show X none (d + 3) mX8_digest 71 [.ref 94, .int x1, Unk] [.int 0] σ _
      refine x_if_eq (pc' := 74) (tgt := 112) dX8_digest_71 (by decide) rfl (fun _ => ?_) (fun hc => absurd hc (by decide))
      refine x_iinc (pc' := 115) (v := 1) dX8_digest_112 rfl (by decide) rfl rfl (by decide) (ls' := [.ref 94, .int (x1 + 1), Unk]) rfl ?_
      refine x_goto (pc' := 56) dX8_digest_115 (by decide) ?_
      exact h
    · replace h := h.2 hc
      refine x_iconst (pc' := 14) (v := 1) dX8_isThere_13 rfl (by decide) ?_
      refine x_goto (pc' := 18) dX8_isThere_14 (by decide) ?_
      refine x_iret dX8_isThere_18 rfl rfl ?_
      show X none (d + 3) mX8_digest 71 [.ref 94, .int x1, Unk] [.int 1] σ _
      refine x_if_eq (pc' := 74) (tgt := 112) dX8_digest_71 (by decide) rfl (fun hc => absurd hc (by decide)) (fun _ => ?_)
      refine x_aload_n (pc' := 75) dX8_digest_74 rfl rfl rfl ?_
      refine x_aload_n (pc' := 76) dX8_digest_75 rfl rfl rfl ?_
      refine x_getr (pc' := 79) dX8_digest_76 rfl lfX8_7 kd_94 rfl rf_94_0 ?_
      refine x_bipush (pc' := 81) (v := 6) dX8_digest_79 rfl (by decide) ?_
      refine x_iload_n (pc' := 82) dX8_digest_81 rfl rfl rfl ?_
      refine x_iadd (pc' := 83) dX8_digest_82 rfl ?_
      obtain ⟨hb, h⟩ := h
      refine x_iald (pc' := 84) dX8_digest_83 rfl kd_95 (by rw [ln_95]; exact hb) ?_
      refine x_i2l (pc' := 85) dX8_digest_84 rfl ?_
      refine x_callV (pc' := 88) (As := [.long (((σ.1 95 (6 + x1).toNatClampNeg)).toInt64)]) dX8_digest_85 rfl lmX8_279 kd_94 rfl rfl (Nat.le_of_ble_eq_true rfl) (Nat.le_of_ble_eq_true rfl) ?_
      show X none (d + 2) mX8_mix 0 [.ref 94, .long (((σ.1 95 (6 + x1).toNatClampNeg)).toInt64), Unk] [] σ _
      refine x_aload_n (pc' := 1) dX8_mix_0 rfl rfl rfl ?_
      refine x_ldc2 (pc' := 4) dX8_mix_1 rfl llX8_272 ?_
      refine x_aload_n (pc' := 5) dX8_mix_4 rfl rfl rfl ?_
      refine x_getl (pc' := 8) dX8_mix_5 rfl lfX8_274 kd_94 rfl ?_
      refine x_lmul (pc' := 9) dX8_mix_8 rfl ?_
      refine x_lload_n (pc' := 10) dX8_mix_9 rfl rfl rfl ?_
      refine x_ladd (pc' := 11) dX8_mix_10 rfl ?_
      refine x_putl (pc' := 14) dX8_mix_11 rfl lfX8_274 kd_94 rfl ?_
      obtain ⟨τ3, eτ3⟩ : ∃ τ : Mem, τ = (w2 σ 94 19 ((31 * (σ.2 94 19)) + (((σ.1 95 (6 + x1).toNatClampNeg)).toInt64))) := ⟨_, rfl⟩
      show X none (d + 2) mX8_mix 14 [.ref 94, .long (((σ.1 95 (6 + x1).toNatClampNeg)).toInt64), Unk] [] (w2 σ 94 19 ((31 * (σ.2 94 19)) + (((σ.1 95 (6 + x1).toNatClampNeg)).toInt64))) _
      rw [← eτ3]
      replace h := h τ3 eτ3
      refine x_vret dX8_mix_14 rfl ?_
      show X none (d + 3) mX8_digest 88 [.ref 94, .int x1, Unk] [] τ3 _
      refine x_iconst (pc' := 89) (v := 0) dX8_digest_88 rfl (by decide) ?_
      refine x_istore_n (pc' := 90) dX8_digest_89 rfl rfl (by decide) rfl (ls' := [.ref 94, .int x1, .int 0]) rfl ?_
      exact h
set_option maxRecDepth 100000 in
set_option maxHeartbeats 4000000 in
theorem vX8_digest_90 {d : Nat} {σ : Mem} {Q : Option Value → Mem → Prop} {x1 x2 : Int32} 
    (h : ((4 ≤ x2 → X none (d + 3) mX8_digest 56 [.ref 94, .int (x1 + 1), Unk] [] σ Q) ∧ (¬ 4 ≤ x2 → (X none (d + 2) mX8_ofPoint 0 [.ref 94, .int x1, .int x2] [] σ (fun r τ1 => ∃ u2 : Int32, r = some (.int u2) ∧ (∀ τ3 : Mem, τ3 = (w2 τ1 94 19 ((31 * (τ1.2 94 19)) + ((u2).toInt64))) → X none (d + 3) mX8_digest 90 [.ref 94, .int x1, .int (x2 + 1)] [] τ3 Q)))))) :
    X none (d + 3) mX8_digest 90 [.ref 94, .int x1, .int x2] [] σ Q := by
  refine x_iload_n (pc' := 91) dX8_digest_90 rfl rfl rfl ?_
  refine x_iconst (pc' := 92) (v := 4) dX8_digest_91 rfl (by decide) ?_
  refine x_icmp_ge (pc' := 95) (tgt := 112) dX8_digest_92 (by decide) rfl (fun hc => ?_) (fun hc => ?_)
  · replace h := h.1 hc
    refine x_iinc (pc' := 115) (v := 1) dX8_digest_112 rfl (by decide) rfl rfl (by decide) (ls' := [.ref 94, .int (x1 + 1), .int x2]) rfl ?_
    refine x_goto (pc' := 56) dX8_digest_115 (by decide) ?_
    refine x_forget 2 (ls' := [.ref 94, .int (x1 + 1), Unk]) rfl ?_
    exact h
  · replace h := h.2 hc
    refine x_aload_n (pc' := 96) dX8_digest_95 rfl rfl rfl ?_
    refine x_aload_n (pc' := 97) dX8_digest_96 rfl rfl rfl ?_
    refine x_iload_n (pc' := 98) dX8_digest_97 rfl rfl rfl ?_
    refine x_iload_n (pc' := 99) dX8_digest_98 rfl rfl rfl ?_
    refine x_callV (pc' := 102) (As := [.int x1, .int x2]) dX8_digest_99 rfl lmX8_148 kd_94 rfl rfl (Nat.le_of_ble_eq_true rfl) (Nat.le_of_ble_eq_true rfl) ?_
    show X none (d + 2) mX8_ofPoint 0 [.ref 94, .int x1, .int x2] [] σ _
    refine X.mono h ?_
    rintro r τ1 ⟨u2, rfl, h⟩
    show X none (d + 3) mX8_digest 102 [.ref 94, .int x1, .int x2] [.int u2, .ref 94] τ1 _
    refine x_i2l (pc' := 103) dX8_digest_102 rfl ?_
    refine x_callV (pc' := 106) (As := [.long ((u2).toInt64)]) dX8_digest_103 rfl lmX8_279 kd_94 rfl rfl (Nat.le_of_ble_eq_true rfl) (Nat.le_of_ble_eq_true rfl) ?_
    show X none (d + 2) mX8_mix 0 [.ref 94, .long ((u2).toInt64), Unk] [] τ1 _
    refine x_aload_n (pc' := 1) dX8_mix_0 rfl rfl rfl ?_
    refine x_ldc2 (pc' := 4) dX8_mix_1 rfl llX8_272 ?_
    refine x_aload_n (pc' := 5) dX8_mix_4 rfl rfl rfl ?_
    refine x_getl (pc' := 8) dX8_mix_5 rfl lfX8_274 kd_94 rfl ?_
    refine x_lmul (pc' := 9) dX8_mix_8 rfl ?_
    refine x_lload_n (pc' := 10) dX8_mix_9 rfl rfl rfl ?_
    refine x_ladd (pc' := 11) dX8_mix_10 rfl ?_
    refine x_putl (pc' := 14) dX8_mix_11 rfl lfX8_274 kd_94 rfl ?_
    obtain ⟨τ3, eτ3⟩ : ∃ τ : Mem, τ = (w2 τ1 94 19 ((31 * (τ1.2 94 19)) + ((u2).toInt64))) := ⟨_, rfl⟩
    show X none (d + 2) mX8_mix 14 [.ref 94, .long ((u2).toInt64), Unk] [] (w2 τ1 94 19 ((31 * (τ1.2 94 19)) + ((u2).toInt64))) _
    rw [← eτ3]
    replace h := h τ3 eτ3
    refine x_vret dX8_mix_14 rfl ?_
    show X none (d + 3) mX8_digest 106 [.ref 94, .int x1, .int x2] [] τ3 _
    refine x_iinc (pc' := 109) (v := 1) dX8_digest_106 rfl (by decide) rfl rfl (by decide) (ls' := [.ref 94, .int x1, .int (x2 + 1)]) rfl ?_
    refine x_goto (pc' := 90) dX8_digest_109 (by decide) ?_
    exact h
