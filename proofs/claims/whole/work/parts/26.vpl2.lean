set_option maxRecDepth 100000 in
set_option maxHeartbeats 4000000 in
theorem vX7_sweep_0 {d : Nat} {σ : Mem} {Q : Option Value → Mem → Prop} {x1 x2 x3 x4 : Int32} 
    (h : (X none (d + 4) mX7_isRectangle 0 [.int x1, .int x2, .int x3, .int x4] [] σ (fun r τ1 => ∃ u2 : Int32, r = some (.int u2) ∧ ((¬ u2 = 0 → (X none (d + 4) mX7_pickRectangle 0 [.ref 0, .int x1, .int x2, .int x3, .int x4] [] τ1 (fun r τ3 => r = none ∧ (X none (d + 4) mX7_takePicked 0 [.ref 0, Unk, Unk] [] τ3 (fun r τ4 => ∃ u5 : Int32, r = some (.int u5) ∧ Q (some (.int u5)) τ4))))) ∧ (u2 = 0 → (∀ τ6 : Mem, τ6 = (w1 τ1 0 10 ((τ1.1 0 10) + 1)) → Q (some (.int (-2000000002))) τ6)))))) :
    X none (d + 5) mX7_sweep 0 [.ref 0, .int x1, .int x2, .int x3, .int x4] [] σ Q := by
  refine x_iload_n (pc' := 1) dX7_sweep_0 rfl rfl rfl ?_
  refine x_iload_n (pc' := 2) dX7_sweep_1 rfl rfl rfl ?_
  refine x_iload_n (pc' := 3) dX7_sweep_2 rfl rfl rfl ?_
  refine x_iload (pc' := 5) dX7_sweep_3 rfl rfl ?_
  refine x_callS (pc' := 8) (As := [.int x1, .int x2, .int x3, .int x4]) dX7_sweep_5 rfl lmX7_105 rfl rfl (Nat.le_of_ble_eq_true rfl) (Nat.le_of_ble_eq_true rfl) ?_
  show X none (d + 4) mX7_isRectangle 0 [.int x1, .int x2, .int x3, .int x4] [] σ _
  refine X.mono h ?_
  rintro r τ1 ⟨u2, rfl, h⟩
  show X none (d + 5) mX7_sweep 8 [.ref 0, .int x1, .int x2, .int x3, .int x4] [.int u2] τ1 _
  refine x_if_ne (pc' := 11) (tgt := 18) dX7_sweep_8 (by decide) rfl (fun hc => ?_) (fun hc => ?_)
  · replace h := h.1 hc
    refine x_aload_n (pc' := 19) dX7_sweep_18 rfl rfl rfl ?_
    refine x_iload_n (pc' := 20) dX7_sweep_19 rfl rfl rfl ?_
    refine x_iload_n (pc' := 21) dX7_sweep_20 rfl rfl rfl ?_
    refine x_iload_n (pc' := 22) dX7_sweep_21 rfl rfl rfl ?_
    refine x_iload (pc' := 24) dX7_sweep_22 rfl rfl ?_
    refine x_callV (pc' := 27) (As := [.int x1, .int x2, .int x3, .int x4]) dX7_sweep_24 rfl lmX7_109 kd_0 rfl rfl (Nat.le_of_ble_eq_true rfl) (Nat.le_of_ble_eq_true rfl) ?_
    show X none (d + 4) mX7_pickRectangle 0 [.ref 0, .int x1, .int x2, .int x3, .int x4] [] τ1 _
    refine X.mono h ?_
    rintro r τ3 ⟨rfl, h⟩
    show X none (d + 5) mX7_sweep 27 [.ref 0, .int x1, .int x2, .int x3, .int x4] [] τ3 _
    refine x_aload_n (pc' := 28) dX7_sweep_27 rfl rfl rfl ?_
    refine x_callV (pc' := 31) (As := []) dX7_sweep_28 rfl lmX7_113 kd_0 rfl rfl (Nat.le_of_ble_eq_true rfl) (Nat.le_of_ble_eq_true rfl) ?_
    show X none (d + 4) mX7_takePicked 0 [.ref 0, Unk, Unk] [] τ3 _
    refine X.mono h ?_
    rintro r τ4 ⟨u5, rfl, h⟩
    show X none (d + 5) mX7_sweep 31 [.ref 0, .int x1, .int x2, .int x3, .int x4] [.int u5] τ4 _
    exact x_iret dX7_sweep_31 rfl rfl h
  · replace h := h.2 hc
    refine x_aload_n (pc' := 12) dX7_sweep_11 rfl rfl rfl ?_
    refine x_ldc (pc' := 14) dX7_sweep_12 rfl lcX7_68 ?_
    refine x_callV (pc' := 17) (As := [.int (-2000000002)]) dX7_sweep_14 rfl lmX7_69 kd_0 rfl rfl (Nat.le_of_ble_eq_true rfl) (Nat.le_of_ble_eq_true rfl) ?_
    show X none (d + 4) mX7_refuse 0 [.ref 0, .int (-2000000002)] [] τ1 _
    refine x_iload_n (pc' := 1) dX7_refuse_0 rfl rfl rfl ?_
    refine x_ldc (pc' := 3) dX7_refuse_1 rfl lcX7_68 ?_
    refine x_icmp_ne (pc' := 6) (tgt := 19) dX7_refuse_3 (by decide) rfl (fun hc => absurd hc (by decide)) (fun _ => ?_)
    refine x_aload_n (pc' := 7) dX7_refuse_6 rfl rfl rfl ?_
    refine x_dup (pc' := 8) dX7_refuse_7 rfl rfl ?_
    refine x_geti (pc' := 11) dX7_refuse_8 rfl lfX7_267 kd_0 rfl ?_
    refine x_iconst (pc' := 12) (v := 1) dX7_refuse_11 rfl (by decide) ?_
    refine x_iadd (pc' := 13) dX7_refuse_12 rfl ?_
    refine x_puti (pc' := 16) dX7_refuse_13 rfl lfX7_267 kd_0 rfl rfl rfl ?_
    obtain ⟨τ6, eτ6⟩ : ∃ τ : Mem, τ = (w1 τ1 0 10 ((τ1.1 0 10) + 1)) := ⟨_, rfl⟩
    show X none (d + 4) mX7_refuse 16 [.ref 0, .int (-2000000002)] [] (w1 τ1 0 10 ((τ1.1 0 10) + 1)) _
    rw [← eτ6]
    replace h := h τ6 eτ6
    refine x_goto (pc' := 48) dX7_refuse_16 (by decide) ?_
    refine x_iload_n (pc' := 49) dX7_refuse_48 rfl rfl rfl ?_
    refine x_iret dX7_refuse_49 rfl rfl ?_
    show X none (d + 5) mX7_sweep 17 [.ref 0, .int x1, .int x2, .int x3, .int x4] [.int (-2000000002)] τ6 _
    exact x_iret dX7_sweep_17 rfl rfl h
set_option maxRecDepth 100000 in
set_option maxHeartbeats 4000000 in
theorem vX7_counter_0 {d : Nat} {σ : Mem} {Q : Option Value → Mem → Prop} {x1 : Int32} 
    (h : ((x1 < 0 → (∀ τ1 : Mem, τ1 = (w1 σ 0 10 ((σ.1 0 10) + 1)) → Q (some (.int (-2000000002))) τ1)) ∧ (¬ x1 < 0 → ((x1 ≤ 5 → (X none (d + 2) mX2_keep 0 [.ref 7, .ref 1] [] σ (fun r τ2 => r = none ∧ (∀ τ3 : Mem, τ3 = (w1 τ2 1 9 x1) → Q (some (.int (τ2.1 1 9))) τ3)))) ∧ (¬ x1 ≤ 5 → (∀ τ4 : Mem, τ4 = (w1 σ 0 10 ((σ.1 0 10) + 1)) → Q (some (.int (-2000000002))) τ4)))))) :
    X none (d + 3) mX7_counter 0 [.ref 0, .int x1, Unk] [] σ Q := by
  refine x_iload_n (pc' := 1) dX7_counter_0 rfl rfl rfl ?_
  refine x_if_lt (pc' := 4) (tgt := 9) dX7_counter_1 (by decide) rfl (fun hc => ?_) (fun hc => ?_)
  · replace h := h.1 hc
    refine x_aload_n (pc' := 10) dX7_counter_9 rfl rfl rfl ?_
    refine x_ldc (pc' := 12) dX7_counter_10 rfl lcX7_68 ?_
    refine x_callV (pc' := 15) (As := [.int (-2000000002)]) dX7_counter_12 rfl lmX7_69 kd_0 rfl rfl (Nat.le_of_ble_eq_true rfl) (Nat.le_of_ble_eq_true rfl) ?_
    show X none (d + 2) mX7_refuse 0 [.ref 0, .int (-2000000002)] [] σ _
    refine x_iload_n (pc' := 1) dX7_refuse_0 rfl rfl rfl ?_
    refine x_ldc (pc' := 3) dX7_refuse_1 rfl lcX7_68 ?_
    refine x_icmp_ne (pc' := 6) (tgt := 19) dX7_refuse_3 (by decide) rfl (fun hc => absurd hc (by decide)) (fun _ => ?_)
    refine x_aload_n (pc' := 7) dX7_refuse_6 rfl rfl rfl ?_
    refine x_dup (pc' := 8) dX7_refuse_7 rfl rfl ?_
    refine x_geti (pc' := 11) dX7_refuse_8 rfl lfX7_267 kd_0 rfl ?_
    refine x_iconst (pc' := 12) (v := 1) dX7_refuse_11 rfl (by decide) ?_
    refine x_iadd (pc' := 13) dX7_refuse_12 rfl ?_
    refine x_puti (pc' := 16) dX7_refuse_13 rfl lfX7_267 kd_0 rfl rfl rfl ?_
    obtain ⟨τ1, eτ1⟩ : ∃ τ : Mem, τ = (w1 σ 0 10 ((σ.1 0 10) + 1)) := ⟨_, rfl⟩
    show X none (d + 2) mX7_refuse 16 [.ref 0, .int (-2000000002)] [] (w1 σ 0 10 ((σ.1 0 10) + 1)) _
    rw [← eτ1]
    replace h := h τ1 eτ1
    refine x_goto (pc' := 48) dX7_refuse_16 (by decide) ?_
    refine x_iload_n (pc' := 49) dX7_refuse_48 rfl rfl rfl ?_
    refine x_iret dX7_refuse_49 rfl rfl ?_
    show X none (d + 3) mX7_counter 15 [.ref 0, .int x1, Unk] [.int (-2000000002)] τ1 _
    exact x_iret dX7_counter_15 rfl rfl h
  · replace h := h.2 hc
    refine x_iload_n (pc' := 5) dX7_counter_4 rfl rfl rfl ?_
    refine x_iconst (pc' := 6) (v := 5) dX7_counter_5 rfl (by decide) ?_
    refine x_icmp_le (pc' := 9) (tgt := 16) dX7_counter_6 (by decide) rfl (fun hc => ?_) (fun hc => ?_)
    · replace h := h.1 hc
      refine x_aload_n (pc' := 17) dX7_counter_16 rfl rfl rfl ?_
      refine x_getr (pc' := 20) dX7_counter_17 rfl lfX7_19 kd_0 rfl rf_0_1 ?_
      refine x_aload_n (pc' := 21) dX7_counter_20 rfl rfl rfl ?_
      refine x_getr (pc' := 24) dX7_counter_21 rfl lfX7_10 kd_0 rfl rf_0_0 ?_
      refine x_callV (pc' := 27) (As := [.ref 1]) dX7_counter_24 rfl lmX7_82 kd_7 rfl rfl (Nat.le_of_ble_eq_true rfl) (Nat.le_of_ble_eq_true rfl) ?_
      show X none (d + 2) mX2_keep 0 [.ref 7, .ref 1] [] σ _
      refine X.mono h ?_
      rintro r τ2 ⟨rfl, h⟩
      show X none (d + 3) mX7_counter 27 [.ref 0, .int x1, Unk] [] τ2 _
      refine x_aload_n (pc' := 28) dX7_counter_27 rfl rfl rfl ?_
      refine x_getr (pc' := 31) dX7_counter_28 rfl lfX7_10 kd_0 rfl rf_0_0 ?_
      refine x_geti (pc' := 34) dX7_counter_31 rfl lfX7_116 (OKF.k okF_1) rfl ?_
      refine x_istore_n (pc' := 35) dX7_counter_34 rfl rfl (by decide) rfl (ls' := [.ref 0, .int x1, .int (τ2.1 1 9)]) rfl ?_
      refine x_aload_n (pc' := 36) dX7_counter_35 rfl rfl rfl ?_
      refine x_getr (pc' := 39) dX7_counter_36 rfl lfX7_10 kd_0 rfl rf_0_0 ?_
      refine x_iload_n (pc' := 40) dX7_counter_39 rfl rfl rfl ?_
      refine x_puti (pc' := 43) dX7_counter_40 rfl lfX7_116 (OKF.k okF_1) rfl rfl rfl ?_
      obtain ⟨τ3, eτ3⟩ : ∃ τ : Mem, τ = (w1 τ2 1 9 x1) := ⟨_, rfl⟩
      show X none (d + 3) mX7_counter 43 [.ref 0, .int x1, .int (τ2.1 1 9)] [] (w1 τ2 1 9 x1) _
      rw [← eτ3]
      replace h := h τ3 eτ3
      refine x_iload_n (pc' := 44) dX7_counter_43 rfl rfl rfl ?_
      exact x_iret dX7_counter_44 rfl rfl h
    · replace h := h.2 hc
      refine x_aload_n (pc' := 10) dX7_counter_9 rfl rfl rfl ?_
      refine x_ldc (pc' := 12) dX7_counter_10 rfl lcX7_68 ?_
      refine x_callV (pc' := 15) (As := [.int (-2000000002)]) dX7_counter_12 rfl lmX7_69 kd_0 rfl rfl (Nat.le_of_ble_eq_true rfl) (Nat.le_of_ble_eq_true rfl) ?_
      show X none (d + 2) mX7_refuse 0 [.ref 0, .int (-2000000002)] [] σ _
      refine x_iload_n (pc' := 1) dX7_refuse_0 rfl rfl rfl ?_
      refine x_ldc (pc' := 3) dX7_refuse_1 rfl lcX7_68 ?_
      refine x_icmp_ne (pc' := 6) (tgt := 19) dX7_refuse_3 (by decide) rfl (fun hc => absurd hc (by decide)) (fun _ => ?_)
      refine x_aload_n (pc' := 7) dX7_refuse_6 rfl rfl rfl ?_
      refine x_dup (pc' := 8) dX7_refuse_7 rfl rfl ?_
      refine x_geti (pc' := 11) dX7_refuse_8 rfl lfX7_267 kd_0 rfl ?_
      refine x_iconst (pc' := 12) (v := 1) dX7_refuse_11 rfl (by decide) ?_
      refine x_iadd (pc' := 13) dX7_refuse_12 rfl ?_
      refine x_puti (pc' := 16) dX7_refuse_13 rfl lfX7_267 kd_0 rfl rfl rfl ?_
      obtain ⟨τ4, eτ4⟩ : ∃ τ : Mem, τ = (w1 σ 0 10 ((σ.1 0 10) + 1)) := ⟨_, rfl⟩
      show X none (d + 2) mX7_refuse 16 [.ref 0, .int (-2000000002)] [] (w1 σ 0 10 ((σ.1 0 10) + 1)) _
      rw [← eτ4]
      replace h := h τ4 eτ4
      refine x_goto (pc' := 48) dX7_refuse_16 (by decide) ?_
      refine x_iload_n (pc' := 49) dX7_refuse_48 rfl rfl rfl ?_
      refine x_iret dX7_refuse_49 rfl rfl ?_
      show X none (d + 3) mX7_counter 15 [.ref 0, .int x1, Unk] [.int (-2000000002)] τ4 _
      exact x_iret dX7_counter_15 rfl rfl h
set_option maxRecDepth 100000 in
set_option maxHeartbeats 4000000 in
theorem vX7_undo_0 {d : Nat} {σ : Mem} {Q : Option Value → Mem → Prop} 
    (h : ((¬ (σ.1 7 2) = 0 → (X none (d + 2) mX2_bringBack 0 [.ref 7, .ref 1] [] σ (fun r τ1 => r = none ∧ Q (some (.int (τ1.1 7 2))) τ1))) ∧ ((σ.1 7 2) = 0 → (∀ τ2 : Mem, τ2 = (w1 σ 0 11 ((σ.1 0 11) + 1)) → Q (some (.int (-2000000003))) τ2)))) :
    X none (d + 3) mX7_undo 0 [.ref 0] [] σ Q := by
  refine x_aload_n (pc' := 1) dX7_undo_0 rfl rfl rfl ?_
  refine x_getr (pc' := 4) dX7_undo_1 rfl lfX7_19 kd_0 rfl rf_0_1 ?_
  refine x_geti (pc' := 7) dX7_undo_4 rfl lfX7_120 kd_7 rfl ?_
  refine x_if_ne (pc' := 10) (tgt := 17) dX7_undo_7 (by decide) rfl (fun hc => ?_) (fun hc => ?_)
  · replace h := h.1 hc
    refine x_aload_n (pc' := 18) dX7_undo_17 rfl rfl rfl ?_
    refine x_getr (pc' := 21) dX7_undo_18 rfl lfX7_19 kd_0 rfl rf_0_1 ?_
    refine x_aload_n (pc' := 22) dX7_undo_21 rfl rfl rfl ?_
    refine x_getr (pc' := 25) dX7_undo_22 rfl lfX7_10 kd_0 rfl rf_0_0 ?_
    refine x_callV (pc' := 28) (As := [.ref 1]) dX7_undo_25 rfl lmX7_124 kd_7 rfl rfl (Nat.le_of_ble_eq_true rfl) (Nat.le_of_ble_eq_true rfl) ?_
    show X none (d + 2) mX2_bringBack 0 [.ref 7, .ref 1] [] σ _
    refine X.mono h ?_
    rintro r τ1 ⟨rfl, h⟩
    show X none (d + 3) mX7_undo 28 [.ref 0] [] τ1 _
    refine x_aload_n (pc' := 29) dX7_undo_28 rfl rfl rfl ?_
    refine x_getr (pc' := 32) dX7_undo_29 rfl lfX7_19 kd_0 rfl rf_0_1 ?_
    refine x_geti (pc' := 35) dX7_undo_32 rfl lfX7_120 kd_7 rfl ?_
    exact x_iret dX7_undo_35 rfl rfl h
  · replace h := h.2 hc
    refine x_aload_n (pc' := 11) dX7_undo_10 rfl rfl rfl ?_
    refine x_ldc (pc' := 13) dX7_undo_11 rfl lcX7_123 ?_
    refine x_callV (pc' := 16) (As := [.int (-2000000003)]) dX7_undo_13 rfl lmX7_69 kd_0 rfl rfl (Nat.le_of_ble_eq_true rfl) (Nat.le_of_ble_eq_true rfl) ?_
    show X none (d + 2) mX7_refuse 0 [.ref 0, .int (-2000000003)] [] σ _
    refine x_iload_n (pc' := 1) dX7_refuse_0 rfl rfl rfl ?_
    refine x_ldc (pc' := 3) dX7_refuse_1 rfl lcX7_68 ?_
    refine x_icmp_ne (pc' := 6) (tgt := 19) dX7_refuse_3 (by decide) rfl (fun _ => ?_) (fun hc => absurd hc (by decide))
    refine x_iload_n (pc' := 20) dX7_refuse_19 rfl rfl rfl ?_
    refine x_ldc (pc' := 22) dX7_refuse_20 rfl lcX7_123 ?_
    refine x_icmp_ne (pc' := 25) (tgt := 38) dX7_refuse_22 (by decide) rfl (fun hc => absurd hc (by decide)) (fun _ => ?_)
    refine x_aload_n (pc' := 26) dX7_refuse_25 rfl rfl rfl ?_
    refine x_dup (pc' := 27) dX7_refuse_26 rfl rfl ?_
    refine x_geti (pc' := 30) dX7_refuse_27 rfl lfX7_270 kd_0 rfl ?_
    refine x_iconst (pc' := 31) (v := 1) dX7_refuse_30 rfl (by decide) ?_
    refine x_iadd (pc' := 32) dX7_refuse_31 rfl ?_
    refine x_puti (pc' := 35) dX7_refuse_32 rfl lfX7_270 kd_0 rfl rfl rfl ?_
    obtain ⟨τ2, eτ2⟩ : ∃ τ : Mem, τ = (w1 σ 0 11 ((σ.1 0 11) + 1)) := ⟨_, rfl⟩
    show X none (d + 2) mX7_refuse 35 [.ref 0, .int (-2000000003)] [] (w1 σ 0 11 ((σ.1 0 11) + 1)) _
    rw [← eτ2]
    replace h := h τ2 eτ2
    refine x_goto (pc' := 48) dX7_refuse_35 (by decide) ?_
    refine x_iload_n (pc' := 49) dX7_refuse_48 rfl rfl rfl ?_
    refine x_iret dX7_refuse_49 rfl rfl ?_
    show X none (d + 3) mX7_undo 16 [.ref 0] [.int (-2000000003)] τ2 _
    exact x_iret dX7_undo_16 rfl rfl h
set_option maxRecDepth 100000 in
set_option maxHeartbeats 4000000 in
theorem vX7_of_0 {d : Nat} {σ : Mem} {Q : Option Value → Mem → Prop} {x1 x2 : Int32} 
    (h : (X none (d + 1) mX0_find 0 [.ref 1, .int x1, Unk] [] σ (fun r τ1 => ∃ u2 : Int32, r = some (.int u2) ∧ ((u2 < 0 → (∀ τ3 : Mem, τ3 = (w1 τ1 0 10 ((τ1.1 0 10) + 1)) → Q (some (.int (-2000000002))) τ3)) ∧ (¬ u2 < 0 → ((x2 < 0 → (∀ τ4 : Mem, τ4 = (w1 τ1 0 10 ((τ1.1 0 10) + 1)) → Q (some (.int (-2000000002))) τ4)) ∧ (¬ x2 < 0 → ((x2 ≤ 3 → ((x2.toInt < 0 ∨ 2 < x2.toInt → (X none (d + 1) mX0_worth 0 [.ref 1, .int u2] [] τ1 (fun r τ5 => ∃ u6 : Int32, r = some (.int u6) ∧ Q (some (.int u6)) τ5))) ∧ (x2.toInt = 0 → (vp_in u2 121 ∧ Q (some (.int (τ1.1 3 u2.toNatClampNeg))) τ1)) ∧ (x2.toInt = 1 → (vp_in u2 121 ∧ Q (some (.int (τ1.1 4 u2.toNatClampNeg))) τ1)) ∧ (x2.toInt = 2 → (vp_in u2 121 ∧ Q (some (.int (τ1.1 5 u2.toNatClampNeg))) τ1)))) ∧ (¬ x2 ≤ 3 → (∀ τ7 : Mem, τ7 = (w1 τ1 0 10 ((τ1.1 0 10) + 1)) → Q (some (.int (-2000000002))) τ7)))))))))) :
    X none (d + 2) mX7_of 0 [.ref 0, .int x1, .int x2, Unk] [] σ Q := by
  refine x_aload_n (pc' := 1) dX7_of_0 rfl rfl rfl ?_
  refine x_getr (pc' := 4) dX7_of_1 rfl lfX7_10 kd_0 rfl rf_0_0 ?_
  refine x_iload_n (pc' := 5) dX7_of_4 rfl rfl rfl ?_
  refine x_callV (pc' := 8) (As := [.int x1]) dX7_of_5 rfl lmX7_90 (OKF.k okF_1) rfl rfl (Nat.le_of_ble_eq_true rfl) (Nat.le_of_ble_eq_true rfl) ?_
  show X none (d + 1) mX0_find 0 [.ref 1, .int x1, Unk] [] σ _
  refine X.mono h ?_
  rintro r τ1 ⟨u2, rfl, h⟩
  show X none (d + 2) mX7_of 8 [.ref 0, .int x1, .int x2, Unk] [.int u2] τ1 _
  refine x_istore_n (pc' := 9) dX7_of_8 rfl rfl (by decide) rfl (ls' := [.ref 0, .int x1, .int x2, .int u2]) rfl ?_
  refine x_iload_n (pc' := 10) dX7_of_9 rfl rfl rfl ?_
  refine x_if_lt (pc' := 13) (tgt := 22) dX7_of_10 (by decide) rfl (fun hc => ?_) (fun hc => ?_)
  · replace h := h.1 hc
    refine x_aload_n (pc' := 23) dX7_of_22 rfl rfl rfl ?_
    refine x_ldc (pc' := 25) dX7_of_23 rfl lcX7_68 ?_
    refine x_callV (pc' := 28) (As := [.int (-2000000002)]) dX7_of_25 rfl lmX7_69 kd_0 rfl rfl (Nat.le_of_ble_eq_true rfl) (Nat.le_of_ble_eq_true rfl) ?_
    show X none (d + 1) mX7_refuse 0 [.ref 0, .int (-2000000002)] [] τ1 _
    refine x_iload_n (pc' := 1) dX7_refuse_0 rfl rfl rfl ?_
    refine x_ldc (pc' := 3) dX7_refuse_1 rfl lcX7_68 ?_
    refine x_icmp_ne (pc' := 6) (tgt := 19) dX7_refuse_3 (by decide) rfl (fun hc => absurd hc (by decide)) (fun _ => ?_)
    refine x_aload_n (pc' := 7) dX7_refuse_6 rfl rfl rfl ?_
    refine x_dup (pc' := 8) dX7_refuse_7 rfl rfl ?_
    refine x_geti (pc' := 11) dX7_refuse_8 rfl lfX7_267 kd_0 rfl ?_
    refine x_iconst (pc' := 12) (v := 1) dX7_refuse_11 rfl (by decide) ?_
    refine x_iadd (pc' := 13) dX7_refuse_12 rfl ?_
    refine x_puti (pc' := 16) dX7_refuse_13 rfl lfX7_267 kd_0 rfl rfl rfl ?_
    obtain ⟨τ3, eτ3⟩ : ∃ τ : Mem, τ = (w1 τ1 0 10 ((τ1.1 0 10) + 1)) := ⟨_, rfl⟩
    show X none (d + 1) mX7_refuse 16 [.ref 0, .int (-2000000002)] [] (w1 τ1 0 10 ((τ1.1 0 10) + 1)) _
    rw [← eτ3]
    replace h := h τ3 eτ3
    refine x_goto (pc' := 48) dX7_refuse_16 (by decide) ?_
    refine x_iload_n (pc' := 49) dX7_refuse_48 rfl rfl rfl ?_
    refine x_iret dX7_refuse_49 rfl rfl ?_
    show X none (d + 2) mX7_of 28 [.ref 0, .int x1, .int x2, .int u2] [.int (-2000000002)] τ3 _
    exact x_iret dX7_of_28 rfl rfl h
  · replace h := h.2 hc
    refine x_iload_n (pc' := 14) dX7_of_13 rfl rfl rfl ?_
    refine x_if_lt (pc' := 17) (tgt := 22) dX7_of_14 (by decide) rfl (fun hc => ?_) (fun hc => ?_)
    · replace h := h.1 hc
      refine x_aload_n (pc' := 23) dX7_of_22 rfl rfl rfl ?_
      refine x_ldc (pc' := 25) dX7_of_23 rfl lcX7_68 ?_
      refine x_callV (pc' := 28) (As := [.int (-2000000002)]) dX7_of_25 rfl lmX7_69 kd_0 rfl rfl (Nat.le_of_ble_eq_true rfl) (Nat.le_of_ble_eq_true rfl) ?_
      show X none (d + 1) mX7_refuse 0 [.ref 0, .int (-2000000002)] [] τ1 _
      refine x_iload_n (pc' := 1) dX7_refuse_0 rfl rfl rfl ?_
      refine x_ldc (pc' := 3) dX7_refuse_1 rfl lcX7_68 ?_
      refine x_icmp_ne (pc' := 6) (tgt := 19) dX7_refuse_3 (by decide) rfl (fun hc => absurd hc (by decide)) (fun _ => ?_)
      refine x_aload_n (pc' := 7) dX7_refuse_6 rfl rfl rfl ?_
      refine x_dup (pc' := 8) dX7_refuse_7 rfl rfl ?_
      refine x_geti (pc' := 11) dX7_refuse_8 rfl lfX7_267 kd_0 rfl ?_
      refine x_iconst (pc' := 12) (v := 1) dX7_refuse_11 rfl (by decide) ?_
      refine x_iadd (pc' := 13) dX7_refuse_12 rfl ?_
      refine x_puti (pc' := 16) dX7_refuse_13 rfl lfX7_267 kd_0 rfl rfl rfl ?_
      obtain ⟨τ4, eτ4⟩ : ∃ τ : Mem, τ = (w1 τ1 0 10 ((τ1.1 0 10) + 1)) := ⟨_, rfl⟩
      show X none (d + 1) mX7_refuse 16 [.ref 0, .int (-2000000002)] [] (w1 τ1 0 10 ((τ1.1 0 10) + 1)) _
      rw [← eτ4]
      replace h := h τ4 eτ4
      refine x_goto (pc' := 48) dX7_refuse_16 (by decide) ?_
      refine x_iload_n (pc' := 49) dX7_refuse_48 rfl rfl rfl ?_
      refine x_iret dX7_refuse_49 rfl rfl ?_
      show X none (d + 2) mX7_of 28 [.ref 0, .int x1, .int x2, .int u2] [.int (-2000000002)] τ4 _
      exact x_iret dX7_of_28 rfl rfl h
    · replace h := h.2 hc
      refine x_iload_n (pc' := 18) dX7_of_17 rfl rfl rfl ?_
      refine x_iconst (pc' := 19) (v := 3) dX7_of_18 rfl (by decide) ?_
      refine x_icmp_le (pc' := 22) (tgt := 29) dX7_of_19 (by decide) rfl (fun hc => ?_) (fun hc => ?_)
      · replace h := h.1 hc
        refine x_iload_n (pc' := 30) dX7_of_29 rfl rfl rfl ?_
        by_cases hc : x2.toInt < 0 ∨ 2 < x2.toInt
        · refine x_tblOut (pc' := 86) dX7_of_30 hc (by decide) ?_
          replace h := h.1 hc
          refine x_aload_n (pc' := 87) dX7_of_86 rfl rfl rfl ?_
          refine x_getr (pc' := 90) dX7_of_87 rfl lfX7_10 kd_0 rfl rf_0_0 ?_
          refine x_iload_n (pc' := 91) dX7_of_90 rfl rfl rfl ?_
          refine x_callV (pc' := 94) (As := [.int u2]) dX7_of_91 rfl lmX7_137 (OKF.k okF_1) rfl rfl (Nat.le_of_ble_eq_true rfl) (Nat.le_of_ble_eq_true rfl) ?_
          show X none (d + 1) mX0_worth 0 [.ref 1, .int u2] [] τ1 _
          refine X.mono h ?_
          rintro r τ5 ⟨u6, rfl, h⟩
          show X none (d + 2) mX7_of 94 [.ref 0, .int x1, .int x2, .int u2] [.int u6] τ5 _
          exact x_iret dX7_of_94 rfl rfl h
        · replace h := h.2
          have hr : x2.toInt = 0 ∨ x2.toInt = 1 ∨ x2.toInt = 2 := by omega
          rcases hr with hr | hr | hr
          · refine x_tblIn (pc' := 56) dX7_of_30 (by omega) (by omega) (off := 26) (by rw [hr]; rfl) (by decide) ?_
            replace h := h.1 hr
            refine x_aload_n (pc' := 57) dX7_of_56 rfl rfl rfl ?_
            refine x_getr (pc' := 60) dX7_of_57 rfl lfX7_10 kd_0 rfl rf_0_0 ?_
            refine x_getr (pc' := 63) dX7_of_60 rfl lfX7_127 (OKF.k okF_1) rfl (OKF.r1 okF_1) ?_
            refine x_iload_n (pc' := 64) dX7_of_63 rfl rfl rfl ?_
            obtain ⟨hb, h⟩ := h
            refine x_iald (pc' := 65) dX7_of_64 rfl (OKF.a1 okF_1) (by rw [(OKF.n1 okF_1)]; exact hb) ?_
            exact x_iret dX7_of_65 rfl rfl h
          · refine x_tblIn (pc' := 66) dX7_of_30 (by omega) (by omega) (off := 36) (by rw [hr]; rfl) (by decide) ?_
            replace h := h.2.1 hr
            refine x_aload_n (pc' := 67) dX7_of_66 rfl rfl rfl ?_
            refine x_getr (pc' := 70) dX7_of_67 rfl lfX7_10 kd_0 rfl rf_0_0 ?_
            refine x_getr (pc' := 73) dX7_of_70 rfl lfX7_131 (OKF.k okF_1) rfl (OKF.r2 okF_1) ?_
            refine x_iload_n (pc' := 74) dX7_of_73 rfl rfl rfl ?_
            obtain ⟨hb, h⟩ := h
            refine x_iald (pc' := 75) dX7_of_74 rfl (OKF.a2 okF_1) (by rw [(OKF.n2 okF_1)]; exact hb) ?_
            exact x_iret dX7_of_75 rfl rfl h
          · refine x_tblIn (pc' := 76) dX7_of_30 (by omega) (by omega) (off := 46) (by rw [hr]; rfl) (by decide) ?_
            replace h := h.2.2 hr
            refine x_aload_n (pc' := 77) dX7_of_76 rfl rfl rfl ?_
            refine x_getr (pc' := 80) dX7_of_77 rfl lfX7_10 kd_0 rfl rf_0_0 ?_
            refine x_getr (pc' := 83) dX7_of_80 rfl lfX7_134 (OKF.k okF_1) rfl (OKF.r3 okF_1) ?_
            refine x_iload_n (pc' := 84) dX7_of_83 rfl rfl rfl ?_
            obtain ⟨hb, h⟩ := h
            refine x_iald (pc' := 85) dX7_of_84 rfl (OKF.a3 okF_1) (by rw [(OKF.n3 okF_1)]; exact hb) ?_
            exact x_iret dX7_of_85 rfl rfl h
      · replace h := h.2 hc
        refine x_aload_n (pc' := 23) dX7_of_22 rfl rfl rfl ?_
        refine x_ldc (pc' := 25) dX7_of_23 rfl lcX7_68 ?_
        refine x_callV (pc' := 28) (As := [.int (-2000000002)]) dX7_of_25 rfl lmX7_69 kd_0 rfl rfl (Nat.le_of_ble_eq_true rfl) (Nat.le_of_ble_eq_true rfl) ?_
        show X none (d + 1) mX7_refuse 0 [.ref 0, .int (-2000000002)] [] τ1 _
        refine x_iload_n (pc' := 1) dX7_refuse_0 rfl rfl rfl ?_
        refine x_ldc (pc' := 3) dX7_refuse_1 rfl lcX7_68 ?_
        refine x_icmp_ne (pc' := 6) (tgt := 19) dX7_refuse_3 (by decide) rfl (fun hc => absurd hc (by decide)) (fun _ => ?_)
        refine x_aload_n (pc' := 7) dX7_refuse_6 rfl rfl rfl ?_
        refine x_dup (pc' := 8) dX7_refuse_7 rfl rfl ?_
        refine x_geti (pc' := 11) dX7_refuse_8 rfl lfX7_267 kd_0 rfl ?_
        refine x_iconst (pc' := 12) (v := 1) dX7_refuse_11 rfl (by decide) ?_
        refine x_iadd (pc' := 13) dX7_refuse_12 rfl ?_
        refine x_puti (pc' := 16) dX7_refuse_13 rfl lfX7_267 kd_0 rfl rfl rfl ?_
        obtain ⟨τ7, eτ7⟩ : ∃ τ : Mem, τ = (w1 τ1 0 10 ((τ1.1 0 10) + 1)) := ⟨_, rfl⟩
        show X none (d + 1) mX7_refuse 16 [.ref 0, .int (-2000000002)] [] (w1 τ1 0 10 ((τ1.1 0 10) + 1)) _
        rw [← eτ7]
        replace h := h τ7 eτ7
        refine x_goto (pc' := 48) dX7_refuse_16 (by decide) ?_
        refine x_iload_n (pc' := 49) dX7_refuse_48 rfl rfl rfl ?_
        refine x_iret dX7_refuse_49 rfl rfl ?_
        show X none (d + 2) mX7_of 28 [.ref 0, .int x1, .int x2, .int u2] [.int (-2000000002)] τ7 _
        exact x_iret dX7_of_28 rfl rfl h
set_option maxRecDepth 100000 in
set_option maxHeartbeats 4000000 in
theorem vX7_nth_0 {d : Nat} {σ : Mem} {Q : Option Value → Mem → Prop} {x1 : Int32} 
    (h : ((0 ≤ x1 → (X none (d + 1) mX4_pickAll 0 [.ref 57, .ref 1, Unk] [] σ (fun r τ1 => r = none ∧ (X none (d + 1) mX4_numberOf 0 [.ref 57, .ref 1, .int x1] [] τ1 (fun r τ2 => ∃ u3 : Int32, r = some (.int u3) ∧ Q (some (.int u3)) τ2))))) ∧ (¬ 0 ≤ x1 → (∀ τ4 : Mem, τ4 = (w1 σ 0 10 ((σ.1 0 10) + 1)) → Q (some (.int (-2000000002))) τ4)))) :
    X none (d + 2) mX7_nth 0 [.ref 0, .int x1] [] σ Q := by
  refine x_iload_n (pc' := 1) dX7_nth_0 rfl rfl rfl ?_
  refine x_if_ge (pc' := 4) (tgt := 11) dX7_nth_1 (by decide) rfl (fun hc => ?_) (fun hc => ?_)
  · replace h := h.1 hc
    refine x_aload_n (pc' := 12) dX7_nth_11 rfl rfl rfl ?_
    refine x_getr (pc' := 15) dX7_nth_12 rfl lfX7_26 kd_0 rfl rf_0_2 ?_
    refine x_aload_n (pc' := 16) dX7_nth_15 rfl rfl rfl ?_
    refine x_getr (pc' := 19) dX7_nth_16 rfl lfX7_10 kd_0 rfl rf_0_0 ?_
    refine x_callV (pc' := 22) (As := [.ref 1]) dX7_nth_19 rfl lmX7_140 (OKP.k okP_57) rfl rfl (Nat.le_of_ble_eq_true rfl) (Nat.le_of_ble_eq_true rfl) ?_
    show X none (d + 1) mX4_pickAll 0 [.ref 57, .ref 1, Unk] [] σ _
    refine X.mono h ?_
    rintro r τ1 ⟨rfl, h⟩
    show X none (d + 2) mX7_nth 22 [.ref 0, .int x1] [] τ1 _
    refine x_aload_n (pc' := 23) dX7_nth_22 rfl rfl rfl ?_
    refine x_getr (pc' := 26) dX7_nth_23 rfl lfX7_26 kd_0 rfl rf_0_2 ?_
    refine x_aload_n (pc' := 27) dX7_nth_26 rfl rfl rfl ?_
    refine x_getr (pc' := 30) dX7_nth_27 rfl lfX7_10 kd_0 rfl rf_0_0 ?_
    refine x_iload_n (pc' := 31) dX7_nth_30 rfl rfl rfl ?_
    refine x_callV (pc' := 34) (As := [.ref 1, .int x1]) dX7_nth_31 rfl lmX7_143 (OKP.k okP_57) rfl rfl (Nat.le_of_ble_eq_true rfl) (Nat.le_of_ble_eq_true rfl) ?_
    show X none (d + 1) mX4_numberOf 0 [.ref 57, .ref 1, .int x1] [] τ1 _
    refine X.mono h ?_
    rintro r τ2 ⟨u3, rfl, h⟩
    show X none (d + 2) mX7_nth 34 [.ref 0, .int x1] [.int u3] τ2 _
    exact x_iret dX7_nth_34 rfl rfl h
  · replace h := h.2 hc
    refine x_aload_n (pc' := 5) dX7_nth_4 rfl rfl rfl ?_
    refine x_ldc (pc' := 7) dX7_nth_5 rfl lcX7_68 ?_
    refine x_callV (pc' := 10) (As := [.int (-2000000002)]) dX7_nth_7 rfl lmX7_69 kd_0 rfl rfl (Nat.le_of_ble_eq_true rfl) (Nat.le_of_ble_eq_true rfl) ?_
    show X none (d + 1) mX7_refuse 0 [.ref 0, .int (-2000000002)] [] σ _
    refine x_iload_n (pc' := 1) dX7_refuse_0 rfl rfl rfl ?_
    refine x_ldc (pc' := 3) dX7_refuse_1 rfl lcX7_68 ?_
    refine x_icmp_ne (pc' := 6) (tgt := 19) dX7_refuse_3 (by decide) rfl (fun hc => absurd hc (by decide)) (fun _ => ?_)
    refine x_aload_n (pc' := 7) dX7_refuse_6 rfl rfl rfl ?_
    refine x_dup (pc' := 8) dX7_refuse_7 rfl rfl ?_
    refine x_geti (pc' := 11) dX7_refuse_8 rfl lfX7_267 kd_0 rfl ?_
    refine x_iconst (pc' := 12) (v := 1) dX7_refuse_11 rfl (by decide) ?_
    refine x_iadd (pc' := 13) dX7_refuse_12 rfl ?_
    refine x_puti (pc' := 16) dX7_refuse_13 rfl lfX7_267 kd_0 rfl rfl rfl ?_
    obtain ⟨τ4, eτ4⟩ : ∃ τ : Mem, τ = (w1 σ 0 10 ((σ.1 0 10) + 1)) := ⟨_, rfl⟩
    show X none (d + 1) mX7_refuse 16 [.ref 0, .int (-2000000002)] [] (w1 σ 0 10 ((σ.1 0 10) + 1)) _
    rw [← eτ4]
    replace h := h τ4 eτ4
    refine x_goto (pc' := 48) dX7_refuse_16 (by decide) ?_
    refine x_iload_n (pc' := 49) dX7_refuse_48 rfl rfl rfl ?_
    refine x_iret dX7_refuse_49 rfl rfl ?_
    show X none (d + 2) mX7_nth 10 [.ref 0, .int x1] [.int (-2000000002)] τ4 _
    exact x_iret dX7_nth_10 rfl rfl h
set_option maxRecDepth 100000 in
set_option maxHeartbeats 4000000 in
theorem vX7_count_0 {d : Nat} {σ : Mem} {Q : Option Value → Mem → Prop} {x1 x2 x3 x4 : Int32} 
    (h : (X none (d + 3) mX7_isRectangle 0 [.int x1, .int x2, .int x3, .int x4] [] σ (fun r τ1 => ∃ u2 : Int32, r = some (.int u2) ∧ ((¬ u2 = 0 → (X none (d + 3) mX0_layersThere 0 [.ref 1] [] τ1 (fun r τ3 => ∃ u4 : Int32, r = some (.int u4) ∧ (∀ τ5 : Mem, τ5 = (w1 τ3 0 9 ((τ1.1 0 9) + u4)) → (X none (d + 3) mX7_pickRectangle 0 [.ref 0, .int x1, .int x2, .int x3, .int x4] [] τ5 (fun r τ6 => r = none ∧ (X none (d + 3) mX4_worthOfAll 0 [.ref 57, .ref 1, Unk, Unk] [] τ6 (fun r τ7 => ∃ u8 : Int32, r = some (.int u8) ∧ Q (some (.int u8)) τ7)))))))) ∧ (u2 = 0 → (∀ τ9 : Mem, τ9 = (w1 τ1 0 10 ((τ1.1 0 10) + 1)) → Q (some (.int (-2000000002))) τ9)))))) :
    X none (d + 4) mX7_count 0 [.ref 0, .int x1, .int x2, .int x3, .int x4] [] σ Q := by
  refine x_iload_n (pc' := 1) dX7_count_0 rfl rfl rfl ?_
  refine x_iload_n (pc' := 2) dX7_count_1 rfl rfl rfl ?_
  refine x_iload_n (pc' := 3) dX7_count_2 rfl rfl rfl ?_
  refine x_iload (pc' := 5) dX7_count_3 rfl rfl ?_
  refine x_callS (pc' := 8) (As := [.int x1, .int x2, .int x3, .int x4]) dX7_count_5 rfl lmX7_105 rfl rfl (Nat.le_of_ble_eq_true rfl) (Nat.le_of_ble_eq_true rfl) ?_
  show X none (d + 3) mX7_isRectangle 0 [.int x1, .int x2, .int x3, .int x4] [] σ _
  refine X.mono h ?_
  rintro r τ1 ⟨u2, rfl, h⟩
  show X none (d + 4) mX7_count 8 [.ref 0, .int x1, .int x2, .int x3, .int x4] [.int u2] τ1 _
  refine x_if_ne (pc' := 11) (tgt := 18) dX7_count_8 (by decide) rfl (fun hc => ?_) (fun hc => ?_)
  · replace h := h.1 hc
    refine x_aload_n (pc' := 19) dX7_count_18 rfl rfl rfl ?_
    refine x_dup (pc' := 20) dX7_count_19 rfl rfl ?_
    refine x_geti (pc' := 23) dX7_count_20 rfl lfX7_147 kd_0 rfl ?_
    refine x_aload_n (pc' := 24) dX7_count_23 rfl rfl rfl ?_
    refine x_getr (pc' := 27) dX7_count_24 rfl lfX7_10 kd_0 rfl rf_0_0 ?_
    refine x_callV (pc' := 30) (As := []) dX7_count_27 rfl lmX7_150 (OKF.k okF_1) rfl rfl (Nat.le_of_ble_eq_true rfl) (Nat.le_of_ble_eq_true rfl) ?_
    show X none (d + 3) mX0_layersThere 0 [.ref 1] [] τ1 _
    refine X.mono h ?_
    rintro r τ3 ⟨u4, rfl, h⟩
    show X none (d + 4) mX7_count 30 [.ref 0, .int x1, .int x2, .int x3, .int x4] [.int u4, .int (τ1.1 0 9), .ref 0] τ3 _
    refine x_iadd (pc' := 31) dX7_count_30 rfl ?_
    refine x_puti (pc' := 34) dX7_count_31 rfl lfX7_147 kd_0 rfl rfl rfl ?_
    obtain ⟨τ5, eτ5⟩ : ∃ τ : Mem, τ = (w1 τ3 0 9 ((τ1.1 0 9) + u4)) := ⟨_, rfl⟩
    show X none (d + 4) mX7_count 34 [.ref 0, .int x1, .int x2, .int x3, .int x4] [] (w1 τ3 0 9 ((τ1.1 0 9) + u4)) _
    rw [← eτ5]
    replace h := h τ5 eτ5
    refine x_aload_n (pc' := 35) dX7_count_34 rfl rfl rfl ?_
    refine x_iload_n (pc' := 36) dX7_count_35 rfl rfl rfl ?_
    refine x_iload_n (pc' := 37) dX7_count_36 rfl rfl rfl ?_
    refine x_iload_n (pc' := 38) dX7_count_37 rfl rfl rfl ?_
    refine x_iload (pc' := 40) dX7_count_38 rfl rfl ?_
    refine x_callV (pc' := 43) (As := [.int x1, .int x2, .int x3, .int x4]) dX7_count_40 rfl lmX7_109 kd_0 rfl rfl (Nat.le_of_ble_eq_true rfl) (Nat.le_of_ble_eq_true rfl) ?_
    show X none (d + 3) mX7_pickRectangle 0 [.ref 0, .int x1, .int x2, .int x3, .int x4] [] τ5 _
    refine X.mono h ?_
    rintro r τ6 ⟨rfl, h⟩
    show X none (d + 4) mX7_count 43 [.ref 0, .int x1, .int x2, .int x3, .int x4] [] τ6 _
    refine x_aload_n (pc' := 44) dX7_count_43 rfl rfl rfl ?_
    refine x_getr (pc' := 47) dX7_count_44 rfl lfX7_26 kd_0 rfl rf_0_2 ?_
    refine x_aload_n (pc' := 48) dX7_count_47 rfl rfl rfl ?_
    refine x_getr (pc' := 51) dX7_count_48 rfl lfX7_10 kd_0 rfl rf_0_0 ?_
    refine x_callV (pc' := 54) (As := [.ref 1]) dX7_count_51 rfl lmX7_153 (OKP.k okP_57) rfl rfl (Nat.le_of_ble_eq_true rfl) (Nat.le_of_ble_eq_true rfl) ?_
    show X none (d + 3) mX4_worthOfAll 0 [.ref 57, .ref 1, Unk, Unk] [] τ6 _
    refine X.mono h ?_
    rintro r τ7 ⟨u8, rfl, h⟩
    show X none (d + 4) mX7_count 54 [.ref 0, .int x1, .int x2, .int x3, .int x4] [.int u8] τ7 _
    exact x_iret dX7_count_54 rfl rfl h
  · replace h := h.2 hc
    refine x_aload_n (pc' := 12) dX7_count_11 rfl rfl rfl ?_
    refine x_ldc (pc' := 14) dX7_count_12 rfl lcX7_68 ?_
    refine x_callV (pc' := 17) (As := [.int (-2000000002)]) dX7_count_14 rfl lmX7_69 kd_0 rfl rfl (Nat.le_of_ble_eq_true rfl) (Nat.le_of_ble_eq_true rfl) ?_
    show X none (d + 3) mX7_refuse 0 [.ref 0, .int (-2000000002)] [] τ1 _
    refine x_iload_n (pc' := 1) dX7_refuse_0 rfl rfl rfl ?_
    refine x_ldc (pc' := 3) dX7_refuse_1 rfl lcX7_68 ?_
    refine x_icmp_ne (pc' := 6) (tgt := 19) dX7_refuse_3 (by decide) rfl (fun hc => absurd hc (by decide)) (fun _ => ?_)
    refine x_aload_n (pc' := 7) dX7_refuse_6 rfl rfl rfl ?_
    refine x_dup (pc' := 8) dX7_refuse_7 rfl rfl ?_
    refine x_geti (pc' := 11) dX7_refuse_8 rfl lfX7_267 kd_0 rfl ?_
    refine x_iconst (pc' := 12) (v := 1) dX7_refuse_11 rfl (by decide) ?_
    refine x_iadd (pc' := 13) dX7_refuse_12 rfl ?_
    refine x_puti (pc' := 16) dX7_refuse_13 rfl lfX7_267 kd_0 rfl rfl rfl ?_
    obtain ⟨τ9, eτ9⟩ : ∃ τ : Mem, τ = (w1 τ1 0 10 ((τ1.1 0 10) + 1)) := ⟨_, rfl⟩
    show X none (d + 3) mX7_refuse 16 [.ref 0, .int (-2000000002)] [] (w1 τ1 0 10 ((τ1.1 0 10) + 1)) _
    rw [← eτ9]
    replace h := h τ9 eτ9
    refine x_goto (pc' := 48) dX7_refuse_16 (by decide) ?_
    refine x_iload_n (pc' := 49) dX7_refuse_48 rfl rfl rfl ?_
    refine x_iret dX7_refuse_49 rfl rfl ?_
    show X none (d + 4) mX7_count 17 [.ref 0, .int x1, .int x2, .int x3, .int x4] [.int (-2000000002)] τ9 _
    exact x_iret dX7_count_17 rfl rfl h
set_option maxRecDepth 100000 in
set_option maxHeartbeats 4000000 in
theorem vX7_many_0 {d : Nat} {σ : Mem} {Q : Option Value → Mem → Prop} {x1 x2 x3 x4 : Int32} 
    (h : (X none (d + 3) mX7_isRectangle 0 [.int x1, .int x2, .int x3, .int x4] [] σ (fun r τ1 => ∃ u2 : Int32, r = some (.int u2) ∧ ((¬ u2 = 0 → (X none (d + 3) mX7_pickRectangle 0 [.ref 0, .int x1, .int x2, .int x3, .int x4] [] τ1 (fun r τ3 => r = none ∧ Q (some (.int (τ3.1 57 1))) τ3))) ∧ (u2 = 0 → (∀ τ4 : Mem, τ4 = (w1 τ1 0 10 ((τ1.1 0 10) + 1)) → Q (some (.int (-2000000002))) τ4)))))) :
    X none (d + 4) mX7_many 0 [.ref 0, .int x1, .int x2, .int x3, .int x4] [] σ Q := by
  refine x_iload_n (pc' := 1) dX7_many_0 rfl rfl rfl ?_
  refine x_iload_n (pc' := 2) dX7_many_1 rfl rfl rfl ?_
  refine x_iload_n (pc' := 3) dX7_many_2 rfl rfl rfl ?_
  refine x_iload (pc' := 5) dX7_many_3 rfl rfl ?_
  refine x_callS (pc' := 8) (As := [.int x1, .int x2, .int x3, .int x4]) dX7_many_5 rfl lmX7_105 rfl rfl (Nat.le_of_ble_eq_true rfl) (Nat.le_of_ble_eq_true rfl) ?_
  show X none (d + 3) mX7_isRectangle 0 [.int x1, .int x2, .int x3, .int x4] [] σ _
  refine X.mono h ?_
  rintro r τ1 ⟨u2, rfl, h⟩
  show X none (d + 4) mX7_many 8 [.ref 0, .int x1, .int x2, .int x3, .int x4] [.int u2] τ1 _
  refine x_if_ne (pc' := 11) (tgt := 18) dX7_many_8 (by decide) rfl (fun hc => ?_) (fun hc => ?_)
  · replace h := h.1 hc
    refine x_aload_n (pc' := 19) dX7_many_18 rfl rfl rfl ?_
    refine x_iload_n (pc' := 20) dX7_many_19 rfl rfl rfl ?_
    refine x_iload_n (pc' := 21) dX7_many_20 rfl rfl rfl ?_
    refine x_iload_n (pc' := 22) dX7_many_21 rfl rfl rfl ?_
    refine x_iload (pc' := 24) dX7_many_22 rfl rfl ?_
    refine x_callV (pc' := 27) (As := [.int x1, .int x2, .int x3, .int x4]) dX7_many_24 rfl lmX7_109 kd_0 rfl rfl (Nat.le_of_ble_eq_true rfl) (Nat.le_of_ble_eq_true rfl) ?_
    show X none (d + 3) mX7_pickRectangle 0 [.ref 0, .int x1, .int x2, .int x3, .int x4] [] τ1 _
    refine X.mono h ?_
    rintro r τ3 ⟨rfl, h⟩
    show X none (d + 4) mX7_many 27 [.ref 0, .int x1, .int x2, .int x3, .int x4] [] τ3 _
    refine x_aload_n (pc' := 28) dX7_many_27 rfl rfl rfl ?_
    refine x_getr (pc' := 31) dX7_many_28 rfl lfX7_26 kd_0 rfl rf_0_2 ?_
    refine x_geti (pc' := 34) dX7_many_31 rfl lfX7_157 (OKP.k okP_57) rfl ?_
    exact x_iret dX7_many_34 rfl rfl h
  · replace h := h.2 hc
    refine x_aload_n (pc' := 12) dX7_many_11 rfl rfl rfl ?_
    refine x_ldc (pc' := 14) dX7_many_12 rfl lcX7_68 ?_
    refine x_callV (pc' := 17) (As := [.int (-2000000002)]) dX7_many_14 rfl lmX7_69 kd_0 rfl rfl (Nat.le_of_ble_eq_true rfl) (Nat.le_of_ble_eq_true rfl) ?_
    show X none (d + 3) mX7_refuse 0 [.ref 0, .int (-2000000002)] [] τ1 _
    refine x_iload_n (pc' := 1) dX7_refuse_0 rfl rfl rfl ?_
    refine x_ldc (pc' := 3) dX7_refuse_1 rfl lcX7_68 ?_
    refine x_icmp_ne (pc' := 6) (tgt := 19) dX7_refuse_3 (by decide) rfl (fun hc => absurd hc (by decide)) (fun _ => ?_)
    refine x_aload_n (pc' := 7) dX7_refuse_6 rfl rfl rfl ?_
    refine x_dup (pc' := 8) dX7_refuse_7 rfl rfl ?_
    refine x_geti (pc' := 11) dX7_refuse_8 rfl lfX7_267 kd_0 rfl ?_
    refine x_iconst (pc' := 12) (v := 1) dX7_refuse_11 rfl (by decide) ?_
    refine x_iadd (pc' := 13) dX7_refuse_12 rfl ?_
    refine x_puti (pc' := 16) dX7_refuse_13 rfl lfX7_267 kd_0 rfl rfl rfl ?_
    obtain ⟨τ4, eτ4⟩ : ∃ τ : Mem, τ = (w1 τ1 0 10 ((τ1.1 0 10) + 1)) := ⟨_, rfl⟩
    show X none (d + 3) mX7_refuse 16 [.ref 0, .int (-2000000002)] [] (w1 τ1 0 10 ((τ1.1 0 10) + 1)) _
    rw [← eτ4]
    replace h := h τ4 eτ4
    refine x_goto (pc' := 48) dX7_refuse_16 (by decide) ?_
    refine x_iload_n (pc' := 49) dX7_refuse_48 rfl rfl rfl ?_
    refine x_iret dX7_refuse_49 rfl rfl ?_
    show X none (d + 4) mX7_many 17 [.ref 0, .int x1, .int x2, .int x3, .int x4] [.int (-2000000002)] τ4 _
    exact x_iret dX7_many_17 rfl rfl h
set_option maxRecDepth 100000 in
set_option maxHeartbeats 4000000 in
theorem vX7_kth_0 {d : Nat} {σ : Mem} {Q : Option Value → Mem → Prop} {x1 x2 x3 x4 x5 : Int32} 
    (h : (X none (d + 3) mX7_isRectangle 0 [.int x1, .int x2, .int x3, .int x4] [] σ (fun r τ1 => ∃ u2 : Int32, r = some (.int u2) ∧ ((u2 = 0 → (∀ τ3 : Mem, τ3 = (w1 τ1 0 10 ((τ1.1 0 10) + 1)) → Q (some (.int (-2000000002))) τ3)) ∧ (¬ u2 = 0 → ((0 ≤ x5 → (X none (d + 3) mX7_pickRectangle 0 [.ref 0, .int x1, .int x2, .int x3, .int x4] [] τ1 (fun r τ4 => r = none ∧ (X none (d + 3) mX4_sortByPlace 0 [.ref 57, .ref 1] [] τ4 (fun r τ5 => r = none ∧ (X none (d + 3) mX4_numberOf 0 [.ref 57, .ref 1, .int x5] [] τ5 (fun r τ6 => ∃ u7 : Int32, r = some (.int u7) ∧ Q (some (.int u7)) τ6))))))) ∧ (¬ 0 ≤ x5 → (∀ τ8 : Mem, τ8 = (w1 τ1 0 10 ((τ1.1 0 10) + 1)) → Q (some (.int (-2000000002))) τ8)))))))) :
    X none (d + 4) mX7_kth 0 [.ref 0, .int x1, .int x2, .int x3, .int x4, .int x5] [] σ Q := by
  refine x_iload_n (pc' := 1) dX7_kth_0 rfl rfl rfl ?_
  refine x_iload_n (pc' := 2) dX7_kth_1 rfl rfl rfl ?_
  refine x_iload_n (pc' := 3) dX7_kth_2 rfl rfl rfl ?_
  refine x_iload (pc' := 5) dX7_kth_3 rfl rfl ?_
  refine x_callS (pc' := 8) (As := [.int x1, .int x2, .int x3, .int x4]) dX7_kth_5 rfl lmX7_105 rfl rfl (Nat.le_of_ble_eq_true rfl) (Nat.le_of_ble_eq_true rfl) ?_
  show X none (d + 3) mX7_isRectangle 0 [.int x1, .int x2, .int x3, .int x4] [] σ _
  refine X.mono h ?_
  rintro r τ1 ⟨u2, rfl, h⟩
  show X none (d + 4) mX7_kth 8 [.ref 0, .int x1, .int x2, .int x3, .int x4, .int x5] [.int u2] τ1 _
  refine x_if_eq (pc' := 11) (tgt := 16) dX7_kth_8 (by decide) rfl (fun hc => ?_) (fun hc => ?_)
  · replace h := h.1 hc
    refine x_aload_n (pc' := 17) dX7_kth_16 rfl rfl rfl ?_
    refine x_ldc (pc' := 19) dX7_kth_17 rfl lcX7_68 ?_
    refine x_callV (pc' := 22) (As := [.int (-2000000002)]) dX7_kth_19 rfl lmX7_69 kd_0 rfl rfl (Nat.le_of_ble_eq_true rfl) (Nat.le_of_ble_eq_true rfl) ?_
    show X none (d + 3) mX7_refuse 0 [.ref 0, .int (-2000000002)] [] τ1 _
    refine x_iload_n (pc' := 1) dX7_refuse_0 rfl rfl rfl ?_
    refine x_ldc (pc' := 3) dX7_refuse_1 rfl lcX7_68 ?_
    refine x_icmp_ne (pc' := 6) (tgt := 19) dX7_refuse_3 (by decide) rfl (fun hc => absurd hc (by decide)) (fun _ => ?_)
    refine x_aload_n (pc' := 7) dX7_refuse_6 rfl rfl rfl ?_
    refine x_dup (pc' := 8) dX7_refuse_7 rfl rfl ?_
    refine x_geti (pc' := 11) dX7_refuse_8 rfl lfX7_267 kd_0 rfl ?_
    refine x_iconst (pc' := 12) (v := 1) dX7_refuse_11 rfl (by decide) ?_
    refine x_iadd (pc' := 13) dX7_refuse_12 rfl ?_
    refine x_puti (pc' := 16) dX7_refuse_13 rfl lfX7_267 kd_0 rfl rfl rfl ?_
    obtain ⟨τ3, eτ3⟩ : ∃ τ : Mem, τ = (w1 τ1 0 10 ((τ1.1 0 10) + 1)) := ⟨_, rfl⟩
    show X none (d + 3) mX7_refuse 16 [.ref 0, .int (-2000000002)] [] (w1 τ1 0 10 ((τ1.1 0 10) + 1)) _
    rw [← eτ3]
    replace h := h τ3 eτ3
    refine x_goto (pc' := 48) dX7_refuse_16 (by decide) ?_
    refine x_iload_n (pc' := 49) dX7_refuse_48 rfl rfl rfl ?_
    refine x_iret dX7_refuse_49 rfl rfl ?_
    show X none (d + 4) mX7_kth 22 [.ref 0, .int x1, .int x2, .int x3, .int x4, .int x5] [.int (-2000000002)] τ3 _
    exact x_iret dX7_kth_22 rfl rfl h
  · replace h := h.2 hc
    refine x_iload (pc' := 13) dX7_kth_11 rfl rfl ?_
    refine x_if_ge (pc' := 16) (tgt := 23) dX7_kth_13 (by decide) rfl (fun hc => ?_) (fun hc => ?_)
    · replace h := h.1 hc
      refine x_aload_n (pc' := 24) dX7_kth_23 rfl rfl rfl ?_
      refine x_iload_n (pc' := 25) dX7_kth_24 rfl rfl rfl ?_
      refine x_iload_n (pc' := 26) dX7_kth_25 rfl rfl rfl ?_
      refine x_iload_n (pc' := 27) dX7_kth_26 rfl rfl rfl ?_
      refine x_iload (pc' := 29) dX7_kth_27 rfl rfl ?_
      refine x_callV (pc' := 32) (As := [.int x1, .int x2, .int x3, .int x4]) dX7_kth_29 rfl lmX7_109 kd_0 rfl rfl (Nat.le_of_ble_eq_true rfl) (Nat.le_of_ble_eq_true rfl) ?_
      show X none (d + 3) mX7_pickRectangle 0 [.ref 0, .int x1, .int x2, .int x3, .int x4] [] τ1 _
      refine X.mono h ?_
      rintro r τ4 ⟨rfl, h⟩
      show X none (d + 4) mX7_kth 32 [.ref 0, .int x1, .int x2, .int x3, .int x4, .int x5] [] τ4 _
      refine x_aload_n (pc' := 33) dX7_kth_32 rfl rfl rfl ?_
      refine x_getr (pc' := 36) dX7_kth_33 rfl lfX7_26 kd_0 rfl rf_0_2 ?_
      refine x_aload_n (pc' := 37) dX7_kth_36 rfl rfl rfl ?_
      refine x_getr (pc' := 40) dX7_kth_37 rfl lfX7_10 kd_0 rfl rf_0_0 ?_
      refine x_callV (pc' := 43) (As := [.ref 1]) dX7_kth_40 rfl lmX7_160 (OKP.k okP_57) rfl rfl (Nat.le_of_ble_eq_true rfl) (Nat.le_of_ble_eq_true rfl) ?_
      show X none (d + 3) mX4_sortByPlace 0 [.ref 57, .ref 1] [] τ4 _
      refine X.mono h ?_
      rintro r τ5 ⟨rfl, h⟩
      show X none (d + 4) mX7_kth 43 [.ref 0, .int x1, .int x2, .int x3, .int x4, .int x5] [] τ5 _
      refine x_aload_n (pc' := 44) dX7_kth_43 rfl rfl rfl ?_
      refine x_getr (pc' := 47) dX7_kth_44 rfl lfX7_26 kd_0 rfl rf_0_2 ?_
      refine x_aload_n (pc' := 48) dX7_kth_47 rfl rfl rfl ?_
      refine x_getr (pc' := 51) dX7_kth_48 rfl lfX7_10 kd_0 rfl rf_0_0 ?_
      refine x_iload (pc' := 53) dX7_kth_51 rfl rfl ?_
      refine x_callV (pc' := 56) (As := [.ref 1, .int x5]) dX7_kth_53 rfl lmX7_143 (OKP.k okP_57) rfl rfl (Nat.le_of_ble_eq_true rfl) (Nat.le_of_ble_eq_true rfl) ?_
      show X none (d + 3) mX4_numberOf 0 [.ref 57, .ref 1, .int x5] [] τ5 _
      refine X.mono h ?_
      rintro r τ6 ⟨u7, rfl, h⟩
      show X none (d + 4) mX7_kth 56 [.ref 0, .int x1, .int x2, .int x3, .int x4, .int x5] [.int u7] τ6 _
      exact x_iret dX7_kth_56 rfl rfl h
    · replace h := h.2 hc
      refine x_aload_n (pc' := 17) dX7_kth_16 rfl rfl rfl ?_
      refine x_ldc (pc' := 19) dX7_kth_17 rfl lcX7_68 ?_
      refine x_callV (pc' := 22) (As := [.int (-2000000002)]) dX7_kth_19 rfl lmX7_69 kd_0 rfl rfl (Nat.le_of_ble_eq_true rfl) (Nat.le_of_ble_eq_true rfl) ?_
      show X none (d + 3) mX7_refuse 0 [.ref 0, .int (-2000000002)] [] τ1 _
      refine x_iload_n (pc' := 1) dX7_refuse_0 rfl rfl rfl ?_
      refine x_ldc (pc' := 3) dX7_refuse_1 rfl lcX7_68 ?_
      refine x_icmp_ne (pc' := 6) (tgt := 19) dX7_refuse_3 (by decide) rfl (fun hc => absurd hc (by decide)) (fun _ => ?_)
      refine x_aload_n (pc' := 7) dX7_refuse_6 rfl rfl rfl ?_
      refine x_dup (pc' := 8) dX7_refuse_7 rfl rfl ?_
      refine x_geti (pc' := 11) dX7_refuse_8 rfl lfX7_267 kd_0 rfl ?_
      refine x_iconst (pc' := 12) (v := 1) dX7_refuse_11 rfl (by decide) ?_
      refine x_iadd (pc' := 13) dX7_refuse_12 rfl ?_
      refine x_puti (pc' := 16) dX7_refuse_13 rfl lfX7_267 kd_0 rfl rfl rfl ?_
      obtain ⟨τ8, eτ8⟩ : ∃ τ : Mem, τ = (w1 τ1 0 10 ((τ1.1 0 10) + 1)) := ⟨_, rfl⟩
      show X none (d + 3) mX7_refuse 16 [.ref 0, .int (-2000000002)] [] (w1 τ1 0 10 ((τ1.1 0 10) + 1)) _
      rw [← eτ8]
      replace h := h τ8 eτ8
      refine x_goto (pc' := 48) dX7_refuse_16 (by decide) ?_
      refine x_iload_n (pc' := 49) dX7_refuse_48 rfl rfl rfl ?_
      refine x_iret dX7_refuse_49 rfl rfl ?_
      show X none (d + 4) mX7_kth 22 [.ref 0, .int x1, .int x2, .int x3, .int x4, .int x5] [.int (-2000000002)] τ8 _
      exact x_iret dX7_kth_22 rfl rfl h
set_option maxRecDepth 100000 in
set_option maxHeartbeats 4000000 in
theorem vX7_half_0 {d : Nat} {σ : Mem} {Q : Option Value → Mem → Prop} {x1 x2 x3 x4 : Int32} 
    (h : (X none (d + 3) mX7_isRectangle 0 [.int x1, .int x2, .int x3, .int x4] [] σ (fun r τ1 => ∃ u2 : Int32, r = some (.int u2) ∧ ((¬ u2 = 0 → (X none (d + 3) mX7_pickRectangle 0 [.ref 0, .int x1, .int x2, .int x3, .int x4] [] τ1 (fun r τ3 => r = none ∧ ((¬ (τ3.1 57 1) = 0 → (X none (d + 3) mX4_sortByPlace 0 [.ref 57, .ref 1] [] τ3 (fun r τ4 => r = none ∧ (vp_in ((((τ4.1 57 1) + 1) / 2) - 1) 60 ∧ (vp_in (τ4.1 58 ((((τ4.1 57 1) + 1) / 2) - 1).toNatClampNeg) 121 ∧ Q (some (.int (τ4.1 3 (τ4.1 58 ((((τ4.1 57 1) + 1) / 2) - 1).toNatClampNeg).toNatClampNeg))) τ4))))) ∧ ((τ3.1 57 1) = 0 → Q (some (.int (-2000000001))) τ3))))) ∧ (u2 = 0 → (∀ τ5 : Mem, τ5 = (w1 τ1 0 10 ((τ1.1 0 10) + 1)) → Q (some (.int (-2000000002))) τ5)))))) :
    X none (d + 4) mX7_half 0 [.ref 0, .int x1, .int x2, .int x3, .int x4, Unk] [] σ Q := by
  refine x_iload_n (pc' := 1) dX7_half_0 rfl rfl rfl ?_
  refine x_iload_n (pc' := 2) dX7_half_1 rfl rfl rfl ?_
  refine x_iload_n (pc' := 3) dX7_half_2 rfl rfl rfl ?_
  refine x_iload (pc' := 5) dX7_half_3 rfl rfl ?_
  refine x_callS (pc' := 8) (As := [.int x1, .int x2, .int x3, .int x4]) dX7_half_5 rfl lmX7_105 rfl rfl (Nat.le_of_ble_eq_true rfl) (Nat.le_of_ble_eq_true rfl) ?_
  show X none (d + 3) mX7_isRectangle 0 [.int x1, .int x2, .int x3, .int x4] [] σ _
  refine X.mono h ?_
  rintro r τ1 ⟨u2, rfl, h⟩
  show X none (d + 4) mX7_half 8 [.ref 0, .int x1, .int x2, .int x3, .int x4, Unk] [.int u2] τ1 _
  refine x_if_ne (pc' := 11) (tgt := 18) dX7_half_8 (by decide) rfl (fun hc => ?_) (fun hc => ?_)
  · replace h := h.1 hc
    refine x_aload_n (pc' := 19) dX7_half_18 rfl rfl rfl ?_
    refine x_iload_n (pc' := 20) dX7_half_19 rfl rfl rfl ?_
    refine x_iload_n (pc' := 21) dX7_half_20 rfl rfl rfl ?_
    refine x_iload_n (pc' := 22) dX7_half_21 rfl rfl rfl ?_
    refine x_iload (pc' := 24) dX7_half_22 rfl rfl ?_
    refine x_callV (pc' := 27) (As := [.int x1, .int x2, .int x3, .int x4]) dX7_half_24 rfl lmX7_109 kd_0 rfl rfl (Nat.le_of_ble_eq_true rfl) (Nat.le_of_ble_eq_true rfl) ?_
    show X none (d + 3) mX7_pickRectangle 0 [.ref 0, .int x1, .int x2, .int x3, .int x4] [] τ1 _
    refine X.mono h ?_
    rintro r τ3 ⟨rfl, h⟩
    show X none (d + 4) mX7_half 27 [.ref 0, .int x1, .int x2, .int x3, .int x4, Unk] [] τ3 _
    refine x_aload_n (pc' := 28) dX7_half_27 rfl rfl rfl ?_
    refine x_getr (pc' := 31) dX7_half_28 rfl lfX7_26 kd_0 rfl rf_0_2 ?_
    refine x_geti (pc' := 34) dX7_half_31 rfl lfX7_157 (OKP.k okP_57) rfl ?_
    refine x_if_ne (pc' := 37) (tgt := 40) dX7_half_34 (by decide) rfl (fun hc => ?_) (fun hc => ?_)
    · replace h := h.1 hc
      refine x_aload_n (pc' := 41) dX7_half_40 rfl rfl rfl ?_
      refine x_getr (pc' := 44) dX7_half_41 rfl lfX7_26 kd_0 rfl rf_0_2 ?_
      refine x_aload_n (pc' := 45) dX7_half_44 rfl rfl rfl ?_
      refine x_getr (pc' := 48) dX7_half_45 rfl lfX7_10 kd_0 rfl rf_0_0 ?_
      refine x_callV (pc' := 51) (As := [.ref 1]) dX7_half_48 rfl lmX7_160 (OKP.k okP_57) rfl rfl (Nat.le_of_ble_eq_true rfl) (Nat.le_of_ble_eq_true rfl) ?_
      show X none (d + 3) mX4_sortByPlace 0 [.ref 57, .ref 1] [] τ3 _
      refine X.mono h ?_
      rintro r τ4 ⟨rfl, h⟩
      show X none (d + 4) mX7_half 51 [.ref 0, .int x1, .int x2, .int x3, .int x4, Unk] [] τ4 _
      refine x_aload_n (pc' := 52) dX7_half_51 rfl rfl rfl ?_
      refine x_getr (pc' := 55) dX7_half_52 rfl lfX7_26 kd_0 rfl rf_0_2 ?_
      refine x_geti (pc' := 58) dX7_half_55 rfl lfX7_157 (OKP.k okP_57) rfl ?_
      refine x_iconst (pc' := 59) (v := 1) dX7_half_58 rfl (by decide) ?_
      refine x_iadd (pc' := 60) dX7_half_59 rfl ?_
      refine x_iconst (pc' := 61) (v := 2) dX7_half_60 rfl (by decide) ?_
      refine x_idiv (pc' := 62) dX7_half_61 rfl (by decide) ?_
      refine x_istore (pc' := 64) dX7_half_62 rfl (by decide) rfl (ls' := [.ref 0, .int x1, .int x2, .int x3, .int x4, .int (((τ4.1 57 1) + 1) / 2)]) rfl ?_
      refine x_aload_n (pc' := 65) dX7_half_64 rfl rfl rfl ?_
      refine x_getr (pc' := 68) dX7_half_65 rfl lfX7_10 kd_0 rfl rf_0_0 ?_
      refine x_getr (pc' := 71) dX7_half_68 rfl lfX7_127 (OKF.k okF_1) rfl (OKF.r1 okF_1) ?_
      refine x_aload_n (pc' := 72) dX7_half_71 rfl rfl rfl ?_
      refine x_getr (pc' := 75) dX7_half_72 rfl lfX7_26 kd_0 rfl rf_0_2 ?_
      refine x_getr (pc' := 78) dX7_half_75 rfl lfX7_164 (OKP.k okP_57) rfl (OKP.r0 okP_57) ?_
      refine x_iload (pc' := 80) dX7_half_78 rfl rfl ?_
      refine x_iconst (pc' := 81) (v := 1) dX7_half_80 rfl (by decide) ?_
      refine x_isub (pc' := 82) dX7_half_81 rfl ?_
      obtain ⟨hb, h⟩ := h
      refine x_iald (pc' := 83) dX7_half_82 rfl (OKP.a0 okP_57) (by rw [(OKP.n0 okP_57)]; exact hb) ?_
      obtain ⟨hb, h⟩ := h
      refine x_iald (pc' := 84) dX7_half_83 rfl (OKF.a1 okF_1) (by rw [(OKF.n1 okF_1)]; exact hb) ?_
      exact x_iret dX7_half_84 rfl rfl h
    · replace h := h.2 hc
      refine x_ldc (pc' := 39) dX7_half_37 rfl lcX7_163 ?_
      exact x_iret dX7_half_39 rfl rfl h
  · replace h := h.2 hc
    refine x_aload_n (pc' := 12) dX7_half_11 rfl rfl rfl ?_
    refine x_ldc (pc' := 14) dX7_half_12 rfl lcX7_68 ?_
    refine x_callV (pc' := 17) (As := [.int (-2000000002)]) dX7_half_14 rfl lmX7_69 kd_0 rfl rfl (Nat.le_of_ble_eq_true rfl) (Nat.le_of_ble_eq_true rfl) ?_
    show X none (d + 3) mX7_refuse 0 [.ref 0, .int (-2000000002)] [] τ1 _
    refine x_iload_n (pc' := 1) dX7_refuse_0 rfl rfl rfl ?_
    refine x_ldc (pc' := 3) dX7_refuse_1 rfl lcX7_68 ?_
    refine x_icmp_ne (pc' := 6) (tgt := 19) dX7_refuse_3 (by decide) rfl (fun hc => absurd hc (by decide)) (fun _ => ?_)
    refine x_aload_n (pc' := 7) dX7_refuse_6 rfl rfl rfl ?_
    refine x_dup (pc' := 8) dX7_refuse_7 rfl rfl ?_
    refine x_geti (pc' := 11) dX7_refuse_8 rfl lfX7_267 kd_0 rfl ?_
    refine x_iconst (pc' := 12) (v := 1) dX7_refuse_11 rfl (by decide) ?_
    refine x_iadd (pc' := 13) dX7_refuse_12 rfl ?_
    refine x_puti (pc' := 16) dX7_refuse_13 rfl lfX7_267 kd_0 rfl rfl rfl ?_
    obtain ⟨τ5, eτ5⟩ : ∃ τ : Mem, τ = (w1 τ1 0 10 ((τ1.1 0 10) + 1)) := ⟨_, rfl⟩
    show X none (d + 3) mX7_refuse 16 [.ref 0, .int (-2000000002)] [] (w1 τ1 0 10 ((τ1.1 0 10) + 1)) _
    rw [← eτ5]
    replace h := h τ5 eτ5
    refine x_goto (pc' := 48) dX7_refuse_16 (by decide) ?_
    refine x_iload_n (pc' := 49) dX7_refuse_48 rfl rfl rfl ?_
    refine x_iret dX7_refuse_49 rfl rfl ?_
    show X none (d + 4) mX7_half 17 [.ref 0, .int x1, .int x2, .int x3, .int x4, Unk] [.int (-2000000002)] τ5 _
    exact x_iret dX7_half_17 rfl rfl h
set_option maxRecDepth 100000 in
set_option maxHeartbeats 4000000 in
theorem vX7_below_0 {d : Nat} {σ : Mem} {Q : Option Value → Mem → Prop} {x1 x2 : Int32} 
    (h : (X none (d + 3) mX7_isPlace 0 [.int x1, .int x2] [] σ (fun r τ1 => ∃ u2 : Int32, r = some (.int u2) ∧ ((¬ u2 = 0 → (X none (d + 3) mX7_pickRectangle 0 [.ref 0, .int (-500), .int x1, .int (-500), .int x2] [] τ1 (fun r τ3 => r = none ∧ Q (some (.int (τ3.1 57 1))) τ3))) ∧ (u2 = 0 → (∀ τ4 : Mem, τ4 = (w1 τ1 0 10 ((τ1.1 0 10) + 1)) → Q (some (.int (-2000000002))) τ4)))))) :
    X none (d + 4) mX7_below 0 [.ref 0, .int x1, .int x2] [] σ Q := by
  refine x_iload_n (pc' := 1) dX7_below_0 rfl rfl rfl ?_
  refine x_iload_n (pc' := 2) dX7_below_1 rfl rfl rfl ?_
  refine x_callS (pc' := 5) (As := [.int x1, .int x2]) dX7_below_2 rfl lmX7_64 rfl rfl (Nat.le_of_ble_eq_true rfl) (Nat.le_of_ble_eq_true rfl) ?_
  show X none (d + 3) mX7_isPlace 0 [.int x1, .int x2] [] σ _
  refine X.mono h ?_
  rintro r τ1 ⟨u2, rfl, h⟩
  show X none (d + 4) mX7_below 5 [.ref 0, .int x1, .int x2] [.int u2] τ1 _
  refine x_if_ne (pc' := 8) (tgt := 15) dX7_below_5 (by decide) rfl (fun hc => ?_) (fun hc => ?_)
  · replace h := h.1 hc
    refine x_aload_n (pc' := 16) dX7_below_15 rfl rfl rfl ?_
    refine x_sipush (pc' := 19) (v := (-500)) dX7_below_16 rfl (by decide) ?_
    refine x_iload_n (pc' := 20) dX7_below_19 rfl rfl rfl ?_
    refine x_sipush (pc' := 23) (v := (-500)) dX7_below_20 rfl (by decide) ?_
    refine x_iload_n (pc' := 24) dX7_below_23 rfl rfl rfl ?_
    refine x_callV (pc' := 27) (As := [.int (-500), .int x1, .int (-500), .int x2]) dX7_below_24 rfl lmX7_109 kd_0 rfl rfl (Nat.le_of_ble_eq_true rfl) (Nat.le_of_ble_eq_true rfl) ?_
    show X none (d + 3) mX7_pickRectangle 0 [.ref 0, .int (-500), .int x1, .int (-500), .int x2] [] τ1 _
    refine X.mono h ?_
    rintro r τ3 ⟨rfl, h⟩
    show X none (d + 4) mX7_below 27 [.ref 0, .int x1, .int x2] [] τ3 _
    refine x_aload_n (pc' := 28) dX7_below_27 rfl rfl rfl ?_
    refine x_getr (pc' := 31) dX7_below_28 rfl lfX7_26 kd_0 rfl rf_0_2 ?_
    refine x_geti (pc' := 34) dX7_below_31 rfl lfX7_157 (OKP.k okP_57) rfl ?_
    exact x_iret dX7_below_34 rfl rfl h
  · replace h := h.2 hc
    refine x_aload_n (pc' := 9) dX7_below_8 rfl rfl rfl ?_
    refine x_ldc (pc' := 11) dX7_below_9 rfl lcX7_68 ?_
    refine x_callV (pc' := 14) (As := [.int (-2000000002)]) dX7_below_11 rfl lmX7_69 kd_0 rfl rfl (Nat.le_of_ble_eq_true rfl) (Nat.le_of_ble_eq_true rfl) ?_
    show X none (d + 3) mX7_refuse 0 [.ref 0, .int (-2000000002)] [] τ1 _
    refine x_iload_n (pc' := 1) dX7_refuse_0 rfl rfl rfl ?_
    refine x_ldc (pc' := 3) dX7_refuse_1 rfl lcX7_68 ?_
    refine x_icmp_ne (pc' := 6) (tgt := 19) dX7_refuse_3 (by decide) rfl (fun hc => absurd hc (by decide)) (fun _ => ?_)
    refine x_aload_n (pc' := 7) dX7_refuse_6 rfl rfl rfl ?_
    refine x_dup (pc' := 8) dX7_refuse_7 rfl rfl ?_
    refine x_geti (pc' := 11) dX7_refuse_8 rfl lfX7_267 kd_0 rfl ?_
    refine x_iconst (pc' := 12) (v := 1) dX7_refuse_11 rfl (by decide) ?_
    refine x_iadd (pc' := 13) dX7_refuse_12 rfl ?_
    refine x_puti (pc' := 16) dX7_refuse_13 rfl lfX7_267 kd_0 rfl rfl rfl ?_
    obtain ⟨τ4, eτ4⟩ : ∃ τ : Mem, τ = (w1 τ1 0 10 ((τ1.1 0 10) + 1)) := ⟨_, rfl⟩
    show X none (d + 3) mX7_refuse 16 [.ref 0, .int (-2000000002)] [] (w1 τ1 0 10 ((τ1.1 0 10) + 1)) _
    rw [← eτ4]
    replace h := h τ4 eτ4
    refine x_goto (pc' := 48) dX7_refuse_16 (by decide) ?_
    refine x_iload_n (pc' := 49) dX7_refuse_48 rfl rfl rfl ?_
    refine x_iret dX7_refuse_49 rfl rfl ?_
    show X none (d + 4) mX7_below 14 [.ref 0, .int x1, .int x2] [.int (-2000000002)] τ4 _
    exact x_iret dX7_below_14 rfl rfl h
set_option maxRecDepth 100000 in
set_option maxHeartbeats 4000000 in
theorem vX7_near_0 {d : Nat} {σ : Mem} {Q : Option Value → Mem → Prop} {x1 x2 : Int32} 
    (h : (X none (d + 1) mX7_isPlace 0 [.int x1, .int x2] [] σ (fun r τ1 => ∃ u2 : Int32, r = some (.int u2) ∧ ((¬ u2 = 0 → (X none (d + 1) mX4_pickAll 0 [.ref 57, .ref 1, Unk] [] τ1 (fun r τ3 => r = none ∧ X none (d + 2) mX7_near 37 [.ref 0, .int x1, .int x2, .int (-2000000001), .int 1001, .int 0, Unk] [] τ3 Q))) ∧ (u2 = 0 → (∀ τ4 : Mem, τ4 = (w1 τ1 0 10 ((τ1.1 0 10) + 1)) → Q (some (.int (-2000000002))) τ4)))))) :
    X none (d + 2) mX7_near 0 [.ref 0, .int x1, .int x2, Unk, Unk, Unk, Unk] [] σ Q := by
  refine x_iload_n (pc' := 1) dX7_near_0 rfl rfl rfl ?_
  refine x_iload_n (pc' := 2) dX7_near_1 rfl rfl rfl ?_
  refine x_callS (pc' := 5) (As := [.int x1, .int x2]) dX7_near_2 rfl lmX7_64 rfl rfl (Nat.le_of_ble_eq_true rfl) (Nat.le_of_ble_eq_true rfl) ?_
  show X none (d + 1) mX7_isPlace 0 [.int x1, .int x2] [] σ _
  refine X.mono h ?_
  rintro r τ1 ⟨u2, rfl, h⟩
  show X none (d + 2) mX7_near 5 [.ref 0, .int x1, .int x2, Unk, Unk, Unk, Unk] [.int u2] τ1 _
  refine x_if_ne (pc' := 8) (tgt := 15) dX7_near_5 (by decide) rfl (fun hc => ?_) (fun hc => ?_)
  · replace h := h.1 hc
    refine x_aload_n (pc' := 16) dX7_near_15 rfl rfl rfl ?_
    refine x_getr (pc' := 19) dX7_near_16 rfl lfX7_26 kd_0 rfl rf_0_2 ?_
    refine x_aload_n (pc' := 20) dX7_near_19 rfl rfl rfl ?_
    refine x_getr (pc' := 23) dX7_near_20 rfl lfX7_10 kd_0 rfl rf_0_0 ?_
    refine x_callV (pc' := 26) (As := [.ref 1]) dX7_near_23 rfl lmX7_140 (OKP.k okP_57) rfl rfl (Nat.le_of_ble_eq_true rfl) (Nat.le_of_ble_eq_true rfl) ?_
    show X none (d + 1) mX4_pickAll 0 [.ref 57, .ref 1, Unk] [] τ1 _
    refine X.mono h ?_
    rintro r τ3 ⟨rfl, h⟩
    show X none (d + 2) mX7_near 26 [.ref 0, .int x1, .int x2, Unk, Unk, Unk, Unk] [] τ3 _
    refine x_ldc (pc' := 28) dX7_near_26 rfl lcX7_163 ?_
    refine x_istore_n (pc' := 29) dX7_near_28 rfl rfl (by decide) rfl (ls' := [.ref 0, .int x1, .int x2, .int (-2000000001), Unk, Unk, Unk]) rfl ?_
    refine x_sipush (pc' := 32) (v := 1001) dX7_near_29 rfl (by decide) ?_
    refine x_istore (pc' := 34) dX7_near_32 rfl (by decide) rfl (ls' := [.ref 0, .int x1, .int x2, .int (-2000000001), .int 1001, Unk, Unk]) rfl ?_
    refine x_iconst (pc' := 35) (v := 0) dX7_near_34 rfl (by decide) ?_
    refine x_istore (pc' := 37) dX7_near_35 rfl (by decide) rfl (ls' := [.ref 0, .int x1, .int x2, .int (-2000000001), .int 1001, .int 0, Unk]) rfl ?_
    exact h
  · replace h := h.2 hc
    refine x_aload_n (pc' := 9) dX7_near_8 rfl rfl rfl ?_
    refine x_ldc (pc' := 11) dX7_near_9 rfl lcX7_68 ?_
    refine x_callV (pc' := 14) (As := [.int (-2000000002)]) dX7_near_11 rfl lmX7_69 kd_0 rfl rfl (Nat.le_of_ble_eq_true rfl) (Nat.le_of_ble_eq_true rfl) ?_
    show X none (d + 1) mX7_refuse 0 [.ref 0, .int (-2000000002)] [] τ1 _
    refine x_iload_n (pc' := 1) dX7_refuse_0 rfl rfl rfl ?_
    refine x_ldc (pc' := 3) dX7_refuse_1 rfl lcX7_68 ?_
    refine x_icmp_ne (pc' := 6) (tgt := 19) dX7_refuse_3 (by decide) rfl (fun hc => absurd hc (by decide)) (fun _ => ?_)
    refine x_aload_n (pc' := 7) dX7_refuse_6 rfl rfl rfl ?_
    refine x_dup (pc' := 8) dX7_refuse_7 rfl rfl ?_
    refine x_geti (pc' := 11) dX7_refuse_8 rfl lfX7_267 kd_0 rfl ?_
    refine x_iconst (pc' := 12) (v := 1) dX7_refuse_11 rfl (by decide) ?_
    refine x_iadd (pc' := 13) dX7_refuse_12 rfl ?_
    refine x_puti (pc' := 16) dX7_refuse_13 rfl lfX7_267 kd_0 rfl rfl rfl ?_
    obtain ⟨τ4, eτ4⟩ : ∃ τ : Mem, τ = (w1 τ1 0 10 ((τ1.1 0 10) + 1)) := ⟨_, rfl⟩
    show X none (d + 1) mX7_refuse 16 [.ref 0, .int (-2000000002)] [] (w1 τ1 0 10 ((τ1.1 0 10) + 1)) _
    rw [← eτ4]
    replace h := h τ4 eτ4
    refine x_goto (pc' := 48) dX7_refuse_16 (by decide) ?_
    refine x_iload_n (pc' := 49) dX7_refuse_48 rfl rfl rfl ?_
    refine x_iret dX7_refuse_49 rfl rfl ?_
    show X none (d + 2) mX7_near 14 [.ref 0, .int x1, .int x2, Unk, Unk, Unk, Unk] [.int (-2000000002)] τ4 _
    exact x_iret dX7_near_14 rfl rfl h
set_option maxRecDepth 100000 in
set_option maxHeartbeats 4000000 in
theorem vX7_near_37 {d : Nat} {σ : Mem} {Q : Option Value → Mem → Prop} {x1 x2 x3 x4 x5 : Int32} 
    (h : (((σ.1 57 1) ≤ x5 → Q (some (.int x3)) σ) ∧ (¬ (σ.1 57 1) ≤ x5 → (vp_in x5 60 ∧ (X none (d + 1) mX0_distance 0 [.ref 1, .int (σ.1 58 x5.toNatClampNeg), .int x1, .int x2] [] σ (fun r τ1 => ∃ u2 : Int32, r = some (.int u2) ∧ ((x4 ≤ u2 → X none (d + 2) mX7_near 37 [.ref 0, .int x1, .int x2, .int x3, .int x4, .int (x5 + 1), Unk] [] τ1 Q) ∧ (¬ x4 ≤ u2 → (vp_in x5 60 ∧ (vp_in (τ1.1 58 x5.toNatClampNeg) 121 ∧ X none (d + 2) mX7_near 37 [.ref 0, .int x1, .int x2, .int (τ1.1 2 (τ1.1 58 x5.toNatClampNeg).toNatClampNeg), .int u2, .int (x5 + 1), Unk] [] τ1 Q)))))))))) :
    X none (d + 2) mX7_near 37 [.ref 0, .int x1, .int x2, .int x3, .int x4, .int x5, Unk] [] σ Q := by
  refine x_iload (pc' := 39) dX7_near_37 rfl rfl ?_
  refine x_aload_n (pc' := 40) dX7_near_39 rfl rfl rfl ?_
  refine x_getr (pc' := 43) dX7_near_40 rfl lfX7_26 kd_0 rfl rf_0_2 ?_
  refine x_geti (pc' := 46) dX7_near_43 rfl lfX7_157 (OKP.k okP_57) rfl ?_
  refine x_icmp_ge (pc' := 49) (tgt := 106) dX7_near_46 (by decide) rfl (fun hc => ?_) (fun hc => ?_)
  · replace h := h.1 hc
    refine x_iload_n (pc' := 107) dX7_near_106 rfl rfl rfl ?_
    exact x_iret dX7_near_107 rfl rfl h
  · replace h := h.2 hc
    refine x_aload_n (pc' := 50) dX7_near_49 rfl rfl rfl ?_
    refine x_getr (pc' := 53) dX7_near_50 rfl lfX7_10 kd_0 rfl rf_0_0 ?_
    refine x_aload_n (pc' := 54) dX7_near_53 rfl rfl rfl ?_
    refine x_getr (pc' := 57) dX7_near_54 rfl lfX7_26 kd_0 rfl rf_0_2 ?_
    refine x_getr (pc' := 60) dX7_near_57 rfl lfX7_164 (OKP.k okP_57) rfl (OKP.r0 okP_57) ?_
    refine x_iload (pc' := 62) dX7_near_60 rfl rfl ?_
    obtain ⟨hb, h⟩ := h
    refine x_iald (pc' := 63) dX7_near_62 rfl (OKP.a0 okP_57) (by rw [(OKP.n0 okP_57)]; exact hb) ?_
    refine x_iload_n (pc' := 64) dX7_near_63 rfl rfl rfl ?_
    refine x_iload_n (pc' := 65) dX7_near_64 rfl rfl rfl ?_
    refine x_callV (pc' := 68) (As := [.int (σ.1 58 x5.toNatClampNeg), .int x1, .int x2]) dX7_near_65 rfl lmX7_167 (OKF.k okF_1) rfl rfl (Nat.le_of_ble_eq_true rfl) (Nat.le_of_ble_eq_true rfl) ?_
    show X none (d + 1) mX0_distance 0 [.ref 1, .int (σ.1 58 x5.toNatClampNeg), .int x1, .int x2] [] σ _
    refine X.mono h ?_
    rintro r τ1 ⟨u2, rfl, h⟩
    show X none (d + 2) mX7_near 68 [.ref 0, .int x1, .int x2, .int x3, .int x4, .int x5, Unk] [.int u2] τ1 _
    refine x_istore (pc' := 70) dX7_near_68 rfl (by decide) rfl (ls' := [.ref 0, .int x1, .int x2, .int x3, .int x4, .int x5, .int u2]) rfl ?_
    refine x_iload (pc' := 72) dX7_near_70 rfl rfl ?_
    refine x_iload (pc' := 74) dX7_near_72 rfl rfl ?_
    refine x_icmp_ge (pc' := 77) (tgt := 100) dX7_near_74 (by decide) rfl (fun hc => ?_) (fun hc => ?_)
    · replace h := h.1 hc
      refine x_iinc (pc' := 103) (v := 1) dX7_near_100 rfl (by decide) rfl rfl (by decide) (ls' := [.ref 0, .int x1, .int x2, .int x3, .int x4, .int (x5 + 1), .int u2]) rfl ?_
      refine x_goto (pc' := 37) dX7_near_103 (by decide) ?_
      refine x_forget 6 (ls' := [.ref 0, .int x1, .int x2, .int x3, .int x4, .int (x5 + 1), Unk]) rfl ?_
      exact h
    · replace h := h.2 hc
      refine x_iload (pc' := 79) dX7_near_77 rfl rfl ?_
      refine x_istore (pc' := 81) dX7_near_79 rfl (by decide) rfl (ls' := [.ref 0, .int x1, .int x2, .int x3, .int u2, .int x5, .int u2]) rfl ?_
      refine x_aload_n (pc' := 82) dX7_near_81 rfl rfl rfl ?_
      refine x_getr (pc' := 85) dX7_near_82 rfl lfX7_10 kd_0 rfl rf_0_0 ?_
      refine x_getr (pc' := 88) dX7_near_85 rfl lfX7_174 (OKF.k okF_1) rfl (OKF.r0 okF_1) ?_
      refine x_aload_n (pc' := 89) dX7_near_88 rfl rfl rfl ?_
      refine x_getr (pc' := 92) dX7_near_89 rfl lfX7_26 kd_0 rfl rf_0_2 ?_
      refine x_getr (pc' := 95) dX7_near_92 rfl lfX7_164 (OKP.k okP_57) rfl (OKP.r0 okP_57) ?_
      refine x_iload (pc' := 97) dX7_near_95 rfl rfl ?_
      obtain ⟨hb, h⟩ := h
      refine x_iald (pc' := 98) dX7_near_97 rfl (OKP.a0 okP_57) (by rw [(OKP.n0 okP_57)]; exact hb) ?_
      obtain ⟨hb, h⟩ := h
      refine x_iald (pc' := 99) dX7_near_98 rfl (OKF.a0 okF_1) (by rw [(OKF.n0 okF_1)]; exact hb) ?_
      refine x_istore_n (pc' := 100) dX7_near_99 rfl rfl (by decide) rfl (ls' := [.ref 0, .int x1, .int x2, .int (τ1.1 2 (τ1.1 58 x5.toNatClampNeg).toNatClampNeg), .int u2, .int x5, .int u2]) rfl ?_
      refine x_iinc (pc' := 103) (v := 1) dX7_near_100 rfl (by decide) rfl rfl (by decide) (ls' := [.ref 0, .int x1, .int x2, .int (τ1.1 2 (τ1.1 58 x5.toNatClampNeg).toNatClampNeg), .int u2, .int (x5 + 1), .int u2]) rfl ?_
      refine x_goto (pc' := 37) dX7_near_103 (by decide) ?_
      refine x_forget 6 (ls' := [.ref 0, .int x1, .int x2, .int (τ1.1 2 (τ1.1 58 x5.toNatClampNeg).toNatClampNeg), .int u2, .int (x5 + 1), Unk]) rfl ?_
      exact h
set_option maxRecDepth 100000 in
set_option maxHeartbeats 4000000 in
theorem vX7_strip_0 {d : Nat} {σ : Mem} {Q : Option Value → Mem → Prop} {x1 : Int32} 
    (h : ((x1 < 0 → (∀ τ1 : Mem, τ1 = (w1 σ 0 10 ((σ.1 0 10) + 1)) → Q (some (.int (-2000000002))) τ1)) ∧ (¬ x1 < 0 → ((x1 ≤ 1 → (X none (d + 3) mX4_pickAll 0 [.ref 57, .ref 1, Unk] [] σ (fun r τ2 => r = none ∧ (X none (d + 3) mX4_sortByPlace 0 [.ref 57, .ref 1] [] τ2 (fun r τ3 => r = none ∧ X none (d + 4) mX7_strip 45 [.ref 0, .int x1, .int 0, .int 0, .int 1, Unk, Unk] [] τ3 Q))))) ∧ (¬ x1 ≤ 1 → (∀ τ4 : Mem, τ4 = (w1 σ 0 10 ((σ.1 0 10) + 1)) → Q (some (.int (-2000000002))) τ4)))))) :
    X none (d + 4) mX7_strip 0 [.ref 0, .int x1, Unk, Unk, Unk, Unk, Unk] [] σ Q := by
  refine x_iload_n (pc' := 1) dX7_strip_0 rfl rfl rfl ?_
  refine x_if_lt (pc' := 4) (tgt := 9) dX7_strip_1 (by decide) rfl (fun hc => ?_) (fun hc => ?_)
  · replace h := h.1 hc
    refine x_aload_n (pc' := 10) dX7_strip_9 rfl rfl rfl ?_
    refine x_ldc (pc' := 12) dX7_strip_10 rfl lcX7_68 ?_
    refine x_callV (pc' := 15) (As := [.int (-2000000002)]) dX7_strip_12 rfl lmX7_69 kd_0 rfl rfl (Nat.le_of_ble_eq_true rfl) (Nat.le_of_ble_eq_true rfl) ?_
    show X none (d + 3) mX7_refuse 0 [.ref 0, .int (-2000000002)] [] σ _
    refine x_iload_n (pc' := 1) dX7_refuse_0 rfl rfl rfl ?_
    refine x_ldc (pc' := 3) dX7_refuse_1 rfl lcX7_68 ?_
    refine x_icmp_ne (pc' := 6) (tgt := 19) dX7_refuse_3 (by decide) rfl (fun hc => absurd hc (by decide)) (fun _ => ?_)
    refine x_aload_n (pc' := 7) dX7_refuse_6 rfl rfl rfl ?_
    refine x_dup (pc' := 8) dX7_refuse_7 rfl rfl ?_
    refine x_geti (pc' := 11) dX7_refuse_8 rfl lfX7_267 kd_0 rfl ?_
    refine x_iconst (pc' := 12) (v := 1) dX7_refuse_11 rfl (by decide) ?_
    refine x_iadd (pc' := 13) dX7_refuse_12 rfl ?_
    refine x_puti (pc' := 16) dX7_refuse_13 rfl lfX7_267 kd_0 rfl rfl rfl ?_
    obtain ⟨τ1, eτ1⟩ : ∃ τ : Mem, τ = (w1 σ 0 10 ((σ.1 0 10) + 1)) := ⟨_, rfl⟩
    show X none (d + 3) mX7_refuse 16 [.ref 0, .int (-2000000002)] [] (w1 σ 0 10 ((σ.1 0 10) + 1)) _
    rw [← eτ1]
    replace h := h τ1 eτ1
    refine x_goto (pc' := 48) dX7_refuse_16 (by decide) ?_
    refine x_iload_n (pc' := 49) dX7_refuse_48 rfl rfl rfl ?_
    refine x_iret dX7_refuse_49 rfl rfl ?_
    show X none (d + 4) mX7_strip 15 [.ref 0, .int x1, Unk, Unk, Unk, Unk, Unk] [.int (-2000000002)] τ1 _
    exact x_iret dX7_strip_15 rfl rfl h
  · replace h := h.2 hc
    refine x_iload_n (pc' := 5) dX7_strip_4 rfl rfl rfl ?_
    refine x_iconst (pc' := 6) (v := 1) dX7_strip_5 rfl (by decide) ?_
    refine x_icmp_le (pc' := 9) (tgt := 16) dX7_strip_6 (by decide) rfl (fun hc => ?_) (fun hc => ?_)
    · replace h := h.1 hc
      refine x_aload_n (pc' := 17) dX7_strip_16 rfl rfl rfl ?_
      refine x_getr (pc' := 20) dX7_strip_17 rfl lfX7_26 kd_0 rfl rf_0_2 ?_
      refine x_aload_n (pc' := 21) dX7_strip_20 rfl rfl rfl ?_
      refine x_getr (pc' := 24) dX7_strip_21 rfl lfX7_10 kd_0 rfl rf_0_0 ?_
      refine x_callV (pc' := 27) (As := [.ref 1]) dX7_strip_24 rfl lmX7_140 (OKP.k okP_57) rfl rfl (Nat.le_of_ble_eq_true rfl) (Nat.le_of_ble_eq_true rfl) ?_
      show X none (d + 3) mX4_pickAll 0 [.ref 57, .ref 1, Unk] [] σ _
      refine X.mono h ?_
      rintro r τ2 ⟨rfl, h⟩
      show X none (d + 4) mX7_strip 27 [.ref 0, .int x1, Unk, Unk, Unk, Unk, Unk] [] τ2 _
      refine x_aload_n (pc' := 28) dX7_strip_27 rfl rfl rfl ?_
      refine x_getr (pc' := 31) dX7_strip_28 rfl lfX7_26 kd_0 rfl rf_0_2 ?_
      refine x_aload_n (pc' := 32) dX7_strip_31 rfl rfl rfl ?_
      refine x_getr (pc' := 35) dX7_strip_32 rfl lfX7_10 kd_0 rfl rf_0_0 ?_
      refine x_callV (pc' := 38) (As := [.ref 1]) dX7_strip_35 rfl lmX7_160 (OKP.k okP_57) rfl rfl (Nat.le_of_ble_eq_true rfl) (Nat.le_of_ble_eq_true rfl) ?_
      show X none (d + 3) mX4_sortByPlace 0 [.ref 57, .ref 1] [] τ2 _
      refine X.mono h ?_
      rintro r τ3 ⟨rfl, h⟩
      show X none (d + 4) mX7_strip 38 [.ref 0, .int x1, Unk, Unk, Unk, Unk, Unk] [] τ3 _
      refine x_iconst (pc' := 39) (v := 0) dX7_strip_38 rfl (by decide) ?_
      refine x_istore_n (pc' := 40) dX7_strip_39 rfl rfl (by decide) rfl (ls' := [.ref 0, .int x1, .int 0, Unk, Unk, Unk, Unk]) rfl ?_
      refine x_iconst (pc' := 41) (v := 0) dX7_strip_40 rfl (by decide) ?_
      refine x_istore_n (pc' := 42) dX7_strip_41 rfl rfl (by decide) rfl (ls' := [.ref 0, .int x1, .int 0, .int 0, Unk, Unk, Unk]) rfl ?_
      refine x_iconst (pc' := 43) (v := 1) dX7_strip_42 rfl (by decide) ?_
      refine x_istore (pc' := 45) dX7_strip_43 rfl (by decide) rfl (ls' := [.ref 0, .int x1, .int 0, .int 0, .int 1, Unk, Unk]) rfl ?_
      exact h
    · replace h := h.2 hc
      refine x_aload_n (pc' := 10) dX7_strip_9 rfl rfl rfl ?_
      refine x_ldc (pc' := 12) dX7_strip_10 rfl lcX7_68 ?_
      refine x_callV (pc' := 15) (As := [.int (-2000000002)]) dX7_strip_12 rfl lmX7_69 kd_0 rfl rfl (Nat.le_of_ble_eq_true rfl) (Nat.le_of_ble_eq_true rfl) ?_
      show X none (d + 3) mX7_refuse 0 [.ref 0, .int (-2000000002)] [] σ _
      refine x_iload_n (pc' := 1) dX7_refuse_0 rfl rfl rfl ?_
      refine x_ldc (pc' := 3) dX7_refuse_1 rfl lcX7_68 ?_
      refine x_icmp_ne (pc' := 6) (tgt := 19) dX7_refuse_3 (by decide) rfl (fun hc => absurd hc (by decide)) (fun _ => ?_)
      refine x_aload_n (pc' := 7) dX7_refuse_6 rfl rfl rfl ?_
      refine x_dup (pc' := 8) dX7_refuse_7 rfl rfl ?_
      refine x_geti (pc' := 11) dX7_refuse_8 rfl lfX7_267 kd_0 rfl ?_
      refine x_iconst (pc' := 12) (v := 1) dX7_refuse_11 rfl (by decide) ?_
      refine x_iadd (pc' := 13) dX7_refuse_12 rfl ?_
      refine x_puti (pc' := 16) dX7_refuse_13 rfl lfX7_267 kd_0 rfl rfl rfl ?_
      obtain ⟨τ4, eτ4⟩ : ∃ τ : Mem, τ = (w1 σ 0 10 ((σ.1 0 10) + 1)) := ⟨_, rfl⟩
      show X none (d + 3) mX7_refuse 16 [.ref 0, .int (-2000000002)] [] (w1 σ 0 10 ((σ.1 0 10) + 1)) _
      rw [← eτ4]
      replace h := h τ4 eτ4
      refine x_goto (pc' := 48) dX7_refuse_16 (by decide) ?_
      refine x_iload_n (pc' := 49) dX7_refuse_48 rfl rfl rfl ?_
      refine x_iret dX7_refuse_49 rfl rfl ?_
      show X none (d + 4) mX7_strip 15 [.ref 0, .int x1, Unk, Unk, Unk, Unk, Unk] [.int (-2000000002)] τ4 _
      exact x_iret dX7_strip_15 rfl rfl h
set_option maxRecDepth 100000 in
set_option maxHeartbeats 4000000 in
theorem vX7_strip_45 {d : Nat} {σ : Mem} {Q : Option Value → Mem → Prop} {x1 x2 x3 x4 : Int32} 
    (h : (((σ.1 57 1) ≤ x4 → ((¬ x2 = 0 → ((¬ x1 = 0 → Q (some (.int x3)) σ) ∧ (x1 = 0 → Q (some (.int x2)) σ))) ∧ (x2 = 0 → Q (some (.int (-2000000001))) σ))) ∧ (¬ (σ.1 57 1) ≤ x4 → (vp_in (x4 - 1) 60 ∧ (vp_in (σ.1 58 (x4 - 1).toNatClampNeg) 121 ∧ (vp_in x4 60 ∧ (vp_in (σ.1 58 x4.toNatClampNeg) 121 ∧ ((((σ.1 3 (σ.1 58 x4.toNatClampNeg).toNatClampNeg) - (σ.1 3 (σ.1 58 (x4 - 1).toNatClampNeg).toNatClampNeg)) ≤ x2 → X none (d + 4) mX7_strip 45 [.ref 0, .int x1, .int x2, .int x3, .int (x4 + 1), Unk, Unk] [] σ Q) ∧ (¬ ((σ.1 3 (σ.1 58 x4.toNatClampNeg).toNatClampNeg) - (σ.1 3 (σ.1 58 (x4 - 1).toNatClampNeg).toNatClampNeg)) ≤ x2 → X none (d + 4) mX7_strip 45 [.ref 0, .int x1, .int ((σ.1 3 (σ.1 58 x4.toNatClampNeg).toNatClampNeg) - (σ.1 3 (σ.1 58 (x4 - 1).toNatClampNeg).toNatClampNeg)), .int (σ.1 3 (σ.1 58 (x4 - 1).toNatClampNeg).toNatClampNeg), .int (x4 + 1), Unk, Unk] [] σ Q))))))))) :
    X none (d + 4) mX7_strip 45 [.ref 0, .int x1, .int x2, .int x3, .int x4, Unk, Unk] [] σ Q := by
  refine x_iload (pc' := 47) dX7_strip_45 rfl rfl ?_
  refine x_aload_n (pc' := 48) dX7_strip_47 rfl rfl rfl ?_
  refine x_getr (pc' := 51) dX7_strip_48 rfl lfX7_26 kd_0 rfl rf_0_2 ?_
  refine x_geti (pc' := 54) dX7_strip_51 rfl lfX7_157 (OKP.k okP_57) rfl ?_
  refine x_icmp_ge (pc' := 57) (tgt := 120) dX7_strip_54 (by decide) rfl (fun hc => ?_) (fun hc => ?_)
  · replace h := h.1 hc
    refine x_iload_n (pc' := 121) dX7_strip_120 rfl rfl rfl ?_
    refine x_if_ne (pc' := 124) (tgt := 127) dX7_strip_121 (by decide) rfl (fun hc => ?_) (fun hc => ?_)
    · replace h := h.1 hc
      refine x_iload_n (pc' := 128) dX7_strip_127 rfl rfl rfl ?_
      refine x_if_ne (pc' := 131) (tgt := 135) dX7_strip_128 (by decide) rfl (fun hc => ?_) (fun hc => ?_)
      · replace h := h.1 hc
        refine x_iload_n (pc' := 136) dX7_strip_135 rfl rfl rfl ?_
        exact x_iret dX7_strip_136 rfl rfl h
      · replace h := h.2 hc
        refine x_iload_n (pc' := 132) dX7_strip_131 rfl rfl rfl ?_
        refine x_goto (pc' := 136) dX7_strip_132 (by decide) ?_
        exact x_iret dX7_strip_136 rfl rfl h
    · replace h := h.2 hc
      refine x_ldc (pc' := 126) dX7_strip_124 rfl lcX7_163 ?_
      exact x_iret dX7_strip_126 rfl rfl h
  · replace h := h.2 hc
    refine x_aload_n (pc' := 58) dX7_strip_57 rfl rfl rfl ?_
    refine x_getr (pc' := 61) dX7_strip_58 rfl lfX7_10 kd_0 rfl rf_0_0 ?_
    refine x_getr (pc' := 64) dX7_strip_61 rfl lfX7_127 (OKF.k okF_1) rfl (OKF.r1 okF_1) ?_
    refine x_aload_n (pc' := 65) dX7_strip_64 rfl rfl rfl ?_
    refine x_getr (pc' := 68) dX7_strip_65 rfl lfX7_26 kd_0 rfl rf_0_2 ?_
    refine x_getr (pc' := 71) dX7_strip_68 rfl lfX7_164 (OKP.k okP_57) rfl (OKP.r0 okP_57) ?_
    refine x_iload (pc' := 73) dX7_strip_71 rfl rfl ?_
    refine x_iconst (pc' := 74) (v := 1) dX7_strip_73 rfl (by decide) ?_
    refine x_isub (pc' := 75) dX7_strip_74 rfl ?_
    obtain ⟨hb, h⟩ := h
    refine x_iald (pc' := 76) dX7_strip_75 rfl (OKP.a0 okP_57) (by rw [(OKP.n0 okP_57)]; exact hb) ?_
    obtain ⟨hb, h⟩ := h
    refine x_iald (pc' := 77) dX7_strip_76 rfl (OKF.a1 okF_1) (by rw [(OKF.n1 okF_1)]; exact hb) ?_
    refine x_istore (pc' := 79) dX7_strip_77 rfl (by decide) rfl (ls' := [.ref 0, .int x1, .int x2, .int x3, .int x4, .int (σ.1 3 (σ.1 58 (x4 - 1).toNatClampNeg).toNatClampNeg), Unk]) rfl ?_
    refine x_aload_n (pc' := 80) dX7_strip_79 rfl rfl rfl ?_
    refine x_getr (pc' := 83) dX7_strip_80 rfl lfX7_10 kd_0 rfl rf_0_0 ?_
    refine x_getr (pc' := 86) dX7_strip_83 rfl lfX7_127 (OKF.k okF_1) rfl (OKF.r1 okF_1) ?_
    refine x_aload_n (pc' := 87) dX7_strip_86 rfl rfl rfl ?_
    refine x_getr (pc' := 90) dX7_strip_87 rfl lfX7_26 kd_0 rfl rf_0_2 ?_
    refine x_getr (pc' := 93) dX7_strip_90 rfl lfX7_164 (OKP.k okP_57) rfl (OKP.r0 okP_57) ?_
    refine x_iload (pc' := 95) dX7_strip_93 rfl rfl ?_
    obtain ⟨hb, h⟩ := h
    refine x_iald (pc' := 96) dX7_strip_95 rfl (OKP.a0 okP_57) (by rw [(OKP.n0 okP_57)]; exact hb) ?_
    obtain ⟨hb, h⟩ := h
    refine x_iald (pc' := 97) dX7_strip_96 rfl (OKF.a1 okF_1) (by rw [(OKF.n1 okF_1)]; exact hb) ?_
    refine x_iload (pc' := 99) dX7_strip_97 rfl rfl ?_
    refine x_isub (pc' := 100) dX7_strip_99 rfl ?_
    refine x_istore (pc' := 102) dX7_strip_100 rfl (by decide) rfl (ls' := [.ref 0, .int x1, .int x2, .int x3, .int x4, .int (σ.1 3 (σ.1 58 (x4 - 1).toNatClampNeg).toNatClampNeg), .int ((σ.1 3 (σ.1 58 x4.toNatClampNeg).toNatClampNeg) - (σ.1 3 (σ.1 58 (x4 - 1).toNatClampNeg).toNatClampNeg))]) rfl ?_
    refine x_iload (pc' := 104) dX7_strip_102 rfl rfl ?_
    refine x_iload_n (pc' := 105) dX7_strip_104 rfl rfl rfl ?_
    refine x_icmp_le (pc' := 108) (tgt := 114) dX7_strip_105 (by decide) rfl (fun hc => ?_) (fun hc => ?_)
    · replace h := h.1 hc
      refine x_iinc (pc' := 117) (v := 1) dX7_strip_114 rfl (by decide) rfl rfl (by decide) (ls' := [.ref 0, .int x1, .int x2, .int x3, .int (x4 + 1), .int (σ.1 3 (σ.1 58 (x4 - 1).toNatClampNeg).toNatClampNeg), .int ((σ.1 3 (σ.1 58 x4.toNatClampNeg).toNatClampNeg) - (σ.1 3 (σ.1 58 (x4 - 1).toNatClampNeg).toNatClampNeg))]) rfl ?_
      refine x_goto (pc' := 45) dX7_strip_117 (by decide) ?_
      refine x_forget 5 (ls' := [.ref 0, .int x1, .int x2, .int x3, .int (x4 + 1), Unk, .int ((σ.1 3 (σ.1 58 x4.toNatClampNeg).toNatClampNeg) - (σ.1 3 (σ.1 58 (x4 - 1).toNatClampNeg).toNatClampNeg))]) rfl ?_
      refine x_forget 6 (ls' := [.ref 0, .int x1, .int x2, .int x3, .int (x4 + 1), Unk, Unk]) rfl ?_
      exact h
    · replace h := h.2 hc
      refine x_iload (pc' := 110) dX7_strip_108 rfl rfl ?_
      refine x_istore_n (pc' := 111) dX7_strip_110 rfl rfl (by decide) rfl (ls' := [.ref 0, .int x1, .int ((σ.1 3 (σ.1 58 x4.toNatClampNeg).toNatClampNeg) - (σ.1 3 (σ.1 58 (x4 - 1).toNatClampNeg).toNatClampNeg)), .int x3, .int x4, .int (σ.1 3 (σ.1 58 (x4 - 1).toNatClampNeg).toNatClampNeg), .int ((σ.1 3 (σ.1 58 x4.toNatClampNeg).toNatClampNeg) - (σ.1 3 (σ.1 58 (x4 - 1).toNatClampNeg).toNatClampNeg))]) rfl ?_
      refine x_iload (pc' := 113) dX7_strip_111 rfl rfl ?_
      refine x_istore_n (pc' := 114) dX7_strip_113 rfl rfl (by decide) rfl (ls' := [.ref 0, .int x1, .int ((σ.1 3 (σ.1 58 x4.toNatClampNeg).toNatClampNeg) - (σ.1 3 (σ.1 58 (x4 - 1).toNatClampNeg).toNatClampNeg)), .int (σ.1 3 (σ.1 58 (x4 - 1).toNatClampNeg).toNatClampNeg), .int x4, .int (σ.1 3 (σ.1 58 (x4 - 1).toNatClampNeg).toNatClampNeg), .int ((σ.1 3 (σ.1 58 x4.toNatClampNeg).toNatClampNeg) - (σ.1 3 (σ.1 58 (x4 - 1).toNatClampNeg).toNatClampNeg))]) rfl ?_
      refine x_iinc (pc' := 117) (v := 1) dX7_strip_114 rfl (by decide) rfl rfl (by decide) (ls' := [.ref 0, .int x1, .int ((σ.1 3 (σ.1 58 x4.toNatClampNeg).toNatClampNeg) - (σ.1 3 (σ.1 58 (x4 - 1).toNatClampNeg).toNatClampNeg)), .int (σ.1 3 (σ.1 58 (x4 - 1).toNatClampNeg).toNatClampNeg), .int (x4 + 1), .int (σ.1 3 (σ.1 58 (x4 - 1).toNatClampNeg).toNatClampNeg), .int ((σ.1 3 (σ.1 58 x4.toNatClampNeg).toNatClampNeg) - (σ.1 3 (σ.1 58 (x4 - 1).toNatClampNeg).toNatClampNeg))]) rfl ?_
      refine x_goto (pc' := 45) dX7_strip_117 (by decide) ?_
      refine x_forget 5 (ls' := [.ref 0, .int x1, .int ((σ.1 3 (σ.1 58 x4.toNatClampNeg).toNatClampNeg) - (σ.1 3 (σ.1 58 (x4 - 1).toNatClampNeg).toNatClampNeg)), .int (σ.1 3 (σ.1 58 (x4 - 1).toNatClampNeg).toNatClampNeg), .int (x4 + 1), Unk, .int ((σ.1 3 (σ.1 58 x4.toNatClampNeg).toNatClampNeg) - (σ.1 3 (σ.1 58 (x4 - 1).toNatClampNeg).toNatClampNeg))]) rfl ?_
      refine x_forget 6 (ls' := [.ref 0, .int x1, .int ((σ.1 3 (σ.1 58 x4.toNatClampNeg).toNatClampNeg) - (σ.1 3 (σ.1 58 (x4 - 1).toNatClampNeg).toNatClampNeg)), .int (σ.1 3 (σ.1 58 (x4 - 1).toNatClampNeg).toNatClampNeg), .int (x4 + 1), Unk, Unk]) rfl ?_
      exact h
