set_option maxRecDepth 100000 in
set_option maxHeartbeats 4000000 in
theorem vX5_nextSign_0 {d : Nat} {σ : Mem} {Q : Option Value → Mem → Prop} 
    (h : (((σ.1 67 4) < 0 → X none d mX5_nextSign 9 [.ref 67] [] σ Q) ∧ (¬ (σ.1 67 4) < 0 → Q (some (.int (-1))) σ))) :
    X none d mX5_nextSign 0 [.ref 67] [] σ Q := by
  refine x_aload_n (pc' := 1) dX5_nextSign_0 rfl rfl rfl ?_
  refine x_geti (pc' := 4) dX5_nextSign_1 rfl lfX5_29 kd_67 rfl ?_
  refine x_if_lt (pc' := 7) (tgt := 9) dX5_nextSign_4 (by decide) rfl (fun hc => ?_) (fun hc => ?_)
  · replace h := h.1 hc
    exact h
  · replace h := h.2 hc
    refine x_iconst (pc' := 8) (v := (-1)) dX5_nextSign_7 rfl (by decide) ?_
    exact x_iret dX5_nextSign_8 rfl rfl h
set_option maxRecDepth 100000 in
set_option maxHeartbeats 4000000 in
theorem vX5_nextSign_9 {d : Nat} {σ : Mem} {Q : Option Value → Mem → Prop} 
    (h : (((σ.1 67 2) ≤ (σ.1 67 3) → (((σ.1 67 2) ≤ (σ.1 67 3) → Q (some (.int (-1))) σ) ∧ (¬ (σ.1 67 2) ≤ (σ.1 67 3) → (vp_in (σ.1 67 3) 120 ∧ Q (some (.int (σ.1 68 (σ.1 67 3).toNatClampNeg))) σ)))) ∧ (¬ (σ.1 67 2) ≤ (σ.1 67 3) → (vp_in (σ.1 67 3) 120 ∧ ((¬ (σ.1 68 (σ.1 67 3).toNatClampNeg) = 32 → (((σ.1 67 2) ≤ (σ.1 67 3) → Q (some (.int (-1))) σ) ∧ (¬ (σ.1 67 2) ≤ (σ.1 67 3) → (vp_in (σ.1 67 3) 120 ∧ Q (some (.int (σ.1 68 (σ.1 67 3).toNatClampNeg))) σ)))) ∧ ((σ.1 68 (σ.1 67 3).toNatClampNeg) = 32 → (∀ τ1 : Mem, τ1 = (w1 σ 67 3 ((σ.1 67 3) + 1)) → X none d mX5_nextSign 9 [.ref 67] [] τ1 Q))))))) :
    X none d mX5_nextSign 9 [.ref 67] [] σ Q := by
  refine x_aload_n (pc' := 10) dX5_nextSign_9 rfl rfl rfl ?_
  refine x_geti (pc' := 13) dX5_nextSign_10 rfl lfX5_26 kd_67 rfl ?_
  refine x_aload_n (pc' := 14) dX5_nextSign_13 rfl rfl rfl ?_
  refine x_geti (pc' := 17) dX5_nextSign_14 rfl lfX5_22 kd_67 rfl ?_
  refine x_icmp_ge (pc' := 20) (tgt := 47) dX5_nextSign_17 (by decide) rfl (fun hc => ?_) (fun hc => ?_)
  · replace h := h.1 hc
    refine x_aload_n (pc' := 48) dX5_nextSign_47 rfl rfl rfl ?_
    refine x_geti (pc' := 51) dX5_nextSign_48 rfl lfX5_26 kd_67 rfl ?_
    refine x_aload_n (pc' := 52) dX5_nextSign_51 rfl rfl rfl ?_
    refine x_geti (pc' := 55) dX5_nextSign_52 rfl lfX5_22 kd_67 rfl ?_
    refine x_icmp_ge (pc' := 58) (tgt := 70) dX5_nextSign_55 (by decide) rfl (fun hc => ?_) (fun hc => ?_)
    · replace h := h.1 hc
      refine x_iconst (pc' := 71) (v := (-1)) dX5_nextSign_70 rfl (by decide) ?_
      exact x_iret dX5_nextSign_71 rfl rfl h
    · replace h := h.2 hc
      refine x_aload_n (pc' := 59) dX5_nextSign_58 rfl rfl rfl ?_
      refine x_getr (pc' := 62) dX5_nextSign_59 rfl lfX5_9 kd_67 rfl rf_67_0 ?_
      refine x_aload_n (pc' := 63) dX5_nextSign_62 rfl rfl rfl ?_
      refine x_geti (pc' := 66) dX5_nextSign_63 rfl lfX5_26 kd_67 rfl ?_
      obtain ⟨hb, h⟩ := h
      refine x_iald (pc' := 67) dX5_nextSign_66 rfl kd_68 (by rw [ln_68]; exact hb) ?_
      refine x_goto (pc' := 71) dX5_nextSign_67 (by decide) ?_
      exact x_iret dX5_nextSign_71 rfl rfl h
  · replace h := h.2 hc
    refine x_aload_n (pc' := 21) dX5_nextSign_20 rfl rfl rfl ?_
    refine x_getr (pc' := 24) dX5_nextSign_21 rfl lfX5_9 kd_67 rfl rf_67_0 ?_
    refine x_aload_n (pc' := 25) dX5_nextSign_24 rfl rfl rfl ?_
    refine x_geti (pc' := 28) dX5_nextSign_25 rfl lfX5_26 kd_67 rfl ?_
    obtain ⟨hb, h⟩ := h
    refine x_iald (pc' := 29) dX5_nextSign_28 rfl kd_68 (by rw [ln_68]; exact hb) ?_
    refine x_bipush (pc' := 31) (v := 32) dX5_nextSign_29 rfl (by decide) ?_
    refine x_icmp_ne (pc' := 34) (tgt := 47) dX5_nextSign_31 (by decide) rfl (fun hc => ?_) (fun hc => ?_)
    · replace h := h.1 hc
      refine x_aload_n (pc' := 48) dX5_nextSign_47 rfl rfl rfl ?_
      refine x_geti (pc' := 51) dX5_nextSign_48 rfl lfX5_26 kd_67 rfl ?_
      refine x_aload_n (pc' := 52) dX5_nextSign_51 rfl rfl rfl ?_
      refine x_geti (pc' := 55) dX5_nextSign_52 rfl lfX5_22 kd_67 rfl ?_
      refine x_icmp_ge (pc' := 58) (tgt := 70) dX5_nextSign_55 (by decide) rfl (fun hc => ?_) (fun hc => ?_)
      · replace h := h.1 hc
        refine x_iconst (pc' := 71) (v := (-1)) dX5_nextSign_70 rfl (by decide) ?_
        exact x_iret dX5_nextSign_71 rfl rfl h
      · replace h := h.2 hc
        refine x_aload_n (pc' := 59) dX5_nextSign_58 rfl rfl rfl ?_
        refine x_getr (pc' := 62) dX5_nextSign_59 rfl lfX5_9 kd_67 rfl rf_67_0 ?_
        refine x_aload_n (pc' := 63) dX5_nextSign_62 rfl rfl rfl ?_
        refine x_geti (pc' := 66) dX5_nextSign_63 rfl lfX5_26 kd_67 rfl ?_
        obtain ⟨hb, h⟩ := h
        refine x_iald (pc' := 67) dX5_nextSign_66 rfl kd_68 (by rw [ln_68]; exact hb) ?_
        refine x_goto (pc' := 71) dX5_nextSign_67 (by decide) ?_
        exact x_iret dX5_nextSign_71 rfl rfl h
    · replace h := h.2 hc
      refine x_aload_n (pc' := 35) dX5_nextSign_34 rfl rfl rfl ?_
      refine x_dup (pc' := 36) dX5_nextSign_35 rfl rfl ?_
      refine x_geti (pc' := 39) dX5_nextSign_36 rfl lfX5_26 kd_67 rfl ?_
      refine x_iconst (pc' := 40) (v := 1) dX5_nextSign_39 rfl (by decide) ?_
      refine x_iadd (pc' := 41) dX5_nextSign_40 rfl ?_
      refine x_puti (pc' := 44) dX5_nextSign_41 rfl lfX5_26 kd_67 rfl rfl rfl ?_
      obtain ⟨τ1, eτ1⟩ : ∃ τ : Mem, τ = (w1 σ 67 3 ((σ.1 67 3) + 1)) := ⟨_, rfl⟩
      show X none d mX5_nextSign 44 [.ref 67] [] (w1 σ 67 3 ((σ.1 67 3) + 1)) _
      rw [← eτ1]
      replace h := h τ1 eτ1
      refine x_goto (pc' := 9) dX5_nextSign_44 (by decide) ?_
      exact h
set_option maxRecDepth 100000 in
set_option maxHeartbeats 4000000 in
theorem vX5_expect_0 {d : Nat} {σ : Mem} {Q : Option Value → Mem → Prop} {x1 : Int32} 
    (h : (X none d mX5_nextSign 0 [.ref 67] [] σ (fun r τ1 => ∃ u2 : Int32, r = some (.int u2) ∧ ((¬ u2 = x1 → ((0 ≤ (τ1.1 67 4) → Q (none) τ1) ∧ (¬ 0 ≤ (τ1.1 67 4) → (∀ τ3 : Mem, τ3 = (w1 τ1 67 4 (τ1.1 67 3)) → Q (none) τ3)))) ∧ (u2 = x1 → (∀ τ4 : Mem, τ4 = (w1 τ1 67 3 ((τ1.1 67 3) + 1)) → Q (none) τ4)))))) :
    X none (d + 1) mX5_expect 0 [.ref 67, .int x1] [] σ Q := by
  refine x_aload_n (pc' := 1) dX5_expect_0 rfl rfl rfl ?_
  refine x_callV (pc' := 4) (As := []) dX5_expect_1 rfl lmX5_42 kd_67 rfl rfl (Nat.le_of_ble_eq_true rfl) (Nat.le_of_ble_eq_true rfl) ?_
  show X none d mX5_nextSign 0 [.ref 67] [] σ _
  refine X.mono h ?_
  rintro r τ1 ⟨u2, rfl, h⟩
  show X none (d + 1) mX5_expect 4 [.ref 67, .int x1] [.int u2] τ1 _
  refine x_iload_n (pc' := 5) dX5_expect_4 rfl rfl rfl ?_
  refine x_icmp_ne (pc' := 8) (tgt := 21) dX5_expect_5 (by decide) rfl (fun hc => ?_) (fun hc => ?_)
  · replace h := h.1 hc
    refine x_aload_n (pc' := 22) dX5_expect_21 rfl rfl rfl ?_
    refine x_aload_n (pc' := 23) dX5_expect_22 rfl rfl rfl ?_
    refine x_geti (pc' := 26) dX5_expect_23 rfl lfX5_26 kd_67 rfl ?_
    refine x_callV (pc' := 29) (As := [.int (τ1.1 67 3)]) dX5_expect_26 rfl lmX5_46 kd_67 rfl rfl (Nat.le_of_ble_eq_true rfl) (Nat.le_of_ble_eq_true rfl) ?_
    show X none d mX5_fail 0 [.ref 67, .int (τ1.1 67 3)] [] τ1 _
    refine x_aload_n (pc' := 1) dX5_fail_0 rfl rfl rfl ?_
    refine x_geti (pc' := 4) dX5_fail_1 rfl lfX5_29 kd_67 rfl ?_
    refine x_if_ge (pc' := 7) (tgt := 12) dX5_fail_4 (by decide) rfl (fun hc => ?_) (fun hc => ?_)
    · replace h := h.1 hc
      refine x_vret dX5_fail_12 rfl ?_
      show X none (d + 1) mX5_expect 29 [.ref 67, .int x1] [] τ1 _
      exact x_vret dX5_expect_29 rfl h
    · replace h := h.2 hc
      refine x_aload_n (pc' := 8) dX5_fail_7 rfl rfl rfl ?_
      refine x_iload_n (pc' := 9) dX5_fail_8 rfl rfl rfl ?_
      refine x_puti (pc' := 12) dX5_fail_9 rfl lfX5_29 kd_67 rfl rfl rfl ?_
      obtain ⟨τ3, eτ3⟩ : ∃ τ : Mem, τ = (w1 τ1 67 4 (τ1.1 67 3)) := ⟨_, rfl⟩
      show X none d mX5_fail 12 [.ref 67, .int (τ1.1 67 3)] [] (w1 τ1 67 4 (τ1.1 67 3)) _
      rw [← eτ3]
      replace h := h τ3 eτ3
      refine x_vret dX5_fail_12 rfl ?_
      show X none (d + 1) mX5_expect 29 [.ref 67, .int x1] [] τ3 _
      exact x_vret dX5_expect_29 rfl h
  · replace h := h.2 hc
    refine x_aload_n (pc' := 9) dX5_expect_8 rfl rfl rfl ?_
    refine x_dup (pc' := 10) dX5_expect_9 rfl rfl ?_
    refine x_geti (pc' := 13) dX5_expect_10 rfl lfX5_26 kd_67 rfl ?_
    refine x_iconst (pc' := 14) (v := 1) dX5_expect_13 rfl (by decide) ?_
    refine x_iadd (pc' := 15) dX5_expect_14 rfl ?_
    refine x_puti (pc' := 18) dX5_expect_15 rfl lfX5_26 kd_67 rfl rfl rfl ?_
    obtain ⟨τ4, eτ4⟩ : ∃ τ : Mem, τ = (w1 τ1 67 3 ((τ1.1 67 3) + 1)) := ⟨_, rfl⟩
    show X none (d + 1) mX5_expect 18 [.ref 67, .int x1] [] (w1 τ1 67 3 ((τ1.1 67 3) + 1)) _
    rw [← eτ4]
    replace h := h τ4 eτ4
    refine x_goto (pc' := 29) dX5_expect_18 (by decide) ?_
    exact x_vret dX5_expect_29 rfl h
set_option maxRecDepth 100000 in
set_option maxHeartbeats 4000000 in
theorem vX5_readNumber_0 {d : Nat} {σ : Mem} {Q : Option Value → Mem → Prop} {x1 : Int32} 
    (h : (X none d mX5_nextSign 0 [.ref 67] [] σ (fun r τ1 => ∃ u2 : Int32, r = some (.int u2) ∧ ((¬ u2 = 45 → X none (d + 1) mX5_readNumber 40 [.ref 67, .int x1, .int 0, .int (τ1.1 67 3), .int 0, .int 0, Unk] [] τ1 Q) ∧ (u2 = 45 → (∀ τ3 : Mem, τ3 = (w1 τ1 67 3 ((τ1.1 67 3) + 1)) → X none (d + 1) mX5_readNumber 40 [.ref 67, .int x1, .int 1, .int (τ1.1 67 3), .int 0, .int 0, Unk] [] τ3 Q)))))) :
    X none (d + 1) mX5_readNumber 0 [.ref 67, .int x1, Unk, Unk, Unk, Unk, Unk] [] σ Q := by
  refine x_aload_n (pc' := 1) dX5_readNumber_0 rfl rfl rfl ?_
  refine x_callV (pc' := 4) (As := []) dX5_readNumber_1 rfl lmX5_42 kd_67 rfl rfl (Nat.le_of_ble_eq_true rfl) (Nat.le_of_ble_eq_true rfl) ?_
  show X none d mX5_nextSign 0 [.ref 67] [] σ _
  refine X.mono h ?_
  rintro r τ1 ⟨u2, rfl, h⟩
  show X none (d + 1) mX5_readNumber 4 [.ref 67, .int x1, Unk, Unk, Unk, Unk, Unk] [.int u2] τ1 _
  refine x_bipush (pc' := 6) (v := 45) dX5_readNumber_4 rfl (by decide) ?_
  refine x_icmp_ne (pc' := 9) (tgt := 13) dX5_readNumber_6 (by decide) rfl (fun hc => ?_) (fun hc => ?_)
  · replace h := h.1 hc
    refine x_iconst (pc' := 14) (v := 0) dX5_readNumber_13 rfl (by decide) ?_
    refine x_istore_n (pc' := 15) dX5_readNumber_14 rfl rfl (by decide) rfl (ls' := [.ref 67, .int x1, .int 0, Unk, Unk, Unk, Unk]) rfl ?_
    refine x_aload_n (pc' := 16) dX5_readNumber_15 rfl rfl rfl ?_
    refine x_geti (pc' := 19) dX5_readNumber_16 rfl lfX5_26 kd_67 rfl ?_
    refine x_istore_n (pc' := 20) dX5_readNumber_19 rfl rfl (by decide) rfl (ls' := [.ref 67, .int x1, .int 0, .int (τ1.1 67 3), Unk, Unk, Unk]) rfl ?_
    refine x_iload_n (pc' := 21) dX5_readNumber_20 rfl rfl rfl ?_
    refine x_if_eq (pc' := 24) (tgt := 34) dX5_readNumber_21 (by decide) rfl (fun _ => ?_) (fun hc => absurd hc (by decide))
    refine x_iconst (pc' := 35) (v := 0) dX5_readNumber_34 rfl (by decide) ?_
    refine x_istore (pc' := 37) dX5_readNumber_35 rfl (by decide) rfl (ls' := [.ref 67, .int x1, .int 0, .int (τ1.1 67 3), .int 0, Unk, Unk]) rfl ?_
    refine x_iconst (pc' := 38) (v := 0) dX5_readNumber_37 rfl (by decide) ?_
    refine x_istore (pc' := 40) dX5_readNumber_38 rfl (by decide) rfl (ls' := [.ref 67, .int x1, .int 0, .int (τ1.1 67 3), .int 0, .int 0, Unk]) rfl ?_
    exact h
  · replace h := h.2 hc
    refine x_iconst (pc' := 10) (v := 1) dX5_readNumber_9 rfl (by decide) ?_
    refine x_goto (pc' := 14) dX5_readNumber_10 (by decide) ?_
    refine x_istore_n (pc' := 15) dX5_readNumber_14 rfl rfl (by decide) rfl (ls' := [.ref 67, .int x1, .int 1, Unk, Unk, Unk, Unk]) rfl ?_
    refine x_aload_n (pc' := 16) dX5_readNumber_15 rfl rfl rfl ?_
    refine x_geti (pc' := 19) dX5_readNumber_16 rfl lfX5_26 kd_67 rfl ?_
    refine x_istore_n (pc' := 20) dX5_readNumber_19 rfl rfl (by decide) rfl (ls' := [.ref 67, .int x1, .int 1, .int (τ1.1 67 3), Unk, Unk, Unk]) rfl ?_
    refine x_iload_n (pc' := 21) dX5_readNumber_20 rfl rfl rfl ?_
    refine x_if_eq (pc' := 24) (tgt := 34) dX5_readNumber_21 (by decide) rfl (fun hc => absurd hc (by decide)) (fun _ => ?_)
    refine x_aload_n (pc' := 25) dX5_readNumber_24 rfl rfl rfl ?_
    refine x_dup (pc' := 26) dX5_readNumber_25 rfl rfl ?_
    refine x_geti (pc' := 29) dX5_readNumber_26 rfl lfX5_26 kd_67 rfl ?_
    refine x_iconst (pc' := 30) (v := 1) dX5_readNumber_29 rfl (by decide) ?_
    refine x_iadd (pc' := 31) dX5_readNumber_30 rfl ?_
    refine x_puti (pc' := 34) dX5_readNumber_31 rfl lfX5_26 kd_67 rfl rfl rfl ?_
    obtain ⟨τ3, eτ3⟩ : ∃ τ : Mem, τ = (w1 τ1 67 3 ((τ1.1 67 3) + 1)) := ⟨_, rfl⟩
    show X none (d + 1) mX5_readNumber 34 [.ref 67, .int x1, .int 1, .int (τ1.1 67 3), Unk, Unk, Unk] [] (w1 τ1 67 3 ((τ1.1 67 3) + 1)) _
    rw [← eτ3]
    replace h := h τ3 eτ3
    refine x_iconst (pc' := 35) (v := 0) dX5_readNumber_34 rfl (by decide) ?_
    refine x_istore (pc' := 37) dX5_readNumber_35 rfl (by decide) rfl (ls' := [.ref 67, .int x1, .int 1, .int (τ1.1 67 3), .int 0, Unk, Unk]) rfl ?_
    refine x_iconst (pc' := 38) (v := 0) dX5_readNumber_37 rfl (by decide) ?_
    refine x_istore (pc' := 40) dX5_readNumber_38 rfl (by decide) rfl (ls' := [.ref 67, .int x1, .int 1, .int (τ1.1 67 3), .int 0, .int 0, Unk]) rfl ?_
    exact h
set_option maxRecDepth 100000 in
set_option maxHeartbeats 4000000 in
theorem vX5_readNumber_40 {d : Nat} {σ : Mem} {Q : Option Value → Mem → Prop} {x1 x2 x3 x4 x5 : Int32} 
    (h : (((σ.1 67 2) ≤ (σ.1 67 3) → ((¬ x5 = 0 → ((x2 = 0 → ((3 < x5 → ((0 ≤ (σ.1 67 4) → Q (some (.int x1)) σ) ∧ (¬ 0 ≤ (σ.1 67 4) → (∀ τ1 : Mem, τ1 = (w1 σ 67 4 x3) → Q (some (.int x1)) τ1)))) ∧ (¬ 3 < x5 → ((x4 < x1 → ((0 ≤ (σ.1 67 4) → Q (some (.int x1)) σ) ∧ (¬ 0 ≤ (σ.1 67 4) → (∀ τ2 : Mem, τ2 = (w1 σ 67 4 x3) → Q (some (.int x1)) τ2)))) ∧ (¬ x4 < x1 → ((x4 ≤ 500 → Q (some (.int x4)) σ) ∧ (¬ x4 ≤ 500 → ((0 ≤ (σ.1 67 4) → Q (some (.int x1)) σ) ∧ (¬ 0 ≤ (σ.1 67 4) → (∀ τ3 : Mem, τ3 = (w1 σ 67 4 x3) → Q (some (.int x1)) τ3)))))))))) ∧ (¬ x2 = 0 → ((3 < x5 → ((0 ≤ (σ.1 67 4) → Q (some (.int x1)) σ) ∧ (¬ 0 ≤ (σ.1 67 4) → (∀ τ4 : Mem, τ4 = (w1 σ 67 4 x3) → Q (some (.int x1)) τ4)))) ∧ (¬ 3 < x5 → (((-x4) < x1 → ((0 ≤ (σ.1 67 4) → Q (some (.int x1)) σ) ∧ (¬ 0 ≤ (σ.1 67 4) → (∀ τ5 : Mem, τ5 = (w1 σ 67 4 x3) → Q (some (.int x1)) τ5)))) ∧ (¬ (-x4) < x1 → (((-x4) ≤ 500 → Q (some (.int (-x4))) σ) ∧ (¬ (-x4) ≤ 500 → ((0 ≤ (σ.1 67 4) → Q (some (.int x1)) σ) ∧ (¬ 0 ≤ (σ.1 67 4) → (∀ τ6 : Mem, τ6 = (w1 σ 67 4 x3) → Q (some (.int x1)) τ6)))))))))))) ∧ (x5 = 0 → ((0 ≤ (σ.1 67 4) → Q (some (.int x1)) σ) ∧ (¬ 0 ≤ (σ.1 67 4) → (∀ τ7 : Mem, τ7 = (w1 σ 67 4 (σ.1 67 3)) → Q (some (.int x1)) τ7)))))) ∧ (¬ (σ.1 67 2) ≤ (σ.1 67 3) → (vp_in (σ.1 67 3) 120 ∧ (((σ.1 68 (σ.1 67 3).toNatClampNeg) < 48 → ((¬ x5 = 0 → ((x2 = 0 → ((3 < x5 → ((0 ≤ (σ.1 67 4) → Q (some (.int x1)) σ) ∧ (¬ 0 ≤ (σ.1 67 4) → (∀ τ8 : Mem, τ8 = (w1 σ 67 4 x3) → Q (some (.int x1)) τ8)))) ∧ (¬ 3 < x5 → ((x4 < x1 → ((0 ≤ (σ.1 67 4) → Q (some (.int x1)) σ) ∧ (¬ 0 ≤ (σ.1 67 4) → (∀ τ9 : Mem, τ9 = (w1 σ 67 4 x3) → Q (some (.int x1)) τ9)))) ∧ (¬ x4 < x1 → ((x4 ≤ 500 → Q (some (.int x4)) σ) ∧ (¬ x4 ≤ 500 → ((0 ≤ (σ.1 67 4) → Q (some (.int x1)) σ) ∧ (¬ 0 ≤ (σ.1 67 4) → (∀ τ10 : Mem, τ10 = (w1 σ 67 4 x3) → Q (some (.int x1)) τ10)))))))))) ∧ (¬ x2 = 0 → ((3 < x5 → ((0 ≤ (σ.1 67 4) → Q (some (.int x1)) σ) ∧ (¬ 0 ≤ (σ.1 67 4) → (∀ τ11 : Mem, τ11 = (w1 σ 67 4 x3) → Q (some (.int x1)) τ11)))) ∧ (¬ 3 < x5 → (((-x4) < x1 → ((0 ≤ (σ.1 67 4) → Q (some (.int x1)) σ) ∧ (¬ 0 ≤ (σ.1 67 4) → (∀ τ12 : Mem, τ12 = (w1 σ 67 4 x3) → Q (some (.int x1)) τ12)))) ∧ (¬ (-x4) < x1 → (((-x4) ≤ 500 → Q (some (.int (-x4))) σ) ∧ (¬ (-x4) ≤ 500 → ((0 ≤ (σ.1 67 4) → Q (some (.int x1)) σ) ∧ (¬ 0 ≤ (σ.1 67 4) → (∀ τ13 : Mem, τ13 = (w1 σ 67 4 x3) → Q (some (.int x1)) τ13)))))))))))) ∧ (x5 = 0 → ((0 ≤ (σ.1 67 4) → Q (some (.int x1)) σ) ∧ (¬ 0 ≤ (σ.1 67 4) → (∀ τ14 : Mem, τ14 = (w1 σ 67 4 (σ.1 67 3)) → Q (some (.int x1)) τ14)))))) ∧ (¬ (σ.1 68 (σ.1 67 3).toNatClampNeg) < 48 → ((57 < (σ.1 68 (σ.1 67 3).toNatClampNeg) → ((¬ x5 = 0 → ((x2 = 0 → ((3 < x5 → ((0 ≤ (σ.1 67 4) → Q (some (.int x1)) σ) ∧ (¬ 0 ≤ (σ.1 67 4) → (∀ τ15 : Mem, τ15 = (w1 σ 67 4 x3) → Q (some (.int x1)) τ15)))) ∧ (¬ 3 < x5 → ((x4 < x1 → ((0 ≤ (σ.1 67 4) → Q (some (.int x1)) σ) ∧ (¬ 0 ≤ (σ.1 67 4) → (∀ τ16 : Mem, τ16 = (w1 σ 67 4 x3) → Q (some (.int x1)) τ16)))) ∧ (¬ x4 < x1 → ((x4 ≤ 500 → Q (some (.int x4)) σ) ∧ (¬ x4 ≤ 500 → ((0 ≤ (σ.1 67 4) → Q (some (.int x1)) σ) ∧ (¬ 0 ≤ (σ.1 67 4) → (∀ τ17 : Mem, τ17 = (w1 σ 67 4 x3) → Q (some (.int x1)) τ17)))))))))) ∧ (¬ x2 = 0 → ((3 < x5 → ((0 ≤ (σ.1 67 4) → Q (some (.int x1)) σ) ∧ (¬ 0 ≤ (σ.1 67 4) → (∀ τ18 : Mem, τ18 = (w1 σ 67 4 x3) → Q (some (.int x1)) τ18)))) ∧ (¬ 3 < x5 → (((-x4) < x1 → ((0 ≤ (σ.1 67 4) → Q (some (.int x1)) σ) ∧ (¬ 0 ≤ (σ.1 67 4) → (∀ τ19 : Mem, τ19 = (w1 σ 67 4 x3) → Q (some (.int x1)) τ19)))) ∧ (¬ (-x4) < x1 → (((-x4) ≤ 500 → Q (some (.int (-x4))) σ) ∧ (¬ (-x4) ≤ 500 → ((0 ≤ (σ.1 67 4) → Q (some (.int x1)) σ) ∧ (¬ 0 ≤ (σ.1 67 4) → (∀ τ20 : Mem, τ20 = (w1 σ 67 4 x3) → Q (some (.int x1)) τ20)))))))))))) ∧ (x5 = 0 → ((0 ≤ (σ.1 67 4) → Q (some (.int x1)) σ) ∧ (¬ 0 ≤ (σ.1 67 4) → (∀ τ21 : Mem, τ21 = (w1 σ 67 4 (σ.1 67 3)) → Q (some (.int x1)) τ21)))))) ∧ (¬ 57 < (σ.1 68 (σ.1 67 3).toNatClampNeg) → ((3 ≤ x5 → (∀ τ22 : Mem, τ22 = (w1 σ 67 3 ((σ.1 67 3) + 1)) → X none (d + 1) mX5_readNumber 40 [.ref 67, .int x1, .int x2, .int x3, .int x4, .int (x5 + 1), Unk] [] τ22 Q)) ∧ (¬ 3 ≤ x5 → (vp_in (σ.1 67 3) 120 ∧ (∀ τ23 : Mem, τ23 = (w1 σ 67 3 ((σ.1 67 3) + 1)) → X none (d + 1) mX5_readNumber 40 [.ref 67, .int x1, .int x2, .int x3, .int (((10 * x4) + (σ.1 68 (σ.1 67 3).toNatClampNeg)) - 48), .int (x5 + 1), Unk] [] τ23 Q)))))))))))) :
    X none (d + 1) mX5_readNumber 40 [.ref 67, .int x1, .int x2, .int x3, .int x4, .int x5, Unk] [] σ Q := by
  refine x_aload_n (pc' := 41) dX5_readNumber_40 rfl rfl rfl ?_
  refine x_geti (pc' := 44) dX5_readNumber_41 rfl lfX5_26 kd_67 rfl ?_
  refine x_aload_n (pc' := 45) dX5_readNumber_44 rfl rfl rfl ?_
  refine x_geti (pc' := 48) dX5_readNumber_45 rfl lfX5_22 kd_67 rfl ?_
  refine x_icmp_ge (pc' := 51) (tgt := 108) dX5_readNumber_48 (by decide) rfl (fun hc => ?_) (fun hc => ?_)
  · replace h := h.1 hc
    refine x_iload (pc' := 110) dX5_readNumber_108 rfl rfl ?_
    refine x_if_ne (pc' := 113) (tgt := 123) dX5_readNumber_110 (by decide) rfl (fun hc => ?_) (fun hc => ?_)
    · replace h := h.1 hc
      refine x_iload_n (pc' := 124) dX5_readNumber_123 rfl rfl rfl ?_
      refine x_if_eq (pc' := 127) (tgt := 133) dX5_readNumber_124 (by decide) rfl (fun hc => ?_) (fun hc => ?_)
      · replace h := h.1 hc
        refine x_iload (pc' := 135) dX5_readNumber_133 rfl rfl ?_
        refine x_istore (pc' := 137) dX5_readNumber_135 rfl (by decide) rfl (ls' := [.ref 67, .int x1, .int x2, .int x3, .int x4, .int x5, .int x4]) rfl ?_
        refine x_iload (pc' := 139) dX5_readNumber_137 rfl rfl ?_
        refine x_iconst (pc' := 140) (v := 3) dX5_readNumber_139 rfl (by decide) ?_
        refine x_icmp_gt (pc' := 143) (tgt := 157) dX5_readNumber_140 (by decide) rfl (fun hc => ?_) (fun hc => ?_)
        · replace h := h.1 hc
          refine x_aload_n (pc' := 158) dX5_readNumber_157 rfl rfl rfl ?_
          refine x_iload_n (pc' := 159) dX5_readNumber_158 rfl rfl rfl ?_
          refine x_callV (pc' := 162) (As := [.int x3]) dX5_readNumber_159 rfl lmX5_46 kd_67 rfl rfl (Nat.le_of_ble_eq_true rfl) (Nat.le_of_ble_eq_true rfl) ?_
          show X none d mX5_fail 0 [.ref 67, .int x3] [] σ _
          refine x_aload_n (pc' := 1) dX5_fail_0 rfl rfl rfl ?_
          refine x_geti (pc' := 4) dX5_fail_1 rfl lfX5_29 kd_67 rfl ?_
          refine x_if_ge (pc' := 7) (tgt := 12) dX5_fail_4 (by decide) rfl (fun hc => ?_) (fun hc => ?_)
          · replace h := h.1 hc
            refine x_vret dX5_fail_12 rfl ?_
            show X none (d + 1) mX5_readNumber 162 [.ref 67, .int x1, .int x2, .int x3, .int x4, .int x5, .int x4] [] σ _
            refine x_iload_n (pc' := 163) dX5_readNumber_162 rfl rfl rfl ?_
            exact x_iret dX5_readNumber_163 rfl rfl h
          · replace h := h.2 hc
            refine x_aload_n (pc' := 8) dX5_fail_7 rfl rfl rfl ?_
            refine x_iload_n (pc' := 9) dX5_fail_8 rfl rfl rfl ?_
            refine x_puti (pc' := 12) dX5_fail_9 rfl lfX5_29 kd_67 rfl rfl rfl ?_
            obtain ⟨τ1, eτ1⟩ : ∃ τ : Mem, τ = (w1 σ 67 4 x3) := ⟨_, rfl⟩
            show X none d mX5_fail 12 [.ref 67, .int x3] [] (w1 σ 67 4 x3) _
            rw [← eτ1]
            replace h := h τ1 eτ1
            refine x_vret dX5_fail_12 rfl ?_
            show X none (d + 1) mX5_readNumber 162 [.ref 67, .int x1, .int x2, .int x3, .int x4, .int x5, .int x4] [] τ1 _
            refine x_iload_n (pc' := 163) dX5_readNumber_162 rfl rfl rfl ?_
            exact x_iret dX5_readNumber_163 rfl rfl h
        · replace h := h.2 hc
          refine x_iload (pc' := 145) dX5_readNumber_143 rfl rfl ?_
          refine x_iload_n (pc' := 146) dX5_readNumber_145 rfl rfl rfl ?_
          refine x_icmp_lt (pc' := 149) (tgt := 157) dX5_readNumber_146 (by decide) rfl (fun hc => ?_) (fun hc => ?_)
          · replace h := h.1 hc
            refine x_aload_n (pc' := 158) dX5_readNumber_157 rfl rfl rfl ?_
            refine x_iload_n (pc' := 159) dX5_readNumber_158 rfl rfl rfl ?_
            refine x_callV (pc' := 162) (As := [.int x3]) dX5_readNumber_159 rfl lmX5_46 kd_67 rfl rfl (Nat.le_of_ble_eq_true rfl) (Nat.le_of_ble_eq_true rfl) ?_
            show X none d mX5_fail 0 [.ref 67, .int x3] [] σ _
            refine x_aload_n (pc' := 1) dX5_fail_0 rfl rfl rfl ?_
            refine x_geti (pc' := 4) dX5_fail_1 rfl lfX5_29 kd_67 rfl ?_
            refine x_if_ge (pc' := 7) (tgt := 12) dX5_fail_4 (by decide) rfl (fun hc => ?_) (fun hc => ?_)
            · replace h := h.1 hc
              refine x_vret dX5_fail_12 rfl ?_
              show X none (d + 1) mX5_readNumber 162 [.ref 67, .int x1, .int x2, .int x3, .int x4, .int x5, .int x4] [] σ _
              refine x_iload_n (pc' := 163) dX5_readNumber_162 rfl rfl rfl ?_
              exact x_iret dX5_readNumber_163 rfl rfl h
            · replace h := h.2 hc
              refine x_aload_n (pc' := 8) dX5_fail_7 rfl rfl rfl ?_
              refine x_iload_n (pc' := 9) dX5_fail_8 rfl rfl rfl ?_
              refine x_puti (pc' := 12) dX5_fail_9 rfl lfX5_29 kd_67 rfl rfl rfl ?_
              obtain ⟨τ2, eτ2⟩ : ∃ τ : Mem, τ = (w1 σ 67 4 x3) := ⟨_, rfl⟩
              show X none d mX5_fail 12 [.ref 67, .int x3] [] (w1 σ 67 4 x3) _
              rw [← eτ2]
              replace h := h τ2 eτ2
              refine x_vret dX5_fail_12 rfl ?_
              show X none (d + 1) mX5_readNumber 162 [.ref 67, .int x1, .int x2, .int x3, .int x4, .int x5, .int x4] [] τ2 _
              refine x_iload_n (pc' := 163) dX5_readNumber_162 rfl rfl rfl ?_
              exact x_iret dX5_readNumber_163 rfl rfl h
          · replace h := h.2 hc
            refine x_iload (pc' := 151) dX5_readNumber_149 rfl rfl ?_
            refine x_sipush (pc' := 154) (v := 500) dX5_readNumber_151 rfl (by decide) ?_
            refine x_icmp_le (pc' := 157) (tgt := 164) dX5_readNumber_154 (by decide) rfl (fun hc => ?_) (fun hc => ?_)
            · replace h := h.1 hc
              refine x_iload (pc' := 166) dX5_readNumber_164 rfl rfl ?_
              exact x_iret dX5_readNumber_166 rfl rfl h
            · replace h := h.2 hc
              refine x_aload_n (pc' := 158) dX5_readNumber_157 rfl rfl rfl ?_
              refine x_iload_n (pc' := 159) dX5_readNumber_158 rfl rfl rfl ?_
              refine x_callV (pc' := 162) (As := [.int x3]) dX5_readNumber_159 rfl lmX5_46 kd_67 rfl rfl (Nat.le_of_ble_eq_true rfl) (Nat.le_of_ble_eq_true rfl) ?_
              show X none d mX5_fail 0 [.ref 67, .int x3] [] σ _
              refine x_aload_n (pc' := 1) dX5_fail_0 rfl rfl rfl ?_
              refine x_geti (pc' := 4) dX5_fail_1 rfl lfX5_29 kd_67 rfl ?_
              refine x_if_ge (pc' := 7) (tgt := 12) dX5_fail_4 (by decide) rfl (fun hc => ?_) (fun hc => ?_)
              · replace h := h.1 hc
                refine x_vret dX5_fail_12 rfl ?_
                show X none (d + 1) mX5_readNumber 162 [.ref 67, .int x1, .int x2, .int x3, .int x4, .int x5, .int x4] [] σ _
                refine x_iload_n (pc' := 163) dX5_readNumber_162 rfl rfl rfl ?_
                exact x_iret dX5_readNumber_163 rfl rfl h
              · replace h := h.2 hc
                refine x_aload_n (pc' := 8) dX5_fail_7 rfl rfl rfl ?_
                refine x_iload_n (pc' := 9) dX5_fail_8 rfl rfl rfl ?_
                refine x_puti (pc' := 12) dX5_fail_9 rfl lfX5_29 kd_67 rfl rfl rfl ?_
                obtain ⟨τ3, eτ3⟩ : ∃ τ : Mem, τ = (w1 σ 67 4 x3) := ⟨_, rfl⟩
                show X none d mX5_fail 12 [.ref 67, .int x3] [] (w1 σ 67 4 x3) _
                rw [← eτ3]
                replace h := h τ3 eτ3
                refine x_vret dX5_fail_12 rfl ?_
                show X none (d + 1) mX5_readNumber 162 [.ref 67, .int x1, .int x2, .int x3, .int x4, .int x5, .int x4] [] τ3 _
                refine x_iload_n (pc' := 163) dX5_readNumber_162 rfl rfl rfl ?_
                exact x_iret dX5_readNumber_163 rfl rfl h
      · replace h := h.2 hc
        refine x_iload (pc' := 129) dX5_readNumber_127 rfl rfl ?_
        refine x_ineg (pc' := 130) dX5_readNumber_129 rfl ?_
        refine x_goto (pc' := 135) dX5_readNumber_130 (by decide) ?_
        refine x_istore (pc' := 137) dX5_readNumber_135 rfl (by decide) rfl (ls' := [.ref 67, .int x1, .int x2, .int x3, .int x4, .int x5, .int (-x4)]) rfl ?_
        refine x_iload (pc' := 139) dX5_readNumber_137 rfl rfl ?_
        refine x_iconst (pc' := 140) (v := 3) dX5_readNumber_139 rfl (by decide) ?_
        refine x_icmp_gt (pc' := 143) (tgt := 157) dX5_readNumber_140 (by decide) rfl (fun hc => ?_) (fun hc => ?_)
        · replace h := h.1 hc
          refine x_aload_n (pc' := 158) dX5_readNumber_157 rfl rfl rfl ?_
          refine x_iload_n (pc' := 159) dX5_readNumber_158 rfl rfl rfl ?_
          refine x_callV (pc' := 162) (As := [.int x3]) dX5_readNumber_159 rfl lmX5_46 kd_67 rfl rfl (Nat.le_of_ble_eq_true rfl) (Nat.le_of_ble_eq_true rfl) ?_
          show X none d mX5_fail 0 [.ref 67, .int x3] [] σ _
          refine x_aload_n (pc' := 1) dX5_fail_0 rfl rfl rfl ?_
          refine x_geti (pc' := 4) dX5_fail_1 rfl lfX5_29 kd_67 rfl ?_
          refine x_if_ge (pc' := 7) (tgt := 12) dX5_fail_4 (by decide) rfl (fun hc => ?_) (fun hc => ?_)
          · replace h := h.1 hc
            refine x_vret dX5_fail_12 rfl ?_
            show X none (d + 1) mX5_readNumber 162 [.ref 67, .int x1, .int x2, .int x3, .int x4, .int x5, .int (-x4)] [] σ _
            refine x_iload_n (pc' := 163) dX5_readNumber_162 rfl rfl rfl ?_
            exact x_iret dX5_readNumber_163 rfl rfl h
          · replace h := h.2 hc
            refine x_aload_n (pc' := 8) dX5_fail_7 rfl rfl rfl ?_
            refine x_iload_n (pc' := 9) dX5_fail_8 rfl rfl rfl ?_
            refine x_puti (pc' := 12) dX5_fail_9 rfl lfX5_29 kd_67 rfl rfl rfl ?_
            obtain ⟨τ4, eτ4⟩ : ∃ τ : Mem, τ = (w1 σ 67 4 x3) := ⟨_, rfl⟩
            show X none d mX5_fail 12 [.ref 67, .int x3] [] (w1 σ 67 4 x3) _
            rw [← eτ4]
            replace h := h τ4 eτ4
            refine x_vret dX5_fail_12 rfl ?_
            show X none (d + 1) mX5_readNumber 162 [.ref 67, .int x1, .int x2, .int x3, .int x4, .int x5, .int (-x4)] [] τ4 _
            refine x_iload_n (pc' := 163) dX5_readNumber_162 rfl rfl rfl ?_
            exact x_iret dX5_readNumber_163 rfl rfl h
        · replace h := h.2 hc
          refine x_iload (pc' := 145) dX5_readNumber_143 rfl rfl ?_
          refine x_iload_n (pc' := 146) dX5_readNumber_145 rfl rfl rfl ?_
          refine x_icmp_lt (pc' := 149) (tgt := 157) dX5_readNumber_146 (by decide) rfl (fun hc => ?_) (fun hc => ?_)
          · replace h := h.1 hc
            refine x_aload_n (pc' := 158) dX5_readNumber_157 rfl rfl rfl ?_
            refine x_iload_n (pc' := 159) dX5_readNumber_158 rfl rfl rfl ?_
            refine x_callV (pc' := 162) (As := [.int x3]) dX5_readNumber_159 rfl lmX5_46 kd_67 rfl rfl (Nat.le_of_ble_eq_true rfl) (Nat.le_of_ble_eq_true rfl) ?_
            show X none d mX5_fail 0 [.ref 67, .int x3] [] σ _
            refine x_aload_n (pc' := 1) dX5_fail_0 rfl rfl rfl ?_
            refine x_geti (pc' := 4) dX5_fail_1 rfl lfX5_29 kd_67 rfl ?_
            refine x_if_ge (pc' := 7) (tgt := 12) dX5_fail_4 (by decide) rfl (fun hc => ?_) (fun hc => ?_)
            · replace h := h.1 hc
              refine x_vret dX5_fail_12 rfl ?_
              show X none (d + 1) mX5_readNumber 162 [.ref 67, .int x1, .int x2, .int x3, .int x4, .int x5, .int (-x4)] [] σ _
              refine x_iload_n (pc' := 163) dX5_readNumber_162 rfl rfl rfl ?_
              exact x_iret dX5_readNumber_163 rfl rfl h
            · replace h := h.2 hc
              refine x_aload_n (pc' := 8) dX5_fail_7 rfl rfl rfl ?_
              refine x_iload_n (pc' := 9) dX5_fail_8 rfl rfl rfl ?_
              refine x_puti (pc' := 12) dX5_fail_9 rfl lfX5_29 kd_67 rfl rfl rfl ?_
              obtain ⟨τ5, eτ5⟩ : ∃ τ : Mem, τ = (w1 σ 67 4 x3) := ⟨_, rfl⟩
              show X none d mX5_fail 12 [.ref 67, .int x3] [] (w1 σ 67 4 x3) _
              rw [← eτ5]
              replace h := h τ5 eτ5
              refine x_vret dX5_fail_12 rfl ?_
              show X none (d + 1) mX5_readNumber 162 [.ref 67, .int x1, .int x2, .int x3, .int x4, .int x5, .int (-x4)] [] τ5 _
              refine x_iload_n (pc' := 163) dX5_readNumber_162 rfl rfl rfl ?_
              exact x_iret dX5_readNumber_163 rfl rfl h
          · replace h := h.2 hc
            refine x_iload (pc' := 151) dX5_readNumber_149 rfl rfl ?_
            refine x_sipush (pc' := 154) (v := 500) dX5_readNumber_151 rfl (by decide) ?_
            refine x_icmp_le (pc' := 157) (tgt := 164) dX5_readNumber_154 (by decide) rfl (fun hc => ?_) (fun hc => ?_)
            · replace h := h.1 hc
              refine x_iload (pc' := 166) dX5_readNumber_164 rfl rfl ?_
              exact x_iret dX5_readNumber_166 rfl rfl h
            · replace h := h.2 hc
              refine x_aload_n (pc' := 158) dX5_readNumber_157 rfl rfl rfl ?_
              refine x_iload_n (pc' := 159) dX5_readNumber_158 rfl rfl rfl ?_
              refine x_callV (pc' := 162) (As := [.int x3]) dX5_readNumber_159 rfl lmX5_46 kd_67 rfl rfl (Nat.le_of_ble_eq_true rfl) (Nat.le_of_ble_eq_true rfl) ?_
              show X none d mX5_fail 0 [.ref 67, .int x3] [] σ _
              refine x_aload_n (pc' := 1) dX5_fail_0 rfl rfl rfl ?_
              refine x_geti (pc' := 4) dX5_fail_1 rfl lfX5_29 kd_67 rfl ?_
              refine x_if_ge (pc' := 7) (tgt := 12) dX5_fail_4 (by decide) rfl (fun hc => ?_) (fun hc => ?_)
              · replace h := h.1 hc
                refine x_vret dX5_fail_12 rfl ?_
                show X none (d + 1) mX5_readNumber 162 [.ref 67, .int x1, .int x2, .int x3, .int x4, .int x5, .int (-x4)] [] σ _
                refine x_iload_n (pc' := 163) dX5_readNumber_162 rfl rfl rfl ?_
                exact x_iret dX5_readNumber_163 rfl rfl h
              · replace h := h.2 hc
                refine x_aload_n (pc' := 8) dX5_fail_7 rfl rfl rfl ?_
                refine x_iload_n (pc' := 9) dX5_fail_8 rfl rfl rfl ?_
                refine x_puti (pc' := 12) dX5_fail_9 rfl lfX5_29 kd_67 rfl rfl rfl ?_
                obtain ⟨τ6, eτ6⟩ : ∃ τ : Mem, τ = (w1 σ 67 4 x3) := ⟨_, rfl⟩
                show X none d mX5_fail 12 [.ref 67, .int x3] [] (w1 σ 67 4 x3) _
                rw [← eτ6]
                replace h := h τ6 eτ6
                refine x_vret dX5_fail_12 rfl ?_
                show X none (d + 1) mX5_readNumber 162 [.ref 67, .int x1, .int x2, .int x3, .int x4, .int x5, .int (-x4)] [] τ6 _
                refine x_iload_n (pc' := 163) dX5_readNumber_162 rfl rfl rfl ?_
                exact x_iret dX5_readNumber_163 rfl rfl h
    · replace h := h.2 hc
      refine x_aload_n (pc' := 114) dX5_readNumber_113 rfl rfl rfl ?_
      refine x_aload_n (pc' := 115) dX5_readNumber_114 rfl rfl rfl ?_
      refine x_geti (pc' := 118) dX5_readNumber_115 rfl lfX5_26 kd_67 rfl ?_
      refine x_callV (pc' := 121) (As := [.int (σ.1 67 3)]) dX5_readNumber_118 rfl lmX5_46 kd_67 rfl rfl (Nat.le_of_ble_eq_true rfl) (Nat.le_of_ble_eq_true rfl) ?_
      show X none d mX5_fail 0 [.ref 67, .int (σ.1 67 3)] [] σ _
      refine x_aload_n (pc' := 1) dX5_fail_0 rfl rfl rfl ?_
      refine x_geti (pc' := 4) dX5_fail_1 rfl lfX5_29 kd_67 rfl ?_
      refine x_if_ge (pc' := 7) (tgt := 12) dX5_fail_4 (by decide) rfl (fun hc => ?_) (fun hc => ?_)
      · replace h := h.1 hc
        refine x_vret dX5_fail_12 rfl ?_
        show X none (d + 1) mX5_readNumber 121 [.ref 67, .int x1, .int x2, .int x3, .int x4, .int x5, Unk] [] σ _
        refine x_iload_n (pc' := 122) dX5_readNumber_121 rfl rfl rfl ?_
        exact x_iret dX5_readNumber_122 rfl rfl h
      · replace h := h.2 hc
        refine x_aload_n (pc' := 8) dX5_fail_7 rfl rfl rfl ?_
        refine x_iload_n (pc' := 9) dX5_fail_8 rfl rfl rfl ?_
        refine x_puti (pc' := 12) dX5_fail_9 rfl lfX5_29 kd_67 rfl rfl rfl ?_
        obtain ⟨τ7, eτ7⟩ : ∃ τ : Mem, τ = (w1 σ 67 4 (σ.1 67 3)) := ⟨_, rfl⟩
        show X none d mX5_fail 12 [.ref 67, .int (σ.1 67 3)] [] (w1 σ 67 4 (σ.1 67 3)) _
        rw [← eτ7]
        replace h := h τ7 eτ7
        refine x_vret dX5_fail_12 rfl ?_
        show X none (d + 1) mX5_readNumber 121 [.ref 67, .int x1, .int x2, .int x3, .int x4, .int x5, Unk] [] τ7 _
        refine x_iload_n (pc' := 122) dX5_readNumber_121 rfl rfl rfl ?_
        exact x_iret dX5_readNumber_122 rfl rfl h
  · replace h := h.2 hc
    refine x_aload_n (pc' := 52) dX5_readNumber_51 rfl rfl rfl ?_
    refine x_getr (pc' := 55) dX5_readNumber_52 rfl lfX5_9 kd_67 rfl rf_67_0 ?_
    refine x_aload_n (pc' := 56) dX5_readNumber_55 rfl rfl rfl ?_
    refine x_geti (pc' := 59) dX5_readNumber_56 rfl lfX5_26 kd_67 rfl ?_
    obtain ⟨hb, h⟩ := h
    refine x_iald (pc' := 60) dX5_readNumber_59 rfl kd_68 (by rw [ln_68]; exact hb) ?_
    refine x_callS (pc' := 63) (As := [.int (σ.1 68 (σ.1 67 3).toNatClampNeg)]) dX5_readNumber_60 rfl lmX5_69 rfl rfl (Nat.le_of_ble_eq_true rfl) (Nat.le_of_ble_eq_true rfl) ?_
    show X none d mX5_isFigure 0 [.int (σ.1 68 (σ.1 67 3).toNatClampNeg)] [] σ _
    refine x_iload_n (pc' := 1) dX5_isFigure_0 rfl rfl rfl ?_
    refine x_bipush (pc' := 3) (v := 48) dX5_isFigure_1 rfl (by decide) ?_
    refine x_icmp_lt (pc' := 6) (tgt := 16) dX5_isFigure_3 (by decide) rfl (fun hc => ?_) (fun hc => ?_)
    · replace h := h.1 hc
      refine x_iconst (pc' := 17) (v := 0) dX5_isFigure_16 rfl (by decide) ?_
      refine x_iret dX5_isFigure_17 rfl rfl ?_
      show X none (d + 1) mX5_readNumber 63 [.ref 67, .int x1, .int x2, .int x3, .int x4, .int x5, Unk] [.int 0] σ _
      refine x_if_eq (pc' := 66) (tgt := 108) dX5_readNumber_63 (by decide) rfl (fun _ => ?_) (fun hc => absurd hc (by decide))
      refine x_iload (pc' := 110) dX5_readNumber_108 rfl rfl ?_
      refine x_if_ne (pc' := 113) (tgt := 123) dX5_readNumber_110 (by decide) rfl (fun hc => ?_) (fun hc => ?_)
      · replace h := h.1 hc
        refine x_iload_n (pc' := 124) dX5_readNumber_123 rfl rfl rfl ?_
        refine x_if_eq (pc' := 127) (tgt := 133) dX5_readNumber_124 (by decide) rfl (fun hc => ?_) (fun hc => ?_)
        · replace h := h.1 hc
          refine x_iload (pc' := 135) dX5_readNumber_133 rfl rfl ?_
          refine x_istore (pc' := 137) dX5_readNumber_135 rfl (by decide) rfl (ls' := [.ref 67, .int x1, .int x2, .int x3, .int x4, .int x5, .int x4]) rfl ?_
          refine x_iload (pc' := 139) dX5_readNumber_137 rfl rfl ?_
          refine x_iconst (pc' := 140) (v := 3) dX5_readNumber_139 rfl (by decide) ?_
          refine x_icmp_gt (pc' := 143) (tgt := 157) dX5_readNumber_140 (by decide) rfl (fun hc => ?_) (fun hc => ?_)
          · replace h := h.1 hc
            refine x_aload_n (pc' := 158) dX5_readNumber_157 rfl rfl rfl ?_
            refine x_iload_n (pc' := 159) dX5_readNumber_158 rfl rfl rfl ?_
            refine x_callV (pc' := 162) (As := [.int x3]) dX5_readNumber_159 rfl lmX5_46 kd_67 rfl rfl (Nat.le_of_ble_eq_true rfl) (Nat.le_of_ble_eq_true rfl) ?_
            show X none d mX5_fail 0 [.ref 67, .int x3] [] σ _
            refine x_aload_n (pc' := 1) dX5_fail_0 rfl rfl rfl ?_
            refine x_geti (pc' := 4) dX5_fail_1 rfl lfX5_29 kd_67 rfl ?_
            refine x_if_ge (pc' := 7) (tgt := 12) dX5_fail_4 (by decide) rfl (fun hc => ?_) (fun hc => ?_)
            · replace h := h.1 hc
              refine x_vret dX5_fail_12 rfl ?_
              show X none (d + 1) mX5_readNumber 162 [.ref 67, .int x1, .int x2, .int x3, .int x4, .int x5, .int x4] [] σ _
              refine x_iload_n (pc' := 163) dX5_readNumber_162 rfl rfl rfl ?_
              exact x_iret dX5_readNumber_163 rfl rfl h
            · replace h := h.2 hc
              refine x_aload_n (pc' := 8) dX5_fail_7 rfl rfl rfl ?_
              refine x_iload_n (pc' := 9) dX5_fail_8 rfl rfl rfl ?_
              refine x_puti (pc' := 12) dX5_fail_9 rfl lfX5_29 kd_67 rfl rfl rfl ?_
              obtain ⟨τ8, eτ8⟩ : ∃ τ : Mem, τ = (w1 σ 67 4 x3) := ⟨_, rfl⟩
              show X none d mX5_fail 12 [.ref 67, .int x3] [] (w1 σ 67 4 x3) _
              rw [← eτ8]
              replace h := h τ8 eτ8
              refine x_vret dX5_fail_12 rfl ?_
              show X none (d + 1) mX5_readNumber 162 [.ref 67, .int x1, .int x2, .int x3, .int x4, .int x5, .int x4] [] τ8 _
              refine x_iload_n (pc' := 163) dX5_readNumber_162 rfl rfl rfl ?_
              exact x_iret dX5_readNumber_163 rfl rfl h
          · replace h := h.2 hc
            refine x_iload (pc' := 145) dX5_readNumber_143 rfl rfl ?_
            refine x_iload_n (pc' := 146) dX5_readNumber_145 rfl rfl rfl ?_
            refine x_icmp_lt (pc' := 149) (tgt := 157) dX5_readNumber_146 (by decide) rfl (fun hc => ?_) (fun hc => ?_)
            · replace h := h.1 hc
              refine x_aload_n (pc' := 158) dX5_readNumber_157 rfl rfl rfl ?_
              refine x_iload_n (pc' := 159) dX5_readNumber_158 rfl rfl rfl ?_
              refine x_callV (pc' := 162) (As := [.int x3]) dX5_readNumber_159 rfl lmX5_46 kd_67 rfl rfl (Nat.le_of_ble_eq_true rfl) (Nat.le_of_ble_eq_true rfl) ?_
              show X none d mX5_fail 0 [.ref 67, .int x3] [] σ _
              refine x_aload_n (pc' := 1) dX5_fail_0 rfl rfl rfl ?_
              refine x_geti (pc' := 4) dX5_fail_1 rfl lfX5_29 kd_67 rfl ?_
              refine x_if_ge (pc' := 7) (tgt := 12) dX5_fail_4 (by decide) rfl (fun hc => ?_) (fun hc => ?_)
              · replace h := h.1 hc
                refine x_vret dX5_fail_12 rfl ?_
                show X none (d + 1) mX5_readNumber 162 [.ref 67, .int x1, .int x2, .int x3, .int x4, .int x5, .int x4] [] σ _
                refine x_iload_n (pc' := 163) dX5_readNumber_162 rfl rfl rfl ?_
                exact x_iret dX5_readNumber_163 rfl rfl h
              · replace h := h.2 hc
                refine x_aload_n (pc' := 8) dX5_fail_7 rfl rfl rfl ?_
                refine x_iload_n (pc' := 9) dX5_fail_8 rfl rfl rfl ?_
                refine x_puti (pc' := 12) dX5_fail_9 rfl lfX5_29 kd_67 rfl rfl rfl ?_
                obtain ⟨τ9, eτ9⟩ : ∃ τ : Mem, τ = (w1 σ 67 4 x3) := ⟨_, rfl⟩
                show X none d mX5_fail 12 [.ref 67, .int x3] [] (w1 σ 67 4 x3) _
                rw [← eτ9]
                replace h := h τ9 eτ9
                refine x_vret dX5_fail_12 rfl ?_
                show X none (d + 1) mX5_readNumber 162 [.ref 67, .int x1, .int x2, .int x3, .int x4, .int x5, .int x4] [] τ9 _
                refine x_iload_n (pc' := 163) dX5_readNumber_162 rfl rfl rfl ?_
                exact x_iret dX5_readNumber_163 rfl rfl h
            · replace h := h.2 hc
              refine x_iload (pc' := 151) dX5_readNumber_149 rfl rfl ?_
              refine x_sipush (pc' := 154) (v := 500) dX5_readNumber_151 rfl (by decide) ?_
              refine x_icmp_le (pc' := 157) (tgt := 164) dX5_readNumber_154 (by decide) rfl (fun hc => ?_) (fun hc => ?_)
              · replace h := h.1 hc
                refine x_iload (pc' := 166) dX5_readNumber_164 rfl rfl ?_
                exact x_iret dX5_readNumber_166 rfl rfl h
              · replace h := h.2 hc
                refine x_aload_n (pc' := 158) dX5_readNumber_157 rfl rfl rfl ?_
                refine x_iload_n (pc' := 159) dX5_readNumber_158 rfl rfl rfl ?_
                refine x_callV (pc' := 162) (As := [.int x3]) dX5_readNumber_159 rfl lmX5_46 kd_67 rfl rfl (Nat.le_of_ble_eq_true rfl) (Nat.le_of_ble_eq_true rfl) ?_
                show X none d mX5_fail 0 [.ref 67, .int x3] [] σ _
                refine x_aload_n (pc' := 1) dX5_fail_0 rfl rfl rfl ?_
                refine x_geti (pc' := 4) dX5_fail_1 rfl lfX5_29 kd_67 rfl ?_
                refine x_if_ge (pc' := 7) (tgt := 12) dX5_fail_4 (by decide) rfl (fun hc => ?_) (fun hc => ?_)
                · replace h := h.1 hc
                  refine x_vret dX5_fail_12 rfl ?_
                  show X none (d + 1) mX5_readNumber 162 [.ref 67, .int x1, .int x2, .int x3, .int x4, .int x5, .int x4] [] σ _
                  refine x_iload_n (pc' := 163) dX5_readNumber_162 rfl rfl rfl ?_
                  exact x_iret dX5_readNumber_163 rfl rfl h
                · replace h := h.2 hc
                  refine x_aload_n (pc' := 8) dX5_fail_7 rfl rfl rfl ?_
                  refine x_iload_n (pc' := 9) dX5_fail_8 rfl rfl rfl ?_
                  refine x_puti (pc' := 12) dX5_fail_9 rfl lfX5_29 kd_67 rfl rfl rfl ?_
                  obtain ⟨τ10, eτ10⟩ : ∃ τ : Mem, τ = (w1 σ 67 4 x3) := ⟨_, rfl⟩
                  show X none d mX5_fail 12 [.ref 67, .int x3] [] (w1 σ 67 4 x3) _
                  rw [← eτ10]
                  replace h := h τ10 eτ10
                  refine x_vret dX5_fail_12 rfl ?_
                  show X none (d + 1) mX5_readNumber 162 [.ref 67, .int x1, .int x2, .int x3, .int x4, .int x5, .int x4] [] τ10 _
                  refine x_iload_n (pc' := 163) dX5_readNumber_162 rfl rfl rfl ?_
                  exact x_iret dX5_readNumber_163 rfl rfl h
        · replace h := h.2 hc
          refine x_iload (pc' := 129) dX5_readNumber_127 rfl rfl ?_
          refine x_ineg (pc' := 130) dX5_readNumber_129 rfl ?_
          refine x_goto (pc' := 135) dX5_readNumber_130 (by decide) ?_
          refine x_istore (pc' := 137) dX5_readNumber_135 rfl (by decide) rfl (ls' := [.ref 67, .int x1, .int x2, .int x3, .int x4, .int x5, .int (-x4)]) rfl ?_
          refine x_iload (pc' := 139) dX5_readNumber_137 rfl rfl ?_
          refine x_iconst (pc' := 140) (v := 3) dX5_readNumber_139 rfl (by decide) ?_
          refine x_icmp_gt (pc' := 143) (tgt := 157) dX5_readNumber_140 (by decide) rfl (fun hc => ?_) (fun hc => ?_)
          · replace h := h.1 hc
            refine x_aload_n (pc' := 158) dX5_readNumber_157 rfl rfl rfl ?_
            refine x_iload_n (pc' := 159) dX5_readNumber_158 rfl rfl rfl ?_
            refine x_callV (pc' := 162) (As := [.int x3]) dX5_readNumber_159 rfl lmX5_46 kd_67 rfl rfl (Nat.le_of_ble_eq_true rfl) (Nat.le_of_ble_eq_true rfl) ?_
            show X none d mX5_fail 0 [.ref 67, .int x3] [] σ _
            refine x_aload_n (pc' := 1) dX5_fail_0 rfl rfl rfl ?_
            refine x_geti (pc' := 4) dX5_fail_1 rfl lfX5_29 kd_67 rfl ?_
            refine x_if_ge (pc' := 7) (tgt := 12) dX5_fail_4 (by decide) rfl (fun hc => ?_) (fun hc => ?_)
            · replace h := h.1 hc
              refine x_vret dX5_fail_12 rfl ?_
              show X none (d + 1) mX5_readNumber 162 [.ref 67, .int x1, .int x2, .int x3, .int x4, .int x5, .int (-x4)] [] σ _
              refine x_iload_n (pc' := 163) dX5_readNumber_162 rfl rfl rfl ?_
              exact x_iret dX5_readNumber_163 rfl rfl h
            · replace h := h.2 hc
              refine x_aload_n (pc' := 8) dX5_fail_7 rfl rfl rfl ?_
              refine x_iload_n (pc' := 9) dX5_fail_8 rfl rfl rfl ?_
              refine x_puti (pc' := 12) dX5_fail_9 rfl lfX5_29 kd_67 rfl rfl rfl ?_
              obtain ⟨τ11, eτ11⟩ : ∃ τ : Mem, τ = (w1 σ 67 4 x3) := ⟨_, rfl⟩
              show X none d mX5_fail 12 [.ref 67, .int x3] [] (w1 σ 67 4 x3) _
              rw [← eτ11]
              replace h := h τ11 eτ11
              refine x_vret dX5_fail_12 rfl ?_
              show X none (d + 1) mX5_readNumber 162 [.ref 67, .int x1, .int x2, .int x3, .int x4, .int x5, .int (-x4)] [] τ11 _
              refine x_iload_n (pc' := 163) dX5_readNumber_162 rfl rfl rfl ?_
              exact x_iret dX5_readNumber_163 rfl rfl h
          · replace h := h.2 hc
            refine x_iload (pc' := 145) dX5_readNumber_143 rfl rfl ?_
            refine x_iload_n (pc' := 146) dX5_readNumber_145 rfl rfl rfl ?_
            refine x_icmp_lt (pc' := 149) (tgt := 157) dX5_readNumber_146 (by decide) rfl (fun hc => ?_) (fun hc => ?_)
            · replace h := h.1 hc
              refine x_aload_n (pc' := 158) dX5_readNumber_157 rfl rfl rfl ?_
              refine x_iload_n (pc' := 159) dX5_readNumber_158 rfl rfl rfl ?_
              refine x_callV (pc' := 162) (As := [.int x3]) dX5_readNumber_159 rfl lmX5_46 kd_67 rfl rfl (Nat.le_of_ble_eq_true rfl) (Nat.le_of_ble_eq_true rfl) ?_
              show X none d mX5_fail 0 [.ref 67, .int x3] [] σ _
              refine x_aload_n (pc' := 1) dX5_fail_0 rfl rfl rfl ?_
              refine x_geti (pc' := 4) dX5_fail_1 rfl lfX5_29 kd_67 rfl ?_
              refine x_if_ge (pc' := 7) (tgt := 12) dX5_fail_4 (by decide) rfl (fun hc => ?_) (fun hc => ?_)
              · replace h := h.1 hc
                refine x_vret dX5_fail_12 rfl ?_
                show X none (d + 1) mX5_readNumber 162 [.ref 67, .int x1, .int x2, .int x3, .int x4, .int x5, .int (-x4)] [] σ _
                refine x_iload_n (pc' := 163) dX5_readNumber_162 rfl rfl rfl ?_
                exact x_iret dX5_readNumber_163 rfl rfl h
              · replace h := h.2 hc
                refine x_aload_n (pc' := 8) dX5_fail_7 rfl rfl rfl ?_
                refine x_iload_n (pc' := 9) dX5_fail_8 rfl rfl rfl ?_
                refine x_puti (pc' := 12) dX5_fail_9 rfl lfX5_29 kd_67 rfl rfl rfl ?_
                obtain ⟨τ12, eτ12⟩ : ∃ τ : Mem, τ = (w1 σ 67 4 x3) := ⟨_, rfl⟩
                show X none d mX5_fail 12 [.ref 67, .int x3] [] (w1 σ 67 4 x3) _
                rw [← eτ12]
                replace h := h τ12 eτ12
                refine x_vret dX5_fail_12 rfl ?_
                show X none (d + 1) mX5_readNumber 162 [.ref 67, .int x1, .int x2, .int x3, .int x4, .int x5, .int (-x4)] [] τ12 _
                refine x_iload_n (pc' := 163) dX5_readNumber_162 rfl rfl rfl ?_
                exact x_iret dX5_readNumber_163 rfl rfl h
            · replace h := h.2 hc
              refine x_iload (pc' := 151) dX5_readNumber_149 rfl rfl ?_
              refine x_sipush (pc' := 154) (v := 500) dX5_readNumber_151 rfl (by decide) ?_
              refine x_icmp_le (pc' := 157) (tgt := 164) dX5_readNumber_154 (by decide) rfl (fun hc => ?_) (fun hc => ?_)
              · replace h := h.1 hc
                refine x_iload (pc' := 166) dX5_readNumber_164 rfl rfl ?_
                exact x_iret dX5_readNumber_166 rfl rfl h
              · replace h := h.2 hc
                refine x_aload_n (pc' := 158) dX5_readNumber_157 rfl rfl rfl ?_
                refine x_iload_n (pc' := 159) dX5_readNumber_158 rfl rfl rfl ?_
                refine x_callV (pc' := 162) (As := [.int x3]) dX5_readNumber_159 rfl lmX5_46 kd_67 rfl rfl (Nat.le_of_ble_eq_true rfl) (Nat.le_of_ble_eq_true rfl) ?_
                show X none d mX5_fail 0 [.ref 67, .int x3] [] σ _
                refine x_aload_n (pc' := 1) dX5_fail_0 rfl rfl rfl ?_
                refine x_geti (pc' := 4) dX5_fail_1 rfl lfX5_29 kd_67 rfl ?_
                refine x_if_ge (pc' := 7) (tgt := 12) dX5_fail_4 (by decide) rfl (fun hc => ?_) (fun hc => ?_)
                · replace h := h.1 hc
                  refine x_vret dX5_fail_12 rfl ?_
                  show X none (d + 1) mX5_readNumber 162 [.ref 67, .int x1, .int x2, .int x3, .int x4, .int x5, .int (-x4)] [] σ _
                  refine x_iload_n (pc' := 163) dX5_readNumber_162 rfl rfl rfl ?_
                  exact x_iret dX5_readNumber_163 rfl rfl h
                · replace h := h.2 hc
                  refine x_aload_n (pc' := 8) dX5_fail_7 rfl rfl rfl ?_
                  refine x_iload_n (pc' := 9) dX5_fail_8 rfl rfl rfl ?_
                  refine x_puti (pc' := 12) dX5_fail_9 rfl lfX5_29 kd_67 rfl rfl rfl ?_
                  obtain ⟨τ13, eτ13⟩ : ∃ τ : Mem, τ = (w1 σ 67 4 x3) := ⟨_, rfl⟩
                  show X none d mX5_fail 12 [.ref 67, .int x3] [] (w1 σ 67 4 x3) _
                  rw [← eτ13]
                  replace h := h τ13 eτ13
                  refine x_vret dX5_fail_12 rfl ?_
                  show X none (d + 1) mX5_readNumber 162 [.ref 67, .int x1, .int x2, .int x3, .int x4, .int x5, .int (-x4)] [] τ13 _
                  refine x_iload_n (pc' := 163) dX5_readNumber_162 rfl rfl rfl ?_
                  exact x_iret dX5_readNumber_163 rfl rfl h
      · replace h := h.2 hc
        refine x_aload_n (pc' := 114) dX5_readNumber_113 rfl rfl rfl ?_
        refine x_aload_n (pc' := 115) dX5_readNumber_114 rfl rfl rfl ?_
        refine x_geti (pc' := 118) dX5_readNumber_115 rfl lfX5_26 kd_67 rfl ?_
        refine x_callV (pc' := 121) (As := [.int (σ.1 67 3)]) dX5_readNumber_118 rfl lmX5_46 kd_67 rfl rfl (Nat.le_of_ble_eq_true rfl) (Nat.le_of_ble_eq_true rfl) ?_
        show X none d mX5_fail 0 [.ref 67, .int (σ.1 67 3)] [] σ _
        refine x_aload_n (pc' := 1) dX5_fail_0 rfl rfl rfl ?_
        refine x_geti (pc' := 4) dX5_fail_1 rfl lfX5_29 kd_67 rfl ?_
        refine x_if_ge (pc' := 7) (tgt := 12) dX5_fail_4 (by decide) rfl (fun hc => ?_) (fun hc => ?_)
        · replace h := h.1 hc
          refine x_vret dX5_fail_12 rfl ?_
          show X none (d + 1) mX5_readNumber 121 [.ref 67, .int x1, .int x2, .int x3, .int x4, .int x5, Unk] [] σ _
          refine x_iload_n (pc' := 122) dX5_readNumber_121 rfl rfl rfl ?_
          exact x_iret dX5_readNumber_122 rfl rfl h
        · replace h := h.2 hc
          refine x_aload_n (pc' := 8) dX5_fail_7 rfl rfl rfl ?_
          refine x_iload_n (pc' := 9) dX5_fail_8 rfl rfl rfl ?_
          refine x_puti (pc' := 12) dX5_fail_9 rfl lfX5_29 kd_67 rfl rfl rfl ?_
          obtain ⟨τ14, eτ14⟩ : ∃ τ : Mem, τ = (w1 σ 67 4 (σ.1 67 3)) := ⟨_, rfl⟩
          show X none d mX5_fail 12 [.ref 67, .int (σ.1 67 3)] [] (w1 σ 67 4 (σ.1 67 3)) _
          rw [← eτ14]
          replace h := h τ14 eτ14
          refine x_vret dX5_fail_12 rfl ?_
          show X none (d + 1) mX5_readNumber 121 [.ref 67, .int x1, .int x2, .int x3, .int x4, .int x5, Unk] [] τ14 _
          refine x_iload_n (pc' := 122) dX5_readNumber_121 rfl rfl rfl ?_
          exact x_iret dX5_readNumber_122 rfl rfl h
    · replace h := h.2 hc
      refine x_iload_n (pc' := 7) dX5_isFigure_6 rfl rfl rfl ?_
      refine x_bipush (pc' := 9) (v := 57) dX5_isFigure_7 rfl (by decide) ?_
      refine x_icmp_gt (pc' := 12) (tgt := 16) dX5_isFigure_9 (by decide) rfl (fun hc => ?_) (fun hc => ?_)
      · replace h := h.1 hc
        refine x_iconst (pc' := 17) (v := 0) dX5_isFigure_16 rfl (by decide) ?_
        refine x_iret dX5_isFigure_17 rfl rfl ?_
        show X none (d + 1) mX5_readNumber 63 [.ref 67, .int x1, .int x2, .int x3, .int x4, .int x5, Unk] [.int 0] σ _
        refine x_if_eq (pc' := 66) (tgt := 108) dX5_readNumber_63 (by decide) rfl (fun _ => ?_) (fun hc => absurd hc (by decide))
        refine x_iload (pc' := 110) dX5_readNumber_108 rfl rfl ?_
        refine x_if_ne (pc' := 113) (tgt := 123) dX5_readNumber_110 (by decide) rfl (fun hc => ?_) (fun hc => ?_)
        · replace h := h.1 hc
          refine x_iload_n (pc' := 124) dX5_readNumber_123 rfl rfl rfl ?_
          refine x_if_eq (pc' := 127) (tgt := 133) dX5_readNumber_124 (by decide) rfl (fun hc => ?_) (fun hc => ?_)
          · replace h := h.1 hc
            refine x_iload (pc' := 135) dX5_readNumber_133 rfl rfl ?_
            refine x_istore (pc' := 137) dX5_readNumber_135 rfl (by decide) rfl (ls' := [.ref 67, .int x1, .int x2, .int x3, .int x4, .int x5, .int x4]) rfl ?_
            refine x_iload (pc' := 139) dX5_readNumber_137 rfl rfl ?_
            refine x_iconst (pc' := 140) (v := 3) dX5_readNumber_139 rfl (by decide) ?_
            refine x_icmp_gt (pc' := 143) (tgt := 157) dX5_readNumber_140 (by decide) rfl (fun hc => ?_) (fun hc => ?_)
            · replace h := h.1 hc
              refine x_aload_n (pc' := 158) dX5_readNumber_157 rfl rfl rfl ?_
              refine x_iload_n (pc' := 159) dX5_readNumber_158 rfl rfl rfl ?_
              refine x_callV (pc' := 162) (As := [.int x3]) dX5_readNumber_159 rfl lmX5_46 kd_67 rfl rfl (Nat.le_of_ble_eq_true rfl) (Nat.le_of_ble_eq_true rfl) ?_
              show X none d mX5_fail 0 [.ref 67, .int x3] [] σ _
              refine x_aload_n (pc' := 1) dX5_fail_0 rfl rfl rfl ?_
              refine x_geti (pc' := 4) dX5_fail_1 rfl lfX5_29 kd_67 rfl ?_
              refine x_if_ge (pc' := 7) (tgt := 12) dX5_fail_4 (by decide) rfl (fun hc => ?_) (fun hc => ?_)
              · replace h := h.1 hc
                refine x_vret dX5_fail_12 rfl ?_
                show X none (d + 1) mX5_readNumber 162 [.ref 67, .int x1, .int x2, .int x3, .int x4, .int x5, .int x4] [] σ _
                refine x_iload_n (pc' := 163) dX5_readNumber_162 rfl rfl rfl ?_
                exact x_iret dX5_readNumber_163 rfl rfl h
              · replace h := h.2 hc
                refine x_aload_n (pc' := 8) dX5_fail_7 rfl rfl rfl ?_
                refine x_iload_n (pc' := 9) dX5_fail_8 rfl rfl rfl ?_
                refine x_puti (pc' := 12) dX5_fail_9 rfl lfX5_29 kd_67 rfl rfl rfl ?_
                obtain ⟨τ15, eτ15⟩ : ∃ τ : Mem, τ = (w1 σ 67 4 x3) := ⟨_, rfl⟩
                show X none d mX5_fail 12 [.ref 67, .int x3] [] (w1 σ 67 4 x3) _
                rw [← eτ15]
                replace h := h τ15 eτ15
                refine x_vret dX5_fail_12 rfl ?_
                show X none (d + 1) mX5_readNumber 162 [.ref 67, .int x1, .int x2, .int x3, .int x4, .int x5, .int x4] [] τ15 _
                refine x_iload_n (pc' := 163) dX5_readNumber_162 rfl rfl rfl ?_
                exact x_iret dX5_readNumber_163 rfl rfl h
            · replace h := h.2 hc
              refine x_iload (pc' := 145) dX5_readNumber_143 rfl rfl ?_
              refine x_iload_n (pc' := 146) dX5_readNumber_145 rfl rfl rfl ?_
              refine x_icmp_lt (pc' := 149) (tgt := 157) dX5_readNumber_146 (by decide) rfl (fun hc => ?_) (fun hc => ?_)
              · replace h := h.1 hc
                refine x_aload_n (pc' := 158) dX5_readNumber_157 rfl rfl rfl ?_
                refine x_iload_n (pc' := 159) dX5_readNumber_158 rfl rfl rfl ?_
                refine x_callV (pc' := 162) (As := [.int x3]) dX5_readNumber_159 rfl lmX5_46 kd_67 rfl rfl (Nat.le_of_ble_eq_true rfl) (Nat.le_of_ble_eq_true rfl) ?_
                show X none d mX5_fail 0 [.ref 67, .int x3] [] σ _
                refine x_aload_n (pc' := 1) dX5_fail_0 rfl rfl rfl ?_
                refine x_geti (pc' := 4) dX5_fail_1 rfl lfX5_29 kd_67 rfl ?_
                refine x_if_ge (pc' := 7) (tgt := 12) dX5_fail_4 (by decide) rfl (fun hc => ?_) (fun hc => ?_)
                · replace h := h.1 hc
                  refine x_vret dX5_fail_12 rfl ?_
                  show X none (d + 1) mX5_readNumber 162 [.ref 67, .int x1, .int x2, .int x3, .int x4, .int x5, .int x4] [] σ _
                  refine x_iload_n (pc' := 163) dX5_readNumber_162 rfl rfl rfl ?_
                  exact x_iret dX5_readNumber_163 rfl rfl h
                · replace h := h.2 hc
                  refine x_aload_n (pc' := 8) dX5_fail_7 rfl rfl rfl ?_
                  refine x_iload_n (pc' := 9) dX5_fail_8 rfl rfl rfl ?_
                  refine x_puti (pc' := 12) dX5_fail_9 rfl lfX5_29 kd_67 rfl rfl rfl ?_
                  obtain ⟨τ16, eτ16⟩ : ∃ τ : Mem, τ = (w1 σ 67 4 x3) := ⟨_, rfl⟩
                  show X none d mX5_fail 12 [.ref 67, .int x3] [] (w1 σ 67 4 x3) _
                  rw [← eτ16]
                  replace h := h τ16 eτ16
                  refine x_vret dX5_fail_12 rfl ?_
                  show X none (d + 1) mX5_readNumber 162 [.ref 67, .int x1, .int x2, .int x3, .int x4, .int x5, .int x4] [] τ16 _
                  refine x_iload_n (pc' := 163) dX5_readNumber_162 rfl rfl rfl ?_
                  exact x_iret dX5_readNumber_163 rfl rfl h
              · replace h := h.2 hc
                refine x_iload (pc' := 151) dX5_readNumber_149 rfl rfl ?_
                refine x_sipush (pc' := 154) (v := 500) dX5_readNumber_151 rfl (by decide) ?_
                refine x_icmp_le (pc' := 157) (tgt := 164) dX5_readNumber_154 (by decide) rfl (fun hc => ?_) (fun hc => ?_)
                · replace h := h.1 hc
                  refine x_iload (pc' := 166) dX5_readNumber_164 rfl rfl ?_
                  exact x_iret dX5_readNumber_166 rfl rfl h
                · replace h := h.2 hc
                  refine x_aload_n (pc' := 158) dX5_readNumber_157 rfl rfl rfl ?_
                  refine x_iload_n (pc' := 159) dX5_readNumber_158 rfl rfl rfl ?_
                  refine x_callV (pc' := 162) (As := [.int x3]) dX5_readNumber_159 rfl lmX5_46 kd_67 rfl rfl (Nat.le_of_ble_eq_true rfl) (Nat.le_of_ble_eq_true rfl) ?_
                  show X none d mX5_fail 0 [.ref 67, .int x3] [] σ _
                  refine x_aload_n (pc' := 1) dX5_fail_0 rfl rfl rfl ?_
                  refine x_geti (pc' := 4) dX5_fail_1 rfl lfX5_29 kd_67 rfl ?_
                  refine x_if_ge (pc' := 7) (tgt := 12) dX5_fail_4 (by decide) rfl (fun hc => ?_) (fun hc => ?_)
                  · replace h := h.1 hc
                    refine x_vret dX5_fail_12 rfl ?_
                    show X none (d + 1) mX5_readNumber 162 [.ref 67, .int x1, .int x2, .int x3, .int x4, .int x5, .int x4] [] σ _
                    refine x_iload_n (pc' := 163) dX5_readNumber_162 rfl rfl rfl ?_
                    exact x_iret dX5_readNumber_163 rfl rfl h
                  · replace h := h.2 hc
                    refine x_aload_n (pc' := 8) dX5_fail_7 rfl rfl rfl ?_
                    refine x_iload_n (pc' := 9) dX5_fail_8 rfl rfl rfl ?_
                    refine x_puti (pc' := 12) dX5_fail_9 rfl lfX5_29 kd_67 rfl rfl rfl ?_
                    obtain ⟨τ17, eτ17⟩ : ∃ τ : Mem, τ = (w1 σ 67 4 x3) := ⟨_, rfl⟩
                    show X none d mX5_fail 12 [.ref 67, .int x3] [] (w1 σ 67 4 x3) _
                    rw [← eτ17]
                    replace h := h τ17 eτ17
                    refine x_vret dX5_fail_12 rfl ?_
                    show X none (d + 1) mX5_readNumber 162 [.ref 67, .int x1, .int x2, .int x3, .int x4, .int x5, .int x4] [] τ17 _
                    refine x_iload_n (pc' := 163) dX5_readNumber_162 rfl rfl rfl ?_
                    exact x_iret dX5_readNumber_163 rfl rfl h
          · replace h := h.2 hc
            refine x_iload (pc' := 129) dX5_readNumber_127 rfl rfl ?_
            refine x_ineg (pc' := 130) dX5_readNumber_129 rfl ?_
            refine x_goto (pc' := 135) dX5_readNumber_130 (by decide) ?_
            refine x_istore (pc' := 137) dX5_readNumber_135 rfl (by decide) rfl (ls' := [.ref 67, .int x1, .int x2, .int x3, .int x4, .int x5, .int (-x4)]) rfl ?_
            refine x_iload (pc' := 139) dX5_readNumber_137 rfl rfl ?_
            refine x_iconst (pc' := 140) (v := 3) dX5_readNumber_139 rfl (by decide) ?_
            refine x_icmp_gt (pc' := 143) (tgt := 157) dX5_readNumber_140 (by decide) rfl (fun hc => ?_) (fun hc => ?_)
            · replace h := h.1 hc
              refine x_aload_n (pc' := 158) dX5_readNumber_157 rfl rfl rfl ?_
              refine x_iload_n (pc' := 159) dX5_readNumber_158 rfl rfl rfl ?_
              refine x_callV (pc' := 162) (As := [.int x3]) dX5_readNumber_159 rfl lmX5_46 kd_67 rfl rfl (Nat.le_of_ble_eq_true rfl) (Nat.le_of_ble_eq_true rfl) ?_
              show X none d mX5_fail 0 [.ref 67, .int x3] [] σ _
              refine x_aload_n (pc' := 1) dX5_fail_0 rfl rfl rfl ?_
              refine x_geti (pc' := 4) dX5_fail_1 rfl lfX5_29 kd_67 rfl ?_
              refine x_if_ge (pc' := 7) (tgt := 12) dX5_fail_4 (by decide) rfl (fun hc => ?_) (fun hc => ?_)
              · replace h := h.1 hc
                refine x_vret dX5_fail_12 rfl ?_
                show X none (d + 1) mX5_readNumber 162 [.ref 67, .int x1, .int x2, .int x3, .int x4, .int x5, .int (-x4)] [] σ _
                refine x_iload_n (pc' := 163) dX5_readNumber_162 rfl rfl rfl ?_
                exact x_iret dX5_readNumber_163 rfl rfl h
              · replace h := h.2 hc
                refine x_aload_n (pc' := 8) dX5_fail_7 rfl rfl rfl ?_
                refine x_iload_n (pc' := 9) dX5_fail_8 rfl rfl rfl ?_
                refine x_puti (pc' := 12) dX5_fail_9 rfl lfX5_29 kd_67 rfl rfl rfl ?_
                obtain ⟨τ18, eτ18⟩ : ∃ τ : Mem, τ = (w1 σ 67 4 x3) := ⟨_, rfl⟩
                show X none d mX5_fail 12 [.ref 67, .int x3] [] (w1 σ 67 4 x3) _
                rw [← eτ18]
                replace h := h τ18 eτ18
                refine x_vret dX5_fail_12 rfl ?_
                show X none (d + 1) mX5_readNumber 162 [.ref 67, .int x1, .int x2, .int x3, .int x4, .int x5, .int (-x4)] [] τ18 _
                refine x_iload_n (pc' := 163) dX5_readNumber_162 rfl rfl rfl ?_
                exact x_iret dX5_readNumber_163 rfl rfl h
            · replace h := h.2 hc
              refine x_iload (pc' := 145) dX5_readNumber_143 rfl rfl ?_
              refine x_iload_n (pc' := 146) dX5_readNumber_145 rfl rfl rfl ?_
              refine x_icmp_lt (pc' := 149) (tgt := 157) dX5_readNumber_146 (by decide) rfl (fun hc => ?_) (fun hc => ?_)
              · replace h := h.1 hc
                refine x_aload_n (pc' := 158) dX5_readNumber_157 rfl rfl rfl ?_
                refine x_iload_n (pc' := 159) dX5_readNumber_158 rfl rfl rfl ?_
                refine x_callV (pc' := 162) (As := [.int x3]) dX5_readNumber_159 rfl lmX5_46 kd_67 rfl rfl (Nat.le_of_ble_eq_true rfl) (Nat.le_of_ble_eq_true rfl) ?_
                show X none d mX5_fail 0 [.ref 67, .int x3] [] σ _
                refine x_aload_n (pc' := 1) dX5_fail_0 rfl rfl rfl ?_
                refine x_geti (pc' := 4) dX5_fail_1 rfl lfX5_29 kd_67 rfl ?_
                refine x_if_ge (pc' := 7) (tgt := 12) dX5_fail_4 (by decide) rfl (fun hc => ?_) (fun hc => ?_)
                · replace h := h.1 hc
                  refine x_vret dX5_fail_12 rfl ?_
                  show X none (d + 1) mX5_readNumber 162 [.ref 67, .int x1, .int x2, .int x3, .int x4, .int x5, .int (-x4)] [] σ _
                  refine x_iload_n (pc' := 163) dX5_readNumber_162 rfl rfl rfl ?_
                  exact x_iret dX5_readNumber_163 rfl rfl h
                · replace h := h.2 hc
                  refine x_aload_n (pc' := 8) dX5_fail_7 rfl rfl rfl ?_
                  refine x_iload_n (pc' := 9) dX5_fail_8 rfl rfl rfl ?_
                  refine x_puti (pc' := 12) dX5_fail_9 rfl lfX5_29 kd_67 rfl rfl rfl ?_
                  obtain ⟨τ19, eτ19⟩ : ∃ τ : Mem, τ = (w1 σ 67 4 x3) := ⟨_, rfl⟩
                  show X none d mX5_fail 12 [.ref 67, .int x3] [] (w1 σ 67 4 x3) _
                  rw [← eτ19]
                  replace h := h τ19 eτ19
                  refine x_vret dX5_fail_12 rfl ?_
                  show X none (d + 1) mX5_readNumber 162 [.ref 67, .int x1, .int x2, .int x3, .int x4, .int x5, .int (-x4)] [] τ19 _
                  refine x_iload_n (pc' := 163) dX5_readNumber_162 rfl rfl rfl ?_
                  exact x_iret dX5_readNumber_163 rfl rfl h
              · replace h := h.2 hc
                refine x_iload (pc' := 151) dX5_readNumber_149 rfl rfl ?_
                refine x_sipush (pc' := 154) (v := 500) dX5_readNumber_151 rfl (by decide) ?_
                refine x_icmp_le (pc' := 157) (tgt := 164) dX5_readNumber_154 (by decide) rfl (fun hc => ?_) (fun hc => ?_)
                · replace h := h.1 hc
                  refine x_iload (pc' := 166) dX5_readNumber_164 rfl rfl ?_
                  exact x_iret dX5_readNumber_166 rfl rfl h
                · replace h := h.2 hc
                  refine x_aload_n (pc' := 158) dX5_readNumber_157 rfl rfl rfl ?_
                  refine x_iload_n (pc' := 159) dX5_readNumber_158 rfl rfl rfl ?_
                  refine x_callV (pc' := 162) (As := [.int x3]) dX5_readNumber_159 rfl lmX5_46 kd_67 rfl rfl (Nat.le_of_ble_eq_true rfl) (Nat.le_of_ble_eq_true rfl) ?_
                  show X none d mX5_fail 0 [.ref 67, .int x3] [] σ _
                  refine x_aload_n (pc' := 1) dX5_fail_0 rfl rfl rfl ?_
                  refine x_geti (pc' := 4) dX5_fail_1 rfl lfX5_29 kd_67 rfl ?_
                  refine x_if_ge (pc' := 7) (tgt := 12) dX5_fail_4 (by decide) rfl (fun hc => ?_) (fun hc => ?_)
                  · replace h := h.1 hc
                    refine x_vret dX5_fail_12 rfl ?_
                    show X none (d + 1) mX5_readNumber 162 [.ref 67, .int x1, .int x2, .int x3, .int x4, .int x5, .int (-x4)] [] σ _
                    refine x_iload_n (pc' := 163) dX5_readNumber_162 rfl rfl rfl ?_
                    exact x_iret dX5_readNumber_163 rfl rfl h
                  · replace h := h.2 hc
                    refine x_aload_n (pc' := 8) dX5_fail_7 rfl rfl rfl ?_
                    refine x_iload_n (pc' := 9) dX5_fail_8 rfl rfl rfl ?_
                    refine x_puti (pc' := 12) dX5_fail_9 rfl lfX5_29 kd_67 rfl rfl rfl ?_
                    obtain ⟨τ20, eτ20⟩ : ∃ τ : Mem, τ = (w1 σ 67 4 x3) := ⟨_, rfl⟩
                    show X none d mX5_fail 12 [.ref 67, .int x3] [] (w1 σ 67 4 x3) _
                    rw [← eτ20]
                    replace h := h τ20 eτ20
                    refine x_vret dX5_fail_12 rfl ?_
                    show X none (d + 1) mX5_readNumber 162 [.ref 67, .int x1, .int x2, .int x3, .int x4, .int x5, .int (-x4)] [] τ20 _
                    refine x_iload_n (pc' := 163) dX5_readNumber_162 rfl rfl rfl ?_
                    exact x_iret dX5_readNumber_163 rfl rfl h
        · replace h := h.2 hc
          refine x_aload_n (pc' := 114) dX5_readNumber_113 rfl rfl rfl ?_
          refine x_aload_n (pc' := 115) dX5_readNumber_114 rfl rfl rfl ?_
          refine x_geti (pc' := 118) dX5_readNumber_115 rfl lfX5_26 kd_67 rfl ?_
          refine x_callV (pc' := 121) (As := [.int (σ.1 67 3)]) dX5_readNumber_118 rfl lmX5_46 kd_67 rfl rfl (Nat.le_of_ble_eq_true rfl) (Nat.le_of_ble_eq_true rfl) ?_
          show X none d mX5_fail 0 [.ref 67, .int (σ.1 67 3)] [] σ _
          refine x_aload_n (pc' := 1) dX5_fail_0 rfl rfl rfl ?_
          refine x_geti (pc' := 4) dX5_fail_1 rfl lfX5_29 kd_67 rfl ?_
          refine x_if_ge (pc' := 7) (tgt := 12) dX5_fail_4 (by decide) rfl (fun hc => ?_) (fun hc => ?_)
          · replace h := h.1 hc
            refine x_vret dX5_fail_12 rfl ?_
            show X none (d + 1) mX5_readNumber 121 [.ref 67, .int x1, .int x2, .int x3, .int x4, .int x5, Unk] [] σ _
            refine x_iload_n (pc' := 122) dX5_readNumber_121 rfl rfl rfl ?_
            exact x_iret dX5_readNumber_122 rfl rfl h
          · replace h := h.2 hc
            refine x_aload_n (pc' := 8) dX5_fail_7 rfl rfl rfl ?_
            refine x_iload_n (pc' := 9) dX5_fail_8 rfl rfl rfl ?_
            refine x_puti (pc' := 12) dX5_fail_9 rfl lfX5_29 kd_67 rfl rfl rfl ?_
            obtain ⟨τ21, eτ21⟩ : ∃ τ : Mem, τ = (w1 σ 67 4 (σ.1 67 3)) := ⟨_, rfl⟩
            show X none d mX5_fail 12 [.ref 67, .int (σ.1 67 3)] [] (w1 σ 67 4 (σ.1 67 3)) _
            rw [← eτ21]
            replace h := h τ21 eτ21
            refine x_vret dX5_fail_12 rfl ?_
            show X none (d + 1) mX5_readNumber 121 [.ref 67, .int x1, .int x2, .int x3, .int x4, .int x5, Unk] [] τ21 _
            refine x_iload_n (pc' := 122) dX5_readNumber_121 rfl rfl rfl ?_
            exact x_iret dX5_readNumber_122 rfl rfl h
      · replace h := h.2 hc
        refine x_iconst (pc' := 13) (v := 1) dX5_isFigure_12 rfl (by decide) ?_
        refine x_goto (pc' := 17) dX5_isFigure_13 (by decide) ?_
        refine x_iret dX5_isFigure_17 rfl rfl ?_
        show X none (d + 1) mX5_readNumber 63 [.ref 67, .int x1, .int x2, .int x3, .int x4, .int x5, Unk] [.int 1] σ _
        refine x_if_eq (pc' := 66) (tgt := 108) dX5_readNumber_63 (by decide) rfl (fun hc => absurd hc (by decide)) (fun _ => ?_)
        refine x_iload (pc' := 68) dX5_readNumber_66 rfl rfl ?_
        refine x_iconst (pc' := 69) (v := 3) dX5_readNumber_68 rfl (by decide) ?_
        refine x_icmp_ge (pc' := 72) (tgt := 92) dX5_readNumber_69 (by decide) rfl (fun hc => ?_) (fun hc => ?_)
        · replace h := h.1 hc
          refine x_iinc (pc' := 95) (v := 1) dX5_readNumber_92 rfl (by decide) rfl rfl (by decide) (ls' := [.ref 67, .int x1, .int x2, .int x3, .int x4, .int (x5 + 1), Unk]) rfl ?_
          refine x_aload_n (pc' := 96) dX5_readNumber_95 rfl rfl rfl ?_
          refine x_dup (pc' := 97) dX5_readNumber_96 rfl rfl ?_
          refine x_geti (pc' := 100) dX5_readNumber_97 rfl lfX5_26 kd_67 rfl ?_
          refine x_iconst (pc' := 101) (v := 1) dX5_readNumber_100 rfl (by decide) ?_
          refine x_iadd (pc' := 102) dX5_readNumber_101 rfl ?_
          refine x_puti (pc' := 105) dX5_readNumber_102 rfl lfX5_26 kd_67 rfl rfl rfl ?_
          obtain ⟨τ22, eτ22⟩ : ∃ τ : Mem, τ = (w1 σ 67 3 ((σ.1 67 3) + 1)) := ⟨_, rfl⟩
          show X none (d + 1) mX5_readNumber 105 [.ref 67, .int x1, .int x2, .int x3, .int x4, .int (x5 + 1), Unk] [] (w1 σ 67 3 ((σ.1 67 3) + 1)) _
          rw [← eτ22]
          replace h := h τ22 eτ22
          refine x_goto (pc' := 40) dX5_readNumber_105 (by decide) ?_
          exact h
        · replace h := h.2 hc
          refine x_bipush (pc' := 74) (v := 10) dX5_readNumber_72 rfl (by decide) ?_
          refine x_iload (pc' := 76) dX5_readNumber_74 rfl rfl ?_
          refine x_imul (pc' := 77) dX5_readNumber_76 rfl ?_
          refine x_aload_n (pc' := 78) dX5_readNumber_77 rfl rfl rfl ?_
          refine x_getr (pc' := 81) dX5_readNumber_78 rfl lfX5_9 kd_67 rfl rf_67_0 ?_
          refine x_aload_n (pc' := 82) dX5_readNumber_81 rfl rfl rfl ?_
          refine x_geti (pc' := 85) dX5_readNumber_82 rfl lfX5_26 kd_67 rfl ?_
          obtain ⟨hb, h⟩ := h
          refine x_iald (pc' := 86) dX5_readNumber_85 rfl kd_68 (by rw [ln_68]; exact hb) ?_
          refine x_iadd (pc' := 87) dX5_readNumber_86 rfl ?_
          refine x_bipush (pc' := 89) (v := 48) dX5_readNumber_87 rfl (by decide) ?_
          refine x_isub (pc' := 90) dX5_readNumber_89 rfl ?_
          refine x_istore (pc' := 92) dX5_readNumber_90 rfl (by decide) rfl (ls' := [.ref 67, .int x1, .int x2, .int x3, .int (((10 * x4) + (σ.1 68 (σ.1 67 3).toNatClampNeg)) - 48), .int x5, Unk]) rfl ?_
          refine x_iinc (pc' := 95) (v := 1) dX5_readNumber_92 rfl (by decide) rfl rfl (by decide) (ls' := [.ref 67, .int x1, .int x2, .int x3, .int (((10 * x4) + (σ.1 68 (σ.1 67 3).toNatClampNeg)) - 48), .int (x5 + 1), Unk]) rfl ?_
          refine x_aload_n (pc' := 96) dX5_readNumber_95 rfl rfl rfl ?_
          refine x_dup (pc' := 97) dX5_readNumber_96 rfl rfl ?_
          refine x_geti (pc' := 100) dX5_readNumber_97 rfl lfX5_26 kd_67 rfl ?_
          refine x_iconst (pc' := 101) (v := 1) dX5_readNumber_100 rfl (by decide) ?_
          refine x_iadd (pc' := 102) dX5_readNumber_101 rfl ?_
          refine x_puti (pc' := 105) dX5_readNumber_102 rfl lfX5_26 kd_67 rfl rfl rfl ?_
          obtain ⟨τ23, eτ23⟩ : ∃ τ : Mem, τ = (w1 σ 67 3 ((σ.1 67 3) + 1)) := ⟨_, rfl⟩
          show X none (d + 1) mX5_readNumber 105 [.ref 67, .int x1, .int x2, .int x3, .int (((10 * x4) + (σ.1 68 (σ.1 67 3).toNatClampNeg)) - 48), .int (x5 + 1), Unk] [] (w1 σ 67 3 ((σ.1 67 3) + 1)) _
          rw [← eτ23]
          replace h := h τ23 eτ23
          refine x_goto (pc' := 40) dX5_readNumber_105 (by decide) ?_
          exact h
set_option maxRecDepth 100000 in
set_option maxHeartbeats 4000000 in
theorem vX5_readRectangle_0 {d : Nat} {σ : Mem} {Q : Option Value → Mem → Prop} 
    (h : (X none (d + 1) mX5_expect 0 [.ref 67, .int 91] [] σ (fun r τ1 => r = none ∧ (X none (d + 1) mX5_readNumber 0 [.ref 67, .int (-500), Unk, Unk, Unk, Unk, Unk] [] τ1 (fun r τ2 => ∃ u3 : Int32, r = some (.int u3) ∧ (X none (d + 1) mX5_expect 0 [.ref 67, .int 44] [] τ2 (fun r τ4 => r = none ∧ (X none (d + 1) mX5_readNumber 0 [.ref 67, .int u3, Unk, Unk, Unk, Unk, Unk] [] τ4 (fun r τ5 => ∃ u6 : Int32, r = some (.int u6) ∧ (X none (d + 1) mX5_expect 0 [.ref 67, .int 44] [] τ5 (fun r τ7 => r = none ∧ (X none (d + 1) mX5_readNumber 0 [.ref 67, .int (-500), Unk, Unk, Unk, Unk, Unk] [] τ7 (fun r τ8 => ∃ u9 : Int32, r = some (.int u9) ∧ (X none (d + 1) mX5_expect 0 [.ref 67, .int 44] [] τ8 (fun r τ10 => r = none ∧ (X none (d + 1) mX5_readNumber 0 [.ref 67, .int u9, Unk, Unk, Unk, Unk, Unk] [] τ10 (fun r τ11 => ∃ u12 : Int32, r = some (.int u12) ∧ (X none (d + 1) mX5_expect 0 [.ref 67, .int 93] [] τ11 (fun r τ13 => r = none ∧ ((0 ≤ (τ13.1 67 4) → Q (none) τ13) ∧ (¬ 0 ≤ (τ13.1 67 4) → (X none (d + 1) mX6_addRectangle 0 [.ref 69, .int u3, .int u6, .int u9, .int u12, Unk] [] τ13 (fun r τ14 => r = none ∧ Q (none) τ14))))))))))))))))))))))) :
    X none (d + 2) mX5_readRectangle 0 [.ref 67, Unk, Unk, Unk, Unk] [] σ Q := by
  refine x_aload_n (pc' := 1) dX5_readRectangle_0 rfl rfl rfl ?_
  refine x_bipush (pc' := 3) (v := 91) dX5_readRectangle_1 rfl (by decide) ?_
  refine x_callV (pc' := 6) (As := [.int 91]) dX5_readRectangle_3 rfl lmX5_39 kd_67 rfl rfl (Nat.le_of_ble_eq_true rfl) (Nat.le_of_ble_eq_true rfl) ?_
  show X none (d + 1) mX5_expect 0 [.ref 67, .int 91] [] σ _
  refine X.mono h ?_
  rintro r τ1 ⟨rfl, h⟩
  show X none (d + 2) mX5_readRectangle 6 [.ref 67, Unk, Unk, Unk, Unk] [] τ1 _
  refine x_aload_n (pc' := 7) dX5_readRectangle_6 rfl rfl rfl ?_
  refine x_sipush (pc' := 10) (v := (-500)) dX5_readRectangle_7 rfl (by decide) ?_
  refine x_callV (pc' := 13) (As := [.int (-500)]) dX5_readRectangle_10 rfl lmX5_61 kd_67 rfl rfl (Nat.le_of_ble_eq_true rfl) (Nat.le_of_ble_eq_true rfl) ?_
  show X none (d + 1) mX5_readNumber 0 [.ref 67, .int (-500), Unk, Unk, Unk, Unk, Unk] [] τ1 _
  refine X.mono h ?_
  rintro r τ2 ⟨u3, rfl, h⟩
  show X none (d + 2) mX5_readRectangle 13 [.ref 67, Unk, Unk, Unk, Unk] [.int u3] τ2 _
  refine x_istore_n (pc' := 14) dX5_readRectangle_13 rfl rfl (by decide) rfl (ls' := [.ref 67, .int u3, Unk, Unk, Unk]) rfl ?_
  refine x_aload_n (pc' := 15) dX5_readRectangle_14 rfl rfl rfl ?_
  refine x_bipush (pc' := 17) (v := 44) dX5_readRectangle_15 rfl (by decide) ?_
  refine x_callV (pc' := 20) (As := [.int 44]) dX5_readRectangle_17 rfl lmX5_39 kd_67 rfl rfl (Nat.le_of_ble_eq_true rfl) (Nat.le_of_ble_eq_true rfl) ?_
  show X none (d + 1) mX5_expect 0 [.ref 67, .int 44] [] τ2 _
  refine X.mono h ?_
  rintro r τ4 ⟨rfl, h⟩
  show X none (d + 2) mX5_readRectangle 20 [.ref 67, .int u3, Unk, Unk, Unk] [] τ4 _
  refine x_aload_n (pc' := 21) dX5_readRectangle_20 rfl rfl rfl ?_
  refine x_iload_n (pc' := 22) dX5_readRectangle_21 rfl rfl rfl ?_
  refine x_callV (pc' := 25) (As := [.int u3]) dX5_readRectangle_22 rfl lmX5_61 kd_67 rfl rfl (Nat.le_of_ble_eq_true rfl) (Nat.le_of_ble_eq_true rfl) ?_
  show X none (d + 1) mX5_readNumber 0 [.ref 67, .int u3, Unk, Unk, Unk, Unk, Unk] [] τ4 _
  refine X.mono h ?_
  rintro r τ5 ⟨u6, rfl, h⟩
  show X none (d + 2) mX5_readRectangle 25 [.ref 67, .int u3, Unk, Unk, Unk] [.int u6] τ5 _
  refine x_istore_n (pc' := 26) dX5_readRectangle_25 rfl rfl (by decide) rfl (ls' := [.ref 67, .int u3, .int u6, Unk, Unk]) rfl ?_
  refine x_aload_n (pc' := 27) dX5_readRectangle_26 rfl rfl rfl ?_
  refine x_bipush (pc' := 29) (v := 44) dX5_readRectangle_27 rfl (by decide) ?_
  refine x_callV (pc' := 32) (As := [.int 44]) dX5_readRectangle_29 rfl lmX5_39 kd_67 rfl rfl (Nat.le_of_ble_eq_true rfl) (Nat.le_of_ble_eq_true rfl) ?_
  show X none (d + 1) mX5_expect 0 [.ref 67, .int 44] [] τ5 _
  refine X.mono h ?_
  rintro r τ7 ⟨rfl, h⟩
  show X none (d + 2) mX5_readRectangle 32 [.ref 67, .int u3, .int u6, Unk, Unk] [] τ7 _
  refine x_aload_n (pc' := 33) dX5_readRectangle_32 rfl rfl rfl ?_
  refine x_sipush (pc' := 36) (v := (-500)) dX5_readRectangle_33 rfl (by decide) ?_
  refine x_callV (pc' := 39) (As := [.int (-500)]) dX5_readRectangle_36 rfl lmX5_61 kd_67 rfl rfl (Nat.le_of_ble_eq_true rfl) (Nat.le_of_ble_eq_true rfl) ?_
  show X none (d + 1) mX5_readNumber 0 [.ref 67, .int (-500), Unk, Unk, Unk, Unk, Unk] [] τ7 _
  refine X.mono h ?_
  rintro r τ8 ⟨u9, rfl, h⟩
  show X none (d + 2) mX5_readRectangle 39 [.ref 67, .int u3, .int u6, Unk, Unk] [.int u9] τ8 _
  refine x_istore_n (pc' := 40) dX5_readRectangle_39 rfl rfl (by decide) rfl (ls' := [.ref 67, .int u3, .int u6, .int u9, Unk]) rfl ?_
  refine x_aload_n (pc' := 41) dX5_readRectangle_40 rfl rfl rfl ?_
  refine x_bipush (pc' := 43) (v := 44) dX5_readRectangle_41 rfl (by decide) ?_
  refine x_callV (pc' := 46) (As := [.int 44]) dX5_readRectangle_43 rfl lmX5_39 kd_67 rfl rfl (Nat.le_of_ble_eq_true rfl) (Nat.le_of_ble_eq_true rfl) ?_
  show X none (d + 1) mX5_expect 0 [.ref 67, .int 44] [] τ8 _
  refine X.mono h ?_
  rintro r τ10 ⟨rfl, h⟩
  show X none (d + 2) mX5_readRectangle 46 [.ref 67, .int u3, .int u6, .int u9, Unk] [] τ10 _
  refine x_aload_n (pc' := 47) dX5_readRectangle_46 rfl rfl rfl ?_
  refine x_iload_n (pc' := 48) dX5_readRectangle_47 rfl rfl rfl ?_
  refine x_callV (pc' := 51) (As := [.int u9]) dX5_readRectangle_48 rfl lmX5_61 kd_67 rfl rfl (Nat.le_of_ble_eq_true rfl) (Nat.le_of_ble_eq_true rfl) ?_
  show X none (d + 1) mX5_readNumber 0 [.ref 67, .int u9, Unk, Unk, Unk, Unk, Unk] [] τ10 _
  refine X.mono h ?_
  rintro r τ11 ⟨u12, rfl, h⟩
  show X none (d + 2) mX5_readRectangle 51 [.ref 67, .int u3, .int u6, .int u9, Unk] [.int u12] τ11 _
  refine x_istore (pc' := 53) dX5_readRectangle_51 rfl (by decide) rfl (ls' := [.ref 67, .int u3, .int u6, .int u9, .int u12]) rfl ?_
  refine x_aload_n (pc' := 54) dX5_readRectangle_53 rfl rfl rfl ?_
  refine x_bipush (pc' := 56) (v := 93) dX5_readRectangle_54 rfl (by decide) ?_
  refine x_callV (pc' := 59) (As := [.int 93]) dX5_readRectangle_56 rfl lmX5_39 kd_67 rfl rfl (Nat.le_of_ble_eq_true rfl) (Nat.le_of_ble_eq_true rfl) ?_
  show X none (d + 1) mX5_expect 0 [.ref 67, .int 93] [] τ11 _
  refine X.mono h ?_
  rintro r τ13 ⟨rfl, h⟩
  show X none (d + 2) mX5_readRectangle 59 [.ref 67, .int u3, .int u6, .int u9, .int u12] [] τ13 _
  refine x_aload_n (pc' := 60) dX5_readRectangle_59 rfl rfl rfl ?_
  refine x_geti (pc' := 63) dX5_readRectangle_60 rfl lfX5_29 kd_67 rfl ?_
  refine x_if_ge (pc' := 66) (tgt := 78) dX5_readRectangle_63 (by decide) rfl (fun hc => ?_) (fun hc => ?_)
  · replace h := h.1 hc
    exact x_vret dX5_readRectangle_78 rfl h
  · replace h := h.2 hc
    refine x_aload_n (pc' := 67) dX5_readRectangle_66 rfl rfl rfl ?_
    refine x_getr (pc' := 70) dX5_readRectangle_67 rfl lfX5_18 kd_67 rfl rf_67_1 ?_
    refine x_iload_n (pc' := 71) dX5_readRectangle_70 rfl rfl rfl ?_
    refine x_iload_n (pc' := 72) dX5_readRectangle_71 rfl rfl rfl ?_
    refine x_iload_n (pc' := 73) dX5_readRectangle_72 rfl rfl rfl ?_
    refine x_iload (pc' := 75) dX5_readRectangle_73 rfl rfl ?_
    refine x_callV (pc' := 78) (As := [.int u3, .int u6, .int u9, .int u12]) dX5_readRectangle_75 rfl lmX5_65 (OKS.k okS_69) rfl rfl (Nat.le_of_ble_eq_true rfl) (Nat.le_of_ble_eq_true rfl) ?_
    show X none (d + 1) mX6_addRectangle 0 [.ref 69, .int u3, .int u6, .int u9, .int u12, Unk] [] τ13 _
    refine X.mono h ?_
    rintro r τ14 ⟨rfl, h⟩
    show X none (d + 2) mX5_readRectangle 78 [.ref 67, .int u3, .int u6, .int u9, .int u12] [] τ14 _
    exact x_vret dX5_readRectangle_78 rfl h
set_option maxRecDepth 100000 in
set_option maxHeartbeats 4000000 in
theorem vX5_readSpot_0 {d : Nat} {σ : Mem} {Q : Option Value → Mem → Prop} {x1 : Int32} 
    (h : (X none (d + 3) mX5_nextSign 0 [.ref 67] [] σ (fun r τ1 => ∃ u2 : Int32, r = some (.int u2) ∧ ((¬ u2 = 91 → ((¬ u2 = 40 → ((¬ u2 = 33 → ((0 ≤ (τ1.1 67 4) → Q (none) τ1) ∧ (¬ 0 ≤ (τ1.1 67 4) → (∀ τ3 : Mem, τ3 = (w1 τ1 67 4 (τ1.1 67 3)) → Q (none) τ3)))) ∧ (u2 = 33 → ((12 ≤ x1 → ((0 ≤ (τ1.1 67 4) → Q (none) τ1) ∧ (¬ 0 ≤ (τ1.1 67 4) → (∀ τ4 : Mem, τ4 = (w1 τ1 67 4 (τ1.1 67 3)) → Q (none) τ4)))) ∧ (¬ 12 ≤ x1 → (∀ τ5 : Mem, τ5 = (w1 τ1 67 3 ((τ1.1 67 3) + 1)) → (X none (d + 3) mX5_readSpot 0 [.ref 67, .int (x1 + 1), Unk] [] τ5 (fun r τ6 => r = none ∧ ((120 ≤ (τ6.1 69 2) → Q (none) τ6) ∧ (¬ 120 ≤ (τ6.1 69 2) → (vp_in (τ6.1 69 2) 120 ∧ (∀ τ7 : Mem, τ7 = (w1 τ6 70 (τ6.1 69 2).toNatClampNeg (-1)) → (∀ τ8 : Mem, τ8 = (w1 τ7 69 2 ((τ7.1 69 2) + 1)) → Q (none) τ8))))))))))))) ∧ (u2 = 40 → ((12 ≤ x1 → ((¬ u2 = 33 → ((0 ≤ (τ1.1 67 4) → Q (none) τ1) ∧ (¬ 0 ≤ (τ1.1 67 4) → (∀ τ9 : Mem, τ9 = (w1 τ1 67 4 (τ1.1 67 3)) → Q (none) τ9)))) ∧ (u2 = 33 → ((12 ≤ x1 → ((0 ≤ (τ1.1 67 4) → Q (none) τ1) ∧ (¬ 0 ≤ (τ1.1 67 4) → (∀ τ10 : Mem, τ10 = (w1 τ1 67 4 (τ1.1 67 3)) → Q (none) τ10)))) ∧ (¬ 12 ≤ x1 → (∀ τ11 : Mem, τ11 = (w1 τ1 67 3 ((τ1.1 67 3) + 1)) → (X none (d + 3) mX5_readSpot 0 [.ref 67, .int (x1 + 1), Unk] [] τ11 (fun r τ12 => r = none ∧ ((120 ≤ (τ12.1 69 2) → Q (none) τ12) ∧ (¬ 120 ≤ (τ12.1 69 2) → (vp_in (τ12.1 69 2) 120 ∧ (∀ τ13 : Mem, τ13 = (w1 τ12 70 (τ12.1 69 2).toNatClampNeg (-1)) → (∀ τ14 : Mem, τ14 = (w1 τ13 69 2 ((τ13.1 69 2) + 1)) → Q (none) τ14))))))))))))) ∧ (¬ 12 ≤ x1 → (∀ τ15 : Mem, τ15 = (w1 τ1 67 3 ((τ1.1 67 3) + 1)) → (X none (d + 3) mX5_readArea 0 [.ref 67, .int (x1 + 1), Unk, Unk] [] τ15 (fun r τ16 => r = none ∧ (X none (d + 3) mX5_expect 0 [.ref 67, .int 41] [] τ16 (fun r τ17 => r = none ∧ Q (none) τ17)))))))))) ∧ (u2 = 91 → (X none (d + 3) mX5_readRectangle 0 [.ref 67, Unk, Unk, Unk, Unk] [] τ1 (fun r τ18 => r = none ∧ Q (none) τ18))))))) :
    X none (d + 4) mX5_readSpot 0 [.ref 67, .int x1, Unk] [] σ Q := by
  refine x_aload_n (pc' := 1) dX5_readSpot_0 rfl rfl rfl ?_
  refine x_callV (pc' := 4) (As := []) dX5_readSpot_1 rfl lmX5_42 kd_67 rfl rfl (Nat.le_of_ble_eq_true rfl) (Nat.le_of_ble_eq_true rfl) ?_
  show X none (d + 3) mX5_nextSign 0 [.ref 67] [] σ _
  refine X.mono h ?_
  rintro r τ1 ⟨u2, rfl, h⟩
  show X none (d + 4) mX5_readSpot 4 [.ref 67, .int x1, Unk] [.int u2] τ1 _
  refine x_istore_n (pc' := 5) dX5_readSpot_4 rfl rfl (by decide) rfl (ls' := [.ref 67, .int x1, .int u2]) rfl ?_
  refine x_iload_n (pc' := 6) dX5_readSpot_5 rfl rfl rfl ?_
  refine x_bipush (pc' := 8) (v := 91) dX5_readSpot_6 rfl (by decide) ?_
  refine x_icmp_ne (pc' := 11) (tgt := 18) dX5_readSpot_8 (by decide) rfl (fun hc => ?_) (fun hc => ?_)
  · replace h := h.1 hc
    refine x_iload_n (pc' := 19) dX5_readSpot_18 rfl rfl rfl ?_
    refine x_bipush (pc' := 21) (v := 40) dX5_readSpot_19 rfl (by decide) ?_
    refine x_icmp_ne (pc' := 24) (tgt := 56) dX5_readSpot_21 (by decide) rfl (fun hc => ?_) (fun hc => ?_)
    · replace h := h.1 hc
      refine x_iload_n (pc' := 57) dX5_readSpot_56 rfl rfl rfl ?_
      refine x_bipush (pc' := 59) (v := 33) dX5_readSpot_57 rfl (by decide) ?_
      refine x_icmp_ne (pc' := 62) (tgt := 96) dX5_readSpot_59 (by decide) rfl (fun hc => ?_) (fun hc => ?_)
      · replace h := h.1 hc
        refine x_aload_n (pc' := 97) dX5_readSpot_96 rfl rfl rfl ?_
        refine x_aload_n (pc' := 98) dX5_readSpot_97 rfl rfl rfl ?_
        refine x_geti (pc' := 101) dX5_readSpot_98 rfl lfX5_26 kd_67 rfl ?_
        refine x_callV (pc' := 104) (As := [.int (τ1.1 67 3)]) dX5_readSpot_101 rfl lmX5_46 kd_67 rfl rfl (Nat.le_of_ble_eq_true rfl) (Nat.le_of_ble_eq_true rfl) ?_
        show X none (d + 3) mX5_fail 0 [.ref 67, .int (τ1.1 67 3)] [] τ1 _
        refine x_aload_n (pc' := 1) dX5_fail_0 rfl rfl rfl ?_
        refine x_geti (pc' := 4) dX5_fail_1 rfl lfX5_29 kd_67 rfl ?_
        refine x_if_ge (pc' := 7) (tgt := 12) dX5_fail_4 (by decide) rfl (fun hc => ?_) (fun hc => ?_)
        · replace h := h.1 hc
          refine x_vret dX5_fail_12 rfl ?_
          show X none (d + 4) mX5_readSpot 104 [.ref 67, .int x1, .int u2] [] τ1 _
          exact x_vret dX5_readSpot_104 rfl h
        · replace h := h.2 hc
          refine x_aload_n (pc' := 8) dX5_fail_7 rfl rfl rfl ?_
          refine x_iload_n (pc' := 9) dX5_fail_8 rfl rfl rfl ?_
          refine x_puti (pc' := 12) dX5_fail_9 rfl lfX5_29 kd_67 rfl rfl rfl ?_
          obtain ⟨τ3, eτ3⟩ : ∃ τ : Mem, τ = (w1 τ1 67 4 (τ1.1 67 3)) := ⟨_, rfl⟩
          show X none (d + 3) mX5_fail 12 [.ref 67, .int (τ1.1 67 3)] [] (w1 τ1 67 4 (τ1.1 67 3)) _
          rw [← eτ3]
          replace h := h τ3 eτ3
          refine x_vret dX5_fail_12 rfl ?_
          show X none (d + 4) mX5_readSpot 104 [.ref 67, .int x1, .int u2] [] τ3 _
          exact x_vret dX5_readSpot_104 rfl h
      · replace h := h.2 hc
        refine x_iload_n (pc' := 63) dX5_readSpot_62 rfl rfl rfl ?_
        refine x_bipush (pc' := 65) (v := 12) dX5_readSpot_63 rfl (by decide) ?_
        refine x_icmp_ge (pc' := 68) (tgt := 96) dX5_readSpot_65 (by decide) rfl (fun hc => ?_) (fun hc => ?_)
        · replace h := h.1 hc
          refine x_aload_n (pc' := 97) dX5_readSpot_96 rfl rfl rfl ?_
          refine x_aload_n (pc' := 98) dX5_readSpot_97 rfl rfl rfl ?_
          refine x_geti (pc' := 101) dX5_readSpot_98 rfl lfX5_26 kd_67 rfl ?_
          refine x_callV (pc' := 104) (As := [.int (τ1.1 67 3)]) dX5_readSpot_101 rfl lmX5_46 kd_67 rfl rfl (Nat.le_of_ble_eq_true rfl) (Nat.le_of_ble_eq_true rfl) ?_
          show X none (d + 3) mX5_fail 0 [.ref 67, .int (τ1.1 67 3)] [] τ1 _
          refine x_aload_n (pc' := 1) dX5_fail_0 rfl rfl rfl ?_
          refine x_geti (pc' := 4) dX5_fail_1 rfl lfX5_29 kd_67 rfl ?_
          refine x_if_ge (pc' := 7) (tgt := 12) dX5_fail_4 (by decide) rfl (fun hc => ?_) (fun hc => ?_)
          · replace h := h.1 hc
            refine x_vret dX5_fail_12 rfl ?_
            show X none (d + 4) mX5_readSpot 104 [.ref 67, .int x1, .int u2] [] τ1 _
            exact x_vret dX5_readSpot_104 rfl h
          · replace h := h.2 hc
            refine x_aload_n (pc' := 8) dX5_fail_7 rfl rfl rfl ?_
            refine x_iload_n (pc' := 9) dX5_fail_8 rfl rfl rfl ?_
            refine x_puti (pc' := 12) dX5_fail_9 rfl lfX5_29 kd_67 rfl rfl rfl ?_
            obtain ⟨τ4, eτ4⟩ : ∃ τ : Mem, τ = (w1 τ1 67 4 (τ1.1 67 3)) := ⟨_, rfl⟩
            show X none (d + 3) mX5_fail 12 [.ref 67, .int (τ1.1 67 3)] [] (w1 τ1 67 4 (τ1.1 67 3)) _
            rw [← eτ4]
            replace h := h τ4 eτ4
            refine x_vret dX5_fail_12 rfl ?_
            show X none (d + 4) mX5_readSpot 104 [.ref 67, .int x1, .int u2] [] τ4 _
            exact x_vret dX5_readSpot_104 rfl h
        · replace h := h.2 hc
          refine x_aload_n (pc' := 69) dX5_readSpot_68 rfl rfl rfl ?_
          refine x_dup (pc' := 70) dX5_readSpot_69 rfl rfl ?_
          refine x_geti (pc' := 73) dX5_readSpot_70 rfl lfX5_26 kd_67 rfl ?_
          refine x_iconst (pc' := 74) (v := 1) dX5_readSpot_73 rfl (by decide) ?_
          refine x_iadd (pc' := 75) dX5_readSpot_74 rfl ?_
          refine x_puti (pc' := 78) dX5_readSpot_75 rfl lfX5_26 kd_67 rfl rfl rfl ?_
          obtain ⟨τ5, eτ5⟩ : ∃ τ : Mem, τ = (w1 τ1 67 3 ((τ1.1 67 3) + 1)) := ⟨_, rfl⟩
          show X none (d + 4) mX5_readSpot 78 [.ref 67, .int x1, .int u2] [] (w1 τ1 67 3 ((τ1.1 67 3) + 1)) _
          rw [← eτ5]
          replace h := h τ5 eτ5
          refine x_aload_n (pc' := 79) dX5_readSpot_78 rfl rfl rfl ?_
          refine x_iload_n (pc' := 80) dX5_readSpot_79 rfl rfl rfl ?_
          refine x_iconst (pc' := 81) (v := 1) dX5_readSpot_80 rfl (by decide) ?_
          refine x_iadd (pc' := 82) dX5_readSpot_81 rfl ?_
          refine x_callV (pc' := 85) (As := [.int (x1 + 1)]) dX5_readSpot_82 rfl lmX5_55 kd_67 rfl rfl (Nat.le_of_ble_eq_true rfl) (Nat.le_of_ble_eq_true rfl) ?_
          show X none (d + 3) mX5_readSpot 0 [.ref 67, .int (x1 + 1), Unk] [] τ5 _
          refine X.mono h ?_
          rintro r τ6 ⟨rfl, h⟩
          show X none (d + 4) mX5_readSpot 85 [.ref 67, .int x1, .int u2] [] τ6 _
          refine x_aload_n (pc' := 86) dX5_readSpot_85 rfl rfl rfl ?_
          refine x_getr (pc' := 89) dX5_readSpot_86 rfl lfX5_18 kd_67 rfl rf_67_1 ?_
          refine x_iconst (pc' := 90) (v := (-1)) dX5_readSpot_89 rfl (by decide) ?_
          refine x_callV (pc' := 93) (As := [.int (-1)]) dX5_readSpot_90 rfl lmX5_52 (OKS.k okS_69) rfl rfl (Nat.le_of_ble_eq_true rfl) (Nat.le_of_ble_eq_true rfl) ?_
          show X none (d + 3) mX6_addStep 0 [.ref 69, .int (-1)] [] τ6 _
          refine x_aload_n (pc' := 1) dX6_addStep_0 rfl rfl rfl ?_
          refine x_geti (pc' := 4) dX6_addStep_1 rfl lfX6_18 (OKS.k okS_69) rfl ?_
          refine x_bipush (pc' := 6) (v := 120) dX6_addStep_4 rfl (by decide) ?_
          refine x_icmp_ge (pc' := 9) (tgt := 29) dX6_addStep_6 (by decide) rfl (fun hc => ?_) (fun hc => ?_)
          · replace h := h.1 hc
            refine x_vret dX6_addStep_29 rfl ?_
            show X none (d + 4) mX5_readSpot 93 [.ref 67, .int x1, .int u2] [] τ6 _
            refine x_goto (pc' := 104) dX5_readSpot_93 (by decide) ?_
            exact x_vret dX5_readSpot_104 rfl h
          · replace h := h.2 hc
            refine x_aload_n (pc' := 10) dX6_addStep_9 rfl rfl rfl ?_
            refine x_getr (pc' := 13) dX6_addStep_10 rfl lfX6_9 (OKS.k okS_69) rfl (OKS.r0 okS_69) ?_
            refine x_aload_n (pc' := 14) dX6_addStep_13 rfl rfl rfl ?_
            refine x_geti (pc' := 17) dX6_addStep_14 rfl lfX6_18 (OKS.k okS_69) rfl ?_
            refine x_iload_n (pc' := 18) dX6_addStep_17 rfl rfl rfl ?_
            obtain ⟨hb, h⟩ := h
            refine x_iast (pc' := 19) dX6_addStep_18 rfl (OKS.a0 okS_69) (by rw [(OKS.n0 okS_69)]; exact hb) ?_
            obtain ⟨τ7, eτ7⟩ : ∃ τ : Mem, τ = (w1 τ6 70 (τ6.1 69 2).toNatClampNeg (-1)) := ⟨_, rfl⟩
            show X none (d + 3) mX6_addStep 19 [.ref 69, .int (-1)] [] (w1 τ6 70 (τ6.1 69 2).toNatClampNeg (-1)) _
            rw [← eτ7]
            replace h := h τ7 eτ7
            refine x_aload_n (pc' := 20) dX6_addStep_19 rfl rfl rfl ?_
            refine x_dup (pc' := 21) dX6_addStep_20 rfl rfl ?_
            refine x_geti (pc' := 24) dX6_addStep_21 rfl lfX6_18 (OKS.k okS_69) rfl ?_
            refine x_iconst (pc' := 25) (v := 1) dX6_addStep_24 rfl (by decide) ?_
            refine x_iadd (pc' := 26) dX6_addStep_25 rfl ?_
            refine x_puti (pc' := 29) dX6_addStep_26 rfl lfX6_18 (OKS.k okS_69) rfl rfl rfl ?_
            obtain ⟨τ8, eτ8⟩ : ∃ τ : Mem, τ = (w1 τ7 69 2 ((τ7.1 69 2) + 1)) := ⟨_, rfl⟩
            show X none (d + 3) mX6_addStep 29 [.ref 69, .int (-1)] [] (w1 τ7 69 2 ((τ7.1 69 2) + 1)) _
            rw [← eτ8]
            replace h := h τ8 eτ8
            refine x_vret dX6_addStep_29 rfl ?_
            show X none (d + 4) mX5_readSpot 93 [.ref 67, .int x1, .int u2] [] τ8 _
            refine x_goto (pc' := 104) dX5_readSpot_93 (by decide) ?_
            exact x_vret dX5_readSpot_104 rfl h
    · replace h := h.2 hc
      refine x_iload_n (pc' := 25) dX5_readSpot_24 rfl rfl rfl ?_
      refine x_bipush (pc' := 27) (v := 12) dX5_readSpot_25 rfl (by decide) ?_
      refine x_icmp_ge (pc' := 30) (tgt := 56) dX5_readSpot_27 (by decide) rfl (fun hc => ?_) (fun hc => ?_)
      · replace h := h.1 hc
        refine x_iload_n (pc' := 57) dX5_readSpot_56 rfl rfl rfl ?_
        refine x_bipush (pc' := 59) (v := 33) dX5_readSpot_57 rfl (by decide) ?_
        refine x_icmp_ne (pc' := 62) (tgt := 96) dX5_readSpot_59 (by decide) rfl (fun hc => ?_) (fun hc => ?_)
        · replace h := h.1 hc
          refine x_aload_n (pc' := 97) dX5_readSpot_96 rfl rfl rfl ?_
          refine x_aload_n (pc' := 98) dX5_readSpot_97 rfl rfl rfl ?_
          refine x_geti (pc' := 101) dX5_readSpot_98 rfl lfX5_26 kd_67 rfl ?_
          refine x_callV (pc' := 104) (As := [.int (τ1.1 67 3)]) dX5_readSpot_101 rfl lmX5_46 kd_67 rfl rfl (Nat.le_of_ble_eq_true rfl) (Nat.le_of_ble_eq_true rfl) ?_
          show X none (d + 3) mX5_fail 0 [.ref 67, .int (τ1.1 67 3)] [] τ1 _
          refine x_aload_n (pc' := 1) dX5_fail_0 rfl rfl rfl ?_
          refine x_geti (pc' := 4) dX5_fail_1 rfl lfX5_29 kd_67 rfl ?_
          refine x_if_ge (pc' := 7) (tgt := 12) dX5_fail_4 (by decide) rfl (fun hc => ?_) (fun hc => ?_)
          · replace h := h.1 hc
            refine x_vret dX5_fail_12 rfl ?_
            show X none (d + 4) mX5_readSpot 104 [.ref 67, .int x1, .int u2] [] τ1 _
            exact x_vret dX5_readSpot_104 rfl h
          · replace h := h.2 hc
            refine x_aload_n (pc' := 8) dX5_fail_7 rfl rfl rfl ?_
            refine x_iload_n (pc' := 9) dX5_fail_8 rfl rfl rfl ?_
            refine x_puti (pc' := 12) dX5_fail_9 rfl lfX5_29 kd_67 rfl rfl rfl ?_
            obtain ⟨τ9, eτ9⟩ : ∃ τ : Mem, τ = (w1 τ1 67 4 (τ1.1 67 3)) := ⟨_, rfl⟩
            show X none (d + 3) mX5_fail 12 [.ref 67, .int (τ1.1 67 3)] [] (w1 τ1 67 4 (τ1.1 67 3)) _
            rw [← eτ9]
            replace h := h τ9 eτ9
            refine x_vret dX5_fail_12 rfl ?_
            show X none (d + 4) mX5_readSpot 104 [.ref 67, .int x1, .int u2] [] τ9 _
            exact x_vret dX5_readSpot_104 rfl h
        · replace h := h.2 hc
          refine x_iload_n (pc' := 63) dX5_readSpot_62 rfl rfl rfl ?_
          refine x_bipush (pc' := 65) (v := 12) dX5_readSpot_63 rfl (by decide) ?_
          refine x_icmp_ge (pc' := 68) (tgt := 96) dX5_readSpot_65 (by decide) rfl (fun hc => ?_) (fun hc => ?_)
          · replace h := h.1 hc
            refine x_aload_n (pc' := 97) dX5_readSpot_96 rfl rfl rfl ?_
            refine x_aload_n (pc' := 98) dX5_readSpot_97 rfl rfl rfl ?_
            refine x_geti (pc' := 101) dX5_readSpot_98 rfl lfX5_26 kd_67 rfl ?_
            refine x_callV (pc' := 104) (As := [.int (τ1.1 67 3)]) dX5_readSpot_101 rfl lmX5_46 kd_67 rfl rfl (Nat.le_of_ble_eq_true rfl) (Nat.le_of_ble_eq_true rfl) ?_
            show X none (d + 3) mX5_fail 0 [.ref 67, .int (τ1.1 67 3)] [] τ1 _
            refine x_aload_n (pc' := 1) dX5_fail_0 rfl rfl rfl ?_
            refine x_geti (pc' := 4) dX5_fail_1 rfl lfX5_29 kd_67 rfl ?_
            refine x_if_ge (pc' := 7) (tgt := 12) dX5_fail_4 (by decide) rfl (fun hc => ?_) (fun hc => ?_)
            · replace h := h.1 hc
              refine x_vret dX5_fail_12 rfl ?_
              show X none (d + 4) mX5_readSpot 104 [.ref 67, .int x1, .int u2] [] τ1 _
              exact x_vret dX5_readSpot_104 rfl h
            · replace h := h.2 hc
              refine x_aload_n (pc' := 8) dX5_fail_7 rfl rfl rfl ?_
              refine x_iload_n (pc' := 9) dX5_fail_8 rfl rfl rfl ?_
              refine x_puti (pc' := 12) dX5_fail_9 rfl lfX5_29 kd_67 rfl rfl rfl ?_
              obtain ⟨τ10, eτ10⟩ : ∃ τ : Mem, τ = (w1 τ1 67 4 (τ1.1 67 3)) := ⟨_, rfl⟩
              show X none (d + 3) mX5_fail 12 [.ref 67, .int (τ1.1 67 3)] [] (w1 τ1 67 4 (τ1.1 67 3)) _
              rw [← eτ10]
              replace h := h τ10 eτ10
              refine x_vret dX5_fail_12 rfl ?_
              show X none (d + 4) mX5_readSpot 104 [.ref 67, .int x1, .int u2] [] τ10 _
              exact x_vret dX5_readSpot_104 rfl h
          · replace h := h.2 hc
            refine x_aload_n (pc' := 69) dX5_readSpot_68 rfl rfl rfl ?_
            refine x_dup (pc' := 70) dX5_readSpot_69 rfl rfl ?_
            refine x_geti (pc' := 73) dX5_readSpot_70 rfl lfX5_26 kd_67 rfl ?_
            refine x_iconst (pc' := 74) (v := 1) dX5_readSpot_73 rfl (by decide) ?_
            refine x_iadd (pc' := 75) dX5_readSpot_74 rfl ?_
            refine x_puti (pc' := 78) dX5_readSpot_75 rfl lfX5_26 kd_67 rfl rfl rfl ?_
            obtain ⟨τ11, eτ11⟩ : ∃ τ : Mem, τ = (w1 τ1 67 3 ((τ1.1 67 3) + 1)) := ⟨_, rfl⟩
            show X none (d + 4) mX5_readSpot 78 [.ref 67, .int x1, .int u2] [] (w1 τ1 67 3 ((τ1.1 67 3) + 1)) _
            rw [← eτ11]
            replace h := h τ11 eτ11
            refine x_aload_n (pc' := 79) dX5_readSpot_78 rfl rfl rfl ?_
            refine x_iload_n (pc' := 80) dX5_readSpot_79 rfl rfl rfl ?_
            refine x_iconst (pc' := 81) (v := 1) dX5_readSpot_80 rfl (by decide) ?_
            refine x_iadd (pc' := 82) dX5_readSpot_81 rfl ?_
            refine x_callV (pc' := 85) (As := [.int (x1 + 1)]) dX5_readSpot_82 rfl lmX5_55 kd_67 rfl rfl (Nat.le_of_ble_eq_true rfl) (Nat.le_of_ble_eq_true rfl) ?_
            show X none (d + 3) mX5_readSpot 0 [.ref 67, .int (x1 + 1), Unk] [] τ11 _
            refine X.mono h ?_
            rintro r τ12 ⟨rfl, h⟩
            show X none (d + 4) mX5_readSpot 85 [.ref 67, .int x1, .int u2] [] τ12 _
            refine x_aload_n (pc' := 86) dX5_readSpot_85 rfl rfl rfl ?_
            refine x_getr (pc' := 89) dX5_readSpot_86 rfl lfX5_18 kd_67 rfl rf_67_1 ?_
            refine x_iconst (pc' := 90) (v := (-1)) dX5_readSpot_89 rfl (by decide) ?_
            refine x_callV (pc' := 93) (As := [.int (-1)]) dX5_readSpot_90 rfl lmX5_52 (OKS.k okS_69) rfl rfl (Nat.le_of_ble_eq_true rfl) (Nat.le_of_ble_eq_true rfl) ?_
            show X none (d + 3) mX6_addStep 0 [.ref 69, .int (-1)] [] τ12 _
            refine x_aload_n (pc' := 1) dX6_addStep_0 rfl rfl rfl ?_
            refine x_geti (pc' := 4) dX6_addStep_1 rfl lfX6_18 (OKS.k okS_69) rfl ?_
            refine x_bipush (pc' := 6) (v := 120) dX6_addStep_4 rfl (by decide) ?_
            refine x_icmp_ge (pc' := 9) (tgt := 29) dX6_addStep_6 (by decide) rfl (fun hc => ?_) (fun hc => ?_)
            · replace h := h.1 hc
              refine x_vret dX6_addStep_29 rfl ?_
              show X none (d + 4) mX5_readSpot 93 [.ref 67, .int x1, .int u2] [] τ12 _
              refine x_goto (pc' := 104) dX5_readSpot_93 (by decide) ?_
              exact x_vret dX5_readSpot_104 rfl h
            · replace h := h.2 hc
              refine x_aload_n (pc' := 10) dX6_addStep_9 rfl rfl rfl ?_
              refine x_getr (pc' := 13) dX6_addStep_10 rfl lfX6_9 (OKS.k okS_69) rfl (OKS.r0 okS_69) ?_
              refine x_aload_n (pc' := 14) dX6_addStep_13 rfl rfl rfl ?_
              refine x_geti (pc' := 17) dX6_addStep_14 rfl lfX6_18 (OKS.k okS_69) rfl ?_
              refine x_iload_n (pc' := 18) dX6_addStep_17 rfl rfl rfl ?_
              obtain ⟨hb, h⟩ := h
              refine x_iast (pc' := 19) dX6_addStep_18 rfl (OKS.a0 okS_69) (by rw [(OKS.n0 okS_69)]; exact hb) ?_
              obtain ⟨τ13, eτ13⟩ : ∃ τ : Mem, τ = (w1 τ12 70 (τ12.1 69 2).toNatClampNeg (-1)) := ⟨_, rfl⟩
              show X none (d + 3) mX6_addStep 19 [.ref 69, .int (-1)] [] (w1 τ12 70 (τ12.1 69 2).toNatClampNeg (-1)) _
              rw [← eτ13]
              replace h := h τ13 eτ13
              refine x_aload_n (pc' := 20) dX6_addStep_19 rfl rfl rfl ?_
              refine x_dup (pc' := 21) dX6_addStep_20 rfl rfl ?_
              refine x_geti (pc' := 24) dX6_addStep_21 rfl lfX6_18 (OKS.k okS_69) rfl ?_
              refine x_iconst (pc' := 25) (v := 1) dX6_addStep_24 rfl (by decide) ?_
              refine x_iadd (pc' := 26) dX6_addStep_25 rfl ?_
              refine x_puti (pc' := 29) dX6_addStep_26 rfl lfX6_18 (OKS.k okS_69) rfl rfl rfl ?_
              obtain ⟨τ14, eτ14⟩ : ∃ τ : Mem, τ = (w1 τ13 69 2 ((τ13.1 69 2) + 1)) := ⟨_, rfl⟩
              show X none (d + 3) mX6_addStep 29 [.ref 69, .int (-1)] [] (w1 τ13 69 2 ((τ13.1 69 2) + 1)) _
              rw [← eτ14]
              replace h := h τ14 eτ14
              refine x_vret dX6_addStep_29 rfl ?_
              show X none (d + 4) mX5_readSpot 93 [.ref 67, .int x1, .int u2] [] τ14 _
              refine x_goto (pc' := 104) dX5_readSpot_93 (by decide) ?_
              exact x_vret dX5_readSpot_104 rfl h
      · replace h := h.2 hc
        refine x_aload_n (pc' := 31) dX5_readSpot_30 rfl rfl rfl ?_
        refine x_dup (pc' := 32) dX5_readSpot_31 rfl rfl ?_
        refine x_geti (pc' := 35) dX5_readSpot_32 rfl lfX5_26 kd_67 rfl ?_
        refine x_iconst (pc' := 36) (v := 1) dX5_readSpot_35 rfl (by decide) ?_
        refine x_iadd (pc' := 37) dX5_readSpot_36 rfl ?_
        refine x_puti (pc' := 40) dX5_readSpot_37 rfl lfX5_26 kd_67 rfl rfl rfl ?_
        obtain ⟨τ15, eτ15⟩ : ∃ τ : Mem, τ = (w1 τ1 67 3 ((τ1.1 67 3) + 1)) := ⟨_, rfl⟩
        show X none (d + 4) mX5_readSpot 40 [.ref 67, .int x1, .int u2] [] (w1 τ1 67 3 ((τ1.1 67 3) + 1)) _
        rw [← eτ15]
        replace h := h τ15 eτ15
        refine x_aload_n (pc' := 41) dX5_readSpot_40 rfl rfl rfl ?_
        refine x_iload_n (pc' := 42) dX5_readSpot_41 rfl rfl rfl ?_
        refine x_iconst (pc' := 43) (v := 1) dX5_readSpot_42 rfl (by decide) ?_
        refine x_iadd (pc' := 44) dX5_readSpot_43 rfl ?_
        refine x_callV (pc' := 47) (As := [.int (x1 + 1)]) dX5_readSpot_44 rfl lmX5_35 kd_67 rfl rfl (Nat.le_of_ble_eq_true rfl) (Nat.le_of_ble_eq_true rfl) ?_
        show X none (d + 3) mX5_readArea 0 [.ref 67, .int (x1 + 1), Unk, Unk] [] τ15 _
        refine X.mono h ?_
        rintro r τ16 ⟨rfl, h⟩
        show X none (d + 4) mX5_readSpot 47 [.ref 67, .int x1, .int u2] [] τ16 _
        refine x_aload_n (pc' := 48) dX5_readSpot_47 rfl rfl rfl ?_
        refine x_bipush (pc' := 50) (v := 41) dX5_readSpot_48 rfl (by decide) ?_
        refine x_callV (pc' := 53) (As := [.int 41]) dX5_readSpot_50 rfl lmX5_39 kd_67 rfl rfl (Nat.le_of_ble_eq_true rfl) (Nat.le_of_ble_eq_true rfl) ?_
        show X none (d + 3) mX5_expect 0 [.ref 67, .int 41] [] τ16 _
        refine X.mono h ?_
        rintro r τ17 ⟨rfl, h⟩
        show X none (d + 4) mX5_readSpot 53 [.ref 67, .int x1, .int u2] [] τ17 _
        refine x_goto (pc' := 104) dX5_readSpot_53 (by decide) ?_
        exact x_vret dX5_readSpot_104 rfl h
  · replace h := h.2 hc
    refine x_aload_n (pc' := 12) dX5_readSpot_11 rfl rfl rfl ?_
    refine x_callV (pc' := 15) (As := []) dX5_readSpot_12 rfl lmX5_58 kd_67 rfl rfl (Nat.le_of_ble_eq_true rfl) (Nat.le_of_ble_eq_true rfl) ?_
    show X none (d + 3) mX5_readRectangle 0 [.ref 67, Unk, Unk, Unk, Unk] [] τ1 _
    refine X.mono h ?_
    rintro r τ18 ⟨rfl, h⟩
    show X none (d + 4) mX5_readSpot 15 [.ref 67, .int x1, .int u2] [] τ18 _
    refine x_goto (pc' := 104) dX5_readSpot_15 (by decide) ?_
    exact x_vret dX5_readSpot_104 rfl h
set_option maxRecDepth 100000 in
set_option maxHeartbeats 4000000 in
theorem vX5_readPart_0 {d : Nat} {σ : Mem} {Q : Option Value → Mem → Prop} {x1 : Int32} 
    (h : (X none d mX5_readSpot 0 [.ref 67, .int x1, Unk] [] σ (fun r τ1 => r = none ∧ X none (d + 1) mX5_readPart 7 [.ref 67, .int x1, .int 0] [] τ1 Q))) :
    X none (d + 1) mX5_readPart 0 [.ref 67, .int x1, Unk] [] σ Q := by
  refine x_aload_n (pc' := 1) dX5_readPart_0 rfl rfl rfl ?_
  refine x_iload_n (pc' := 2) dX5_readPart_1 rfl rfl rfl ?_
  refine x_callV (pc' := 5) (As := [.int x1]) dX5_readPart_2 rfl lmX5_55 kd_67 rfl rfl (Nat.le_of_ble_eq_true rfl) (Nat.le_of_ble_eq_true rfl) ?_
  show X none d mX5_readSpot 0 [.ref 67, .int x1, Unk] [] σ _
  refine X.mono h ?_
  rintro r τ1 ⟨rfl, h⟩
  show X none (d + 1) mX5_readPart 5 [.ref 67, .int x1, Unk] [] τ1 _
  refine x_iconst (pc' := 6) (v := 0) dX5_readPart_5 rfl (by decide) ?_
  refine x_istore_n (pc' := 7) dX5_readPart_6 rfl rfl (by decide) rfl (ls' := [.ref 67, .int x1, .int 0]) rfl ?_
  exact h
set_option maxRecDepth 100000 in
set_option maxHeartbeats 4000000 in
theorem vX5_readPart_7 {d : Nat} {σ : Mem} {Q : Option Value → Mem → Prop} {x1 x2 : Int32} 
    (h : ((120 ≤ x2 → Q (none) σ) ∧ (¬ 120 ≤ x2 → (X none d mX5_nextSign 0 [.ref 67] [] σ (fun r τ1 => ∃ u2 : Int32, r = some (.int u2) ∧ ((¬ u2 = 38 → Q (none) τ1) ∧ (u2 = 38 → (∀ τ3 : Mem, τ3 = (w1 τ1 67 3 ((τ1.1 67 3) + 1)) → (X none d mX5_readSpot 0 [.ref 67, .int x1, Unk] [] τ3 (fun r τ4 => r = none ∧ ((120 ≤ (τ4.1 69 2) → X none (d + 1) mX5_readPart 7 [.ref 67, .int x1, .int (x2 + 1)] [] τ4 Q) ∧ (¬ 120 ≤ (τ4.1 69 2) → (vp_in (τ4.1 69 2) 120 ∧ (∀ τ5 : Mem, τ5 = (w1 τ4 70 (τ4.1 69 2).toNatClampNeg (-2)) → (∀ τ6 : Mem, τ6 = (w1 τ5 69 2 ((τ5.1 69 2) + 1)) → X none (d + 1) mX5_readPart 7 [.ref 67, .int x1, .int (x2 + 1)] [] τ6 Q))))))))))))))) :
    X none (d + 1) mX5_readPart 7 [.ref 67, .int x1, .int x2] [] σ Q := by
  refine x_iload_n (pc' := 8) dX5_readPart_7 rfl rfl rfl ?_
  refine x_bipush (pc' := 10) (v := 120) dX5_readPart_8 rfl (by decide) ?_
  refine x_icmp_ge (pc' := 13) (tgt := 52) dX5_readPart_10 (by decide) rfl (fun hc => ?_) (fun hc => ?_)
  · replace h := h.1 hc
    exact x_vret dX5_readPart_52 rfl h
  · replace h := h.2 hc
    refine x_aload_n (pc' := 14) dX5_readPart_13 rfl rfl rfl ?_
    refine x_callV (pc' := 17) (As := []) dX5_readPart_14 rfl lmX5_42 kd_67 rfl rfl (Nat.le_of_ble_eq_true rfl) (Nat.le_of_ble_eq_true rfl) ?_
    show X none d mX5_nextSign 0 [.ref 67] [] σ _
    refine X.mono h ?_
    rintro r τ1 ⟨u2, rfl, h⟩
    show X none (d + 1) mX5_readPart 17 [.ref 67, .int x1, .int x2] [.int u2] τ1 _
    refine x_bipush (pc' := 19) (v := 38) dX5_readPart_17 rfl (by decide) ?_
    refine x_icmp_ne (pc' := 22) (tgt := 52) dX5_readPart_19 (by decide) rfl (fun hc => ?_) (fun hc => ?_)
    · replace h := h.1 hc
      exact x_vret dX5_readPart_52 rfl h
    · replace h := h.2 hc
      refine x_aload_n (pc' := 23) dX5_readPart_22 rfl rfl rfl ?_
      refine x_dup (pc' := 24) dX5_readPart_23 rfl rfl ?_
      refine x_geti (pc' := 27) dX5_readPart_24 rfl lfX5_26 kd_67 rfl ?_
      refine x_iconst (pc' := 28) (v := 1) dX5_readPart_27 rfl (by decide) ?_
      refine x_iadd (pc' := 29) dX5_readPart_28 rfl ?_
      refine x_puti (pc' := 32) dX5_readPart_29 rfl lfX5_26 kd_67 rfl rfl rfl ?_
      obtain ⟨τ3, eτ3⟩ : ∃ τ : Mem, τ = (w1 τ1 67 3 ((τ1.1 67 3) + 1)) := ⟨_, rfl⟩
      show X none (d + 1) mX5_readPart 32 [.ref 67, .int x1, .int x2] [] (w1 τ1 67 3 ((τ1.1 67 3) + 1)) _
      rw [← eτ3]
      replace h := h τ3 eτ3
      refine x_aload_n (pc' := 33) dX5_readPart_32 rfl rfl rfl ?_
      refine x_iload_n (pc' := 34) dX5_readPart_33 rfl rfl rfl ?_
      refine x_callV (pc' := 37) (As := [.int x1]) dX5_readPart_34 rfl lmX5_55 kd_67 rfl rfl (Nat.le_of_ble_eq_true rfl) (Nat.le_of_ble_eq_true rfl) ?_
      show X none d mX5_readSpot 0 [.ref 67, .int x1, Unk] [] τ3 _
      refine X.mono h ?_
      rintro r τ4 ⟨rfl, h⟩
      show X none (d + 1) mX5_readPart 37 [.ref 67, .int x1, .int x2] [] τ4 _
      refine x_aload_n (pc' := 38) dX5_readPart_37 rfl rfl rfl ?_
      refine x_getr (pc' := 41) dX5_readPart_38 rfl lfX5_18 kd_67 rfl rf_67_1 ?_
      refine x_bipush (pc' := 43) (v := (-2)) dX5_readPart_41 rfl (by decide) ?_
      refine x_callV (pc' := 46) (As := [.int (-2)]) dX5_readPart_43 rfl lmX5_52 (OKS.k okS_69) rfl rfl (Nat.le_of_ble_eq_true rfl) (Nat.le_of_ble_eq_true rfl) ?_
      show X none d mX6_addStep 0 [.ref 69, .int (-2)] [] τ4 _
      refine x_aload_n (pc' := 1) dX6_addStep_0 rfl rfl rfl ?_
      refine x_geti (pc' := 4) dX6_addStep_1 rfl lfX6_18 (OKS.k okS_69) rfl ?_
      refine x_bipush (pc' := 6) (v := 120) dX6_addStep_4 rfl (by decide) ?_
      refine x_icmp_ge (pc' := 9) (tgt := 29) dX6_addStep_6 (by decide) rfl (fun hc => ?_) (fun hc => ?_)
      · replace h := h.1 hc
        refine x_vret dX6_addStep_29 rfl ?_
        show X none (d + 1) mX5_readPart 46 [.ref 67, .int x1, .int x2] [] τ4 _
        refine x_iinc (pc' := 49) (v := 1) dX5_readPart_46 rfl (by decide) rfl rfl (by decide) (ls' := [.ref 67, .int x1, .int (x2 + 1)]) rfl ?_
        refine x_goto (pc' := 7) dX5_readPart_49 (by decide) ?_
        exact h
      · replace h := h.2 hc
        refine x_aload_n (pc' := 10) dX6_addStep_9 rfl rfl rfl ?_
        refine x_getr (pc' := 13) dX6_addStep_10 rfl lfX6_9 (OKS.k okS_69) rfl (OKS.r0 okS_69) ?_
        refine x_aload_n (pc' := 14) dX6_addStep_13 rfl rfl rfl ?_
        refine x_geti (pc' := 17) dX6_addStep_14 rfl lfX6_18 (OKS.k okS_69) rfl ?_
        refine x_iload_n (pc' := 18) dX6_addStep_17 rfl rfl rfl ?_
        obtain ⟨hb, h⟩ := h
        refine x_iast (pc' := 19) dX6_addStep_18 rfl (OKS.a0 okS_69) (by rw [(OKS.n0 okS_69)]; exact hb) ?_
        obtain ⟨τ5, eτ5⟩ : ∃ τ : Mem, τ = (w1 τ4 70 (τ4.1 69 2).toNatClampNeg (-2)) := ⟨_, rfl⟩
        show X none d mX6_addStep 19 [.ref 69, .int (-2)] [] (w1 τ4 70 (τ4.1 69 2).toNatClampNeg (-2)) _
        rw [← eτ5]
        replace h := h τ5 eτ5
        refine x_aload_n (pc' := 20) dX6_addStep_19 rfl rfl rfl ?_
        refine x_dup (pc' := 21) dX6_addStep_20 rfl rfl ?_
        refine x_geti (pc' := 24) dX6_addStep_21 rfl lfX6_18 (OKS.k okS_69) rfl ?_
        refine x_iconst (pc' := 25) (v := 1) dX6_addStep_24 rfl (by decide) ?_
        refine x_iadd (pc' := 26) dX6_addStep_25 rfl ?_
        refine x_puti (pc' := 29) dX6_addStep_26 rfl lfX6_18 (OKS.k okS_69) rfl rfl rfl ?_
        obtain ⟨τ6, eτ6⟩ : ∃ τ : Mem, τ = (w1 τ5 69 2 ((τ5.1 69 2) + 1)) := ⟨_, rfl⟩
        show X none d mX6_addStep 29 [.ref 69, .int (-2)] [] (w1 τ5 69 2 ((τ5.1 69 2) + 1)) _
        rw [← eτ6]
        replace h := h τ6 eτ6
        refine x_vret dX6_addStep_29 rfl ?_
        show X none (d + 1) mX5_readPart 46 [.ref 67, .int x1, .int x2] [] τ6 _
        refine x_iinc (pc' := 49) (v := 1) dX5_readPart_46 rfl (by decide) rfl rfl (by decide) (ls' := [.ref 67, .int x1, .int (x2 + 1)]) rfl ?_
        refine x_goto (pc' := 7) dX5_readPart_49 (by decide) ?_
        exact h
set_option maxRecDepth 100000 in
set_option maxHeartbeats 4000000 in
theorem vX5_readArea_0 {d : Nat} {σ : Mem} {Q : Option Value → Mem → Prop} {x1 : Int32} 
    (h : (X none d mX5_readPart 0 [.ref 67, .int x1, Unk] [] σ (fun r τ1 => r = none ∧ X none (d + 1) mX5_readArea 7 [.ref 67, .int x1, .int 0, Unk] [] τ1 Q))) :
    X none (d + 1) mX5_readArea 0 [.ref 67, .int x1, Unk, Unk] [] σ Q := by
  refine x_aload_n (pc' := 1) dX5_readArea_0 rfl rfl rfl ?_
  refine x_iload_n (pc' := 2) dX5_readArea_1 rfl rfl rfl ?_
  refine x_callV (pc' := 5) (As := [.int x1]) dX5_readArea_2 rfl lmX5_49 kd_67 rfl rfl (Nat.le_of_ble_eq_true rfl) (Nat.le_of_ble_eq_true rfl) ?_
  show X none d mX5_readPart 0 [.ref 67, .int x1, Unk] [] σ _
  refine X.mono h ?_
  rintro r τ1 ⟨rfl, h⟩
  show X none (d + 1) mX5_readArea 5 [.ref 67, .int x1, Unk, Unk] [] τ1 _
  refine x_iconst (pc' := 6) (v := 0) dX5_readArea_5 rfl (by decide) ?_
  refine x_istore_n (pc' := 7) dX5_readArea_6 rfl rfl (by decide) rfl (ls' := [.ref 67, .int x1, .int 0, Unk]) rfl ?_
  exact h
set_option maxRecDepth 100000 in
set_option maxHeartbeats 4000000 in
theorem vX5_readArea_7 {d : Nat} {σ : Mem} {Q : Option Value → Mem → Prop} {x1 x2 : Int32} 
    (h : ((120 ≤ x2 → Q (none) σ) ∧ (¬ 120 ≤ x2 → (X none d mX5_nextSign 0 [.ref 67] [] σ (fun r τ1 => ∃ u2 : Int32, r = some (.int u2) ∧ ((u2 = 43 → (X none d mX5_nextSign 0 [.ref 67] [] τ1 (fun r τ3 => ∃ u4 : Int32, r = some (.int u4) ∧ ((¬ u4 = 43 → (∀ τ5 : Mem, τ5 = (w1 τ3 67 3 ((τ3.1 67 3) + 1)) → (X none d mX5_readPart 0 [.ref 67, .int x1, Unk] [] τ5 (fun r τ6 => r = none ∧ ((120 ≤ (τ6.1 69 2) → X none (d + 1) mX5_readArea 7 [.ref 67, .int x1, .int (x2 + 1), Unk] [] τ6 Q) ∧ (¬ 120 ≤ (τ6.1 69 2) → (vp_in (τ6.1 69 2) 120 ∧ (∀ τ7 : Mem, τ7 = (w1 τ6 70 (τ6.1 69 2).toNatClampNeg (-4)) → (∀ τ8 : Mem, τ8 = (w1 τ7 69 2 ((τ7.1 69 2) + 1)) → X none (d + 1) mX5_readArea 7 [.ref 67, .int x1, .int (x2 + 1), Unk] [] τ8 Q))))))))) ∧ (u4 = 43 → (∀ τ9 : Mem, τ9 = (w1 τ3 67 3 ((τ3.1 67 3) + 1)) → (X none d mX5_readPart 0 [.ref 67, .int x1, Unk] [] τ9 (fun r τ10 => r = none ∧ ((120 ≤ (τ10.1 69 2) → X none (d + 1) mX5_readArea 7 [.ref 67, .int x1, .int (x2 + 1), Unk] [] τ10 Q) ∧ (¬ 120 ≤ (τ10.1 69 2) → (vp_in (τ10.1 69 2) 120 ∧ (∀ τ11 : Mem, τ11 = (w1 τ10 70 (τ10.1 69 2).toNatClampNeg (-3)) → (∀ τ12 : Mem, τ12 = (w1 τ11 69 2 ((τ11.1 69 2) + 1)) → X none (d + 1) mX5_readArea 7 [.ref 67, .int x1, .int (x2 + 1), Unk] [] τ12 Q))))))))))))) ∧ (¬ u2 = 43 → (X none d mX5_nextSign 0 [.ref 67] [] τ1 (fun r τ13 => ∃ u14 : Int32, r = some (.int u14) ∧ ((¬ u14 = 45 → Q (none) τ13) ∧ (u14 = 45 → (X none d mX5_nextSign 0 [.ref 67] [] τ13 (fun r τ15 => ∃ u16 : Int32, r = some (.int u16) ∧ ((¬ u16 = 43 → (∀ τ17 : Mem, τ17 = (w1 τ15 67 3 ((τ15.1 67 3) + 1)) → (X none d mX5_readPart 0 [.ref 67, .int x1, Unk] [] τ17 (fun r τ18 => r = none ∧ ((120 ≤ (τ18.1 69 2) → X none (d + 1) mX5_readArea 7 [.ref 67, .int x1, .int (x2 + 1), Unk] [] τ18 Q) ∧ (¬ 120 ≤ (τ18.1 69 2) → (vp_in (τ18.1 69 2) 120 ∧ (∀ τ19 : Mem, τ19 = (w1 τ18 70 (τ18.1 69 2).toNatClampNeg (-4)) → (∀ τ20 : Mem, τ20 = (w1 τ19 69 2 ((τ19.1 69 2) + 1)) → X none (d + 1) mX5_readArea 7 [.ref 67, .int x1, .int (x2 + 1), Unk] [] τ20 Q))))))))) ∧ (u16 = 43 → (∀ τ21 : Mem, τ21 = (w1 τ15 67 3 ((τ15.1 67 3) + 1)) → (X none d mX5_readPart 0 [.ref 67, .int x1, Unk] [] τ21 (fun r τ22 => r = none ∧ ((120 ≤ (τ22.1 69 2) → X none (d + 1) mX5_readArea 7 [.ref 67, .int x1, .int (x2 + 1), Unk] [] τ22 Q) ∧ (¬ 120 ≤ (τ22.1 69 2) → (vp_in (τ22.1 69 2) 120 ∧ (∀ τ23 : Mem, τ23 = (w1 τ22 70 (τ22.1 69 2).toNatClampNeg (-3)) → (∀ τ24 : Mem, τ24 = (w1 τ23 69 2 ((τ23.1 69 2) + 1)) → X none (d + 1) mX5_readArea 7 [.ref 67, .int x1, .int (x2 + 1), Unk] [] τ24 Q))))))))))))))))))))))) :
    X none (d + 1) mX5_readArea 7 [.ref 67, .int x1, .int x2, Unk] [] σ Q := by
  refine x_iload_n (pc' := 8) dX5_readArea_7 rfl rfl rfl ?_
  refine x_bipush (pc' := 10) (v := 120) dX5_readArea_8 rfl (by decide) ?_
  refine x_icmp_ge (pc' := 13) (tgt := 77) dX5_readArea_10 (by decide) rfl (fun hc => ?_) (fun hc => ?_)
  · replace h := h.1 hc
    exact x_vret dX5_readArea_77 rfl h
  · replace h := h.2 hc
    refine x_aload_n (pc' := 14) dX5_readArea_13 rfl rfl rfl ?_
    refine x_callV (pc' := 17) (As := []) dX5_readArea_14 rfl lmX5_42 kd_67 rfl rfl (Nat.le_of_ble_eq_true rfl) (Nat.le_of_ble_eq_true rfl) ?_
    show X none d mX5_nextSign 0 [.ref 67] [] σ _
    refine X.mono h ?_
    rintro r τ1 ⟨u2, rfl, h⟩
    show X none (d + 1) mX5_readArea 17 [.ref 67, .int x1, .int x2, Unk] [.int u2] τ1 _
    refine x_bipush (pc' := 19) (v := 43) dX5_readArea_17 rfl (by decide) ?_
    refine x_icmp_eq (pc' := 22) (tgt := 31) dX5_readArea_19 (by decide) rfl (fun hc => ?_) (fun hc => ?_)
    · replace h := h.1 hc
      refine x_aload_n (pc' := 32) dX5_readArea_31 rfl rfl rfl ?_
      refine x_callV (pc' := 35) (As := []) dX5_readArea_32 rfl lmX5_42 kd_67 rfl rfl (Nat.le_of_ble_eq_true rfl) (Nat.le_of_ble_eq_true rfl) ?_
      show X none d mX5_nextSign 0 [.ref 67] [] τ1 _
      refine X.mono h ?_
      rintro r τ3 ⟨u4, rfl, h⟩
      show X none (d + 1) mX5_readArea 35 [.ref 67, .int x1, .int x2, Unk] [.int u4] τ3 _
      refine x_bipush (pc' := 37) (v := 43) dX5_readArea_35 rfl (by decide) ?_
      refine x_icmp_ne (pc' := 40) (tgt := 45) dX5_readArea_37 (by decide) rfl (fun hc => ?_) (fun hc => ?_)
      · replace h := h.1 hc
        refine x_bipush (pc' := 47) (v := (-4)) dX5_readArea_45 rfl (by decide) ?_
        refine x_istore_n (pc' := 48) dX5_readArea_47 rfl rfl (by decide) rfl (ls' := [.ref 67, .int x1, .int x2, .int (-4)]) rfl ?_
        refine x_aload_n (pc' := 49) dX5_readArea_48 rfl rfl rfl ?_
        refine x_dup (pc' := 50) dX5_readArea_49 rfl rfl ?_
        refine x_geti (pc' := 53) dX5_readArea_50 rfl lfX5_26 kd_67 rfl ?_
        refine x_iconst (pc' := 54) (v := 1) dX5_readArea_53 rfl (by decide) ?_
        refine x_iadd (pc' := 55) dX5_readArea_54 rfl ?_
        refine x_puti (pc' := 58) dX5_readArea_55 rfl lfX5_26 kd_67 rfl rfl rfl ?_
        obtain ⟨τ5, eτ5⟩ : ∃ τ : Mem, τ = (w1 τ3 67 3 ((τ3.1 67 3) + 1)) := ⟨_, rfl⟩
        show X none (d + 1) mX5_readArea 58 [.ref 67, .int x1, .int x2, .int (-4)] [] (w1 τ3 67 3 ((τ3.1 67 3) + 1)) _
        rw [← eτ5]
        replace h := h τ5 eτ5
        refine x_aload_n (pc' := 59) dX5_readArea_58 rfl rfl rfl ?_
        refine x_iload_n (pc' := 60) dX5_readArea_59 rfl rfl rfl ?_
        refine x_callV (pc' := 63) (As := [.int x1]) dX5_readArea_60 rfl lmX5_49 kd_67 rfl rfl (Nat.le_of_ble_eq_true rfl) (Nat.le_of_ble_eq_true rfl) ?_
        show X none d mX5_readPart 0 [.ref 67, .int x1, Unk] [] τ5 _
        refine X.mono h ?_
        rintro r τ6 ⟨rfl, h⟩
        show X none (d + 1) mX5_readArea 63 [.ref 67, .int x1, .int x2, .int (-4)] [] τ6 _
        refine x_aload_n (pc' := 64) dX5_readArea_63 rfl rfl rfl ?_
        refine x_getr (pc' := 67) dX5_readArea_64 rfl lfX5_18 kd_67 rfl rf_67_1 ?_
        refine x_iload_n (pc' := 68) dX5_readArea_67 rfl rfl rfl ?_
        refine x_callV (pc' := 71) (As := [.int (-4)]) dX5_readArea_68 rfl lmX5_52 (OKS.k okS_69) rfl rfl (Nat.le_of_ble_eq_true rfl) (Nat.le_of_ble_eq_true rfl) ?_
        show X none d mX6_addStep 0 [.ref 69, .int (-4)] [] τ6 _
        refine x_aload_n (pc' := 1) dX6_addStep_0 rfl rfl rfl ?_
        refine x_geti (pc' := 4) dX6_addStep_1 rfl lfX6_18 (OKS.k okS_69) rfl ?_
        refine x_bipush (pc' := 6) (v := 120) dX6_addStep_4 rfl (by decide) ?_
        refine x_icmp_ge (pc' := 9) (tgt := 29) dX6_addStep_6 (by decide) rfl (fun hc => ?_) (fun hc => ?_)
        · replace h := h.1 hc
          refine x_vret dX6_addStep_29 rfl ?_
          show X none (d + 1) mX5_readArea 71 [.ref 67, .int x1, .int x2, .int (-4)] [] τ6 _
          refine x_iinc (pc' := 74) (v := 1) dX5_readArea_71 rfl (by decide) rfl rfl (by decide) (ls' := [.ref 67, .int x1, .int (x2 + 1), .int (-4)]) rfl ?_
          refine x_goto (pc' := 7) dX5_readArea_74 (by decide) ?_
          refine x_forget 3 (ls' := [.ref 67, .int x1, .int (x2 + 1), Unk]) rfl ?_
          exact h
        · replace h := h.2 hc
          refine x_aload_n (pc' := 10) dX6_addStep_9 rfl rfl rfl ?_
          refine x_getr (pc' := 13) dX6_addStep_10 rfl lfX6_9 (OKS.k okS_69) rfl (OKS.r0 okS_69) ?_
          refine x_aload_n (pc' := 14) dX6_addStep_13 rfl rfl rfl ?_
          refine x_geti (pc' := 17) dX6_addStep_14 rfl lfX6_18 (OKS.k okS_69) rfl ?_
          refine x_iload_n (pc' := 18) dX6_addStep_17 rfl rfl rfl ?_
          obtain ⟨hb, h⟩ := h
          refine x_iast (pc' := 19) dX6_addStep_18 rfl (OKS.a0 okS_69) (by rw [(OKS.n0 okS_69)]; exact hb) ?_
          obtain ⟨τ7, eτ7⟩ : ∃ τ : Mem, τ = (w1 τ6 70 (τ6.1 69 2).toNatClampNeg (-4)) := ⟨_, rfl⟩
          show X none d mX6_addStep 19 [.ref 69, .int (-4)] [] (w1 τ6 70 (τ6.1 69 2).toNatClampNeg (-4)) _
          rw [← eτ7]
          replace h := h τ7 eτ7
          refine x_aload_n (pc' := 20) dX6_addStep_19 rfl rfl rfl ?_
          refine x_dup (pc' := 21) dX6_addStep_20 rfl rfl ?_
          refine x_geti (pc' := 24) dX6_addStep_21 rfl lfX6_18 (OKS.k okS_69) rfl ?_
          refine x_iconst (pc' := 25) (v := 1) dX6_addStep_24 rfl (by decide) ?_
          refine x_iadd (pc' := 26) dX6_addStep_25 rfl ?_
          refine x_puti (pc' := 29) dX6_addStep_26 rfl lfX6_18 (OKS.k okS_69) rfl rfl rfl ?_
          obtain ⟨τ8, eτ8⟩ : ∃ τ : Mem, τ = (w1 τ7 69 2 ((τ7.1 69 2) + 1)) := ⟨_, rfl⟩
          show X none d mX6_addStep 29 [.ref 69, .int (-4)] [] (w1 τ7 69 2 ((τ7.1 69 2) + 1)) _
          rw [← eτ8]
          replace h := h τ8 eτ8
          refine x_vret dX6_addStep_29 rfl ?_
          show X none (d + 1) mX5_readArea 71 [.ref 67, .int x1, .int x2, .int (-4)] [] τ8 _
          refine x_iinc (pc' := 74) (v := 1) dX5_readArea_71 rfl (by decide) rfl rfl (by decide) (ls' := [.ref 67, .int x1, .int (x2 + 1), .int (-4)]) rfl ?_
          refine x_goto (pc' := 7) dX5_readArea_74 (by decide) ?_
          refine x_forget 3 (ls' := [.ref 67, .int x1, .int (x2 + 1), Unk]) rfl ?_
          exact h
      · replace h := h.2 hc
        refine x_bipush (pc' := 42) (v := (-3)) dX5_readArea_40 rfl (by decide) ?_
        refine x_goto (pc' := 47) dX5_readArea_42 (by decide) ?_
        refine x_istore_n (pc' := 48) dX5_readArea_47 rfl rfl (by decide) rfl (ls' := [.ref 67, .int x1, .int x2, .int (-3)]) rfl ?_
        refine x_aload_n (pc' := 49) dX5_readArea_48 rfl rfl rfl ?_
        refine x_dup (pc' := 50) dX5_readArea_49 rfl rfl ?_
        refine x_geti (pc' := 53) dX5_readArea_50 rfl lfX5_26 kd_67 rfl ?_
        refine x_iconst (pc' := 54) (v := 1) dX5_readArea_53 rfl (by decide) ?_
        refine x_iadd (pc' := 55) dX5_readArea_54 rfl ?_
        refine x_puti (pc' := 58) dX5_readArea_55 rfl lfX5_26 kd_67 rfl rfl rfl ?_
        obtain ⟨τ9, eτ9⟩ : ∃ τ : Mem, τ = (w1 τ3 67 3 ((τ3.1 67 3) + 1)) := ⟨_, rfl⟩
        show X none (d + 1) mX5_readArea 58 [.ref 67, .int x1, .int x2, .int (-3)] [] (w1 τ3 67 3 ((τ3.1 67 3) + 1)) _
        rw [← eτ9]
        replace h := h τ9 eτ9
        refine x_aload_n (pc' := 59) dX5_readArea_58 rfl rfl rfl ?_
        refine x_iload_n (pc' := 60) dX5_readArea_59 rfl rfl rfl ?_
        refine x_callV (pc' := 63) (As := [.int x1]) dX5_readArea_60 rfl lmX5_49 kd_67 rfl rfl (Nat.le_of_ble_eq_true rfl) (Nat.le_of_ble_eq_true rfl) ?_
        show X none d mX5_readPart 0 [.ref 67, .int x1, Unk] [] τ9 _
        refine X.mono h ?_
        rintro r τ10 ⟨rfl, h⟩
        show X none (d + 1) mX5_readArea 63 [.ref 67, .int x1, .int x2, .int (-3)] [] τ10 _
        refine x_aload_n (pc' := 64) dX5_readArea_63 rfl rfl rfl ?_
        refine x_getr (pc' := 67) dX5_readArea_64 rfl lfX5_18 kd_67 rfl rf_67_1 ?_
        refine x_iload_n (pc' := 68) dX5_readArea_67 rfl rfl rfl ?_
        refine x_callV (pc' := 71) (As := [.int (-3)]) dX5_readArea_68 rfl lmX5_52 (OKS.k okS_69) rfl rfl (Nat.le_of_ble_eq_true rfl) (Nat.le_of_ble_eq_true rfl) ?_
        show X none d mX6_addStep 0 [.ref 69, .int (-3)] [] τ10 _
        refine x_aload_n (pc' := 1) dX6_addStep_0 rfl rfl rfl ?_
        refine x_geti (pc' := 4) dX6_addStep_1 rfl lfX6_18 (OKS.k okS_69) rfl ?_
        refine x_bipush (pc' := 6) (v := 120) dX6_addStep_4 rfl (by decide) ?_
        refine x_icmp_ge (pc' := 9) (tgt := 29) dX6_addStep_6 (by decide) rfl (fun hc => ?_) (fun hc => ?_)
        · replace h := h.1 hc
          refine x_vret dX6_addStep_29 rfl ?_
          show X none (d + 1) mX5_readArea 71 [.ref 67, .int x1, .int x2, .int (-3)] [] τ10 _
          refine x_iinc (pc' := 74) (v := 1) dX5_readArea_71 rfl (by decide) rfl rfl (by decide) (ls' := [.ref 67, .int x1, .int (x2 + 1), .int (-3)]) rfl ?_
          refine x_goto (pc' := 7) dX5_readArea_74 (by decide) ?_
          refine x_forget 3 (ls' := [.ref 67, .int x1, .int (x2 + 1), Unk]) rfl ?_
          exact h
        · replace h := h.2 hc
          refine x_aload_n (pc' := 10) dX6_addStep_9 rfl rfl rfl ?_
          refine x_getr (pc' := 13) dX6_addStep_10 rfl lfX6_9 (OKS.k okS_69) rfl (OKS.r0 okS_69) ?_
          refine x_aload_n (pc' := 14) dX6_addStep_13 rfl rfl rfl ?_
          refine x_geti (pc' := 17) dX6_addStep_14 rfl lfX6_18 (OKS.k okS_69) rfl ?_
          refine x_iload_n (pc' := 18) dX6_addStep_17 rfl rfl rfl ?_
          obtain ⟨hb, h⟩ := h
          refine x_iast (pc' := 19) dX6_addStep_18 rfl (OKS.a0 okS_69) (by rw [(OKS.n0 okS_69)]; exact hb) ?_
          obtain ⟨τ11, eτ11⟩ : ∃ τ : Mem, τ = (w1 τ10 70 (τ10.1 69 2).toNatClampNeg (-3)) := ⟨_, rfl⟩
          show X none d mX6_addStep 19 [.ref 69, .int (-3)] [] (w1 τ10 70 (τ10.1 69 2).toNatClampNeg (-3)) _
          rw [← eτ11]
          replace h := h τ11 eτ11
          refine x_aload_n (pc' := 20) dX6_addStep_19 rfl rfl rfl ?_
          refine x_dup (pc' := 21) dX6_addStep_20 rfl rfl ?_
          refine x_geti (pc' := 24) dX6_addStep_21 rfl lfX6_18 (OKS.k okS_69) rfl ?_
          refine x_iconst (pc' := 25) (v := 1) dX6_addStep_24 rfl (by decide) ?_
          refine x_iadd (pc' := 26) dX6_addStep_25 rfl ?_
          refine x_puti (pc' := 29) dX6_addStep_26 rfl lfX6_18 (OKS.k okS_69) rfl rfl rfl ?_
          obtain ⟨τ12, eτ12⟩ : ∃ τ : Mem, τ = (w1 τ11 69 2 ((τ11.1 69 2) + 1)) := ⟨_, rfl⟩
          show X none d mX6_addStep 29 [.ref 69, .int (-3)] [] (w1 τ11 69 2 ((τ11.1 69 2) + 1)) _
          rw [← eτ12]
          replace h := h τ12 eτ12
          refine x_vret dX6_addStep_29 rfl ?_
          show X none (d + 1) mX5_readArea 71 [.ref 67, .int x1, .int x2, .int (-3)] [] τ12 _
          refine x_iinc (pc' := 74) (v := 1) dX5_readArea_71 rfl (by decide) rfl rfl (by decide) (ls' := [.ref 67, .int x1, .int (x2 + 1), .int (-3)]) rfl ?_
          refine x_goto (pc' := 7) dX5_readArea_74 (by decide) ?_
          refine x_forget 3 (ls' := [.ref 67, .int x1, .int (x2 + 1), Unk]) rfl ?_
          exact h
    · replace h := h.2 hc
      refine x_aload_n (pc' := 23) dX5_readArea_22 rfl rfl rfl ?_
      refine x_callV (pc' := 26) (As := []) dX5_readArea_23 rfl lmX5_42 kd_67 rfl rfl (Nat.le_of_ble_eq_true rfl) (Nat.le_of_ble_eq_true rfl) ?_
      show X none d mX5_nextSign 0 [.ref 67] [] τ1 _
      refine X.mono h ?_
      rintro r τ13 ⟨u14, rfl, h⟩
      show X none (d + 1) mX5_readArea 26 [.ref 67, .int x1, .int x2, Unk] [.int u14] τ13 _
      refine x_bipush (pc' := 28) (v := 45) dX5_readArea_26 rfl (by decide) ?_
      refine x_icmp_ne (pc' := 31) (tgt := 77) dX5_readArea_28 (by decide) rfl (fun hc => ?_) (fun hc => ?_)
      · replace h := h.1 hc
        exact x_vret dX5_readArea_77 rfl h
      · replace h := h.2 hc
        refine x_aload_n (pc' := 32) dX5_readArea_31 rfl rfl rfl ?_
        refine x_callV (pc' := 35) (As := []) dX5_readArea_32 rfl lmX5_42 kd_67 rfl rfl (Nat.le_of_ble_eq_true rfl) (Nat.le_of_ble_eq_true rfl) ?_
        show X none d mX5_nextSign 0 [.ref 67] [] τ13 _
        refine X.mono h ?_
        rintro r τ15 ⟨u16, rfl, h⟩
        show X none (d + 1) mX5_readArea 35 [.ref 67, .int x1, .int x2, Unk] [.int u16] τ15 _
        refine x_bipush (pc' := 37) (v := 43) dX5_readArea_35 rfl (by decide) ?_
        refine x_icmp_ne (pc' := 40) (tgt := 45) dX5_readArea_37 (by decide) rfl (fun hc => ?_) (fun hc => ?_)
        · replace h := h.1 hc
          refine x_bipush (pc' := 47) (v := (-4)) dX5_readArea_45 rfl (by decide) ?_
          refine x_istore_n (pc' := 48) dX5_readArea_47 rfl rfl (by decide) rfl (ls' := [.ref 67, .int x1, .int x2, .int (-4)]) rfl ?_
          refine x_aload_n (pc' := 49) dX5_readArea_48 rfl rfl rfl ?_
          refine x_dup (pc' := 50) dX5_readArea_49 rfl rfl ?_
          refine x_geti (pc' := 53) dX5_readArea_50 rfl lfX5_26 kd_67 rfl ?_
          refine x_iconst (pc' := 54) (v := 1) dX5_readArea_53 rfl (by decide) ?_
          refine x_iadd (pc' := 55) dX5_readArea_54 rfl ?_
          refine x_puti (pc' := 58) dX5_readArea_55 rfl lfX5_26 kd_67 rfl rfl rfl ?_
          obtain ⟨τ17, eτ17⟩ : ∃ τ : Mem, τ = (w1 τ15 67 3 ((τ15.1 67 3) + 1)) := ⟨_, rfl⟩
          show X none (d + 1) mX5_readArea 58 [.ref 67, .int x1, .int x2, .int (-4)] [] (w1 τ15 67 3 ((τ15.1 67 3) + 1)) _
          rw [← eτ17]
          replace h := h τ17 eτ17
          refine x_aload_n (pc' := 59) dX5_readArea_58 rfl rfl rfl ?_
          refine x_iload_n (pc' := 60) dX5_readArea_59 rfl rfl rfl ?_
          refine x_callV (pc' := 63) (As := [.int x1]) dX5_readArea_60 rfl lmX5_49 kd_67 rfl rfl (Nat.le_of_ble_eq_true rfl) (Nat.le_of_ble_eq_true rfl) ?_
          show X none d mX5_readPart 0 [.ref 67, .int x1, Unk] [] τ17 _
          refine X.mono h ?_
          rintro r τ18 ⟨rfl, h⟩
          show X none (d + 1) mX5_readArea 63 [.ref 67, .int x1, .int x2, .int (-4)] [] τ18 _
          refine x_aload_n (pc' := 64) dX5_readArea_63 rfl rfl rfl ?_
          refine x_getr (pc' := 67) dX5_readArea_64 rfl lfX5_18 kd_67 rfl rf_67_1 ?_
          refine x_iload_n (pc' := 68) dX5_readArea_67 rfl rfl rfl ?_
          refine x_callV (pc' := 71) (As := [.int (-4)]) dX5_readArea_68 rfl lmX5_52 (OKS.k okS_69) rfl rfl (Nat.le_of_ble_eq_true rfl) (Nat.le_of_ble_eq_true rfl) ?_
          show X none d mX6_addStep 0 [.ref 69, .int (-4)] [] τ18 _
          refine x_aload_n (pc' := 1) dX6_addStep_0 rfl rfl rfl ?_
          refine x_geti (pc' := 4) dX6_addStep_1 rfl lfX6_18 (OKS.k okS_69) rfl ?_
          refine x_bipush (pc' := 6) (v := 120) dX6_addStep_4 rfl (by decide) ?_
          refine x_icmp_ge (pc' := 9) (tgt := 29) dX6_addStep_6 (by decide) rfl (fun hc => ?_) (fun hc => ?_)
          · replace h := h.1 hc
            refine x_vret dX6_addStep_29 rfl ?_
            show X none (d + 1) mX5_readArea 71 [.ref 67, .int x1, .int x2, .int (-4)] [] τ18 _
            refine x_iinc (pc' := 74) (v := 1) dX5_readArea_71 rfl (by decide) rfl rfl (by decide) (ls' := [.ref 67, .int x1, .int (x2 + 1), .int (-4)]) rfl ?_
            refine x_goto (pc' := 7) dX5_readArea_74 (by decide) ?_
            refine x_forget 3 (ls' := [.ref 67, .int x1, .int (x2 + 1), Unk]) rfl ?_
            exact h
          · replace h := h.2 hc
            refine x_aload_n (pc' := 10) dX6_addStep_9 rfl rfl rfl ?_
            refine x_getr (pc' := 13) dX6_addStep_10 rfl lfX6_9 (OKS.k okS_69) rfl (OKS.r0 okS_69) ?_
            refine x_aload_n (pc' := 14) dX6_addStep_13 rfl rfl rfl ?_
            refine x_geti (pc' := 17) dX6_addStep_14 rfl lfX6_18 (OKS.k okS_69) rfl ?_
            refine x_iload_n (pc' := 18) dX6_addStep_17 rfl rfl rfl ?_
            obtain ⟨hb, h⟩ := h
            refine x_iast (pc' := 19) dX6_addStep_18 rfl (OKS.a0 okS_69) (by rw [(OKS.n0 okS_69)]; exact hb) ?_
            obtain ⟨τ19, eτ19⟩ : ∃ τ : Mem, τ = (w1 τ18 70 (τ18.1 69 2).toNatClampNeg (-4)) := ⟨_, rfl⟩
            show X none d mX6_addStep 19 [.ref 69, .int (-4)] [] (w1 τ18 70 (τ18.1 69 2).toNatClampNeg (-4)) _
            rw [← eτ19]
            replace h := h τ19 eτ19
            refine x_aload_n (pc' := 20) dX6_addStep_19 rfl rfl rfl ?_
            refine x_dup (pc' := 21) dX6_addStep_20 rfl rfl ?_
            refine x_geti (pc' := 24) dX6_addStep_21 rfl lfX6_18 (OKS.k okS_69) rfl ?_
            refine x_iconst (pc' := 25) (v := 1) dX6_addStep_24 rfl (by decide) ?_
            refine x_iadd (pc' := 26) dX6_addStep_25 rfl ?_
            refine x_puti (pc' := 29) dX6_addStep_26 rfl lfX6_18 (OKS.k okS_69) rfl rfl rfl ?_
            obtain ⟨τ20, eτ20⟩ : ∃ τ : Mem, τ = (w1 τ19 69 2 ((τ19.1 69 2) + 1)) := ⟨_, rfl⟩
            show X none d mX6_addStep 29 [.ref 69, .int (-4)] [] (w1 τ19 69 2 ((τ19.1 69 2) + 1)) _
            rw [← eτ20]
            replace h := h τ20 eτ20
            refine x_vret dX6_addStep_29 rfl ?_
            show X none (d + 1) mX5_readArea 71 [.ref 67, .int x1, .int x2, .int (-4)] [] τ20 _
            refine x_iinc (pc' := 74) (v := 1) dX5_readArea_71 rfl (by decide) rfl rfl (by decide) (ls' := [.ref 67, .int x1, .int (x2 + 1), .int (-4)]) rfl ?_
            refine x_goto (pc' := 7) dX5_readArea_74 (by decide) ?_
            refine x_forget 3 (ls' := [.ref 67, .int x1, .int (x2 + 1), Unk]) rfl ?_
            exact h
        · replace h := h.2 hc
          refine x_bipush (pc' := 42) (v := (-3)) dX5_readArea_40 rfl (by decide) ?_
          refine x_goto (pc' := 47) dX5_readArea_42 (by decide) ?_
          refine x_istore_n (pc' := 48) dX5_readArea_47 rfl rfl (by decide) rfl (ls' := [.ref 67, .int x1, .int x2, .int (-3)]) rfl ?_
          refine x_aload_n (pc' := 49) dX5_readArea_48 rfl rfl rfl ?_
          refine x_dup (pc' := 50) dX5_readArea_49 rfl rfl ?_
          refine x_geti (pc' := 53) dX5_readArea_50 rfl lfX5_26 kd_67 rfl ?_
          refine x_iconst (pc' := 54) (v := 1) dX5_readArea_53 rfl (by decide) ?_
          refine x_iadd (pc' := 55) dX5_readArea_54 rfl ?_
          refine x_puti (pc' := 58) dX5_readArea_55 rfl lfX5_26 kd_67 rfl rfl rfl ?_
          obtain ⟨τ21, eτ21⟩ : ∃ τ : Mem, τ = (w1 τ15 67 3 ((τ15.1 67 3) + 1)) := ⟨_, rfl⟩
          show X none (d + 1) mX5_readArea 58 [.ref 67, .int x1, .int x2, .int (-3)] [] (w1 τ15 67 3 ((τ15.1 67 3) + 1)) _
          rw [← eτ21]
          replace h := h τ21 eτ21
          refine x_aload_n (pc' := 59) dX5_readArea_58 rfl rfl rfl ?_
          refine x_iload_n (pc' := 60) dX5_readArea_59 rfl rfl rfl ?_
          refine x_callV (pc' := 63) (As := [.int x1]) dX5_readArea_60 rfl lmX5_49 kd_67 rfl rfl (Nat.le_of_ble_eq_true rfl) (Nat.le_of_ble_eq_true rfl) ?_
          show X none d mX5_readPart 0 [.ref 67, .int x1, Unk] [] τ21 _
          refine X.mono h ?_
          rintro r τ22 ⟨rfl, h⟩
          show X none (d + 1) mX5_readArea 63 [.ref 67, .int x1, .int x2, .int (-3)] [] τ22 _
          refine x_aload_n (pc' := 64) dX5_readArea_63 rfl rfl rfl ?_
          refine x_getr (pc' := 67) dX5_readArea_64 rfl lfX5_18 kd_67 rfl rf_67_1 ?_
          refine x_iload_n (pc' := 68) dX5_readArea_67 rfl rfl rfl ?_
          refine x_callV (pc' := 71) (As := [.int (-3)]) dX5_readArea_68 rfl lmX5_52 (OKS.k okS_69) rfl rfl (Nat.le_of_ble_eq_true rfl) (Nat.le_of_ble_eq_true rfl) ?_
          show X none d mX6_addStep 0 [.ref 69, .int (-3)] [] τ22 _
          refine x_aload_n (pc' := 1) dX6_addStep_0 rfl rfl rfl ?_
          refine x_geti (pc' := 4) dX6_addStep_1 rfl lfX6_18 (OKS.k okS_69) rfl ?_
          refine x_bipush (pc' := 6) (v := 120) dX6_addStep_4 rfl (by decide) ?_
          refine x_icmp_ge (pc' := 9) (tgt := 29) dX6_addStep_6 (by decide) rfl (fun hc => ?_) (fun hc => ?_)
          · replace h := h.1 hc
            refine x_vret dX6_addStep_29 rfl ?_
            show X none (d + 1) mX5_readArea 71 [.ref 67, .int x1, .int x2, .int (-3)] [] τ22 _
            refine x_iinc (pc' := 74) (v := 1) dX5_readArea_71 rfl (by decide) rfl rfl (by decide) (ls' := [.ref 67, .int x1, .int (x2 + 1), .int (-3)]) rfl ?_
            refine x_goto (pc' := 7) dX5_readArea_74 (by decide) ?_
            refine x_forget 3 (ls' := [.ref 67, .int x1, .int (x2 + 1), Unk]) rfl ?_
            exact h
          · replace h := h.2 hc
            refine x_aload_n (pc' := 10) dX6_addStep_9 rfl rfl rfl ?_
            refine x_getr (pc' := 13) dX6_addStep_10 rfl lfX6_9 (OKS.k okS_69) rfl (OKS.r0 okS_69) ?_
            refine x_aload_n (pc' := 14) dX6_addStep_13 rfl rfl rfl ?_
            refine x_geti (pc' := 17) dX6_addStep_14 rfl lfX6_18 (OKS.k okS_69) rfl ?_
            refine x_iload_n (pc' := 18) dX6_addStep_17 rfl rfl rfl ?_
            obtain ⟨hb, h⟩ := h
            refine x_iast (pc' := 19) dX6_addStep_18 rfl (OKS.a0 okS_69) (by rw [(OKS.n0 okS_69)]; exact hb) ?_
            obtain ⟨τ23, eτ23⟩ : ∃ τ : Mem, τ = (w1 τ22 70 (τ22.1 69 2).toNatClampNeg (-3)) := ⟨_, rfl⟩
            show X none d mX6_addStep 19 [.ref 69, .int (-3)] [] (w1 τ22 70 (τ22.1 69 2).toNatClampNeg (-3)) _
            rw [← eτ23]
            replace h := h τ23 eτ23
            refine x_aload_n (pc' := 20) dX6_addStep_19 rfl rfl rfl ?_
            refine x_dup (pc' := 21) dX6_addStep_20 rfl rfl ?_
            refine x_geti (pc' := 24) dX6_addStep_21 rfl lfX6_18 (OKS.k okS_69) rfl ?_
            refine x_iconst (pc' := 25) (v := 1) dX6_addStep_24 rfl (by decide) ?_
            refine x_iadd (pc' := 26) dX6_addStep_25 rfl ?_
            refine x_puti (pc' := 29) dX6_addStep_26 rfl lfX6_18 (OKS.k okS_69) rfl rfl rfl ?_
            obtain ⟨τ24, eτ24⟩ : ∃ τ : Mem, τ = (w1 τ23 69 2 ((τ23.1 69 2) + 1)) := ⟨_, rfl⟩
            show X none d mX6_addStep 29 [.ref 69, .int (-3)] [] (w1 τ23 69 2 ((τ23.1 69 2) + 1)) _
            rw [← eτ24]
            replace h := h τ24 eτ24
            refine x_vret dX6_addStep_29 rfl ?_
            show X none (d + 1) mX5_readArea 71 [.ref 67, .int x1, .int x2, .int (-3)] [] τ24 _
            refine x_iinc (pc' := 74) (v := 1) dX5_readArea_71 rfl (by decide) rfl rfl (by decide) (ls' := [.ref 67, .int x1, .int (x2 + 1), .int (-3)]) rfl ?_
            refine x_goto (pc' := 7) dX5_readArea_74 (by decide) ?_
            refine x_forget 3 (ls' := [.ref 67, .int x1, .int (x2 + 1), Unk]) rfl ?_
            exact h
set_option maxRecDepth 100000 in
set_option maxHeartbeats 4000000 in
theorem vX5_read_0 {d : Nat} {σ : Mem} {Q : Option Value → Mem → Prop} 
    (h : (∀ τ1 : Mem, τ1 = (w1 σ 67 3 0) → (∀ τ2 : Mem, τ2 = (w1 τ1 67 4 (-1)) → (∀ τ3 : Mem, τ3 = (w1 τ2 69 2 0) → (∀ τ4 : Mem, τ4 = (w1 τ3 69 3 0) → (X none (d + 2) mX5_readArea 0 [.ref 67, .int 0, Unk, Unk] [] τ4 (fun r τ5 => r = none ∧ (X none (d + 2) mX5_expect 0 [.ref 67, .int 59] [] τ5 (fun r τ6 => r = none ∧ (X none (d + 2) mX5_nextSign 0 [.ref 67] [] τ6 (fun r τ7 => ∃ u8 : Int32, r = some (.int u8) ∧ ((u8 = (-1) → Q (some (.int (τ7.1 67 4))) τ7) ∧ (¬ u8 = (-1) → ((0 ≤ (τ7.1 67 4) → Q (some (.int (τ7.1 67 4))) τ7) ∧ (¬ 0 ≤ (τ7.1 67 4) → (∀ τ9 : Mem, τ9 = (w1 τ7 67 4 (τ7.1 67 3)) → Q (some (.int (τ9.1 67 4))) τ9)))))))))))))))) :
    X none (d + 3) mX5_read 0 [.ref 67] [] σ Q := by
  refine x_aload_n (pc' := 1) dX5_read_0 rfl rfl rfl ?_
  refine x_iconst (pc' := 2) (v := 0) dX5_read_1 rfl (by decide) ?_
  refine x_puti (pc' := 5) dX5_read_2 rfl lfX5_26 kd_67 rfl rfl rfl ?_
  obtain ⟨τ1, eτ1⟩ : ∃ τ : Mem, τ = (w1 σ 67 3 0) := ⟨_, rfl⟩
  show X none (d + 3) mX5_read 5 [.ref 67] [] (w1 σ 67 3 0) _
  rw [← eτ1]
  replace h := h τ1 eτ1
  refine x_aload_n (pc' := 6) dX5_read_5 rfl rfl rfl ?_
  refine x_iconst (pc' := 7) (v := (-1)) dX5_read_6 rfl (by decide) ?_
  refine x_puti (pc' := 10) dX5_read_7 rfl lfX5_29 kd_67 rfl rfl rfl ?_
  obtain ⟨τ2, eτ2⟩ : ∃ τ : Mem, τ = (w1 τ1 67 4 (-1)) := ⟨_, rfl⟩
  show X none (d + 3) mX5_read 10 [.ref 67] [] (w1 τ1 67 4 (-1)) _
  rw [← eτ2]
  replace h := h τ2 eτ2
  refine x_aload_n (pc' := 11) dX5_read_10 rfl rfl rfl ?_
  refine x_getr (pc' := 14) dX5_read_11 rfl lfX5_18 kd_67 rfl rf_67_1 ?_
  refine x_callV (pc' := 17) (As := []) dX5_read_14 rfl lmX5_32 (OKS.k okS_69) rfl rfl (Nat.le_of_ble_eq_true rfl) (Nat.le_of_ble_eq_true rfl) ?_
  show X none (d + 2) mX6_empty 0 [.ref 69] [] τ2 _
  refine x_aload_n (pc' := 1) dX6_empty_0 rfl rfl rfl ?_
  refine x_iconst (pc' := 2) (v := 0) dX6_empty_1 rfl (by decide) ?_
  refine x_puti (pc' := 5) dX6_empty_2 rfl lfX6_18 (OKS.k okS_69) rfl rfl rfl ?_
  obtain ⟨τ3, eτ3⟩ : ∃ τ : Mem, τ = (w1 τ2 69 2 0) := ⟨_, rfl⟩
  show X none (d + 2) mX6_empty 5 [.ref 69] [] (w1 τ2 69 2 0) _
  rw [← eτ3]
  replace h := h τ3 eτ3
  refine x_aload_n (pc' := 6) dX6_empty_5 rfl rfl rfl ?_
  refine x_iconst (pc' := 7) (v := 0) dX6_empty_6 rfl (by decide) ?_
  refine x_puti (pc' := 10) dX6_empty_7 rfl lfX6_22 (OKS.k okS_69) rfl rfl rfl ?_
  obtain ⟨τ4, eτ4⟩ : ∃ τ : Mem, τ = (w1 τ3 69 3 0) := ⟨_, rfl⟩
  show X none (d + 2) mX6_empty 10 [.ref 69] [] (w1 τ3 69 3 0) _
  rw [← eτ4]
  replace h := h τ4 eτ4
  refine x_vret dX6_empty_10 rfl ?_
  show X none (d + 3) mX5_read 17 [.ref 67] [] τ4 _
  refine x_aload_n (pc' := 18) dX5_read_17 rfl rfl rfl ?_
  refine x_iconst (pc' := 19) (v := 0) dX5_read_18 rfl (by decide) ?_
  refine x_callV (pc' := 22) (As := [.int 0]) dX5_read_19 rfl lmX5_35 kd_67 rfl rfl (Nat.le_of_ble_eq_true rfl) (Nat.le_of_ble_eq_true rfl) ?_
  show X none (d + 2) mX5_readArea 0 [.ref 67, .int 0, Unk, Unk] [] τ4 _
  refine X.mono h ?_
  rintro r τ5 ⟨rfl, h⟩
  show X none (d + 3) mX5_read 22 [.ref 67] [] τ5 _
  refine x_aload_n (pc' := 23) dX5_read_22 rfl rfl rfl ?_
  refine x_bipush (pc' := 25) (v := 59) dX5_read_23 rfl (by decide) ?_
  refine x_callV (pc' := 28) (As := [.int 59]) dX5_read_25 rfl lmX5_39 kd_67 rfl rfl (Nat.le_of_ble_eq_true rfl) (Nat.le_of_ble_eq_true rfl) ?_
  show X none (d + 2) mX5_expect 0 [.ref 67, .int 59] [] τ5 _
  refine X.mono h ?_
  rintro r τ6 ⟨rfl, h⟩
  show X none (d + 3) mX5_read 28 [.ref 67] [] τ6 _
  refine x_aload_n (pc' := 29) dX5_read_28 rfl rfl rfl ?_
  refine x_callV (pc' := 32) (As := []) dX5_read_29 rfl lmX5_42 kd_67 rfl rfl (Nat.le_of_ble_eq_true rfl) (Nat.le_of_ble_eq_true rfl) ?_
  show X none (d + 2) mX5_nextSign 0 [.ref 67] [] τ6 _
  refine X.mono h ?_
  rintro r τ7 ⟨u8, rfl, h⟩
  show X none (d + 3) mX5_read 32 [.ref 67] [.int u8] τ7 _
  refine x_iconst (pc' := 33) (v := (-1)) dX5_read_32 rfl (by decide) ?_
  refine x_icmp_eq (pc' := 36) (tgt := 44) dX5_read_33 (by decide) rfl (fun hc => ?_) (fun hc => ?_)
  · replace h := h.1 hc
    refine x_aload_n (pc' := 45) dX5_read_44 rfl rfl rfl ?_
    refine x_geti (pc' := 48) dX5_read_45 rfl lfX5_29 kd_67 rfl ?_
    exact x_iret dX5_read_48 rfl rfl h
  · replace h := h.2 hc
    refine x_aload_n (pc' := 37) dX5_read_36 rfl rfl rfl ?_
    refine x_aload_n (pc' := 38) dX5_read_37 rfl rfl rfl ?_
    refine x_geti (pc' := 41) dX5_read_38 rfl lfX5_26 kd_67 rfl ?_
    refine x_callV (pc' := 44) (As := [.int (τ7.1 67 3)]) dX5_read_41 rfl lmX5_46 kd_67 rfl rfl (Nat.le_of_ble_eq_true rfl) (Nat.le_of_ble_eq_true rfl) ?_
    show X none (d + 2) mX5_fail 0 [.ref 67, .int (τ7.1 67 3)] [] τ7 _
    refine x_aload_n (pc' := 1) dX5_fail_0 rfl rfl rfl ?_
    refine x_geti (pc' := 4) dX5_fail_1 rfl lfX5_29 kd_67 rfl ?_
    refine x_if_ge (pc' := 7) (tgt := 12) dX5_fail_4 (by decide) rfl (fun hc => ?_) (fun hc => ?_)
    · replace h := h.1 hc
      refine x_vret dX5_fail_12 rfl ?_
      show X none (d + 3) mX5_read 44 [.ref 67] [] τ7 _
      refine x_aload_n (pc' := 45) dX5_read_44 rfl rfl rfl ?_
      refine x_geti (pc' := 48) dX5_read_45 rfl lfX5_29 kd_67 rfl ?_
      exact x_iret dX5_read_48 rfl rfl h
    · replace h := h.2 hc
      refine x_aload_n (pc' := 8) dX5_fail_7 rfl rfl rfl ?_
      refine x_iload_n (pc' := 9) dX5_fail_8 rfl rfl rfl ?_
      refine x_puti (pc' := 12) dX5_fail_9 rfl lfX5_29 kd_67 rfl rfl rfl ?_
      obtain ⟨τ9, eτ9⟩ : ∃ τ : Mem, τ = (w1 τ7 67 4 (τ7.1 67 3)) := ⟨_, rfl⟩
      show X none (d + 2) mX5_fail 12 [.ref 67, .int (τ7.1 67 3)] [] (w1 τ7 67 4 (τ7.1 67 3)) _
      rw [← eτ9]
      replace h := h τ9 eτ9
      refine x_vret dX5_fail_12 rfl ?_
      show X none (d + 3) mX5_read 44 [.ref 67] [] τ9 _
      refine x_aload_n (pc' := 45) dX5_read_44 rfl rfl rfl ?_
      refine x_geti (pc' := 48) dX5_read_45 rfl lfX5_29 kd_67 rfl ?_
      exact x_iret dX5_read_48 rfl rfl h
