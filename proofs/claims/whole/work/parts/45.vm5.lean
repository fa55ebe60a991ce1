set_option maxRecDepth 100000 in
set_option maxHeartbeats 4000000 in
theorem vX8_next_0 {d : Nat} {σ : Mem} {Q : Option Value → Mem → Prop} 
    (h : (((σ.1 94 6) ≤ (σ.1 94 13) → (∀ τ1 : Mem, τ1 = (w1 σ 94 14 (σ.1 94 13)) → (((τ1.1 94 6) ≤ (τ1.1 94 13) → Q (some (.int (-1))) τ1) ∧ (¬ (τ1.1 94 6) ≤ (τ1.1 94 13) → (vp_in (τ1.1 94 13) 120 ∧ Q (some (.int (τ1.1 98 (τ1.1 94 13).toNatClampNeg))) τ1))))) ∧ (¬ (σ.1 94 6) ≤ (σ.1 94 13) → (vp_in (σ.1 94 13) 120 ∧ ((¬ (σ.1 98 (σ.1 94 13).toNatClampNeg) = 32 → (∀ τ2 : Mem, τ2 = (w1 σ 94 14 (σ.1 94 13)) → (((τ2.1 94 6) ≤ (τ2.1 94 13) → Q (some (.int (-1))) τ2) ∧ (¬ (τ2.1 94 6) ≤ (τ2.1 94 13) → (vp_in (τ2.1 94 13) 120 ∧ Q (some (.int (τ2.1 98 (τ2.1 94 13).toNatClampNeg))) τ2))))) ∧ ((σ.1 98 (σ.1 94 13).toNatClampNeg) = 32 → (∀ τ3 : Mem, τ3 = (w1 σ 94 13 ((σ.1 94 13) + 1)) → X none (d + 1) mX8_next 0 [.ref 94] [] τ3 Q))))))) :
    X none (d + 1) mX8_next 0 [.ref 94] [] σ Q := by
  refine x_aload_n (pc' := 1) dX8_next_0 rfl rfl rfl ?_
  refine x_callV (pc' := 4) (As := []) dX8_next_1 rfl lmX8_194 kd_94 rfl rfl (Nat.le_of_ble_eq_true rfl) (Nat.le_of_ble_eq_true rfl) ?_
  show X none d mX8_here 0 [.ref 94] [] σ _
  refine x_aload_n (pc' := 1) dX8_here_0 rfl rfl rfl ?_
  refine x_geti (pc' := 4) dX8_here_1 rfl lfX8_191 kd_94 rfl ?_
  refine x_aload_n (pc' := 5) dX8_here_4 rfl rfl rfl ?_
  refine x_geti (pc' := 8) dX8_here_5 rfl lfX8_188 kd_94 rfl ?_
  refine x_icmp_ge (pc' := 11) (tgt := 23) dX8_here_8 (by decide) rfl (fun hc => ?_) (fun hc => ?_)
  · replace h := h.1 hc
    refine x_iconst (pc' := 24) (v := (-1)) dX8_here_23 rfl (by decide) ?_
    refine x_iret dX8_here_24 rfl rfl ?_
    show X none (d + 1) mX8_next 4 [.ref 94] [.int (-1)] σ _
    refine x_bipush (pc' := 6) (v := 32) dX8_next_4 rfl (by decide) ?_
    refine x_icmp_ne (pc' := 9) (tgt := 22) dX8_next_6 (by decide) rfl (fun _ => ?_) (fun hc => absurd hc (by decide))
    refine x_aload_n (pc' := 23) dX8_next_22 rfl rfl rfl ?_
    refine x_aload_n (pc' := 24) dX8_next_23 rfl rfl rfl ?_
    refine x_geti (pc' := 27) dX8_next_24 rfl lfX8_191 kd_94 rfl ?_
    refine x_puti (pc' := 30) dX8_next_27 rfl lfX8_197 kd_94 rfl rfl rfl ?_
    obtain ⟨τ1, eτ1⟩ : ∃ τ : Mem, τ = (w1 σ 94 14 (σ.1 94 13)) := ⟨_, rfl⟩
    show X none (d + 1) mX8_next 30 [.ref 94] [] (w1 σ 94 14 (σ.1 94 13)) _
    rw [← eτ1]
    replace h := h τ1 eτ1
    refine x_aload_n (pc' := 31) dX8_next_30 rfl rfl rfl ?_
    refine x_callV (pc' := 34) (As := []) dX8_next_31 rfl lmX8_194 kd_94 rfl rfl (Nat.le_of_ble_eq_true rfl) (Nat.le_of_ble_eq_true rfl) ?_
    show X none d mX8_here 0 [.ref 94] [] τ1 _
    refine x_aload_n (pc' := 1) dX8_here_0 rfl rfl rfl ?_
    refine x_geti (pc' := 4) dX8_here_1 rfl lfX8_191 kd_94 rfl ?_
    refine x_aload_n (pc' := 5) dX8_here_4 rfl rfl rfl ?_
    refine x_geti (pc' := 8) dX8_here_5 rfl lfX8_188 kd_94 rfl ?_
    refine x_icmp_ge (pc' := 11) (tgt := 23) dX8_here_8 (by decide) rfl (fun hc => ?_) (fun hc => ?_)
    · replace h := h.1 hc
      refine x_iconst (pc' := 24) (v := (-1)) dX8_here_23 rfl (by decide) ?_
      refine x_iret dX8_here_24 rfl rfl ?_
      show X none (d + 1) mX8_next 34 [.ref 94] [.int (-1)] τ1 _
      exact x_iret dX8_next_34 rfl rfl h
    · replace h := h.2 hc
      refine x_aload_n (pc' := 12) dX8_here_11 rfl rfl rfl ?_
      refine x_getr (pc' := 15) dX8_here_12 rfl lfX8_20 kd_94 rfl rf_94_5 ?_
      refine x_aload_n (pc' := 16) dX8_here_15 rfl rfl rfl ?_
      refine x_geti (pc' := 19) dX8_here_16 rfl lfX8_191 kd_94 rfl ?_
      obtain ⟨hb, h⟩ := h
      refine x_iald (pc' := 20) dX8_here_19 rfl kd_98 (by rw [ln_98]; exact hb) ?_
      refine x_goto (pc' := 24) dX8_here_20 (by decide) ?_
      refine x_iret dX8_here_24 rfl rfl ?_
      show X none (d + 1) mX8_next 34 [.ref 94] [.int (τ1.1 98 (τ1.1 94 13).toNatClampNeg)] τ1 _
      exact x_iret dX8_next_34 rfl rfl h
  · replace h := h.2 hc
    refine x_aload_n (pc' := 12) dX8_here_11 rfl rfl rfl ?_
    refine x_getr (pc' := 15) dX8_here_12 rfl lfX8_20 kd_94 rfl rf_94_5 ?_
    refine x_aload_n (pc' := 16) dX8_here_15 rfl rfl rfl ?_
    refine x_geti (pc' := 19) dX8_here_16 rfl lfX8_191 kd_94 rfl ?_
    obtain ⟨hb, h⟩ := h
    refine x_iald (pc' := 20) dX8_here_19 rfl kd_98 (by rw [ln_98]; exact hb) ?_
    refine x_goto (pc' := 24) dX8_here_20 (by decide) ?_
    refine x_iret dX8_here_24 rfl rfl ?_
    show X none (d + 1) mX8_next 4 [.ref 94] [.int (σ.1 98 (σ.1 94 13).toNatClampNeg)] σ _
    refine x_bipush (pc' := 6) (v := 32) dX8_next_4 rfl (by decide) ?_
    refine x_icmp_ne (pc' := 9) (tgt := 22) dX8_next_6 (by decide) rfl (fun hc => ?_) (fun hc => ?_)
    · replace h := h.1 hc
      refine x_aload_n (pc' := 23) dX8_next_22 rfl rfl rfl ?_
      refine x_aload_n (pc' := 24) dX8_next_23 rfl rfl rfl ?_
      refine x_geti (pc' := 27) dX8_next_24 rfl lfX8_191 kd_94 rfl ?_
      refine x_puti (pc' := 30) dX8_next_27 rfl lfX8_197 kd_94 rfl rfl rfl ?_
      obtain ⟨τ2, eτ2⟩ : ∃ τ : Mem, τ = (w1 σ 94 14 (σ.1 94 13)) := ⟨_, rfl⟩
      show X none (d + 1) mX8_next 30 [.ref 94] [] (w1 σ 94 14 (σ.1 94 13)) _
      rw [← eτ2]
      replace h := h τ2 eτ2
      refine x_aload_n (pc' := 31) dX8_next_30 rfl rfl rfl ?_
      refine x_callV (pc' := 34) (As := []) dX8_next_31 rfl lmX8_194 kd_94 rfl rfl (Nat.le_of_ble_eq_true rfl) (Nat.le_of_ble_eq_true rfl) ?_
      show X none d mX8_here 0 [.ref 94] [] τ2 _
      refine x_aload_n (pc' := 1) dX8_here_0 rfl rfl rfl ?_
      refine x_geti (pc' := 4) dX8_here_1 rfl lfX8_191 kd_94 rfl ?_
      refine x_aload_n (pc' := 5) dX8_here_4 rfl rfl rfl ?_
      refine x_geti (pc' := 8) dX8_here_5 rfl lfX8_188 kd_94 rfl ?_
      refine x_icmp_ge (pc' := 11) (tgt := 23) dX8_here_8 (by decide) rfl (fun hc => ?_) (fun hc => ?_)
      · replace h := h.1 hc
        refine x_iconst (pc' := 24) (v := (-1)) dX8_here_23 rfl (by decide) ?_
        refine x_iret dX8_here_24 rfl rfl ?_
        show X none (d + 1) mX8_next 34 [.ref 94] [.int (-1)] τ2 _
        exact x_iret dX8_next_34 rfl rfl h
      · replace h := h.2 hc
        refine x_aload_n (pc' := 12) dX8_here_11 rfl rfl rfl ?_
        refine x_getr (pc' := 15) dX8_here_12 rfl lfX8_20 kd_94 rfl rf_94_5 ?_
        refine x_aload_n (pc' := 16) dX8_here_15 rfl rfl rfl ?_
        refine x_geti (pc' := 19) dX8_here_16 rfl lfX8_191 kd_94 rfl ?_
        obtain ⟨hb, h⟩ := h
        refine x_iald (pc' := 20) dX8_here_19 rfl kd_98 (by rw [ln_98]; exact hb) ?_
        refine x_goto (pc' := 24) dX8_here_20 (by decide) ?_
        refine x_iret dX8_here_24 rfl rfl ?_
        show X none (d + 1) mX8_next 34 [.ref 94] [.int (τ2.1 98 (τ2.1 94 13).toNatClampNeg)] τ2 _
        exact x_iret dX8_next_34 rfl rfl h
    · replace h := h.2 hc
      refine x_aload_n (pc' := 10) dX8_next_9 rfl rfl rfl ?_
      refine x_dup (pc' := 11) dX8_next_10 rfl rfl ?_
      refine x_geti (pc' := 14) dX8_next_11 rfl lfX8_191 kd_94 rfl ?_
      refine x_iconst (pc' := 15) (v := 1) dX8_next_14 rfl (by decide) ?_
      refine x_iadd (pc' := 16) dX8_next_15 rfl ?_
      refine x_puti (pc' := 19) dX8_next_16 rfl lfX8_191 kd_94 rfl rfl rfl ?_
      obtain ⟨τ3, eτ3⟩ : ∃ τ : Mem, τ = (w1 σ 94 13 ((σ.1 94 13) + 1)) := ⟨_, rfl⟩
      show X none (d + 1) mX8_next 19 [.ref 94] [] (w1 σ 94 13 ((σ.1 94 13) + 1)) _
      rw [← eτ3]
      replace h := h τ3 eτ3
      refine x_goto (pc' := 0) dX8_next_19 (by decide) ?_
      exact h
set_option maxRecDepth 100000 in
set_option maxHeartbeats 4000000 in
theorem vX8_takes_0 {d : Nat} {σ : Mem} {Q : Option Value → Mem → Prop} {x1 : Int32} 
    (h : (X none (d + 1) mX8_next 0 [.ref 94] [] σ (fun r τ1 => ∃ u2 : Int32, r = some (.int u2) ∧ ((¬ u2 = x1 → (∀ τ3 : Mem, τ3 = (w1 τ1 94 13 ((τ1.1 94 13) + 0)) → Q (some (.int 0)) τ3)) ∧ (u2 = x1 → (∀ τ4 : Mem, τ4 = (w1 τ1 94 13 ((τ1.1 94 13) + 1)) → Q (some (.int 1)) τ4)))))) :
    X none (d + 2) mX8_takes 0 [.ref 94, .int x1, Unk] [] σ Q := by
  refine x_aload_n (pc' := 1) dX8_takes_0 rfl rfl rfl ?_
  refine x_callV (pc' := 4) (As := []) dX8_takes_1 rfl lmX8_200 kd_94 rfl rfl (Nat.le_of_ble_eq_true rfl) (Nat.le_of_ble_eq_true rfl) ?_
  show X none (d + 1) mX8_next 0 [.ref 94] [] σ _
  refine X.mono h ?_
  rintro r τ1 ⟨u2, rfl, h⟩
  show X none (d + 2) mX8_takes 4 [.ref 94, .int x1, Unk] [.int u2] τ1 _
  refine x_iload_n (pc' := 5) dX8_takes_4 rfl rfl rfl ?_
  refine x_icmp_ne (pc' := 8) (tgt := 12) dX8_takes_5 (by decide) rfl (fun hc => ?_) (fun hc => ?_)
  · replace h := h.1 hc
    refine x_iconst (pc' := 13) (v := 0) dX8_takes_12 rfl (by decide) ?_
    refine x_istore_n (pc' := 14) dX8_takes_13 rfl rfl (by decide) rfl (ls' := [.ref 94, .int x1, .int 0]) rfl ?_
    refine x_aload_n (pc' := 15) dX8_takes_14 rfl rfl rfl ?_
    refine x_dup (pc' := 16) dX8_takes_15 rfl rfl ?_
    refine x_geti (pc' := 19) dX8_takes_16 rfl lfX8_191 kd_94 rfl ?_
    refine x_iload_n (pc' := 20) dX8_takes_19 rfl rfl rfl ?_
    refine x_if_eq (pc' := 23) (tgt := 27) dX8_takes_20 (by decide) rfl (fun _ => ?_) (fun hc => absurd hc (by decide))
    refine x_iconst (pc' := 28) (v := 0) dX8_takes_27 rfl (by decide) ?_
    refine x_iadd (pc' := 29) dX8_takes_28 rfl ?_
    refine x_puti (pc' := 32) dX8_takes_29 rfl lfX8_191 kd_94 rfl rfl rfl ?_
    obtain ⟨τ3, eτ3⟩ : ∃ τ : Mem, τ = (w1 τ1 94 13 ((τ1.1 94 13) + 0)) := ⟨_, rfl⟩
    show X none (d + 2) mX8_takes 32 [.ref 94, .int x1, .int 0] [] (w1 τ1 94 13 ((τ1.1 94 13) + 0)) _
    rw [← eτ3]
    replace h := h τ3 eτ3
    refine x_iload_n (pc' := 33) dX8_takes_32 rfl rfl rfl ?_
    exact x_iret dX8_takes_33 rfl rfl h
  · replace h := h.2 hc
    refine x_iconst (pc' := 9) (v := 1) dX8_takes_8 rfl (by decide) ?_
    refine x_goto (pc' := 13) dX8_takes_9 (by decide) ?_
    refine x_istore_n (pc' := 14) dX8_takes_13 rfl rfl (by decide) rfl (ls' := [.ref 94, .int x1, .int 1]) rfl ?_
    refine x_aload_n (pc' := 15) dX8_takes_14 rfl rfl rfl ?_
    refine x_dup (pc' := 16) dX8_takes_15 rfl rfl ?_
    refine x_geti (pc' := 19) dX8_takes_16 rfl lfX8_191 kd_94 rfl ?_
    refine x_iload_n (pc' := 20) dX8_takes_19 rfl rfl rfl ?_
    refine x_if_eq (pc' := 23) (tgt := 27) dX8_takes_20 (by decide) rfl (fun hc => absurd hc (by decide)) (fun _ => ?_)
    refine x_iconst (pc' := 24) (v := 1) dX8_takes_23 rfl (by decide) ?_
    refine x_goto (pc' := 28) dX8_takes_24 (by decide) ?_
    refine x_iadd (pc' := 29) dX8_takes_28 rfl ?_
    refine x_puti (pc' := 32) dX8_takes_29 rfl lfX8_191 kd_94 rfl rfl rfl ?_
    obtain ⟨τ4, eτ4⟩ : ∃ τ : Mem, τ = (w1 τ1 94 13 ((τ1.1 94 13) + 1)) := ⟨_, rfl⟩
    show X none (d + 2) mX8_takes 32 [.ref 94, .int x1, .int 1] [] (w1 τ1 94 13 ((τ1.1 94 13) + 1)) _
    rw [← eτ4]
    replace h := h τ4 eτ4
    refine x_iload_n (pc' := 33) dX8_takes_32 rfl rfl rfl ?_
    exact x_iret dX8_takes_33 rfl rfl h
set_option maxRecDepth 100000 in
set_option maxHeartbeats 4000000 in
theorem vX8_takesNumber_0 {d : Nat} {σ : Mem} {Q : Option Value → Mem → Prop} {x1 : Int32} 
    (h : (X none (d + 1) mX8_next 0 [.ref 94] [] σ (fun r τ1 => ∃ u2 : Int32, r = some (.int u2) ∧ ((¬ u2 = 45 → (∀ τ3 : Mem, τ3 = (w1 τ1 94 13 ((τ1.1 94 13) + 0)) → (∀ τ4 : Mem, τ4 = (w1 τ3 94 17 0) → X none (d + 2) mX8_takesNumber 46 [.ref 94, .int x1, .int 0, .int (τ1.1 94 13), .int 0] [] τ4 Q))) ∧ (u2 = 45 → (∀ τ5 : Mem, τ5 = (w1 τ1 94 13 ((τ1.1 94 13) + 1)) → (∀ τ6 : Mem, τ6 = (w1 τ5 94 17 0) → X none (d + 2) mX8_takesNumber 46 [.ref 94, .int x1, .int 1, .int (τ1.1 94 13), .int 0] [] τ6 Q))))))) :
    X none (d + 2) mX8_takesNumber 0 [.ref 94, .int x1, Unk, Unk, Unk] [] σ Q := by
  refine x_aload_n (pc' := 1) dX8_takesNumber_0 rfl rfl rfl ?_
  refine x_callV (pc' := 4) (As := []) dX8_takesNumber_1 rfl lmX8_200 kd_94 rfl rfl (Nat.le_of_ble_eq_true rfl) (Nat.le_of_ble_eq_true rfl) ?_
  show X none (d + 1) mX8_next 0 [.ref 94] [] σ _
  refine X.mono h ?_
  rintro r τ1 ⟨u2, rfl, h⟩
  show X none (d + 2) mX8_takesNumber 4 [.ref 94, .int x1, Unk, Unk, Unk] [.int u2] τ1 _
  refine x_bipush (pc' := 6) (v := 45) dX8_takesNumber_4 rfl (by decide) ?_
  refine x_icmp_ne (pc' := 9) (tgt := 13) dX8_takesNumber_6 (by decide) rfl (fun hc => ?_) (fun hc => ?_)
  · replace h := h.1 hc
    refine x_iconst (pc' := 14) (v := 0) dX8_takesNumber_13 rfl (by decide) ?_
    refine x_istore_n (pc' := 15) dX8_takesNumber_14 rfl rfl (by decide) rfl (ls' := [.ref 94, .int x1, .int 0, Unk, Unk]) rfl ?_
    refine x_aload_n (pc' := 16) dX8_takesNumber_15 rfl rfl rfl ?_
    refine x_geti (pc' := 19) dX8_takesNumber_16 rfl lfX8_191 kd_94 rfl ?_
    refine x_istore_n (pc' := 20) dX8_takesNumber_19 rfl rfl (by decide) rfl (ls' := [.ref 94, .int x1, .int 0, .int (τ1.1 94 13), Unk]) rfl ?_
    refine x_aload_n (pc' := 21) dX8_takesNumber_20 rfl rfl rfl ?_
    refine x_dup (pc' := 22) dX8_takesNumber_21 rfl rfl ?_
    refine x_geti (pc' := 25) dX8_takesNumber_22 rfl lfX8_191 kd_94 rfl ?_
    refine x_iload_n (pc' := 26) dX8_takesNumber_25 rfl rfl rfl ?_
    refine x_if_eq (pc' := 29) (tgt := 33) dX8_takesNumber_26 (by decide) rfl (fun _ => ?_) (fun hc => absurd hc (by decide))
    refine x_iconst (pc' := 34) (v := 0) dX8_takesNumber_33 rfl (by decide) ?_
    refine x_iadd (pc' := 35) dX8_takesNumber_34 rfl ?_
    refine x_puti (pc' := 38) dX8_takesNumber_35 rfl lfX8_191 kd_94 rfl rfl rfl ?_
    obtain ⟨τ3, eτ3⟩ : ∃ τ : Mem, τ = (w1 τ1 94 13 ((τ1.1 94 13) + 0)) := ⟨_, rfl⟩
    show X none (d + 2) mX8_takesNumber 38 [.ref 94, .int x1, .int 0, .int (τ1.1 94 13), Unk] [] (w1 τ1 94 13 ((τ1.1 94 13) + 0)) _
    rw [← eτ3]
    replace h := h τ3 eτ3
    refine x_iconst (pc' := 39) (v := 0) dX8_takesNumber_38 rfl (by decide) ?_
    refine x_istore (pc' := 41) dX8_takesNumber_39 rfl (by decide) rfl (ls' := [.ref 94, .int x1, .int 0, .int (τ1.1 94 13), .int 0]) rfl ?_
    refine x_aload_n (pc' := 42) dX8_takesNumber_41 rfl rfl rfl ?_
    refine x_iconst (pc' := 43) (v := 0) dX8_takesNumber_42 rfl (by decide) ?_
    refine x_puti (pc' := 46) dX8_takesNumber_43 rfl lfX8_203 kd_94 rfl rfl rfl ?_
    obtain ⟨τ4, eτ4⟩ : ∃ τ : Mem, τ = (w1 τ3 94 17 0) := ⟨_, rfl⟩
    show X none (d + 2) mX8_takesNumber 46 [.ref 94, .int x1, .int 0, .int (τ1.1 94 13), .int 0] [] (w1 τ3 94 17 0) _
    rw [← eτ4]
    replace h := h τ4 eτ4
    exact h
  · replace h := h.2 hc
    refine x_iconst (pc' := 10) (v := 1) dX8_takesNumber_9 rfl (by decide) ?_
    refine x_goto (pc' := 14) dX8_takesNumber_10 (by decide) ?_
    refine x_istore_n (pc' := 15) dX8_takesNumber_14 rfl rfl (by decide) rfl (ls' := [.ref 94, .int x1, .int 1, Unk, Unk]) rfl ?_
    refine x_aload_n (pc' := 16) dX8_takesNumber_15 rfl rfl rfl ?_
    refine x_geti (pc' := 19) dX8_takesNumber_16 rfl lfX8_191 kd_94 rfl ?_
    refine x_istore_n (pc' := 20) dX8_takesNumber_19 rfl rfl (by decide) rfl (ls' := [.ref 94, .int x1, .int 1, .int (τ1.1 94 13), Unk]) rfl ?_
    refine x_aload_n (pc' := 21) dX8_takesNumber_20 rfl rfl rfl ?_
    refine x_dup (pc' := 22) dX8_takesNumber_21 rfl rfl ?_
    refine x_geti (pc' := 25) dX8_takesNumber_22 rfl lfX8_191 kd_94 rfl ?_
    refine x_iload_n (pc' := 26) dX8_takesNumber_25 rfl rfl rfl ?_
    refine x_if_eq (pc' := 29) (tgt := 33) dX8_takesNumber_26 (by decide) rfl (fun hc => absurd hc (by decide)) (fun _ => ?_)
    refine x_iconst (pc' := 30) (v := 1) dX8_takesNumber_29 rfl (by decide) ?_
    refine x_goto (pc' := 34) dX8_takesNumber_30 (by decide) ?_
    refine x_iadd (pc' := 35) dX8_takesNumber_34 rfl ?_
    refine x_puti (pc' := 38) dX8_takesNumber_35 rfl lfX8_191 kd_94 rfl rfl rfl ?_
    obtain ⟨τ5, eτ5⟩ : ∃ τ : Mem, τ = (w1 τ1 94 13 ((τ1.1 94 13) + 1)) := ⟨_, rfl⟩
    show X none (d + 2) mX8_takesNumber 38 [.ref 94, .int x1, .int 1, .int (τ1.1 94 13), Unk] [] (w1 τ1 94 13 ((τ1.1 94 13) + 1)) _
    rw [← eτ5]
    replace h := h τ5 eτ5
    refine x_iconst (pc' := 39) (v := 0) dX8_takesNumber_38 rfl (by decide) ?_
    refine x_istore (pc' := 41) dX8_takesNumber_39 rfl (by decide) rfl (ls' := [.ref 94, .int x1, .int 1, .int (τ1.1 94 13), .int 0]) rfl ?_
    refine x_aload_n (pc' := 42) dX8_takesNumber_41 rfl rfl rfl ?_
    refine x_iconst (pc' := 43) (v := 0) dX8_takesNumber_42 rfl (by decide) ?_
    refine x_puti (pc' := 46) dX8_takesNumber_43 rfl lfX8_203 kd_94 rfl rfl rfl ?_
    obtain ⟨τ6, eτ6⟩ : ∃ τ : Mem, τ = (w1 τ5 94 17 0) := ⟨_, rfl⟩
    show X none (d + 2) mX8_takesNumber 46 [.ref 94, .int x1, .int 1, .int (τ1.1 94 13), .int 0] [] (w1 τ5 94 17 0) _
    rw [← eτ6]
    replace h := h τ6 eτ6
    exact h
set_option maxRecDepth 100000 in
set_option maxHeartbeats 4000000 in
theorem vX8_takesNumber_46 {d : Nat} {σ : Mem} {Q : Option Value → Mem → Prop} {x1 x2 x3 x4 : Int32} 
    (h : (((σ.1 94 6) ≤ (σ.1 94 13) → ((¬ (48 ≤ (-1) ∧ (-1) ≤ 57) → ((x2 = 0 → (∀ τ1 : Mem, τ1 = (w1 σ 94 17 (σ.1 94 17)) → ((¬ x4 = 0 → (∀ τ2 : Mem, τ2 = (w1 τ1 94 14 x3) → ((¬ (1 ≤ x4 ∧ x4 ≤ 3) → Q (some (.int 0)) τ2) ∧ ((1 ≤ x4 ∧ x4 ≤ 3) → ((¬ (x1 ≤ (τ2.1 94 17) ∧ (τ2.1 94 17) ≤ 500) → Q (some (.int 0)) τ2) ∧ ((x1 ≤ (τ2.1 94 17) ∧ (τ2.1 94 17) ≤ 500) → Q (some (.int 1)) τ2)))))) ∧ (x4 = 0 → (∀ τ3 : Mem, τ3 = (w1 τ1 94 14 (τ1.1 94 13)) → ((¬ (1 ≤ x4 ∧ x4 ≤ 3) → Q (some (.int 0)) τ3) ∧ ((1 ≤ x4 ∧ x4 ≤ 3) → ((¬ (x1 ≤ (τ3.1 94 17) ∧ (τ3.1 94 17) ≤ 500) → Q (some (.int 0)) τ3) ∧ ((x1 ≤ (τ3.1 94 17) ∧ (τ3.1 94 17) ≤ 500) → Q (some (.int 1)) τ3))))))))) ∧ (¬ x2 = 0 → (∀ τ4 : Mem, τ4 = (w1 σ 94 17 (-(σ.1 94 17))) → ((¬ x4 = 0 → (∀ τ5 : Mem, τ5 = (w1 τ4 94 14 x3) → ((¬ (1 ≤ x4 ∧ x4 ≤ 3) → Q (some (.int 0)) τ5) ∧ ((1 ≤ x4 ∧ x4 ≤ 3) → ((¬ (x1 ≤ (τ5.1 94 17) ∧ (τ5.1 94 17) ≤ 500) → Q (some (.int 0)) τ5) ∧ ((x1 ≤ (τ5.1 94 17) ∧ (τ5.1 94 17) ≤ 500) → Q (some (.int 1)) τ5)))))) ∧ (x4 = 0 → (∀ τ6 : Mem, τ6 = (w1 τ4 94 14 (τ4.1 94 13)) → ((¬ (1 ≤ x4 ∧ x4 ≤ 3) → Q (some (.int 0)) τ6) ∧ ((1 ≤ x4 ∧ x4 ≤ 3) → ((¬ (x1 ≤ (τ6.1 94 17) ∧ (τ6.1 94 17) ≤ 500) → Q (some (.int 0)) τ6) ∧ ((x1 ≤ (τ6.1 94 17) ∧ (τ6.1 94 17) ≤ 500) → Q (some (.int 1)) τ6))))))))))) ∧ ((48 ≤ (-1) ∧ (-1) ≤ 57) → ((4 ≤ x4 → (∀ τ7 : Mem, τ7 = (w1 σ 94 17 (σ.1 94 17)) → (∀ τ8 : Mem, τ8 = (w1 τ7 94 13 ((τ7.1 94 13) + 1)) → X none (d + 2) mX8_takesNumber 46 [.ref 94, .int x1, .int x2, .int x3, .int (x4 + 1)] [] τ8 Q))) ∧ (¬ 4 ≤ x4 → (((σ.1 94 6) ≤ (σ.1 94 13) → (∀ τ9 : Mem, τ9 = (w1 σ 94 17 (((10 * (σ.1 94 17)) + (-1)) - 48)) → (∀ τ10 : Mem, τ10 = (w1 τ9 94 13 ((τ9.1 94 13) + 1)) → X none (d + 2) mX8_takesNumber 46 [.ref 94, .int x1, .int x2, .int x3, .int (x4 + 1)] [] τ10 Q))) ∧ (¬ (σ.1 94 6) ≤ (σ.1 94 13) → (vp_in (σ.1 94 13) 120 ∧ (∀ τ11 : Mem, τ11 = (w1 σ 94 17 (((10 * (σ.1 94 17)) + (σ.1 98 (σ.1 94 13).toNatClampNeg)) - 48)) → (∀ τ12 : Mem, τ12 = (w1 τ11 94 13 ((τ11.1 94 13) + 1)) → X none (d + 2) mX8_takesNumber 46 [.ref 94, .int x1, .int x2, .int x3, .int (x4 + 1)] [] τ12 Q)))))))))) ∧ (¬ (σ.1 94 6) ≤ (σ.1 94 13) → (vp_in (σ.1 94 13) 120 ∧ ((¬ (48 ≤ (σ.1 98 (σ.1 94 13).toNatClampNeg) ∧ (σ.1 98 (σ.1 94 13).toNatClampNeg) ≤ 57) → ((x2 = 0 → (∀ τ13 : Mem, τ13 = (w1 σ 94 17 (σ.1 94 17)) → ((¬ x4 = 0 → (∀ τ14 : Mem, τ14 = (w1 τ13 94 14 x3) → ((¬ (1 ≤ x4 ∧ x4 ≤ 3) → Q (some (.int 0)) τ14) ∧ ((1 ≤ x4 ∧ x4 ≤ 3) → ((¬ (x1 ≤ (τ14.1 94 17) ∧ (τ14.1 94 17) ≤ 500) → Q (some (.int 0)) τ14) ∧ ((x1 ≤ (τ14.1 94 17) ∧ (τ14.1 94 17) ≤ 500) → Q (some (.int 1)) τ14)))))) ∧ (x4 = 0 → (∀ τ15 : Mem, τ15 = (w1 τ13 94 14 (τ13.1 94 13)) → ((¬ (1 ≤ x4 ∧ x4 ≤ 3) → Q (some (.int 0)) τ15) ∧ ((1 ≤ x4 ∧ x4 ≤ 3) → ((¬ (x1 ≤ (τ15.1 94 17) ∧ (τ15.1 94 17) ≤ 500) → Q (some (.int 0)) τ15) ∧ ((x1 ≤ (τ15.1 94 17) ∧ (τ15.1 94 17) ≤ 500) → Q (some (.int 1)) τ15))))))))) ∧ (¬ x2 = 0 → (∀ τ16 : Mem, τ16 = (w1 σ 94 17 (-(σ.1 94 17))) → ((¬ x4 = 0 → (∀ τ17 : Mem, τ17 = (w1 τ16 94 14 x3) → ((¬ (1 ≤ x4 ∧ x4 ≤ 3) → Q (some (.int 0)) τ17) ∧ ((1 ≤ x4 ∧ x4 ≤ 3) → ((¬ (x1 ≤ (τ17.1 94 17) ∧ (τ17.1 94 17) ≤ 500) → Q (some (.int 0)) τ17) ∧ ((x1 ≤ (τ17.1 94 17) ∧ (τ17.1 94 17) ≤ 500) → Q (some (.int 1)) τ17)))))) ∧ (x4 = 0 → (∀ τ18 : Mem, τ18 = (w1 τ16 94 14 (τ16.1 94 13)) → ((¬ (1 ≤ x4 ∧ x4 ≤ 3) → Q (some (.int 0)) τ18) ∧ ((1 ≤ x4 ∧ x4 ≤ 3) → ((¬ (x1 ≤ (τ18.1 94 17) ∧ (τ18.1 94 17) ≤ 500) → Q (some (.int 0)) τ18) ∧ ((x1 ≤ (τ18.1 94 17) ∧ (τ18.1 94 17) ≤ 500) → Q (some (.int 1)) τ18))))))))))) ∧ ((48 ≤ (σ.1 98 (σ.1 94 13).toNatClampNeg) ∧ (σ.1 98 (σ.1 94 13).toNatClampNeg) ≤ 57) → ((4 ≤ x4 → (∀ τ19 : Mem, τ19 = (w1 σ 94 17 (σ.1 94 17)) → (∀ τ20 : Mem, τ20 = (w1 τ19 94 13 ((τ19.1 94 13) + 1)) → X none (d + 2) mX8_takesNumber 46 [.ref 94, .int x1, .int x2, .int x3, .int (x4 + 1)] [] τ20 Q))) ∧ (¬ 4 ≤ x4 → (((σ.1 94 6) ≤ (σ.1 94 13) → (∀ τ21 : Mem, τ21 = (w1 σ 94 17 (((10 * (σ.1 94 17)) + (-1)) - 48)) → (∀ τ22 : Mem, τ22 = (w1 τ21 94 13 ((τ21.1 94 13) + 1)) → X none (d + 2) mX8_takesNumber 46 [.ref 94, .int x1, .int x2, .int x3, .int (x4 + 1)] [] τ22 Q))) ∧ (¬ (σ.1 94 6) ≤ (σ.1 94 13) → (vp_in (σ.1 94 13) 120 ∧ (∀ τ23 : Mem, τ23 = (w1 σ 94 17 (((10 * (σ.1 94 17)) + (σ.1 98 (σ.1 94 13).toNatClampNeg)) - 48)) → (∀ τ24 : Mem, τ24 = (w1 τ23 94 13 ((τ23.1 94 13) + 1)) → X none (d + 2) mX8_takesNumber 46 [.ref 94, .int x1, .int x2, .int x3, .int (x4 + 1)] [] τ24 Q))))))))))))) :
    X none (d + 2) mX8_takesNumber 46 [.ref 94, .int x1, .int x2, .int x3, .int x4] [] σ Q := by
  refine x_aload_n (pc' := 47) dX8_takesNumber_46 rfl rfl rfl ?_
  refine x_callV (pc' := 50) (As := []) dX8_takesNumber_47 rfl lmX8_194 kd_94 rfl rfl (Nat.le_of_ble_eq_true rfl) (Nat.le_of_ble_eq_true rfl) ?_
  show X none (d + 1) mX8_here 0 [.ref 94] [] σ _
  refine x_aload_n (pc' := 1) dX8_here_0 rfl rfl rfl ?_
  refine x_geti (pc' := 4) dX8_here_1 rfl lfX8_191 kd_94 rfl ?_
  refine x_aload_n (pc' := 5) dX8_here_4 rfl rfl rfl ?_
  refine x_geti (pc' := 8) dX8_here_5 rfl lfX8_188 kd_94 rfl ?_
  refine x_icmp_ge (pc' := 11) (tgt := 23) dX8_here_8 (by decide) rfl (fun hc => ?_) (fun hc => ?_)
  · replace h := h.1 hc
    refine x_iconst (pc' := 24) (v := (-1)) dX8_here_23 rfl (by decide) ?_
    refine x_iret dX8_here_24 rfl rfl ?_
    show X none (d + 2) mX8_takesNumber 50 [.ref 94, .int x1, .int x2, .int x3, .int x4] [.int (-1)] σ _
    refine x_i2l (pc' := 51) dX8_takesNumber_50 rfl ?_
    refine x_ldc2 (pc' := 54) dX8_takesNumber_51 rfl llX8_206 ?_
    refine x_ldc2 (pc' := 57) dX8_takesNumber_54 rfl llX8_208 ?_
    refine x_callS (pc' := 60) (As := [.long (((-1) : Int32).toInt64), .long 48, .long 57]) dX8_takesNumber_57 rfl lmX8_49 rfl rfl (Nat.le_of_ble_eq_true rfl) (Nat.le_of_ble_eq_true rfl) ?_
    show X none (d + 1) mX8_in 0 [.long (((-1) : Int32).toInt64), Unk, .long 48, Unk, .long 57, Unk] [] σ _
    refine sp_in (x := (-1)) (lo := 48) (hi := 57) (by decide) (by decide) ?_
    show X none (d + 2) mX8_takesNumber 60 [.ref 94, .int x1, .int x2, .int x3, .int x4] [.int (if (48 ≤ (-1) ∧ (-1) ≤ 57) then 1 else 0)] σ _
    refine x_if_eq (pc' := 63) (tgt := 111) dX8_takesNumber_60 (by decide) rfl (fun hc => ?_) (fun hc => ?_)
    · replace h := h.1 (b01_ne hc)
      refine x_aload_n (pc' := 112) dX8_takesNumber_111 rfl rfl rfl ?_
      refine x_iload_n (pc' := 113) dX8_takesNumber_112 rfl rfl rfl ?_
      refine x_if_eq (pc' := 116) (tgt := 124) dX8_takesNumber_113 (by decide) rfl (fun hc => ?_) (fun hc => ?_)
      · replace h := h.1 hc
        refine x_aload_n (pc' := 125) dX8_takesNumber_124 rfl rfl rfl ?_
        refine x_geti (pc' := 128) dX8_takesNumber_125 rfl lfX8_203 kd_94 rfl ?_
        refine x_puti (pc' := 131) dX8_takesNumber_128 rfl lfX8_203 kd_94 rfl rfl rfl ?_
        obtain ⟨τ1, eτ1⟩ : ∃ τ : Mem, τ = (w1 σ 94 17 (σ.1 94 17)) := ⟨_, rfl⟩
        show X none (d + 2) mX8_takesNumber 131 [.ref 94, .int x1, .int x2, .int x3, .int x4] [] (w1 σ 94 17 (σ.1 94 17)) _
        rw [← eτ1]
        replace h := h τ1 eτ1
        refine x_aload_n (pc' := 132) dX8_takesNumber_131 rfl rfl rfl ?_
        refine x_iload (pc' := 134) dX8_takesNumber_132 rfl rfl ?_
        refine x_if_ne (pc' := 137) (tgt := 144) dX8_takesNumber_134 (by decide) rfl (fun hc => ?_) (fun hc => ?_)
        · replace h := h.1 hc
          refine x_iload_n (pc' := 145) dX8_takesNumber_144 rfl rfl rfl ?_
          refine x_puti (pc' := 148) dX8_takesNumber_145 rfl lfX8_197 kd_94 rfl rfl rfl ?_
          obtain ⟨τ2, eτ2⟩ : ∃ τ : Mem, τ = (w1 τ1 94 14 x3) := ⟨_, rfl⟩
          show X none (d + 2) mX8_takesNumber 148 [.ref 94, .int x1, .int x2, .int x3, .int x4] [] (w1 τ1 94 14 x3) _
          rw [← eτ2]
          replace h := h τ2 eτ2
          refine x_iload (pc' := 150) dX8_takesNumber_148 rfl rfl ?_
          refine x_i2l (pc' := 151) dX8_takesNumber_150 rfl ?_
          refine x_lconst (pc' := 152) (v := 1) dX8_takesNumber_151 rfl (by decide) ?_
          refine x_ldc2 (pc' := 155) dX8_takesNumber_152 rfl llX8_146 ?_
          refine x_callS (pc' := 158) (As := [.long ((x4).toInt64), .long 1, .long 3]) dX8_takesNumber_155 rfl lmX8_49 rfl rfl (Nat.le_of_ble_eq_true rfl) (Nat.le_of_ble_eq_true rfl) ?_
          show X none (d + 1) mX8_in 0 [.long ((x4).toInt64), Unk, .long 1, Unk, .long 3, Unk] [] τ2 _
          refine sp_in (x := x4) (lo := 1) (hi := 3) (by decide) (by decide) ?_
          show X none (d + 2) mX8_takesNumber 158 [.ref 94, .int x1, .int x2, .int x3, .int x4] [.int (if (1 ≤ x4 ∧ x4 ≤ 3) then 1 else 0)] τ2 _
          refine x_if_eq (pc' := 161) (tgt := 181) dX8_takesNumber_158 (by decide) rfl (fun hc => ?_) (fun hc => ?_)
          · replace h := h.1 (b01_ne hc)
            refine x_iconst (pc' := 182) (v := 0) dX8_takesNumber_181 rfl (by decide) ?_
            exact x_iret dX8_takesNumber_182 rfl rfl h
          · replace h := h.2 (b01_eq hc)
            refine x_aload_n (pc' := 162) dX8_takesNumber_161 rfl rfl rfl ?_
            refine x_geti (pc' := 165) dX8_takesNumber_162 rfl lfX8_203 kd_94 rfl ?_
            refine x_i2l (pc' := 166) dX8_takesNumber_165 rfl ?_
            refine x_iload_n (pc' := 167) dX8_takesNumber_166 rfl rfl rfl ?_
            refine x_i2l (pc' := 168) dX8_takesNumber_167 rfl ?_
            refine x_ldc2 (pc' := 171) dX8_takesNumber_168 rfl llX8_47 ?_
            refine x_callS (pc' := 174) (As := [.long (((τ2.1 94 17)).toInt64), .long ((x1).toInt64), .long 500]) dX8_takesNumber_171 rfl lmX8_49 rfl rfl (Nat.le_of_ble_eq_true rfl) (Nat.le_of_ble_eq_true rfl) ?_
            show X none (d + 1) mX8_in 0 [.long (((τ2.1 94 17)).toInt64), Unk, .long ((x1).toInt64), Unk, .long 500, Unk] [] τ2 _
            refine sp_in (x := (τ2.1 94 17)) (lo := x1) (hi := 500) rfl (by decide) ?_
            show X none (d + 2) mX8_takesNumber 174 [.ref 94, .int x1, .int x2, .int x3, .int x4] [.int (if (x1 ≤ (τ2.1 94 17) ∧ (τ2.1 94 17) ≤ 500) then 1 else 0)] τ2 _
            refine x_if_eq (pc' := 177) (tgt := 181) dX8_takesNumber_174 (by decide) rfl (fun hc => ?_) (fun hc => ?_)
            · replace h := h.1 (b01_ne hc)
              refine x_iconst (pc' := 182) (v := 0) dX8_takesNumber_181 rfl (by decide) ?_
              exact x_iret dX8_takesNumber_182 rfl rfl h
            · replace h := h.2 (b01_eq hc)
              refine x_iconst (pc' := 178) (v := 1) dX8_takesNumber_177 rfl (by decide) ?_
              refine x_goto (pc' := 182) dX8_takesNumber_178 (by decide) ?_
              exact x_iret dX8_takesNumber_182 rfl rfl h
        · replace h := h.2 hc
          refine x_aload_n (pc' := 138) dX8_takesNumber_137 rfl rfl rfl ?_
          refine x_geti (pc' := 141) dX8_takesNumber_138 rfl lfX8_191 kd_94 rfl ?_
          refine x_goto (pc' := 145) dX8_takesNumber_141 (by decide) ?_
          refine x_puti (pc' := 148) dX8_takesNumber_145 rfl lfX8_197 kd_94 rfl rfl rfl ?_
          obtain ⟨τ3, eτ3⟩ : ∃ τ : Mem, τ = (w1 τ1 94 14 (τ1.1 94 13)) := ⟨_, rfl⟩
          show X none (d + 2) mX8_takesNumber 148 [.ref 94, .int x1, .int x2, .int x3, .int x4] [] (w1 τ1 94 14 (τ1.1 94 13)) _
          rw [← eτ3]
          replace h := h τ3 eτ3
          refine x_iload (pc' := 150) dX8_takesNumber_148 rfl rfl ?_
          refine x_i2l (pc' := 151) dX8_takesNumber_150 rfl ?_
          refine x_lconst (pc' := 152) (v := 1) dX8_takesNumber_151 rfl (by decide) ?_
          refine x_ldc2 (pc' := 155) dX8_takesNumber_152 rfl llX8_146 ?_
          refine x_callS (pc' := 158) (As := [.long ((x4).toInt64), .long 1, .long 3]) dX8_takesNumber_155 rfl lmX8_49 rfl rfl (Nat.le_of_ble_eq_true rfl) (Nat.le_of_ble_eq_true rfl) ?_
          show X none (d + 1) mX8_in 0 [.long ((x4).toInt64), Unk, .long 1, Unk, .long 3, Unk] [] τ3 _
          refine sp_in (x := x4) (lo := 1) (hi := 3) (by decide) (by decide) ?_
          show X none (d + 2) mX8_takesNumber 158 [.ref 94, .int x1, .int x2, .int x3, .int x4] [.int (if (1 ≤ x4 ∧ x4 ≤ 3) then 1 else 0)] τ3 _
          refine x_if_eq (pc' := 161) (tgt := 181) dX8_takesNumber_158 (by decide) rfl (fun hc => ?_) (fun hc => ?_)
          · replace h := h.1 (b01_ne hc)
            refine x_iconst (pc' := 182) (v := 0) dX8_takesNumber_181 rfl (by decide) ?_
            exact x_iret dX8_takesNumber_182 rfl rfl h
          · replace h := h.2 (b01_eq hc)
            refine x_aload_n (pc' := 162) dX8_takesNumber_161 rfl rfl rfl ?_
            refine x_geti (pc' := 165) dX8_takesNumber_162 rfl lfX8_203 kd_94 rfl ?_
            refine x_i2l (pc' := 166) dX8_takesNumber_165 rfl ?_
            refine x_iload_n (pc' := 167) dX8_takesNumber_166 rfl rfl rfl ?_
            refine x_i2l (pc' := 168) dX8_takesNumber_167 rfl ?_
            refine x_ldc2 (pc' := 171) dX8_takesNumber_168 rfl llX8_47 ?_
            refine x_callS (pc' := 174) (As := [.long (((τ3.1 94 17)).toInt64), .long ((x1).toInt64), .long 500]) dX8_takesNumber_171 rfl lmX8_49 rfl rfl (Nat.le_of_ble_eq_true rfl) (Nat.le_of_ble_eq_true rfl) ?_
            show X none (d + 1) mX8_in 0 [.long (((τ3.1 94 17)).toInt64), Unk, .long ((x1).toInt64), Unk, .long 500, Unk] [] τ3 _
            refine sp_in (x := (τ3.1 94 17)) (lo := x1) (hi := 500) rfl (by decide) ?_
            show X none (d + 2) mX8_takesNumber 174 [.ref 94, .int x1, .int x2, .int x3, .int x4] [.int (if (x1 ≤ (τ3.1 94 17) ∧ (τ3.1 94 17) ≤ 500) then 1 else 0)] τ3 _
            refine x_if_eq (pc' := 177) (tgt := 181) dX8_takesNumber_174 (by decide) rfl (fun hc => ?_) (fun hc => ?_)
            · replace h := h.1 (b01_ne hc)
              refine x_iconst (pc' := 182) (v := 0) dX8_takesNumber_181 rfl (by decide) ?_
              exact x_iret dX8_takesNumber_182 rfl rfl h
            · replace h := h.2 (b01_eq hc)
              refine x_iconst (pc' := 178) (v := 1) dX8_takesNumber_177 rfl (by decide) ?_
              refine x_goto (pc' := 182) dX8_takesNumber_178 (by decide) ?_
              exact x_iret dX8_takesNumber_182 rfl rfl h
      · replace h := h.2 hc
        refine x_aload_n (pc' := 117) dX8_takesNumber_116 rfl rfl rfl ?_
        refine x_geti (pc' := 120) dX8_takesNumber_117 rfl lfX8_203 kd_94 rfl ?_
        refine x_ineg (pc' := 121) dX8_takesNumber_120 rfl ?_
        refine x_goto (pc' := 128) dX8_takesNumber_121 (by decide) ?_
        refine x_puti (pc' := 131) dX8_takesNumber_128 rfl lfX8_203 kd_94 rfl rfl rfl ?_
        obtain ⟨τ4, eτ4⟩ : ∃ τ : Mem, τ = (w1 σ 94 17 (-(σ.1 94 17))) := ⟨_, rfl⟩
        show X none (d + 2) mX8_takesNumber 131 [.ref 94, .int x1, .int x2, .int x3, .int x4] [] (w1 σ 94 17 (-(σ.1 94 17))) _
        rw [← eτ4]
        replace h := h τ4 eτ4
        refine x_aload_n (pc' := 132) dX8_takesNumber_131 rfl rfl rfl ?_
        refine x_iload (pc' := 134) dX8_takesNumber_132 rfl rfl ?_
        refine x_if_ne (pc' := 137) (tgt := 144) dX8_takesNumber_134 (by decide) rfl (fun hc => ?_) (fun hc => ?_)
        · replace h := h.1 hc
          refine x_iload_n (pc' := 145) dX8_takesNumber_144 rfl rfl rfl ?_
          refine x_puti (pc' := 148) dX8_takesNumber_145 rfl lfX8_197 kd_94 rfl rfl rfl ?_
          obtain ⟨τ5, eτ5⟩ : ∃ τ : Mem, τ = (w1 τ4 94 14 x3) := ⟨_, rfl⟩
          show X none (d + 2) mX8_takesNumber 148 [.ref 94, .int x1, .int x2, .int x3, .int x4] [] (w1 τ4 94 14 x3) _
          rw [← eτ5]
          replace h := h τ5 eτ5
          refine x_iload (pc' := 150) dX8_takesNumber_148 rfl rfl ?_
          refine x_i2l (pc' := 151) dX8_takesNumber_150 rfl ?_
          refine x_lconst (pc' := 152) (v := 1) dX8_takesNumber_151 rfl (by decide) ?_
          refine x_ldc2 (pc' := 155) dX8_takesNumber_152 rfl llX8_146 ?_
          refine x_callS (pc' := 158) (As := [.long ((x4).toInt64), .long 1, .long 3]) dX8_takesNumber_155 rfl lmX8_49 rfl rfl (Nat.le_of_ble_eq_true rfl) (Nat.le_of_ble_eq_true rfl) ?_
          show X none (d + 1) mX8_in 0 [.long ((x4).toInt64), Unk, .long 1, Unk, .long 3, Unk] [] τ5 _
          refine sp_in (x := x4) (lo := 1) (hi := 3) (by decide) (by decide) ?_
          show X none (d + 2) mX8_takesNumber 158 [.ref 94, .int x1, .int x2, .int x3, .int x4] [.int (if (1 ≤ x4 ∧ x4 ≤ 3) then 1 else 0)] τ5 _
          refine x_if_eq (pc' := 161) (tgt := 181) dX8_takesNumber_158 (by decide) rfl (fun hc => ?_) (fun hc => ?_)
          · replace h := h.1 (b01_ne hc)
            refine x_iconst (pc' := 182) (v := 0) dX8_takesNumber_181 rfl (by decide) ?_
            exact x_iret dX8_takesNumber_182 rfl rfl h
          · replace h := h.2 (b01_eq hc)
            refine x_aload_n (pc' := 162) dX8_takesNumber_161 rfl rfl rfl ?_
            refine x_geti (pc' := 165) dX8_takesNumber_162 rfl lfX8_203 kd_94 rfl ?_
            refine x_i2l (pc' := 166) dX8_takesNumber_165 rfl ?_
            refine x_iload_n (pc' := 167) dX8_takesNumber_166 rfl rfl rfl ?_
            refine x_i2l (pc' := 168) dX8_takesNumber_167 rfl ?_
            refine x_ldc2 (pc' := 171) dX8_takesNumber_168 rfl llX8_47 ?_
            refine x_callS (pc' := 174) (As := [.long (((τ5.1 94 17)).toInt64), .long ((x1).toInt64), .long 500]) dX8_takesNumber_171 rfl lmX8_49 rfl rfl (Nat.le_of_ble_eq_true rfl) (Nat.le_of_ble_eq_true rfl) ?_
            show X none (d + 1) mX8_in 0 [.long (((τ5.1 94 17)).toInt64), Unk, .long ((x1).toInt64), Unk, .long 500, Unk] [] τ5 _
            refine sp_in (x := (τ5.1 94 17)) (lo := x1) (hi := 500) rfl (by decide) ?_
            show X none (d + 2) mX8_takesNumber 174 [.ref 94, .int x1, .int x2, .int x3, .int x4] [.int (if (x1 ≤ (τ5.1 94 17) ∧ (τ5.1 94 17) ≤ 500) then 1 else 0)] τ5 _
            refine x_if_eq (pc' := 177) (tgt := 181) dX8_takesNumber_174 (by decide) rfl (fun hc => ?_) (fun hc => ?_)
            · replace h := h.1 (b01_ne hc)
              refine x_iconst (pc' := 182) (v := 0) dX8_takesNumber_181 rfl (by decide) ?_
              exact x_iret dX8_takesNumber_182 rfl rfl h
            · replace h := h.2 (b01_eq hc)
              refine x_iconst (pc' := 178) (v := 1) dX8_takesNumber_177 rfl (by decide) ?_
              refine x_goto (pc' := 182) dX8_takesNumber_178 (by decide) ?_
              exact x_iret dX8_takesNumber_182 rfl rfl h
        · replace h := h.2 hc
          refine x_aload_n (pc' := 138) dX8_takesNumber_137 rfl rfl rfl ?_
          refine x_geti (pc' := 141) dX8_takesNumber_138 rfl lfX8_191 kd_94 rfl ?_
          refine x_goto (pc' := 145) dX8_takesNumber_141 (by decide) ?_
          refine x_puti (pc' := 148) dX8_takesNumber_145 rfl lfX8_197 kd_94 rfl rfl rfl ?_
          obtain ⟨τ6, eτ6⟩ : ∃ τ : Mem, τ = (w1 τ4 94 14 (τ4.1 94 13)) := ⟨_, rfl⟩
          show X none (d + 2) mX8_takesNumber 148 [.ref 94, .int x1, .int x2, .int x3, .int x4] [] (w1 τ4 94 14 (τ4.1 94 13)) _
          rw [← eτ6]
          replace h := h τ6 eτ6
          refine x_iload (pc' := 150) dX8_takesNumber_148 rfl rfl ?_
          refine x_i2l (pc' := 151) dX8_takesNumber_150 rfl ?_
          refine x_lconst (pc' := 152) (v := 1) dX8_takesNumber_151 rfl (by decide) ?_
          refine x_ldc2 (pc' := 155) dX8_takesNumber_152 rfl llX8_146 ?_
          refine x_callS (pc' := 158) (As := [.long ((x4).toInt64), .long 1, .long 3]) dX8_takesNumber_155 rfl lmX8_49 rfl rfl (Nat.le_of_ble_eq_true rfl) (Nat.le_of_ble_eq_true rfl) ?_
          show X none (d + 1) mX8_in 0 [.long ((x4).toInt64), Unk, .long 1, Unk, .long 3, Unk] [] τ6 _
          refine sp_in (x := x4) (lo := 1) (hi := 3) (by decide) (by decide) ?_
          show X none (d + 2) mX8_takesNumber 158 [.ref 94, .int x1, .int x2, .int x3, .int x4] [.int (if (1 ≤ x4 ∧ x4 ≤ 3) then 1 else 0)] τ6 _
          refine x_if_eq (pc' := 161) (tgt := 181) dX8_takesNumber_158 (by decide) rfl (fun hc => ?_) (fun hc => ?_)
          · replace h := h.1 (b01_ne hc)
            refine x_iconst (pc' := 182) (v := 0) dX8_takesNumber_181 rfl (by decide) ?_
            exact x_iret dX8_takesNumber_182 rfl rfl h
          · replace h := h.2 (b01_eq hc)
            refine x_aload_n (pc' := 162) dX8_takesNumber_161 rfl rfl rfl ?_
            refine x_geti (pc' := 165) dX8_takesNumber_162 rfl lfX8_203 kd_94 rfl ?_
            refine x_i2l (pc' := 166) dX8_takesNumber_165 rfl ?_
            refine x_iload_n (pc' := 167) dX8_takesNumber_166 rfl rfl rfl ?_
            refine x_i2l (pc' := 168) dX8_takesNumber_167 rfl ?_
            refine x_ldc2 (pc' := 171) dX8_takesNumber_168 rfl llX8_47 ?_
            refine x_callS (pc' := 174) (As := [.long (((τ6.1 94 17)).toInt64), .long ((x1).toInt64), .long 500]) dX8_takesNumber_171 rfl lmX8_49 rfl rfl (Nat.le_of_ble_eq_true rfl) (Nat.le_of_ble_eq_true rfl) ?_
            show X none (d + 1) mX8_in 0 [.long (((τ6.1 94 17)).toInt64), Unk, .long ((x1).toInt64), Unk, .long 500, Unk] [] τ6 _
            refine sp_in (x := (τ6.1 94 17)) (lo := x1) (hi := 500) rfl (by decide) ?_
            show X none (d + 2) mX8_takesNumber 174 [.ref 94, .int x1, .int x2, .int x3, .int x4] [.int (if (x1 ≤ (τ6.1 94 17) ∧ (τ6.1 94 17) ≤ 500) then 1 else 0)] τ6 _
            refine x_if_eq (pc' := 177) (tgt := 181) dX8_takesNumber_174 (by decide) rfl (fun hc => ?_) (fun hc => ?_)
            · replace h := h.1 (b01_ne hc)
              refine x_iconst (pc' := 182) (v := 0) dX8_takesNumber_181 rfl (by decide) ?_
              exact x_iret dX8_takesNumber_182 rfl rfl h
            · replace h := h.2 (b01_eq hc)
              refine x_iconst (pc' := 178) (v := 1) dX8_takesNumber_177 rfl (by decide) ?_
              refine x_goto (pc' := 182) dX8_takesNumber_178 (by decide) ?_
              exact x_iret dX8_takesNumber_182 rfl rfl h
    · replace h := h.2 (b01_eq hc)
      refine x_aload_n (pc' := 64) dX8_takesNumber_63 rfl rfl rfl ?_
      refine x_iload (pc' := 66) dX8_takesNumber_64 rfl rfl ?_
      refine x_iconst (pc' := 67) (v := 4) dX8_takesNumber_66 rfl (by decide) ?_
      refine x_icmp_ge (pc' := 70) (tgt := 88) dX8_takesNumber_67 (by decide) rfl (fun hc => ?_) (fun hc => ?_)
      · replace h := h.1 hc
        refine x_aload_n (pc' := 89) dX8_takesNumber_88 rfl rfl rfl ?_
        refine x_geti (pc' := 92) dX8_takesNumber_89 rfl lfX8_203 kd_94 rfl ?_
        refine x_puti (pc' := 95) dX8_takesNumber_92 rfl lfX8_203 kd_94 rfl rfl rfl ?_
        obtain ⟨τ7, eτ7⟩ : ∃ τ : Mem, τ = (w1 σ 94 17 (σ.1 94 17)) := ⟨_, rfl⟩
        show X none (d + 2) mX8_takesNumber 95 [.ref 94, .int x1, .int x2, .int x3, .int x4] [] (w1 σ 94 17 (σ.1 94 17)) _
        rw [← eτ7]
        replace h := h τ7 eτ7
        refine x_iinc (pc' := 98) (v := 1) dX8_takesNumber_95 rfl (by decide) rfl rfl (by decide) (ls' := [.ref 94, .int x1, .int x2, .int x3, .int (x4 + 1)]) rfl ?_
        refine x_aload_n (pc' := 99) dX8_takesNumber_98 rfl rfl rfl ?_
        refine x_dup (pc' := 100) dX8_takesNumber_99 rfl rfl ?_
        refine x_geti (pc' := 103) dX8_takesNumber_100 rfl lfX8_191 kd_94 rfl ?_
        refine x_iconst (pc' := 104) (v := 1) dX8_takesNumber_103 rfl (by decide) ?_
        refine x_iadd (pc' := 105) dX8_takesNumber_104 rfl ?_
        refine x_puti (pc' := 108) dX8_takesNumber_105 rfl lfX8_191 kd_94 rfl rfl rfl ?_
        obtain ⟨τ8, eτ8⟩ : ∃ τ : Mem, τ = (w1 τ7 94 13 ((τ7.1 94 13) + 1)) := ⟨_, rfl⟩
        show X none (d + 2) mX8_takesNumber 108 [.ref 94, .int x1, .int x2, .int x3, .int (x4 + 1)] [] (w1 τ7 94 13 ((τ7.1 94 13) + 1)) _
        rw [← eτ8]
        replace h := h τ8 eτ8
        refine x_goto (pc' := 46) dX8_takesNumber_108 (by decide) ?_
        exact h
      · replace h := h.2 hc
        refine x_bipush (pc' := 72) (v := 10) dX8_takesNumber_70 rfl (by decide) ?_
        refine x_aload_n (pc' := 73) dX8_takesNumber_72 rfl rfl rfl ?_
        refine x_geti (pc' := 76) dX8_takesNumber_73 rfl lfX8_203 kd_94 rfl ?_
        refine x_imul (pc' := 77) dX8_takesNumber_76 rfl ?_
        refine x_aload_n (pc' := 78) dX8_takesNumber_77 rfl rfl rfl ?_
        refine x_callV (pc' := 81) (As := []) dX8_takesNumber_78 rfl lmX8_194 kd_94 rfl rfl (Nat.le_of_ble_eq_true rfl) (Nat.le_of_ble_eq_true rfl) ?_
        show X none (d + 1) mX8_here 0 [.ref 94] [] σ _
        refine x_aload_n (pc' := 1) dX8_here_0 rfl rfl rfl ?_
        refine x_geti (pc' := 4) dX8_here_1 rfl lfX8_191 kd_94 rfl ?_
        refine x_aload_n (pc' := 5) dX8_here_4 rfl rfl rfl ?_
        refine x_geti (pc' := 8) dX8_here_5 rfl lfX8_188 kd_94 rfl ?_
        refine x_icmp_ge (pc' := 11) (tgt := 23) dX8_here_8 (by decide) rfl (fun hc => ?_) (fun hc => ?_)
        · replace h := h.1 hc
          refine x_iconst (pc' := 24) (v := (-1)) dX8_here_23 rfl (by decide) ?_
          refine x_iret dX8_here_24 rfl rfl ?_
          show X none (d + 2) mX8_takesNumber 81 [.ref 94, .int x1, .int x2, .int x3, .int x4] [.int (-1), .int (10 * (σ.1 94 17)), .ref 94] σ _
          refine x_iadd (pc' := 82) dX8_takesNumber_81 rfl ?_
          refine x_bipush (pc' := 84) (v := 48) dX8_takesNumber_82 rfl (by decide) ?_
          refine x_isub (pc' := 85) dX8_takesNumber_84 rfl ?_
          refine x_goto (pc' := 92) dX8_takesNumber_85 (by decide) ?_
          refine x_puti (pc' := 95) dX8_takesNumber_92 rfl lfX8_203 kd_94 rfl rfl rfl ?_
          obtain ⟨τ9, eτ9⟩ : ∃ τ : Mem, τ = (w1 σ 94 17 (((10 * (σ.1 94 17)) + (-1)) - 48)) := ⟨_, rfl⟩
          show X none (d + 2) mX8_takesNumber 95 [.ref 94, .int x1, .int x2, .int x3, .int x4] [] (w1 σ 94 17 (((10 * (σ.1 94 17)) + (-1)) - 48)) _
          rw [← eτ9]
          replace h := h τ9 eτ9
          refine x_iinc (pc' := 98) (v := 1) dX8_takesNumber_95 rfl (by decide) rfl rfl (by decide) (ls' := [.ref 94, .int x1, .int x2, .int x3, .int (x4 + 1)]) rfl ?_
          refine x_aload_n (pc' := 99) dX8_takesNumber_98 rfl rfl rfl ?_
          refine x_dup (pc' := 100) dX8_takesNumber_99 rfl rfl ?_
          refine x_geti (pc' := 103) dX8_takesNumber_100 rfl lfX8_191 kd_94 rfl ?_
          refine x_iconst (pc' := 104) (v := 1) dX8_takesNumber_103 rfl (by decide) ?_
          refine x_iadd (pc' := 105) dX8_takesNumber_104 rfl ?_
          refine x_puti (pc' := 108) dX8_takesNumber_105 rfl lfX8_191 kd_94 rfl rfl rfl ?_
          obtain ⟨τ10, eτ10⟩ : ∃ τ : Mem, τ = (w1 τ9 94 13 ((τ9.1 94 13) + 1)) := ⟨_, rfl⟩
          show X none (d + 2) mX8_takesNumber 108 [.ref 94, .int x1, .int x2, .int x3, .int (x4 + 1)] [] (w1 τ9 94 13 ((τ9.1 94 13) + 1)) _
          rw [← eτ10]
          replace h := h τ10 eτ10
          refine x_goto (pc' := 46) dX8_takesNumber_108 (by decide) ?_
          exact h
        · replace h := h.2 hc
          refine x_aload_n (pc' := 12) dX8_here_11 rfl rfl rfl ?_
          refine x_getr (pc' := 15) dX8_here_12 rfl lfX8_20 kd_94 rfl rf_94_5 ?_
          refine x_aload_n (pc' := 16) dX8_here_15 rfl rfl rfl ?_
          refine x_geti (pc' := 19) dX8_here_16 rfl lfX8_191 kd_94 rfl ?_
          obtain ⟨hb, h⟩ := h
          refine x_iald (pc' := 20) dX8_here_19 rfl kd_98 (by rw [ln_98]; exact hb) ?_
          refine x_goto (pc' := 24) dX8_here_20 (by decide) ?_
          refine x_iret dX8_here_24 rfl rfl ?_
          show X none (d + 2) mX8_takesNumber 81 [.ref 94, .int x1, .int x2, .int x3, .int x4] [.int (σ.1 98 (σ.1 94 13).toNatClampNeg), .int (10 * (σ.1 94 17)), .ref 94] σ _
          refine x_iadd (pc' := 82) dX8_takesNumber_81 rfl ?_
          refine x_bipush (pc' := 84) (v := 48) dX8_takesNumber_82 rfl (by decide) ?_
          refine x_isub (pc' := 85) dX8_takesNumber_84 rfl ?_
          refine x_goto (pc' := 92) dX8_takesNumber_85 (by decide) ?_
          refine x_puti (pc' := 95) dX8_takesNumber_92 rfl lfX8_203 kd_94 rfl rfl rfl ?_
          obtain ⟨τ11, eτ11⟩ : ∃ τ : Mem, τ = (w1 σ 94 17 (((10 * (σ.1 94 17)) + (σ.1 98 (σ.1 94 13).toNatClampNeg)) - 48)) := ⟨_, rfl⟩
          show X none (d + 2) mX8_takesNumber 95 [.ref 94, .int x1, .int x2, .int x3, .int x4] [] (w1 σ 94 17 (((10 * (σ.1 94 17)) + (σ.1 98 (σ.1 94 13).toNatClampNeg)) - 48)) _
          rw [← eτ11]
          replace h := h τ11 eτ11
          refine x_iinc (pc' := 98) (v := 1) dX8_takesNumber_95 rfl (by decide) rfl rfl (by decide) (ls' := [.ref 94, .int x1, .int x2, .int x3, .int (x4 + 1)]) rfl ?_
          refine x_aload_n (pc' := 99) dX8_takesNumber_98 rfl rfl rfl ?_
          refine x_dup (pc' := 100) dX8_takesNumber_99 rfl rfl ?_
          refine x_geti (pc' := 103) dX8_takesNumber_100 rfl lfX8_191 kd_94 rfl ?_
          refine x_iconst (pc' := 104) (v := 1) dX8_takesNumber_103 rfl (by decide) ?_
          refine x_iadd (pc' := 105) dX8_takesNumber_104 rfl ?_
          refine x_puti (pc' := 108) dX8_takesNumber_105 rfl lfX8_191 kd_94 rfl rfl rfl ?_
          obtain ⟨τ12, eτ12⟩ : ∃ τ : Mem, τ = (w1 τ11 94 13 ((τ11.1 94 13) + 1)) := ⟨_, rfl⟩
          show X none (d + 2) mX8_takesNumber 108 [.ref 94, .int x1, .int x2, .int x3, .int (x4 + 1)] [] (w1 τ11 94 13 ((τ11.1 94 13) + 1)) _
          rw [← eτ12]
          replace h := h τ12 eτ12
          refine x_goto (pc' := 46) dX8_takesNumber_108 (by decide) ?_
          exact h
  · replace h := h.2 hc
    refine x_aload_n (pc' := 12) dX8_here_11 rfl rfl rfl ?_
    refine x_getr (pc' := 15) dX8_here_12 rfl lfX8_20 kd_94 rfl rf_94_5 ?_
    refine x_aload_n (pc' := 16) dX8_here_15 rfl rfl rfl ?_
    refine x_geti (pc' := 19) dX8_here_16 rfl lfX8_191 kd_94 rfl ?_
    obtain ⟨hb, h⟩ := h
    refine x_iald (pc' := 20) dX8_here_19 rfl kd_98 (by rw [ln_98]; exact hb) ?_
    refine x_goto (pc' := 24) dX8_here_20 (by decide) ?_
    refine x_iret dX8_here_24 rfl rfl ?_
    show X none (d + 2) mX8_takesNumber 50 [.ref 94, .int x1, .int x2, .int x3, .int x4] [.int (σ.1 98 (σ.1 94 13).toNatClampNeg)] σ _
    refine x_i2l (pc' := 51) dX8_takesNumber_50 rfl ?_
    refine x_ldc2 (pc' := 54) dX8_takesNumber_51 rfl llX8_206 ?_
    refine x_ldc2 (pc' := 57) dX8_takesNumber_54 rfl llX8_208 ?_
    refine x_callS (pc' := 60) (As := [.long (((σ.1 98 (σ.1 94 13).toNatClampNeg)).toInt64), .long 48, .long 57]) dX8_takesNumber_57 rfl lmX8_49 rfl rfl (Nat.le_of_ble_eq_true rfl) (Nat.le_of_ble_eq_true rfl) ?_
    show X none (d + 1) mX8_in 0 [.long (((σ.1 98 (σ.1 94 13).toNatClampNeg)).toInt64), Unk, .long 48, Unk, .long 57, Unk] [] σ _
    refine sp_in (x := (σ.1 98 (σ.1 94 13).toNatClampNeg)) (lo := 48) (hi := 57) (by decide) (by decide) ?_
    show X none (d + 2) mX8_takesNumber 60 [.ref 94, .int x1, .int x2, .int x3, .int x4] [.int (if (48 ≤ (σ.1 98 (σ.1 94 13).toNatClampNeg) ∧ (σ.1 98 (σ.1 94 13).toNatClampNeg) ≤ 57) then 1 else 0)] σ _
    refine x_if_eq (pc' := 63) (tgt := 111) dX8_takesNumber_60 (by decide) rfl (fun hc => ?_) (fun hc => ?_)
    · replace h := h.1 (b01_ne hc)
      refine x_aload_n (pc' := 112) dX8_takesNumber_111 rfl rfl rfl ?_
      refine x_iload_n (pc' := 113) dX8_takesNumber_112 rfl rfl rfl ?_
      refine x_if_eq (pc' := 116) (tgt := 124) dX8_takesNumber_113 (by decide) rfl (fun hc => ?_) (fun hc => ?_)
      · replace h := h.1 hc
        refine x_aload_n (pc' := 125) dX8_takesNumber_124 rfl rfl rfl ?_
        refine x_geti (pc' := 128) dX8_takesNumber_125 rfl lfX8_203 kd_94 rfl ?_
        refine x_puti (pc' := 131) dX8_takesNumber_128 rfl lfX8_203 kd_94 rfl rfl rfl ?_
        obtain ⟨τ13, eτ13⟩ : ∃ τ : Mem, τ = (w1 σ 94 17 (σ.1 94 17)) := ⟨_, rfl⟩
        show X none (d + 2) mX8_takesNumber 131 [.ref 94, .int x1, .int x2, .int x3, .int x4] [] (w1 σ 94 17 (σ.1 94 17)) _
        rw [← eτ13]
        replace h := h τ13 eτ13
        refine x_aload_n (pc' := 132) dX8_takesNumber_131 rfl rfl rfl ?_
        refine x_iload (pc' := 134) dX8_takesNumber_132 rfl rfl ?_
        refine x_if_ne (pc' := 137) (tgt := 144) dX8_takesNumber_134 (by decide) rfl (fun hc => ?_) (fun hc => ?_)
        · replace h := h.1 hc
          refine x_iload_n (pc' := 145) dX8_takesNumber_144 rfl rfl rfl ?_
          refine x_puti (pc' := 148) dX8_takesNumber_145 rfl lfX8_197 kd_94 rfl rfl rfl ?_
          obtain ⟨τ14, eτ14⟩ : ∃ τ : Mem, τ = (w1 τ13 94 14 x3) := ⟨_, rfl⟩
          show X none (d + 2) mX8_takesNumber 148 [.ref 94, .int x1, .int x2, .int x3, .int x4] [] (w1 τ13 94 14 x3) _
          rw [← eτ14]
          replace h := h τ14 eτ14
          refine x_iload (pc' := 150) dX8_takesNumber_148 rfl rfl ?_
          refine x_i2l (pc' := 151) dX8_takesNumber_150 rfl ?_
          refine x_lconst (pc' := 152) (v := 1) dX8_takesNumber_151 rfl (by decide) ?_
          refine x_ldc2 (pc' := 155) dX8_takesNumber_152 rfl llX8_146 ?_
          refine x_callS (pc' := 158) (As := [.long ((x4).toInt64), .long 1, .long 3]) dX8_takesNumber_155 rfl lmX8_49 rfl rfl (Nat.le_of_ble_eq_true rfl) (Nat.le_of_ble_eq_true rfl) ?_
          show X none (d + 1) mX8_in 0 [.long ((x4).toInt64), Unk, .long 1, Unk, .long 3, Unk] [] τ14 _
          refine sp_in (x := x4) (lo := 1) (hi := 3) (by decide) (by decide) ?_
          show X none (d + 2) mX8_takesNumber 158 [.ref 94, .int x1, .int x2, .int x3, .int x4] [.int (if (1 ≤ x4 ∧ x4 ≤ 3) then 1 else 0)] τ14 _
          refine x_if_eq (pc' := 161) (tgt := 181) dX8_takesNumber_158 (by decide) rfl (fun hc => ?_) (fun hc => ?_)
          · replace h := h.1 (b01_ne hc)
            refine x_iconst (pc' := 182) (v := 0) dX8_takesNumber_181 rfl (by decide) ?_
            exact x_iret dX8_takesNumber_182 rfl rfl h
          · replace h := h.2 (b01_eq hc)
            refine x_aload_n (pc' := 162) dX8_takesNumber_161 rfl rfl rfl ?_
            refine x_geti (pc' := 165) dX8_takesNumber_162 rfl lfX8_203 kd_94 rfl ?_
            refine x_i2l (pc' := 166) dX8_takesNumber_165 rfl ?_
            refine x_iload_n (pc' := 167) dX8_takesNumber_166 rfl rfl rfl ?_
            refine x_i2l (pc' := 168) dX8_takesNumber_167 rfl ?_
            refine x_ldc2 (pc' := 171) dX8_takesNumber_168 rfl llX8_47 ?_
            refine x_callS (pc' := 174) (As := [.long (((τ14.1 94 17)).toInt64), .long ((x1).toInt64), .long 500]) dX8_takesNumber_171 rfl lmX8_49 rfl rfl (Nat.le_of_ble_eq_true rfl) (Nat.le_of_ble_eq_true rfl) ?_
            show X none (d + 1) mX8_in 0 [.long (((τ14.1 94 17)).toInt64), Unk, .long ((x1).toInt64), Unk, .long 500, Unk] [] τ14 _
            refine sp_in (x := (τ14.1 94 17)) (lo := x1) (hi := 500) rfl (by decide) ?_
            show X none (d + 2) mX8_takesNumber 174 [.ref 94, .int x1, .int x2, .int x3, .int x4] [.int (if (x1 ≤ (τ14.1 94 17) ∧ (τ14.1 94 17) ≤ 500) then 1 else 0)] τ14 _
            refine x_if_eq (pc' := 177) (tgt := 181) dX8_takesNumber_174 (by decide) rfl (fun hc => ?_) (fun hc => ?_)
            · replace h := h.1 (b01_ne hc)
              refine x_iconst (pc' := 182) (v := 0) dX8_takesNumber_181 rfl (by decide) ?_
              exact x_iret dX8_takesNumber_182 rfl rfl h
            · replace h := h.2 (b01_eq hc)
              refine x_iconst (pc' := 178) (v := 1) dX8_takesNumber_177 rfl (by decide) ?_
              refine x_goto (pc' := 182) dX8_takesNumber_178 (by decide) ?_
              exact x_iret dX8_takesNumber_182 rfl rfl h
        · replace h := h.2 hc
          refine x_aload_n (pc' := 138) dX8_takesNumber_137 rfl rfl rfl ?_
          refine x_geti (pc' := 141) dX8_takesNumber_138 rfl lfX8_191 kd_94 rfl ?_
          refine x_goto (pc' := 145) dX8_takesNumber_141 (by decide) ?_
          refine x_puti (pc' := 148) dX8_takesNumber_145 rfl lfX8_197 kd_94 rfl rfl rfl ?_
          obtain ⟨τ15, eτ15⟩ : ∃ τ : Mem, τ = (w1 τ13 94 14 (τ13.1 94 13)) := ⟨_, rfl⟩
          show X none (d + 2) mX8_takesNumber 148 [.ref 94, .int x1, .int x2, .int x3, .int x4] [] (w1 τ13 94 14 (τ13.1 94 13)) _
          rw [← eτ15]
          replace h := h τ15 eτ15
          refine x_iload (pc' := 150) dX8_takesNumber_148 rfl rfl ?_
          refine x_i2l (pc' := 151) dX8_takesNumber_150 rfl ?_
          refine x_lconst (pc' := 152) (v := 1) dX8_takesNumber_151 rfl (by decide) ?_
          refine x_ldc2 (pc' := 155) dX8_takesNumber_152 rfl llX8_146 ?_
          refine x_callS (pc' := 158) (As := [.long ((x4).toInt64), .long 1, .long 3]) dX8_takesNumber_155 rfl lmX8_49 rfl rfl (Nat.le_of_ble_eq_true rfl) (Nat.le_of_ble_eq_true rfl) ?_
          show X none (d + 1) mX8_in 0 [.long ((x4).toInt64), Unk, .long 1, Unk, .long 3, Unk] [] τ15 _
          refine sp_in (x := x4) (lo := 1) (hi := 3) (by decide) (by decide) ?_
          show X none (d + 2) mX8_takesNumber 158 [.ref 94, .int x1, .int x2, .int x3, .int x4] [.int (if (1 ≤ x4 ∧ x4 ≤ 3) then 1 else 0)] τ15 _
          refine x_if_eq (pc' := 161) (tgt := 181) dX8_takesNumber_158 (by decide) rfl (fun hc => ?_) (fun hc => ?_)
          · replace h := h.1 (b01_ne hc)
            refine x_iconst (pc' := 182) (v := 0) dX8_takesNumber_181 rfl (by decide) ?_
            exact x_iret dX8_takesNumber_182 rfl rfl h
          · replace h := h.2 (b01_eq hc)
            refine x_aload_n (pc' := 162) dX8_takesNumber_161 rfl rfl rfl ?_
            refine x_geti (pc' := 165) dX8_takesNumber_162 rfl lfX8_203 kd_94 rfl ?_
            refine x_i2l (pc' := 166) dX8_takesNumber_165 rfl ?_
            refine x_iload_n (pc' := 167) dX8_takesNumber_166 rfl rfl rfl ?_
            refine x_i2l (pc' := 168) dX8_takesNumber_167 rfl ?_
            refine x_ldc2 (pc' := 171) dX8_takesNumber_168 rfl llX8_47 ?_
            refine x_callS (pc' := 174) (As := [.long (((τ15.1 94 17)).toInt64), .long ((x1).toInt64), .long 500]) dX8_takesNumber_171 rfl lmX8_49 rfl rfl (Nat.le_of_ble_eq_true rfl) (Nat.le_of_ble_eq_true rfl) ?_
            show X none (d + 1) mX8_in 0 [.long (((τ15.1 94 17)).toInt64), Unk, .long ((x1).toInt64), Unk, .long 500, Unk] [] τ15 _
            refine sp_in (x := (τ15.1 94 17)) (lo := x1) (hi := 500) rfl (by decide) ?_
            show X none (d + 2) mX8_takesNumber 174 [.ref 94, .int x1, .int x2, .int x3, .int x4] [.int (if (x1 ≤ (τ15.1 94 17) ∧ (τ15.1 94 17) ≤ 500) then 1 else 0)] τ15 _
            refine x_if_eq (pc' := 177) (tgt := 181) dX8_takesNumber_174 (by decide) rfl (fun hc => ?_) (fun hc => ?_)
            · replace h := h.1 (b01_ne hc)
              refine x_iconst (pc' := 182) (v := 0) dX8_takesNumber_181 rfl (by decide) ?_
              exact x_iret dX8_takesNumber_182 rfl rfl h
            · replace h := h.2 (b01_eq hc)
              refine x_iconst (pc' := 178) (v := 1) dX8_takesNumber_177 rfl (by decide) ?_
              refine x_goto (pc' := 182) dX8_takesNumber_178 (by decide) ?_
              exact x_iret dX8_takesNumber_182 rfl rfl h
      · replace h := h.2 hc
        refine x_aload_n (pc' := 117) dX8_takesNumber_116 rfl rfl rfl ?_
        refine x_geti (pc' := 120) dX8_takesNumber_117 rfl lfX8_203 kd_94 rfl ?_
        refine x_ineg (pc' := 121) dX8_takesNumber_120 rfl ?_
        refine x_goto (pc' := 128) dX8_takesNumber_121 (by decide) ?_
        refine x_puti (pc' := 131) dX8_takesNumber_128 rfl lfX8_203 kd_94 rfl rfl rfl ?_
        obtain ⟨τ16, eτ16⟩ : ∃ τ : Mem, τ = (w1 σ 94 17 (-(σ.1 94 17))) := ⟨_, rfl⟩
        show X none (d + 2) mX8_takesNumber 131 [.ref 94, .int x1, .int x2, .int x3, .int x4] [] (w1 σ 94 17 (-(σ.1 94 17))) _
        rw [← eτ16]
        replace h := h τ16 eτ16
        refine x_aload_n (pc' := 132) dX8_takesNumber_131 rfl rfl rfl ?_
        refine x_iload (pc' := 134) dX8_takesNumber_132 rfl rfl ?_
        refine x_if_ne (pc' := 137) (tgt := 144) dX8_takesNumber_134 (by decide) rfl (fun hc => ?_) (fun hc => ?_)
        · replace h := h.1 hc
          refine x_iload_n (pc' := 145) dX8_takesNumber_144 rfl rfl rfl ?_
          refine x_puti (pc' := 148) dX8_takesNumber_145 rfl lfX8_197 kd_94 rfl rfl rfl ?_
          obtain ⟨τ17, eτ17⟩ : ∃ τ : Mem, τ = (w1 τ16 94 14 x3) := ⟨_, rfl⟩
          show X none (d + 2) mX8_takesNumber 148 [.ref 94, .int x1, .int x2, .int x3, .int x4] [] (w1 τ16 94 14 x3) _
          rw [← eτ17]
          replace h := h τ17 eτ17
          refine x_iload (pc' := 150) dX8_takesNumber_148 rfl rfl ?_
          refine x_i2l (pc' := 151) dX8_takesNumber_150 rfl ?_
          refine x_lconst (pc' := 152) (v := 1) dX8_takesNumber_151 rfl (by decide) ?_
          refine x_ldc2 (pc' := 155) dX8_takesNumber_152 rfl llX8_146 ?_
          refine x_callS (pc' := 158) (As := [.long ((x4).toInt64), .long 1, .long 3]) dX8_takesNumber_155 rfl lmX8_49 rfl rfl (Nat.le_of_ble_eq_true rfl) (Nat.le_of_ble_eq_true rfl) ?_
          show X none (d + 1) mX8_in 0 [.long ((x4).toInt64), Unk, .long 1, Unk, .long 3, Unk] [] τ17 _
          refine sp_in (x := x4) (lo := 1) (hi := 3) (by decide) (by decide) ?_
          show X none (d + 2) mX8_takesNumber 158 [.ref 94, .int x1, .int x2, .int x3, .int x4] [.int (if (1 ≤ x4 ∧ x4 ≤ 3) then 1 else 0)] τ17 _
          refine x_if_eq (pc' := 161) (tgt := 181) dX8_takesNumber_158 (by decide) rfl (fun hc => ?_) (fun hc => ?_)
          · replace h := h.1 (b01_ne hc)
            refine x_iconst (pc' := 182) (v := 0) dX8_takesNumber_181 rfl (by decide) ?_
            exact x_iret dX8_takesNumber_182 rfl rfl h
          · replace h := h.2 (b01_eq hc)
            refine x_aload_n (pc' := 162) dX8_takesNumber_161 rfl rfl rfl ?_
            refine x_geti (pc' := 165) dX8_takesNumber_162 rfl lfX8_203 kd_94 rfl ?_
            refine x_i2l (pc' := 166) dX8_takesNumber_165 rfl ?_
            refine x_iload_n (pc' := 167) dX8_takesNumber_166 rfl rfl rfl ?_
            refine x_i2l (pc' := 168) dX8_takesNumber_167 rfl ?_
            refine x_ldc2 (pc' := 171) dX8_takesNumber_168 rfl llX8_47 ?_
            refine x_callS (pc' := 174) (As := [.long (((τ17.1 94 17)).toInt64), .long ((x1).toInt64), .long 500]) dX8_takesNumber_171 rfl lmX8_49 rfl rfl (Nat.le_of_ble_eq_true rfl) (Nat.le_of_ble_eq_true rfl) ?_
            show X none (d + 1) mX8_in 0 [.long (((τ17.1 94 17)).toInt64), Unk, .long ((x1).toInt64), Unk, .long 500, Unk] [] τ17 _
            refine sp_in (x := (τ17.1 94 17)) (lo := x1) (hi := 500) rfl (by decide) ?_
            show X none (d + 2) mX8_takesNumber 174 [.ref 94, .int x1, .int x2, .int x3, .int x4] [.int (if (x1 ≤ (τ17.1 94 17) ∧ (τ17.1 94 17) ≤ 500) then 1 else 0)] τ17 _
            refine x_if_eq (pc' := 177) (tgt := 181) dX8_takesNumber_174 (by decide) rfl (fun hc => ?_) (fun hc => ?_)
            · replace h := h.1 (b01_ne hc)
              refine x_iconst (pc' := 182) (v := 0) dX8_takesNumber_181 rfl (by decide) ?_
              exact x_iret dX8_takesNumber_182 rfl rfl h
            · replace h := h.2 (b01_eq hc)
              refine x_iconst (pc' := 178) (v := 1) dX8_takesNumber_177 rfl (by decide) ?_
              refine x_goto (pc' := 182) dX8_takesNumber_178 (by decide) ?_
              exact x_iret dX8_takesNumber_182 rfl rfl h
        · replace h := h.2 hc
          refine x_aload_n (pc' := 138) dX8_takesNumber_137 rfl rfl rfl ?_
          refine x_geti (pc' := 141) dX8_takesNumber_138 rfl lfX8_191 kd_94 rfl ?_
          refine x_goto (pc' := 145) dX8_takesNumber_141 (by decide) ?_
          refine x_puti (pc' := 148) dX8_takesNumber_145 rfl lfX8_197 kd_94 rfl rfl rfl ?_
          obtain ⟨τ18, eτ18⟩ : ∃ τ : Mem, τ = (w1 τ16 94 14 (τ16.1 94 13)) := ⟨_, rfl⟩
          show X none (d + 2) mX8_takesNumber 148 [.ref 94, .int x1, .int x2, .int x3, .int x4] [] (w1 τ16 94 14 (τ16.1 94 13)) _
          rw [← eτ18]
          replace h := h τ18 eτ18
          refine x_iload (pc' := 150) dX8_takesNumber_148 rfl rfl ?_
          refine x_i2l (pc' := 151) dX8_takesNumber_150 rfl ?_
          refine x_lconst (pc' := 152) (v := 1) dX8_takesNumber_151 rfl (by decide) ?_
          refine x_ldc2 (pc' := 155) dX8_takesNumber_152 rfl llX8_146 ?_
          refine x_callS (pc' := 158) (As := [.long ((x4).toInt64), .long 1, .long 3]) dX8_takesNumber_155 rfl lmX8_49 rfl rfl (Nat.le_of_ble_eq_true rfl) (Nat.le_of_ble_eq_true rfl) ?_
          show X none (d + 1) mX8_in 0 [.long ((x4).toInt64), Unk, .long 1, Unk, .long 3, Unk] [] τ18 _
          refine sp_in (x := x4) (lo := 1) (hi := 3) (by decide) (by decide) ?_
          show X none (d + 2) mX8_takesNumber 158 [.ref 94, .int x1, .int x2, .int x3, .int x4] [.int (if (1 ≤ x4 ∧ x4 ≤ 3) then 1 else 0)] τ18 _
          refine x_if_eq (pc' := 161) (tgt := 181) dX8_takesNumber_158 (by decide) rfl (fun hc => ?_) (fun hc => ?_)
          · replace h := h.1 (b01_ne hc)
            refine x_iconst (pc' := 182) (v := 0) dX8_takesNumber_181 rfl (by decide) ?_
            exact x_iret dX8_takesNumber_182 rfl rfl h
          · replace h := h.2 (b01_eq hc)
            refine x_aload_n (pc' := 162) dX8_takesNumber_161 rfl rfl rfl ?_
            refine x_geti (pc' := 165) dX8_takesNumber_162 rfl lfX8_203 kd_94 rfl ?_
            refine x_i2l (pc' := 166) dX8_takesNumber_165 rfl ?_
            refine x_iload_n (pc' := 167) dX8_takesNumber_166 rfl rfl rfl ?_
            refine x_i2l (pc' := 168) dX8_takesNumber_167 rfl ?_
            refine x_ldc2 (pc' := 171) dX8_takesNumber_168 rfl llX8_47 ?_
            refine x_callS (pc' := 174) (As := [.long (((τ18.1 94 17)).toInt64), .long ((x1).toInt64), .long 500]) dX8_takesNumber_171 rfl lmX8_49 rfl rfl (Nat.le_of_ble_eq_true rfl) (Nat.le_of_ble_eq_true rfl) ?_
            show X none (d + 1) mX8_in 0 [.long (((τ18.1 94 17)).toInt64), Unk, .long ((x1).toInt64), Unk, .long 500, Unk] [] τ18 _
            refine sp_in (x := (τ18.1 94 17)) (lo := x1) (hi := 500) rfl (by decide) ?_
            show X none (d + 2) mX8_takesNumber 174 [.ref 94, .int x1, .int x2, .int x3, .int x4] [.int (if (x1 ≤ (τ18.1 94 17) ∧ (τ18.1 94 17) ≤ 500) then 1 else 0)] τ18 _
            refine x_if_eq (pc' := 177) (tgt := 181) dX8_takesNumber_174 (by decide) rfl (fun hc => ?_) (fun hc => ?_)
            · replace h := h.1 (b01_ne hc)
              refine x_iconst (pc' := 182) (v := 0) dX8_takesNumber_181 rfl (by decide) ?_
              exact x_iret dX8_takesNumber_182 rfl rfl h
            · replace h := h.2 (b01_eq hc)
              refine x_iconst (pc' := 178) (v := 1) dX8_takesNumber_177 rfl (by decide) ?_
              refine x_goto (pc' := 182) dX8_takesNumber_178 (by decide) ?_
              exact x_iret dX8_takesNumber_182 rfl rfl h
    · replace h := h.2 (b01_eq hc)
      refine x_aload_n (pc' := 64) dX8_takesNumber_63 rfl rfl rfl ?_
      refine x_iload (pc' := 66) dX8_takesNumber_64 rfl rfl ?_
      refine x_iconst (pc' := 67) (v := 4) dX8_takesNumber_66 rfl (by decide) ?_
      refine x_icmp_ge (pc' := 70) (tgt := 88) dX8_takesNumber_67 (by decide) rfl (fun hc => ?_) (fun hc => ?_)
      · replace h := h.1 hc
        refine x_aload_n (pc' := 89) dX8_takesNumber_88 rfl rfl rfl ?_
        refine x_geti (pc' := 92) dX8_takesNumber_89 rfl lfX8_203 kd_94 rfl ?_
        refine x_puti (pc' := 95) dX8_takesNumber_92 rfl lfX8_203 kd_94 rfl rfl rfl ?_
        obtain ⟨τ19, eτ19⟩ : ∃ τ : Mem, τ = (w1 σ 94 17 (σ.1 94 17)) := ⟨_, rfl⟩
        show X none (d + 2) mX8_takesNumber 95 [.ref 94, .int x1, .int x2, .int x3, .int x4] [] (w1 σ 94 17 (σ.1 94 17)) _
        rw [← eτ19]
        replace h := h τ19 eτ19
        refine x_iinc (pc' := 98) (v := 1) dX8_takesNumber_95 rfl (by decide) rfl rfl (by decide) (ls' := [.ref 94, .int x1, .int x2, .int x3, .int (x4 + 1)]) rfl ?_
        refine x_aload_n (pc' := 99) dX8_takesNumber_98 rfl rfl rfl ?_
        refine x_dup (pc' := 100) dX8_takesNumber_99 rfl rfl ?_
        refine x_geti (pc' := 103) dX8_takesNumber_100 rfl lfX8_191 kd_94 rfl ?_
        refine x_iconst (pc' := 104) (v := 1) dX8_takesNumber_103 rfl (by decide) ?_
        refine x_iadd (pc' := 105) dX8_takesNumber_104 rfl ?_
        refine x_puti (pc' := 108) dX8_takesNumber_105 rfl lfX8_191 kd_94 rfl rfl rfl ?_
        obtain ⟨τ20, eτ20⟩ : ∃ τ : Mem, τ = (w1 τ19 94 13 ((τ19.1 94 13) + 1)) := ⟨_, rfl⟩
        show X none (d + 2) mX8_takesNumber 108 [.ref 94, .int x1, .int x2, .int x3, .int (x4 + 1)] [] (w1 τ19 94 13 ((τ19.1 94 13) + 1)) _
        rw [← eτ20]
        replace h := h τ20 eτ20
        refine x_goto (pc' := 46) dX8_takesNumber_108 (by decide) ?_
        exact h
      · replace h := h.2 hc
        refine x_bipush (pc' := 72) (v := 10) dX8_takesNumber_70 rfl (by decide) ?_
        refine x_aload_n (pc' := 73) dX8_takesNumber_72 rfl rfl rfl ?_
        refine x_geti (pc' := 76) dX8_takesNumber_73 rfl lfX8_203 kd_94 rfl ?_
        refine x_imul (pc' := 77) dX8_takesNumber_76 rfl ?_
        refine x_aload_n (pc' := 78) dX8_takesNumber_77 rfl rfl rfl ?_
        refine x_callV (pc' := 81) (As := []) dX8_takesNumber_78 rfl lmX8_194 kd_94 rfl rfl (Nat.le_of_ble_eq_true rfl) (Nat.le_of_ble_eq_true rfl) ?_
        show X none (d + 1) mX8_here 0 [.ref 94] [] σ _
        refine x_aload_n (pc' := 1) dX8_here_0 rfl rfl rfl ?_
        refine x_geti (pc' := 4) dX8_here_1 rfl lfX8_191 kd_94 rfl ?_
        refine x_aload_n (pc' := 5) dX8_here_4 rfl rfl rfl ?_
        refine x_geti (pc' := 8) dX8_here_5 rfl lfX8_188 kd_94 rfl ?_
        refine x_icmp_ge (pc' := 11) (tgt := 23) dX8_here_8 (by decide) rfl (fun hc => ?_) (fun hc => ?_)
        · replace h := h.1 hc
          refine x_iconst (pc' := 24) (v := (-1)) dX8_here_23 rfl (by decide) ?_
          refine x_iret dX8_here_24 rfl rfl ?_
          show X none (d + 2) mX8_takesNumber 81 [.ref 94, .int x1, .int x2, .int x3, .int x4] [.int (-1), .int (10 * (σ.1 94 17)), .ref 94] σ _
          refine x_iadd (pc' := 82) dX8_takesNumber_81 rfl ?_
          refine x_bipush (pc' := 84) (v := 48) dX8_takesNumber_82 rfl (by decide) ?_
          refine x_isub (pc' := 85) dX8_takesNumber_84 rfl ?_
          refine x_goto (pc' := 92) dX8_takesNumber_85 (by decide) ?_
          refine x_puti (pc' := 95) dX8_takesNumber_92 rfl lfX8_203 kd_94 rfl rfl rfl ?_
          obtain ⟨τ21, eτ21⟩ : ∃ τ : Mem, τ = (w1 σ 94 17 (((10 * (σ.1 94 17)) + (-1)) - 48)) := ⟨_, rfl⟩
          show X none (d + 2) mX8_takesNumber 95 [.ref 94, .int x1, .int x2, .int x3, .int x4] [] (w1 σ 94 17 (((10 * (σ.1 94 17)) + (-1)) - 48)) _
          rw [← eτ21]
          replace h := h τ21 eτ21
          refine x_iinc (pc' := 98) (v := 1) dX8_takesNumber_95 rfl (by decide) rfl rfl (by decide) (ls' := [.ref 94, .int x1, .int x2, .int x3, .int (x4 + 1)]) rfl ?_
          refine x_aload_n (pc' := 99) dX8_takesNumber_98 rfl rfl rfl ?_
          refine x_dup (pc' := 100) dX8_takesNumber_99 rfl rfl ?_
          refine x_geti (pc' := 103) dX8_takesNumber_100 rfl lfX8_191 kd_94 rfl ?_
          refine x_iconst (pc' := 104) (v := 1) dX8_takesNumber_103 rfl (by decide) ?_
          refine x_iadd (pc' := 105) dX8_takesNumber_104 rfl ?_
          refine x_puti (pc' := 108) dX8_takesNumber_105 rfl lfX8_191 kd_94 rfl rfl rfl ?_
          obtain ⟨τ22, eτ22⟩ : ∃ τ : Mem, τ = (w1 τ21 94 13 ((τ21.1 94 13) + 1)) := ⟨_, rfl⟩
          show X none (d + 2) mX8_takesNumber 108 [.ref 94, .int x1, .int x2, .int x3, .int (x4 + 1)] [] (w1 τ21 94 13 ((τ21.1 94 13) + 1)) _
          rw [← eτ22]
          replace h := h τ22 eτ22
          refine x_goto (pc' := 46) dX8_takesNumber_108 (by decide) ?_
          exact h
        · replace h := h.2 hc
          refine x_aload_n (pc' := 12) dX8_here_11 rfl rfl rfl ?_
          refine x_getr (pc' := 15) dX8_here_12 rfl lfX8_20 kd_94 rfl rf_94_5 ?_
          refine x_aload_n (pc' := 16) dX8_here_15 rfl rfl rfl ?_
          refine x_geti (pc' := 19) dX8_here_16 rfl lfX8_191 kd_94 rfl ?_
          obtain ⟨hb, h⟩ := h
          refine x_iald (pc' := 20) dX8_here_19 rfl kd_98 (by rw [ln_98]; exact hb) ?_
          refine x_goto (pc' := 24) dX8_here_20 (by decide) ?_
          refine x_iret dX8_here_24 rfl rfl ?_
          show X none (d + 2) mX8_takesNumber 81 [.ref 94, .int x1, .int x2, .int x3, .int x4] [.int (σ.1 98 (σ.1 94 13).toNatClampNeg), .int (10 * (σ.1 94 17)), .ref 94] σ _
          refine x_iadd (pc' := 82) dX8_takesNumber_81 rfl ?_
          refine x_bipush (pc' := 84) (v := 48) dX8_takesNumber_82 rfl (by decide) ?_
          refine x_isub (pc' := 85) dX8_takesNumber_84 rfl ?_
          refine x_goto (pc' := 92) dX8_takesNumber_85 (by decide) ?_
          refine x_puti (pc' := 95) dX8_takesNumber_92 rfl lfX8_203 kd_94 rfl rfl rfl ?_
          obtain ⟨τ23, eτ23⟩ : ∃ τ : Mem, τ = (w1 σ 94 17 (((10 * (σ.1 94 17)) + (σ.1 98 (σ.1 94 13).toNatClampNeg)) - 48)) := ⟨_, rfl⟩
          show X none (d + 2) mX8_takesNumber 95 [.ref 94, .int x1, .int x2, .int x3, .int x4] [] (w1 σ 94 17 (((10 * (σ.1 94 17)) + (σ.1 98 (σ.1 94 13).toNatClampNeg)) - 48)) _
          rw [← eτ23]
          replace h := h τ23 eτ23
          refine x_iinc (pc' := 98) (v := 1) dX8_takesNumber_95 rfl (by decide) rfl rfl (by decide) (ls' := [.ref 94, .int x1, .int x2, .int x3, .int (x4 + 1)]) rfl ?_
          refine x_aload_n (pc' := 99) dX8_takesNumber_98 rfl rfl rfl ?_
          refine x_dup (pc' := 100) dX8_takesNumber_99 rfl rfl ?_
          refine x_geti (pc' := 103) dX8_takesNumber_100 rfl lfX8_191 kd_94 rfl ?_
          refine x_iconst (pc' := 104) (v := 1) dX8_takesNumber_103 rfl (by decide) ?_
          refine x_iadd (pc' := 105) dX8_takesNumber_104 rfl ?_
          refine x_puti (pc' := 108) dX8_takesNumber_105 rfl lfX8_191 kd_94 rfl rfl rfl ?_
          obtain ⟨τ24, eτ24⟩ : ∃ τ : Mem, τ = (w1 τ23 94 13 ((τ23.1 94 13) + 1)) := ⟨_, rfl⟩
          show X none (d + 2) mX8_takesNumber 108 [.ref 94, .int x1, .int x2, .int x3, .int (x4 + 1)] [] (w1 τ23 94 13 ((τ23.1 94 13) + 1)) _
          rw [← eτ24]
          replace h := h τ24 eτ24
          refine x_goto (pc' := 46) dX8_takesNumber_108 (by decide) ?_
          exact h
set_option maxRecDepth 100000 in
set_option maxHeartbeats 4000000 in
theorem vX8_takesRect_0 {d : Nat} {σ : Mem} {Q : Option Value → Mem → Prop} 
    (h : X none (d + 3) mX8_takesRect 17 [.ref 94, .int (668 + (4 * (σ.1 96 547))), .int 0, Unk] [] σ Q) :
    X none (d + 3) mX8_takesRect 0 [.ref 94, Unk, Unk, Unk] [] σ Q := by
  refine x_sipush (pc' := 3) (v := 668) dX8_takesRect_0 rfl (by decide) ?_
  refine x_iconst (pc' := 4) (v := 4) dX8_takesRect_3 rfl (by decide) ?_
  refine x_aload_n (pc' := 5) dX8_takesRect_4 rfl rfl rfl ?_
  refine x_getr (pc' := 8) dX8_takesRect_5 rfl lfX8_13 kd_94 rfl rf_94_1 ?_
  refine x_sipush (pc' := 11) (v := 547) dX8_takesRect_8 rfl (by decide) ?_
  refine x_iald (pc' := 12) dX8_takesRect_11 rfl kd_96 (by rw [ln_96]; unfold vp_in; decide) ?_
  show X none (d + 3) mX8_takesRect 12 [.ref 94, Unk, Unk, Unk] [.int (σ.1 96 547), .int 4, .int 668] σ _
  refine x_imul (pc' := 13) dX8_takesRect_12 rfl ?_
  refine x_iadd (pc' := 14) dX8_takesRect_13 rfl ?_
  refine x_istore_n (pc' := 15) dX8_takesRect_14 rfl rfl (by decide) rfl (ls' := [.ref 94, .int (668 + (4 * (σ.1 96 547))), Unk, Unk]) rfl ?_
  refine x_iconst (pc' := 16) (v := 0) dX8_takesRect_15 rfl (by decide) ?_
  refine x_istore_n (pc' := 17) dX8_takesRect_16 rfl rfl (by decide) rfl (ls' := [.ref 94, .int (668 + (4 * (σ.1 96 547))), .int 0, Unk]) rfl ?_
  exact h
set_option maxRecDepth 100000 in
set_option maxHeartbeats 4000000 in
theorem vX8_takesRect_17 {d : Nat} {σ : Mem} {Q : Option Value → Mem → Prop} {x1 x2 : Int32} 
    (h : ((4 ≤ x2 → (X none (d + 2) mX8_takes 0 [.ref 94, .int 93, Unk] [] σ (fun r τ1 => ∃ u2 : Int32, r = some (.int u2) ∧ ((¬ u2 = 0 → (vp_in (548 + (τ1.1 96 546)) 728 ∧ (∀ τ3 : Mem, τ3 = (w1 τ1 96 (548 + (τ1.1 96 546)).toNatClampNeg (τ1.1 96 547)) → ((∀ τ4 : Mem, τ4 = (w1 τ3 96 546 ((τ3.1 96 546) + 1)) → ((∀ τ5 : Mem, τ5 = (w1 τ4 96 547 ((τ4.1 96 547) + 1)) → Q (some (.int 1)) τ5))))))) ∧ (u2 = 0 → Q (some (.int 0)) τ1))))) ∧ (¬ 4 ≤ x2 → ((¬ x2 = 0 → (X none (d + 2) mX8_takes 0 [.ref 94, .int 44, Unk] [] σ (fun r τ6 => ∃ u7 : Int32, r = some (.int u7) ∧ ((u7 = 0 → Q (some (.int 0)) τ6) ∧ (¬ u7 = 0 → ((¬ (x2 - x2 / 2 * 2) = 0 → (vp_in ((x1 + x2) - 1) 728 ∧ (X none (d + 2) mX8_takesNumber 0 [.ref 94, .int (τ6.1 96 ((x1 + x2) - 1).toNatClampNeg), Unk, Unk, Unk] [] τ6 (fun r τ8 => ∃ u9 : Int32, r = some (.int u9) ∧ ((u9 = 0 → Q (some (.int 0)) τ8) ∧ (¬ u9 = 0 → (vp_in (x1 + x2) 728 ∧ (∀ τ10 : Mem, τ10 = (w1 τ8 96 (x1 + x2).toNatClampNeg (τ8.1 94 17)) → X none (d + 3) mX8_takesRect 17 [.ref 94, .int x1, .int (x2 + 1), Unk] [] τ10 Q)))))))) ∧ ((x2 - x2 / 2 * 2) = 0 → (X none (d + 2) mX8_takesNumber 0 [.ref 94, .int (-500), Unk, Unk, Unk] [] τ6 (fun r τ11 => ∃ u12 : Int32, r = some (.int u12) ∧ ((u12 = 0 → Q (some (.int 0)) τ11) ∧ (¬ u12 = 0 → (vp_in (x1 + x2) 728 ∧ (∀ τ13 : Mem, τ13 = (w1 τ11 96 (x1 + x2).toNatClampNeg (τ11.1 94 17)) → X none (d + 3) mX8_takesRect 17 [.ref 94, .int x1, .int (x2 + 1), Unk] [] τ13 Q))))))))))))) ∧ (x2 = 0 → (X none (d + 2) mX8_takes 0 [.ref 94, .int 91, Unk] [] σ (fun r τ14 => ∃ u15 : Int32, r = some (.int u15) ∧ ((u15 = 0 → Q (some (.int 0)) τ14) ∧ (¬ u15 = 0 → ((¬ (x2 - x2 / 2 * 2) = 0 → (vp_in ((x1 + x2) - 1) 728 ∧ (X none (d + 2) mX8_takesNumber 0 [.ref 94, .int (τ14.1 96 ((x1 + x2) - 1).toNatClampNeg), Unk, Unk, Unk] [] τ14 (fun r τ16 => ∃ u17 : Int32, r = some (.int u17) ∧ ((u17 = 0 → Q (some (.int 0)) τ16) ∧ (¬ u17 = 0 → (vp_in (x1 + x2) 728 ∧ (∀ τ18 : Mem, τ18 = (w1 τ16 96 (x1 + x2).toNatClampNeg (τ16.1 94 17)) → X none (d + 3) mX8_takesRect 17 [.ref 94, .int x1, .int (x2 + 1), Unk] [] τ18 Q)))))))) ∧ ((x2 - x2 / 2 * 2) = 0 → (X none (d + 2) mX8_takesNumber 0 [.ref 94, .int (-500), Unk, Unk, Unk] [] τ14 (fun r τ19 => ∃ u20 : Int32, r = some (.int u20) ∧ ((u20 = 0 → Q (some (.int 0)) τ19) ∧ (¬ u20 = 0 → (vp_in (x1 + x2) 728 ∧ (∀ τ21 : Mem, τ21 = (w1 τ19 96 (x1 + x2).toNatClampNeg (τ19.1 94 17)) → X none (d + 3) mX8_takesRect 17 [.ref 94, .int x1, .int (x2 + 1), Unk] [] τ21 Q))))))))))))))))) :
    X none (d + 3) mX8_takesRect 17 [.ref 94, .int x1, .int x2, Unk] [] σ Q := by
  refine x_iload_n (pc' := 18) dX8_takesRect_17 rfl rfl rfl ?_
  refine x_iconst (pc' := 19) (v := 4) dX8_takesRect_18 rfl (by decide) ?_
  refine x_icmp_ge (pc' := 22) (tgt := 99) dX8_takesRect_19 (by decide) rfl (fun hc => ?_) (fun hc => ?_)
  · replace h := h.1 hc
    refine x_aload_n (pc' := 100) dX8_takesRect_99 rfl rfl rfl ?_
    refine x_bipush (pc' := 102) (v := 93) dX8_takesRect_100 rfl (by decide) ?_
    refine x_callV (pc' := 105) (As := [.int 93]) dX8_takesRect_102 rfl lmX8_210 kd_94 rfl rfl (Nat.le_of_ble_eq_true rfl) (Nat.le_of_ble_eq_true rfl) ?_
    show X none (d + 2) mX8_takes 0 [.ref 94, .int 93, Unk] [] σ _
    refine X.mono h ?_
    rintro r τ1 ⟨u2, rfl, h⟩
    show X none (d + 3) mX8_takesRect 105 [.ref 94, .int x1, .int x2, Unk] [.int u2] τ1 _
    refine x_if_ne (pc' := 108) (tgt := 110) dX8_takesRect_105 (by decide) rfl (fun hc => ?_) (fun hc => ?_)
    · replace h := h.1 hc
      refine x_aload_n (pc' := 111) dX8_takesRect_110 rfl rfl rfl ?_
      refine x_aload_n (pc' := 112) dX8_takesRect_111 rfl rfl rfl ?_
      refine x_getr (pc' := 115) dX8_takesRect_112 rfl lfX8_13 kd_94 rfl rf_94_1 ?_
      refine x_sipush (pc' := 118) (v := 547) dX8_takesRect_115 rfl (by decide) ?_
      refine x_iald (pc' := 119) dX8_takesRect_118 rfl kd_96 (by rw [ln_96]; unfold vp_in; decide) ?_
      show X none (d + 3) mX8_takesRect 119 [.ref 94, .int x1, .int x2, Unk] [.int (τ1.1 96 547), .ref 94] τ1 _
      refine x_callV (pc' := 122) (As := [.int (τ1.1 96 547)]) dX8_takesRect_119 rfl lmX8_216 kd_94 rfl rfl (Nat.le_of_ble_eq_true rfl) (Nat.le_of_ble_eq_true rfl) ?_
      show X none (d + 2) mX8_puts 0 [.ref 94, .int (τ1.1 96 547)] [] τ1 _
      refine x_aload_n (pc' := 1) dX8_puts_0 rfl rfl rfl ?_
      refine x_getr (pc' := 4) dX8_puts_1 rfl lfX8_13 kd_94 rfl rf_94_1 ?_
      refine x_sipush (pc' := 7) (v := 548) dX8_puts_4 rfl (by decide) ?_
      refine x_aload_n (pc' := 8) dX8_puts_7 rfl rfl rfl ?_
      refine x_getr (pc' := 11) dX8_puts_8 rfl lfX8_13 kd_94 rfl rf_94_1 ?_
      refine x_sipush (pc' := 14) (v := 546) dX8_puts_11 rfl (by decide) ?_
      refine x_iald (pc' := 15) dX8_puts_14 rfl kd_96 (by rw [ln_96]; unfold vp_in; decide) ?_
      show X none (d + 2) mX8_puts 15 [.ref 94, .int (τ1.1 96 547)] [.int (τ1.1 96 546), .int 548, .ref 96] τ1 _
      refine x_iadd (pc' := 16) dX8_puts_15 rfl ?_
      refine x_iload_n (pc' := 17) dX8_puts_16 rfl rfl rfl ?_
      obtain ⟨hb, h⟩ := h
      refine x_iast (pc' := 18) dX8_puts_17 rfl kd_96 (by rw [ln_96]; exact hb) ?_
      obtain ⟨τ3, eτ3⟩ : ∃ τ : Mem, τ = (w1 τ1 96 (548 + (τ1.1 96 546)).toNatClampNeg (τ1.1 96 547)) := ⟨_, rfl⟩
      show X none (d + 2) mX8_puts 18 [.ref 94, .int (τ1.1 96 547)] [] (w1 τ1 96 (548 + (τ1.1 96 546)).toNatClampNeg (τ1.1 96 547)) _
      rw [← eτ3]
      replace h := h τ3 eτ3
      refine x_aload_n (pc' := 19) dX8_puts_18 rfl rfl rfl ?_
      refine x_getr (pc' := 22) dX8_puts_19 rfl lfX8_13 kd_94 rfl rf_94_1 ?_
      refine x_sipush (pc' := 25) (v := 546) dX8_puts_22 rfl (by decide) ?_
      refine x_dup2 (pc' := 26) dX8_puts_25 rfl rfl rfl ?_
      refine x_iald (pc' := 27) dX8_puts_26 rfl kd_96 (by rw [ln_96]; unfold vp_in; decide) ?_
      show X none (d + 2) mX8_puts 27 [.ref 94, .int (τ1.1 96 547)] [.int (τ3.1 96 546), .int 546, .ref 96] τ3 _
      refine x_iconst (pc' := 28) (v := 1) dX8_puts_27 rfl (by decide) ?_
      refine x_iadd (pc' := 29) dX8_puts_28 rfl ?_
      refine x_iast (pc' := 30) dX8_puts_29 rfl kd_96 (by rw [ln_96]; unfold vp_in; decide) ?_
      obtain ⟨τ4, eτ4⟩ : ∃ τ : Mem, τ = (w1 τ3 96 546 ((τ3.1 96 546) + 1)) := ⟨_, rfl⟩
      show X none (d + 2) mX8_puts 30 [.ref 94, .int (τ1.1 96 547)] [] (w1 τ3 96 546 ((τ3.1 96 546) + 1)) _
      rw [← eτ4]
      replace h := h τ4 eτ4
      refine x_vret dX8_puts_30 rfl ?_
      show X none (d + 3) mX8_takesRect 122 [.ref 94, .int x1, .int x2, Unk] [] τ4 _
      refine x_aload_n (pc' := 123) dX8_takesRect_122 rfl rfl rfl ?_
      refine x_getr (pc' := 126) dX8_takesRect_123 rfl lfX8_13 kd_94 rfl rf_94_1 ?_
      refine x_sipush (pc' := 129) (v := 547) dX8_takesRect_126 rfl (by decide) ?_
      refine x_dup2 (pc' := 130) dX8_takesRect_129 rfl rfl rfl ?_
      refine x_iald (pc' := 131) dX8_takesRect_130 rfl kd_96 (by rw [ln_96]; unfold vp_in; decide) ?_
      show X none (d + 3) mX8_takesRect 131 [.ref 94, .int x1, .int x2, Unk] [.int (τ4.1 96 547), .int 547, .ref 96] τ4 _
      refine x_iconst (pc' := 132) (v := 1) dX8_takesRect_131 rfl (by decide) ?_
      refine x_iadd (pc' := 133) dX8_takesRect_132 rfl ?_
      refine x_iast (pc' := 134) dX8_takesRect_133 rfl kd_96 (by rw [ln_96]; unfold vp_in; decide) ?_
      obtain ⟨τ5, eτ5⟩ : ∃ τ : Mem, τ = (w1 τ4 96 547 ((τ4.1 96 547) + 1)) := ⟨_, rfl⟩
      show X none (d + 3) mX8_takesRect 134 [.ref 94, .int x1, .int x2, Unk] [] (w1 τ4 96 547 ((τ4.1 96 547) + 1)) _
      rw [← eτ5]
      replace h := h τ5 eτ5
      refine x_iconst (pc' := 135) (v := 1) dX8_takesRect_134 rfl (by decide) ?_
      exact x_iret dX8_takesRect_135 rfl rfl h
    · replace h := h.2 hc
      refine x_iconst (pc' := 109) (v := 0) dX8_takesRect_108 rfl (by decide) ?_
      exact x_iret dX8_takesRect_109 rfl rfl h
  · replace h := h.2 hc
    refine x_aload_n (pc' := 23) dX8_takesRect_22 rfl rfl rfl ?_
    refine x_iload_n (pc' := 24) dX8_takesRect_23 rfl rfl rfl ?_
    refine x_if_ne (pc' := 27) (tgt := 32) dX8_takesRect_24 (by decide) rfl (fun hc => ?_) (fun hc => ?_)
    · replace h := h.1 hc
      refine x_bipush (pc' := 34) (v := 44) dX8_takesRect_32 rfl (by decide) ?_
      refine x_callV (pc' := 37) (As := [.int 44]) dX8_takesRect_34 rfl lmX8_210 kd_94 rfl rfl (Nat.le_of_ble_eq_true rfl) (Nat.le_of_ble_eq_true rfl) ?_
      show X none (d + 2) mX8_takes 0 [.ref 94, .int 44, Unk] [] σ _
      refine X.mono h ?_
      rintro r τ6 ⟨u7, rfl, h⟩
      show X none (d + 3) mX8_takesRect 37 [.ref 94, .int x1, .int x2, Unk] [.int u7] τ6 _
      refine x_if_eq (pc' := 40) (tgt := 73) dX8_takesRect_37 (by decide) rfl (fun hc => ?_) (fun hc => ?_)
      · replace h := h.1 hc
        refine x_iconst (pc' := 74) (v := 0) dX8_takesRect_73 rfl (by decide) ?_
        refine x_istore_n (pc' := 75) dX8_takesRect_74 rfl rfl (by decide) rfl (ls' := [.ref 94, .int x1, .int x2, .int 0]) rfl ?_
        refine x_iload_n (pc' := 76) dX8_takesRect_75 rfl rfl rfl ?_
        refine x_if_ne (pc' := 79) (tgt := 81) dX8_takesRect_76 (by decide) rfl (fun hc => absurd hc (by decide)) (fun _ => ?_)
        refine x_iconst (pc' := 80) (v := 0) dX8_takesRect_79 rfl (by decide) ?_
        exact x_iret dX8_takesRect_80 rfl rfl h
      · replace h := h.2 hc
        refine x_aload_n (pc' := 41) dX8_takesRect_40 rfl rfl rfl ?_
        refine x_iload_n (pc' := 42) dX8_takesRect_41 rfl rfl rfl ?_
        refine x_iconst (pc' := 43) (v := 2) dX8_takesRect_42 rfl (by decide) ?_
        refine x_irem (pc' := 44) dX8_takesRect_43 rfl (by decide) ?_
        refine x_if_ne (pc' := 47) (tgt := 53) dX8_takesRect_44 (by decide) rfl (fun hc => ?_) (fun hc => ?_)
        · replace h := h.1 hc
          refine x_aload_n (pc' := 54) dX8_takesRect_53 rfl rfl rfl ?_
          refine x_getr (pc' := 57) dX8_takesRect_54 rfl lfX8_13 kd_94 rfl rf_94_1 ?_
          refine x_iload_n (pc' := 58) dX8_takesRect_57 rfl rfl rfl ?_
          refine x_iload_n (pc' := 59) dX8_takesRect_58 rfl rfl rfl ?_
          refine x_iadd (pc' := 60) dX8_takesRect_59 rfl ?_
          refine x_iconst (pc' := 61) (v := 1) dX8_takesRect_60 rfl (by decide) ?_
          refine x_isub (pc' := 62) dX8_takesRect_61 rfl ?_
          obtain ⟨hb, h⟩ := h
          refine x_iald (pc' := 63) dX8_takesRect_62 rfl kd_96 (by rw [ln_96]; exact hb) ?_
          refine x_callV (pc' := 66) (As := [.int (τ6.1 96 ((x1 + x2) - 1).toNatClampNeg)]) dX8_takesRect_63 rfl lmX8_213 kd_94 rfl rfl (Nat.le_of_ble_eq_true rfl) (Nat.le_of_ble_eq_true rfl) ?_
          show X none (d + 2) mX8_takesNumber 0 [.ref 94, .int (τ6.1 96 ((x1 + x2) - 1).toNatClampNeg), Unk, Unk, Unk] [] τ6 _
          refine X.mono h ?_
          rintro r τ8 ⟨u9, rfl, h⟩
          show X none (d + 3) mX8_takesRect 66 [.ref 94, .int x1, .int x2, Unk] [.int u9] τ8 _
          refine x_if_eq (pc' := 69) (tgt := 73) dX8_takesRect_66 (by decide) rfl (fun hc => ?_) (fun hc => ?_)
          · replace h := h.1 hc
            refine x_iconst (pc' := 74) (v := 0) dX8_takesRect_73 rfl (by decide) ?_
            refine x_istore_n (pc' := 75) dX8_takesRect_74 rfl rfl (by decide) rfl (ls' := [.ref 94, .int x1, .int x2, .int 0]) rfl ?_
            refine x_iload_n (pc' := 76) dX8_takesRect_75 rfl rfl rfl ?_
            refine x_if_ne (pc' := 79) (tgt := 81) dX8_takesRect_76 (by decide) rfl (fun hc => absurd hc (by decide)) (fun _ => ?_)
            refine x_iconst (pc' := 80) (v := 0) dX8_takesRect_79 rfl (by decide) ?_
            exact x_iret dX8_takesRect_80 rfl rfl h
          · replace h := h.2 hc
            refine x_iconst (pc' := 70) (v := 1) dX8_takesRect_69 rfl (by decide) ?_
            refine x_goto (pc' := 74) dX8_takesRect_70 (by decide) ?_
            refine x_istore_n (pc' := 75) dX8_takesRect_74 rfl rfl (by decide) rfl (ls' := [.ref 94, .int x1, .int x2, .int 1]) rfl ?_
            refine x_iload_n (pc' := 76) dX8_takesRect_75 rfl rfl rfl ?_
            refine x_if_ne (pc' := 79) (tgt := 81) dX8_takesRect_76 (by decide) rfl (fun _ => ?_) (fun hc => absurd hc (by decide))
            refine x_aload_n (pc' := 82) dX8_takesRect_81 rfl rfl rfl ?_
            refine x_getr (pc' := 85) dX8_takesRect_82 rfl lfX8_13 kd_94 rfl rf_94_1 ?_
            refine x_iload_n (pc' := 86) dX8_takesRect_85 rfl rfl rfl ?_
            refine x_iload_n (pc' := 87) dX8_takesRect_86 rfl rfl rfl ?_
            refine x_iadd (pc' := 88) dX8_takesRect_87 rfl ?_
            refine x_aload_n (pc' := 89) dX8_takesRect_88 rfl rfl rfl ?_
            refine x_geti (pc' := 92) dX8_takesRect_89 rfl lfX8_203 kd_94 rfl ?_
            obtain ⟨hb, h⟩ := h
            refine x_iast (pc' := 93) dX8_takesRect_92 rfl kd_96 (by rw [ln_96]; exact hb) ?_
            obtain ⟨τ10, eτ10⟩ : ∃ τ : Mem, τ = (w1 τ8 96 (x1 + x2).toNatClampNeg (τ8.1 94 17)) := ⟨_, rfl⟩
            show X none (d + 3) mX8_takesRect 93 [.ref 94, .int x1, .int x2, .int 1] [] (w1 τ8 96 (x1 + x2).toNatClampNeg (τ8.1 94 17)) _
            rw [← eτ10]
            replace h := h τ10 eτ10
            refine x_iinc (pc' := 96) (v := 1) dX8_takesRect_93 rfl (by decide) rfl rfl (by decide) (ls' := [.ref 94, .int x1, .int (x2 + 1), .int 1]) rfl ?_
            refine x_goto (pc' := 17) dX8_takesRect_96 (by decide) ?_
            refine x_forget 3 (ls' := [.ref 94, .int x1, .int (x2 + 1), Unk]) rfl ?_
            exact h
        · replace h := h.2 hc
          refine x_sipush (pc' := 50) (v := (-500)) dX8_takesRect_47 rfl (by decide) ?_
          refine x_goto (pc' := 63) dX8_takesRect_50 (by decide) ?_
          refine x_callV (pc' := 66) (As := [.int (-500)]) dX8_takesRect_63 rfl lmX8_213 kd_94 rfl rfl (Nat.le_of_ble_eq_true rfl) (Nat.le_of_ble_eq_true rfl) ?_
          show X none (d + 2) mX8_takesNumber 0 [.ref 94, .int (-500), Unk, Unk, Unk] [] τ6 _
          refine X.mono h ?_
          rintro r τ11 ⟨u12, rfl, h⟩
          show X none (d + 3) mX8_takesRect 66 [.ref 94, .int x1, .int x2, Unk] [.int u12] τ11 _
          refine x_if_eq (pc' := 69) (tgt := 73) dX8_takesRect_66 (by decide) rfl (fun hc => ?_) (fun hc => ?_)
          · replace h := h.1 hc
            refine x_iconst (pc' := 74) (v := 0) dX8_takesRect_73 rfl (by decide) ?_
            refine x_istore_n (pc' := 75) dX8_takesRect_74 rfl rfl (by decide) rfl (ls' := [.ref 94, .int x1, .int x2, .int 0]) rfl ?_
            refine x_iload_n (pc' := 76) dX8_takesRect_75 rfl rfl rfl ?_
            refine x_if_ne (pc' := 79) (tgt := 81) dX8_takesRect_76 (by decide) rfl (fun hc => absurd hc (by decide)) (fun _ => ?_)
            refine x_iconst (pc' := 80) (v := 0) dX8_takesRect_79 rfl (by decide) ?_
            exact x_iret dX8_takesRect_80 rfl rfl h
          · replace h := h.2 hc
            refine x_iconst (pc' := 70) (v := 1) dX8_takesRect_69 rfl (by decide) ?_
            refine x_goto (pc' := 74) dX8_takesRect_70 (by decide) ?_
            refine x_istore_n (pc' := 75) dX8_takesRect_74 rfl rfl (by decide) rfl (ls' := [.ref 94, .int x1, .int x2, .int 1]) rfl ?_
            refine x_iload_n (pc' := 76) dX8_takesRect_75 rfl rfl rfl ?_
            refine x_if_ne (pc' := 79) (tgt := 81) dX8_takesRect_76 (by decide) rfl (fun _ => ?_) (fun hc => absurd hc (by decide))
            refine x_aload_n (pc' := 82) dX8_takesRect_81 rfl rfl rfl ?_
            refine x_getr (pc' := 85) dX8_takesRect_82 rfl lfX8_13 kd_94 rfl rf_94_1 ?_
            refine x_iload_n (pc' := 86) dX8_takesRect_85 rfl rfl rfl ?_
            refine x_iload_n (pc' := 87) dX8_takesRect_86 rfl rfl rfl ?_
            refine x_iadd (pc' := 88) dX8_takesRect_87 rfl ?_
            refine x_aload_n (pc' := 89) dX8_takesRect_88 rfl rfl rfl ?_
            refine x_geti (pc' := 92) dX8_takesRect_89 rfl lfX8_203 kd_94 rfl ?_
            obtain ⟨hb, h⟩ := h
            refine x_iast (pc' := 93) dX8_takesRect_92 rfl kd_96 (by rw [ln_96]; exact hb) ?_
            obtain ⟨τ13, eτ13⟩ : ∃ τ : Mem, τ = (w1 τ11 96 (x1 + x2).toNatClampNeg (τ11.1 94 17)) := ⟨_, rfl⟩
            show X none (d + 3) mX8_takesRect 93 [.ref 94, .int x1, .int x2, .int 1] [] (w1 τ11 96 (x1 + x2).toNatClampNeg (τ11.1 94 17)) _
            rw [← eτ13]
            replace h := h τ13 eτ13
            refine x_iinc (pc' := 96) (v := 1) dX8_takesRect_93 rfl (by decide) rfl rfl (by decide) (ls' := [.ref 94, .int x1, .int (x2 + 1), .int 1]) rfl ?_
            refine x_goto (pc' := 17) dX8_takesRect_96 (by decide) ?_
            refine x_forget 3 (ls' := [.ref 94, .int x1, .int (x2 + 1), Unk]) rfl ?_
            exact h
    · replace h := h.2 hc
      refine x_bipush (pc' := 29) (v := 91) dX8_takesRect_27 rfl (by decide) ?_
      refine x_goto (pc' := 34) dX8_takesRect_29 (by decide) ?_
      refine x_callV (pc' := 37) (As := [.int 91]) dX8_takesRect_34 rfl lmX8_210 kd_94 rfl rfl (Nat.le_of_ble_eq_true rfl) (Nat.le_of_ble_eq_true rfl) ?_
      show X none (d + 2) mX8_takes 0 [.ref 94, .int 91, Unk] [] σ _
      refine X.mono h ?_
      rintro r τ14 ⟨u15, rfl, h⟩
      show X none (d + 3) mX8_takesRect 37 [.ref 94, .int x1, .int x2, Unk] [.int u15] τ14 _
      refine x_if_eq (pc' := 40) (tgt := 73) dX8_takesRect_37 (by decide) rfl (fun hc => ?_) (fun hc => ?_)
      · replace h := h.1 hc
        refine x_iconst (pc' := 74) (v := 0) dX8_takesRect_73 rfl (by decide) ?_
        refine x_istore_n (pc' := 75) dX8_takesRect_74 rfl rfl (by decide) rfl (ls' := [.ref 94, .int x1, .int x2, .int 0]) rfl ?_
        refine x_iload_n (pc' := 76) dX8_takesRect_75 rfl rfl rfl ?_
        refine x_if_ne (pc' := 79) (tgt := 81) dX8_takesRect_76 (by decide) rfl (fun hc => absurd hc (by decide)) (fun _ => ?_)
        refine x_iconst (pc' := 80) (v := 0) dX8_takesRect_79 rfl (by decide) ?_
        exact x_iret dX8_takesRect_80 rfl rfl h
      · replace h := h.2 hc
        refine x_aload_n (pc' := 41) dX8_takesRect_40 rfl rfl rfl ?_
        refine x_iload_n (pc' := 42) dX8_takesRect_41 rfl rfl rfl ?_
        refine x_iconst (pc' := 43) (v := 2) dX8_takesRect_42 rfl (by decide) ?_
        refine x_irem (pc' := 44) dX8_takesRect_43 rfl (by decide) ?_
        refine x_if_ne (pc' := 47) (tgt := 53) dX8_takesRect_44 (by decide) rfl (fun hc => ?_) (fun hc => ?_)
        · replace h := h.1 hc
          refine x_aload_n (pc' := 54) dX8_takesRect_53 rfl rfl rfl ?_
          refine x_getr (pc' := 57) dX8_takesRect_54 rfl lfX8_13 kd_94 rfl rf_94_1 ?_
          refine x_iload_n (pc' := 58) dX8_takesRect_57 rfl rfl rfl ?_
          refine x_iload_n (pc' := 59) dX8_takesRect_58 rfl rfl rfl ?_
          refine x_iadd (pc' := 60) dX8_takesRect_59 rfl ?_
          refine x_iconst (pc' := 61) (v := 1) dX8_takesRect_60 rfl (by decide) ?_
          refine x_isub (pc' := 62) dX8_takesRect_61 rfl ?_
          obtain ⟨hb, h⟩ := h
          refine x_iald (pc' := 63) dX8_takesRect_62 rfl kd_96 (by rw [ln_96]; exact hb) ?_
          refine x_callV (pc' := 66) (As := [.int (τ14.1 96 ((x1 + x2) - 1).toNatClampNeg)]) dX8_takesRect_63 rfl lmX8_213 kd_94 rfl rfl (Nat.le_of_ble_eq_true rfl) (Nat.le_of_ble_eq_true rfl) ?_
          show X none (d + 2) mX8_takesNumber 0 [.ref 94, .int (τ14.1 96 ((x1 + x2) - 1).toNatClampNeg), Unk, Unk, Unk] [] τ14 _
          refine X.mono h ?_
          rintro r τ16 ⟨u17, rfl, h⟩
          show X none (d + 3) mX8_takesRect 66 [.ref 94, .int x1, .int x2, Unk] [.int u17] τ16 _
          refine x_if_eq (pc' := 69) (tgt := 73) dX8_takesRect_66 (by decide) rfl (fun hc => ?_) (fun hc => ?_)
          · replace h := h.1 hc
            refine x_iconst (pc' := 74) (v := 0) dX8_takesRect_73 rfl (by decide) ?_
            refine x_istore_n (pc' := 75) dX8_takesRect_74 rfl rfl (by decide) rfl (ls' := [.ref 94, .int x1, .int x2, .int 0]) rfl ?_
            refine x_iload_n (pc' := 76) dX8_takesRect_75 rfl rfl rfl ?_
            refine x_if_ne (pc' := 79) (tgt := 81) dX8_takesRect_76 (by decide) rfl (fun hc => absurd hc (by decide)) (fun _ => ?_)
            refine x_iconst (pc' := 80) (v := 0) dX8_takesRect_79 rfl (by decide) ?_
            exact x_iret dX8_takesRect_80 rfl rfl h
          · replace h := h.2 hc
            refine x_iconst (pc' := 70) (v := 1) dX8_takesRect_69 rfl (by decide) ?_
            refine x_goto (pc' := 74) dX8_takesRect_70 (by decide) ?_
            refine x_istore_n (pc' := 75) dX8_takesRect_74 rfl rfl (by decide) rfl (ls' := [.ref 94, .int x1, .int x2, .int 1]) rfl ?_
            refine x_iload_n (pc' := 76) dX8_takesRect_75 rfl rfl rfl ?_
            refine x_if_ne (pc' := 79) (tgt := 81) dX8_takesRect_76 (by decide) rfl (fun _ => ?_) (fun hc => absurd hc (by decide))
            refine x_aload_n (pc' := 82) dX8_takesRect_81 rfl rfl rfl ?_
            refine x_getr (pc' := 85) dX8_takesRect_82 rfl lfX8_13 kd_94 rfl rf_94_1 ?_
            refine x_iload_n (pc' := 86) dX8_takesRect_85 rfl rfl rfl ?_
            refine x_iload_n (pc' := 87) dX8_takesRect_86 rfl rfl rfl ?_
            refine x_iadd (pc' := 88) dX8_takesRect_87 rfl ?_
            refine x_aload_n (pc' := 89) dX8_takesRect_88 rfl rfl rfl ?_
            refine x_geti (pc' := 92) dX8_takesRect_89 rfl lfX8_203 kd_94 rfl ?_
            obtain ⟨hb, h⟩ := h
            refine x_iast (pc' := 93) dX8_takesRect_92 rfl kd_96 (by rw [ln_96]; exact hb) ?_
            obtain ⟨τ18, eτ18⟩ : ∃ τ : Mem, τ = (w1 τ16 96 (x1 + x2).toNatClampNeg (τ16.1 94 17)) := ⟨_, rfl⟩
            show X none (d + 3) mX8_takesRect 93 [.ref 94, .int x1, .int x2, .int 1] [] (w1 τ16 96 (x1 + x2).toNatClampNeg (τ16.1 94 17)) _
            rw [← eτ18]
            replace h := h τ18 eτ18
            refine x_iinc (pc' := 96) (v := 1) dX8_takesRect_93 rfl (by decide) rfl rfl (by decide) (ls' := [.ref 94, .int x1, .int (x2 + 1), .int 1]) rfl ?_
            refine x_goto (pc' := 17) dX8_takesRect_96 (by decide) ?_
            refine x_forget 3 (ls' := [.ref 94, .int x1, .int (x2 + 1), Unk]) rfl ?_
            exact h
        · replace h := h.2 hc
          refine x_sipush (pc' := 50) (v := (-500)) dX8_takesRect_47 rfl (by decide) ?_
          refine x_goto (pc' := 63) dX8_takesRect_50 (by decide) ?_
          refine x_callV (pc' := 66) (As := [.int (-500)]) dX8_takesRect_63 rfl lmX8_213 kd_94 rfl rfl (Nat.le_of_ble_eq_true rfl) (Nat.le_of_ble_eq_true rfl) ?_
          show X none (d + 2) mX8_takesNumber 0 [.ref 94, .int (-500), Unk, Unk, Unk] [] τ14 _
          refine X.mono h ?_
          rintro r τ19 ⟨u20, rfl, h⟩
          show X none (d + 3) mX8_takesRect 66 [.ref 94, .int x1, .int x2, Unk] [.int u20] τ19 _
          refine x_if_eq (pc' := 69) (tgt := 73) dX8_takesRect_66 (by decide) rfl (fun hc => ?_) (fun hc => ?_)
          · replace h := h.1 hc
            refine x_iconst (pc' := 74) (v := 0) dX8_takesRect_73 rfl (by decide) ?_
            refine x_istore_n (pc' := 75) dX8_takesRect_74 rfl rfl (by decide) rfl (ls' := [.ref 94, .int x1, .int x2, .int 0]) rfl ?_
            refine x_iload_n (pc' := 76) dX8_takesRect_75 rfl rfl rfl ?_
            refine x_if_ne (pc' := 79) (tgt := 81) dX8_takesRect_76 (by decide) rfl (fun hc => absurd hc (by decide)) (fun _ => ?_)
            refine x_iconst (pc' := 80) (v := 0) dX8_takesRect_79 rfl (by decide) ?_
            exact x_iret dX8_takesRect_80 rfl rfl h
          · replace h := h.2 hc
            refine x_iconst (pc' := 70) (v := 1) dX8_takesRect_69 rfl (by decide) ?_
            refine x_goto (pc' := 74) dX8_takesRect_70 (by decide) ?_
            refine x_istore_n (pc' := 75) dX8_takesRect_74 rfl rfl (by decide) rfl (ls' := [.ref 94, .int x1, .int x2, .int 1]) rfl ?_
            refine x_iload_n (pc' := 76) dX8_takesRect_75 rfl rfl rfl ?_
            refine x_if_ne (pc' := 79) (tgt := 81) dX8_takesRect_76 (by decide) rfl (fun _ => ?_) (fun hc => absurd hc (by decide))
            refine x_aload_n (pc' := 82) dX8_takesRect_81 rfl rfl rfl ?_
            refine x_getr (pc' := 85) dX8_takesRect_82 rfl lfX8_13 kd_94 rfl rf_94_1 ?_
            refine x_iload_n (pc' := 86) dX8_takesRect_85 rfl rfl rfl ?_
            refine x_iload_n (pc' := 87) dX8_takesRect_86 rfl rfl rfl ?_
            refine x_iadd (pc' := 88) dX8_takesRect_87 rfl ?_
            refine x_aload_n (pc' := 89) dX8_takesRect_88 rfl rfl rfl ?_
            refine x_geti (pc' := 92) dX8_takesRect_89 rfl lfX8_203 kd_94 rfl ?_
            obtain ⟨hb, h⟩ := h
            refine x_iast (pc' := 93) dX8_takesRect_92 rfl kd_96 (by rw [ln_96]; exact hb) ?_
            obtain ⟨τ21, eτ21⟩ : ∃ τ : Mem, τ = (w1 τ19 96 (x1 + x2).toNatClampNeg (τ19.1 94 17)) := ⟨_, rfl⟩
            show X none (d + 3) mX8_takesRect 93 [.ref 94, .int x1, .int x2, .int 1] [] (w1 τ19 96 (x1 + x2).toNatClampNeg (τ19.1 94 17)) _
            rw [← eτ21]
            replace h := h τ21 eτ21
            refine x_iinc (pc' := 96) (v := 1) dX8_takesRect_93 rfl (by decide) rfl rfl (by decide) (ls' := [.ref 94, .int x1, .int (x2 + 1), .int 1]) rfl ?_
            refine x_goto (pc' := 17) dX8_takesRect_96 (by decide) ?_
            refine x_forget 3 (ls' := [.ref 94, .int x1, .int (x2 + 1), Unk]) rfl ?_
            exact h
set_option maxRecDepth 100000 in
set_option maxHeartbeats 4000000 in
theorem vX8_notes_0 {d : Nat} {σ : Mem} {Q : Option Value → Mem → Prop} 
    (h : (((σ.1 94 16) ≤ 0 → Q (none) σ) ∧ (¬ (σ.1 94 16) ≤ 0 → (vp_in ((σ.1 94 16) - 1) 128 ∧ ((¬ (σ.1 101 ((σ.1 94 16) - 1).toNatClampNeg) = (-4) → Q (none) σ) ∧ ((σ.1 101 ((σ.1 94 16) - 1).toNatClampNeg) = (-4) → (∀ τ1 : Mem, τ1 = (w1 σ 94 16 ((σ.1 94 16) - 1)) → (vp_in (548 + (τ1.1 96 546)) 728 ∧ (∀ τ2 : Mem, τ2 = (w1 τ1 96 (548 + (τ1.1 96 546)).toNatClampNeg (-4)) → ((∀ τ3 : Mem, τ3 = (w1 τ2 96 546 ((τ2.1 96 546) + 1)) → X none (d + 1) mX8_notes 0 [.ref 94] [] τ3 Q))))))))))) :
    X none (d + 1) mX8_notes 0 [.ref 94] [] σ Q := by
  refine x_aload_n (pc' := 1) dX8_notes_0 rfl rfl rfl ?_
  refine x_geti (pc' := 4) dX8_notes_1 rfl lfX8_219 kd_94 rfl ?_
  refine x_if_le (pc' := 7) (tgt := 42) dX8_notes_4 (by decide) rfl (fun hc => ?_) (fun hc => ?_)
  · replace h := h.1 hc
    exact x_vret dX8_notes_42 rfl h
  · replace h := h.2 hc
    refine x_aload_n (pc' := 8) dX8_notes_7 rfl rfl rfl ?_
    refine x_getr (pc' := 11) dX8_notes_8 rfl lfX8_36 kd_94 rfl rf_94_15 ?_
    refine x_aload_n (pc' := 12) dX8_notes_11 rfl rfl rfl ?_
    refine x_geti (pc' := 15) dX8_notes_12 rfl lfX8_219 kd_94 rfl ?_
    refine x_iconst (pc' := 16) (v := 1) dX8_notes_15 rfl (by decide) ?_
    refine x_isub (pc' := 17) dX8_notes_16 rfl ?_
    obtain ⟨hb, h⟩ := h
    refine x_iald (pc' := 18) dX8_notes_17 rfl kd_101 (by rw [ln_101]; exact hb) ?_
    refine x_bipush (pc' := 20) (v := (-4)) dX8_notes_18 rfl (by decide) ?_
    refine x_icmp_ne (pc' := 23) (tgt := 42) dX8_notes_20 (by decide) rfl (fun hc => ?_) (fun hc => ?_)
    · replace h := h.1 hc
      exact x_vret dX8_notes_42 rfl h
    · replace h := h.2 hc
      refine x_aload_n (pc' := 24) dX8_notes_23 rfl rfl rfl ?_
      refine x_dup (pc' := 25) dX8_notes_24 rfl rfl ?_
      refine x_geti (pc' := 28) dX8_notes_25 rfl lfX8_219 kd_94 rfl ?_
      refine x_iconst (pc' := 29) (v := 1) dX8_notes_28 rfl (by decide) ?_
      refine x_isub (pc' := 30) dX8_notes_29 rfl ?_
      refine x_puti (pc' := 33) dX8_notes_30 rfl lfX8_219 kd_94 rfl rfl rfl ?_
      obtain ⟨τ1, eτ1⟩ : ∃ τ : Mem, τ = (w1 σ 94 16 ((σ.1 94 16) - 1)) := ⟨_, rfl⟩
      show X none (d + 1) mX8_notes 33 [.ref 94] [] (w1 σ 94 16 ((σ.1 94 16) - 1)) _
      rw [← eτ1]
      replace h := h τ1 eτ1
      refine x_aload_n (pc' := 34) dX8_notes_33 rfl rfl rfl ?_
      refine x_bipush (pc' := 36) (v := (-4)) dX8_notes_34 rfl (by decide) ?_
      refine x_callV (pc' := 39) (As := [.int (-4)]) dX8_notes_36 rfl lmX8_216 kd_94 rfl rfl (Nat.le_of_ble_eq_true rfl) (Nat.le_of_ble_eq_true rfl) ?_
      show X none d mX8_puts 0 [.ref 94, .int (-4)] [] τ1 _
      refine x_aload_n (pc' := 1) dX8_puts_0 rfl rfl rfl ?_
      refine x_getr (pc' := 4) dX8_puts_1 rfl lfX8_13 kd_94 rfl rf_94_1 ?_
      refine x_sipush (pc' := 7) (v := 548) dX8_puts_4 rfl (by decide) ?_
      refine x_aload_n (pc' := 8) dX8_puts_7 rfl rfl rfl ?_
      refine x_getr (pc' := 11) dX8_puts_8 rfl lfX8_13 kd_94 rfl rf_94_1 ?_
      refine x_sipush (pc' := 14) (v := 546) dX8_puts_11 rfl (by decide) ?_
      refine x_iald (pc' := 15) dX8_puts_14 rfl kd_96 (by rw [ln_96]; unfold vp_in; decide) ?_
      show X none d mX8_puts 15 [.ref 94, .int (-4)] [.int (τ1.1 96 546), .int 548, .ref 96] τ1 _
      refine x_iadd (pc' := 16) dX8_puts_15 rfl ?_
      refine x_iload_n (pc' := 17) dX8_puts_16 rfl rfl rfl ?_
      obtain ⟨hb, h⟩ := h
      refine x_iast (pc' := 18) dX8_puts_17 rfl kd_96 (by rw [ln_96]; exact hb) ?_
      obtain ⟨τ2, eτ2⟩ : ∃ τ : Mem, τ = (w1 τ1 96 (548 + (τ1.1 96 546)).toNatClampNeg (-4)) := ⟨_, rfl⟩
      show X none d mX8_puts 18 [.ref 94, .int (-4)] [] (w1 τ1 96 (548 + (τ1.1 96 546)).toNatClampNeg (-4)) _
      rw [← eτ2]
      replace h := h τ2 eτ2
      refine x_aload_n (pc' := 19) dX8_puts_18 rfl rfl rfl ?_
      refine x_getr (pc' := 22) dX8_puts_19 rfl lfX8_13 kd_94 rfl rf_94_1 ?_
      refine x_sipush (pc' := 25) (v := 546) dX8_puts_22 rfl (by decide) ?_
      refine x_dup2 (pc' := 26) dX8_puts_25 rfl rfl rfl ?_
      refine x_iald (pc' := 27) dX8_puts_26 rfl kd_96 (by rw [ln_96]; unfold vp_in; decide) ?_
      show X none d mX8_puts 27 [.ref 94, .int (-4)] [.int (τ2.1 96 546), .int 546, .ref 96] τ2 _
      refine x_iconst (pc' := 28) (v := 1) dX8_puts_27 rfl (by decide) ?_
      refine x_iadd (pc' := 29) dX8_puts_28 rfl ?_
      refine x_iast (pc' := 30) dX8_puts_29 rfl kd_96 (by rw [ln_96]; unfold vp_in; decide) ?_
      obtain ⟨τ3, eτ3⟩ : ∃ τ : Mem, τ = (w1 τ2 96 546 ((τ2.1 96 546) + 1)) := ⟨_, rfl⟩
      show X none d mX8_puts 30 [.ref 94, .int (-4)] [] (w1 τ2 96 546 ((τ2.1 96 546) + 1)) _
      rw [← eτ3]
      replace h := h τ3 eτ3
      refine x_vret dX8_puts_30 rfl ?_
      show X none (d + 1) mX8_notes 39 [.ref 94] [] τ3 _
      refine x_goto (pc' := 0) dX8_notes_39 (by decide) ?_
      exact h
set_option maxRecDepth 100000 in
set_option maxHeartbeats 4000000 in
theorem vX8_does_0 {d : Nat} {σ : Mem} {Q : Option Value → Mem → Prop} {x1 : Int32} 
    (h : (((σ.1 94 16) ≤ 0 → Q (none) σ) ∧ (¬ (σ.1 94 16) ≤ 0 → (vp_in ((σ.1 94 16) - 1) 128 ∧ (((σ.1 101 ((σ.1 94 16) - 1).toNatClampNeg) = (-3) → (∀ τ1 : Mem, τ1 = (w1 σ 94 16 ((σ.1 94 16) - 1)) → (vp_in (τ1.1 94 16) 128 ∧ (vp_in (548 + (τ1.1 96 546)) 728 ∧ (∀ τ2 : Mem, τ2 = (w1 τ1 96 (548 + (τ1.1 96 546)).toNatClampNeg (τ1.1 101 (τ1.1 94 16).toNatClampNeg)) → ((∀ τ3 : Mem, τ3 = (w1 τ2 96 546 ((τ2.1 96 546) + 1)) → X none (d + 1) mX8_does 0 [.ref 94, .int x1] [] τ3 Q))))))) ∧ (¬ (σ.1 101 ((σ.1 94 16) - 1).toNatClampNeg) = (-3) → ((¬ x1 = 0 → Q (none) σ) ∧ (x1 = 0 → (vp_in ((σ.1 94 16) - 1) 128 ∧ (((σ.1 101 ((σ.1 94 16) - 1).toNatClampNeg) = (-1) → (∀ τ4 : Mem, τ4 = (w1 σ 94 16 ((σ.1 94 16) - 1)) → (vp_in (τ4.1 94 16) 128 ∧ (vp_in (548 + (τ4.1 96 546)) 728 ∧ (∀ τ5 : Mem, τ5 = (w1 τ4 96 (548 + (τ4.1 96 546)).toNatClampNeg (τ4.1 101 (τ4.1 94 16).toNatClampNeg)) → ((∀ τ6 : Mem, τ6 = (w1 τ5 96 546 ((τ5.1 96 546) + 1)) → X none (d + 1) mX8_does 0 [.ref 94, .int x1] [] τ6 Q))))))) ∧ (¬ (σ.1 101 ((σ.1 94 16) - 1).toNatClampNeg) = (-1) → (vp_in ((σ.1 94 16) - 1) 128 ∧ ((¬ (σ.1 101 ((σ.1 94 16) - 1).toNatClampNeg) = (-2) → Q (none) σ) ∧ ((σ.1 101 ((σ.1 94 16) - 1).toNatClampNeg) = (-2) → (∀ τ7 : Mem, τ7 = (w1 σ 94 16 ((σ.1 94 16) - 1)) → (vp_in (τ7.1 94 16) 128 ∧ (vp_in (548 + (τ7.1 96 546)) 728 ∧ (∀ τ8 : Mem, τ8 = (w1 τ7 96 (548 + (τ7.1 96 546)).toNatClampNeg (τ7.1 101 (τ7.1 94 16).toNatClampNeg)) → ((∀ τ9 : Mem, τ9 = (w1 τ8 96 546 ((τ8.1 96 546) + 1)) → X none (d + 1) mX8_does 0 [.ref 94, .int x1] [] τ9 Q)))))))))))))))))))) :
    X none (d + 1) mX8_does 0 [.ref 94, .int x1] [] σ Q := by
  refine x_aload_n (pc' := 1) dX8_does_0 rfl rfl rfl ?_
  refine x_geti (pc' := 4) dX8_does_1 rfl lfX8_219 kd_94 rfl ?_
  refine x_if_le (pc' := 7) (tgt := 84) dX8_does_4 (by decide) rfl (fun hc => ?_) (fun hc => ?_)
  · replace h := h.1 hc
    exact x_vret dX8_does_84 rfl h
  · replace h := h.2 hc
    refine x_aload_n (pc' := 8) dX8_does_7 rfl rfl rfl ?_
    refine x_getr (pc' := 11) dX8_does_8 rfl lfX8_36 kd_94 rfl rf_94_15 ?_
    refine x_aload_n (pc' := 12) dX8_does_11 rfl rfl rfl ?_
    refine x_geti (pc' := 15) dX8_does_12 rfl lfX8_219 kd_94 rfl ?_
    refine x_iconst (pc' := 16) (v := 1) dX8_does_15 rfl (by decide) ?_
    refine x_isub (pc' := 17) dX8_does_16 rfl ?_
    obtain ⟨hb, h⟩ := h
    refine x_iald (pc' := 18) dX8_does_17 rfl kd_101 (by rw [ln_101]; exact hb) ?_
    refine x_bipush (pc' := 20) (v := (-3)) dX8_does_18 rfl (by decide) ?_
    refine x_icmp_eq (pc' := 23) (tgt := 58) dX8_does_20 (by decide) rfl (fun hc => ?_) (fun hc => ?_)
    · replace h := h.1 hc
      refine x_aload_n (pc' := 59) dX8_does_58 rfl rfl rfl ?_
      refine x_dup (pc' := 60) dX8_does_59 rfl rfl ?_
      refine x_geti (pc' := 63) dX8_does_60 rfl lfX8_219 kd_94 rfl ?_
      refine x_iconst (pc' := 64) (v := 1) dX8_does_63 rfl (by decide) ?_
      refine x_isub (pc' := 65) dX8_does_64 rfl ?_
      refine x_puti (pc' := 68) dX8_does_65 rfl lfX8_219 kd_94 rfl rfl rfl ?_
      obtain ⟨τ1, eτ1⟩ : ∃ τ : Mem, τ = (w1 σ 94 16 ((σ.1 94 16) - 1)) := ⟨_, rfl⟩
      show X none (d + 1) mX8_does 68 [.ref 94, .int x1] [] (w1 σ 94 16 ((σ.1 94 16) - 1)) _
      rw [← eτ1]
      replace h := h τ1 eτ1
      refine x_aload_n (pc' := 69) dX8_does_68 rfl rfl rfl ?_
      refine x_aload_n (pc' := 70) dX8_does_69 rfl rfl rfl ?_
      refine x_getr (pc' := 73) dX8_does_70 rfl lfX8_36 kd_94 rfl rf_94_15 ?_
      refine x_aload_n (pc' := 74) dX8_does_73 rfl rfl rfl ?_
      refine x_geti (pc' := 77) dX8_does_74 rfl lfX8_219 kd_94 rfl ?_
      obtain ⟨hb, h⟩ := h
      refine x_iald (pc' := 78) dX8_does_77 rfl kd_101 (by rw [ln_101]; exact hb) ?_
      refine x_callV (pc' := 81) (As := [.int (τ1.1 101 (τ1.1 94 16).toNatClampNeg)]) dX8_does_78 rfl lmX8_216 kd_94 rfl rfl (Nat.le_of_ble_eq_true rfl) (Nat.le_of_ble_eq_true rfl) ?_
      show X none d mX8_puts 0 [.ref 94, .int (τ1.1 101 (τ1.1 94 16).toNatClampNeg)] [] τ1 _
      refine x_aload_n (pc' := 1) dX8_puts_0 rfl rfl rfl ?_
      refine x_getr (pc' := 4) dX8_puts_1 rfl lfX8_13 kd_94 rfl rf_94_1 ?_
      refine x_sipush (pc' := 7) (v := 548) dX8_puts_4 rfl (by decide) ?_
      refine x_aload_n (pc' := 8) dX8_puts_7 rfl rfl rfl ?_
      refine x_getr (pc' := 11) dX8_puts_8 rfl lfX8_13 kd_94 rfl rf_94_1 ?_
      refine x_sipush (pc' := 14) (v := 546) dX8_puts_11 rfl (by decide) ?_
      refine x_iald (pc' := 15) dX8_puts_14 rfl kd_96 (by rw [ln_96]; unfold vp_in; decide) ?_
      show X none d mX8_puts 15 [.ref 94, .int (τ1.1 101 (τ1.1 94 16).toNatClampNeg)] [.int (τ1.1 96 546), .int 548, .ref 96] τ1 _
      refine x_iadd (pc' := 16) dX8_puts_15 rfl ?_
      refine x_iload_n (pc' := 17) dX8_puts_16 rfl rfl rfl ?_
      obtain ⟨hb, h⟩ := h
      refine x_iast (pc' := 18) dX8_puts_17 rfl kd_96 (by rw [ln_96]; exact hb) ?_
      obtain ⟨τ2, eτ2⟩ : ∃ τ : Mem, τ = (w1 τ1 96 (548 + (τ1.1 96 546)).toNatClampNeg (τ1.1 101 (τ1.1 94 16).toNatClampNeg)) := ⟨_, rfl⟩
      show X none d mX8_puts 18 [.ref 94, .int (τ1.1 101 (τ1.1 94 16).toNatClampNeg)] [] (w1 τ1 96 (548 + (τ1.1 96 546)).toNatClampNeg (τ1.1 101 (τ1.1 94 16).toNatClampNeg)) _
      rw [← eτ2]
      replace h := h τ2 eτ2
      refine x_aload_n (pc' := 19) dX8_puts_18 rfl rfl rfl ?_
      refine x_getr (pc' := 22) dX8_puts_19 rfl lfX8_13 kd_94 rfl rf_94_1 ?_
      refine x_sipush (pc' := 25) (v := 546) dX8_puts_22 rfl (by decide) ?_
      refine x_dup2 (pc' := 26) dX8_puts_25 rfl rfl rfl ?_
      refine x_iald (pc' := 27) dX8_puts_26 rfl kd_96 (by rw [ln_96]; unfold vp_in; decide) ?_
      show X none d mX8_puts 27 [.ref 94, .int (τ1.1 101 (τ1.1 94 16).toNatClampNeg)] [.int (τ2.1 96 546), .int 546, .ref 96] τ2 _
      refine x_iconst (pc' := 28) (v := 1) dX8_puts_27 rfl (by decide) ?_
      refine x_iadd (pc' := 29) dX8_puts_28 rfl ?_
      refine x_iast (pc' := 30) dX8_puts_29 rfl kd_96 (by rw [ln_96]; unfold vp_in; decide) ?_
      obtain ⟨τ3, eτ3⟩ : ∃ τ : Mem, τ = (w1 τ2 96 546 ((τ2.1 96 546) + 1)) := ⟨_, rfl⟩
      show X none d mX8_puts 30 [.ref 94, .int (τ1.1 101 (τ1.1 94 16).toNatClampNeg)] [] (w1 τ2 96 546 ((τ2.1 96 546) + 1)) _
      rw [← eτ3]
      replace h := h τ3 eτ3
      refine x_vret dX8_puts_30 rfl ?_
      show X none (d + 1) mX8_does 81 [.ref 94, .int x1] [] τ3 _
      refine x_goto (pc' := 0) dX8_does_81 (by decide) ?_
      exact h
    · replace h := h.2 hc
      refine x_iload_n (pc' := 24) dX8_does_23 rfl rfl rfl ?_
      refine x_if_ne (pc' := 27) (tgt := 84) dX8_does_24 (by decide) rfl (fun hc => ?_) (fun hc => ?_)
      · replace h := h.1 hc
        exact x_vret dX8_does_84 rfl h
      · replace h := h.2 hc
        refine x_aload_n (pc' := 28) dX8_does_27 rfl rfl rfl ?_
        refine x_getr (pc' := 31) dX8_does_28 rfl lfX8_36 kd_94 rfl rf_94_15 ?_
        refine x_aload_n (pc' := 32) dX8_does_31 rfl rfl rfl ?_
        refine x_geti (pc' := 35) dX8_does_32 rfl lfX8_219 kd_94 rfl ?_
        refine x_iconst (pc' := 36) (v := 1) dX8_does_35 rfl (by decide) ?_
        refine x_isub (pc' := 37) dX8_does_36 rfl ?_
        obtain ⟨hb, h⟩ := h
        refine x_iald (pc' := 38) dX8_does_37 rfl kd_101 (by rw [ln_101]; exact hb) ?_
        refine x_iconst (pc' := 39) (v := (-1)) dX8_does_38 rfl (by decide) ?_
        refine x_icmp_eq (pc' := 42) (tgt := 58) dX8_does_39 (by decide) rfl (fun hc => ?_) (fun hc => ?_)
        · replace h := h.1 hc
          refine x_aload_n (pc' := 59) dX8_does_58 rfl rfl rfl ?_
          refine x_dup (pc' := 60) dX8_does_59 rfl rfl ?_
          refine x_geti (pc' := 63) dX8_does_60 rfl lfX8_219 kd_94 rfl ?_
          refine x_iconst (pc' := 64) (v := 1) dX8_does_63 rfl (by decide) ?_
          refine x_isub (pc' := 65) dX8_does_64 rfl ?_
          refine x_puti (pc' := 68) dX8_does_65 rfl lfX8_219 kd_94 rfl rfl rfl ?_
          obtain ⟨τ4, eτ4⟩ : ∃ τ : Mem, τ = (w1 σ 94 16 ((σ.1 94 16) - 1)) := ⟨_, rfl⟩
          show X none (d + 1) mX8_does 68 [.ref 94, .int x1] [] (w1 σ 94 16 ((σ.1 94 16) - 1)) _
          rw [← eτ4]
          replace h := h τ4 eτ4
          refine x_aload_n (pc' := 69) dX8_does_68 rfl rfl rfl ?_
          refine x_aload_n (pc' := 70) dX8_does_69 rfl rfl rfl ?_
          refine x_getr (pc' := 73) dX8_does_70 rfl lfX8_36 kd_94 rfl rf_94_15 ?_
          refine x_aload_n (pc' := 74) dX8_does_73 rfl rfl rfl ?_
          refine x_geti (pc' := 77) dX8_does_74 rfl lfX8_219 kd_94 rfl ?_
          obtain ⟨hb, h⟩ := h
          refine x_iald (pc' := 78) dX8_does_77 rfl kd_101 (by rw [ln_101]; exact hb) ?_
          refine x_callV (pc' := 81) (As := [.int (τ4.1 101 (τ4.1 94 16).toNatClampNeg)]) dX8_does_78 rfl lmX8_216 kd_94 rfl rfl (Nat.le_of_ble_eq_true rfl) (Nat.le_of_ble_eq_true rfl) ?_
          show X none d mX8_puts 0 [.ref 94, .int (τ4.1 101 (τ4.1 94 16).toNatClampNeg)] [] τ4 _
          refine x_aload_n (pc' := 1) dX8_puts_0 rfl rfl rfl ?_
          refine x_getr (pc' := 4) dX8_puts_1 rfl lfX8_13 kd_94 rfl rf_94_1 ?_
          refine x_sipush (pc' := 7) (v := 548) dX8_puts_4 rfl (by decide) ?_
          refine x_aload_n (pc' := 8) dX8_puts_7 rfl rfl rfl ?_
          refine x_getr (pc' := 11) dX8_puts_8 rfl lfX8_13 kd_94 rfl rf_94_1 ?_
          refine x_sipush (pc' := 14) (v := 546) dX8_puts_11 rfl (by decide) ?_
          refine x_iald (pc' := 15) dX8_puts_14 rfl kd_96 (by rw [ln_96]; unfold vp_in; decide) ?_
          show X none d mX8_puts 15 [.ref 94, .int (τ4.1 101 (τ4.1 94 16).toNatClampNeg)] [.int (τ4.1 96 546), .int 548, .ref 96] τ4 _
          refine x_iadd (pc' := 16) dX8_puts_15 rfl ?_
          refine x_iload_n (pc' := 17) dX8_puts_16 rfl rfl rfl ?_
          obtain ⟨hb, h⟩ := h
          refine x_iast (pc' := 18) dX8_puts_17 rfl kd_96 (by rw [ln_96]; exact hb) ?_
          obtain ⟨τ5, eτ5⟩ : ∃ τ : Mem, τ = (w1 τ4 96 (548 + (τ4.1 96 546)).toNatClampNeg (τ4.1 101 (τ4.1 94 16).toNatClampNeg)) := ⟨_, rfl⟩
          show X none d mX8_puts 18 [.ref 94, .int (τ4.1 101 (τ4.1 94 16).toNatClampNeg)] [] (w1 τ4 96 (548 + (τ4.1 96 546)).toNatClampNeg (τ4.1 101 (τ4.1 94 16).toNatClampNeg)) _
          rw [← eτ5]
          replace h := h τ5 eτ5
          refine x_aload_n (pc' := 19) dX8_puts_18 rfl rfl rfl ?_
          refine x_getr (pc' := 22) dX8_puts_19 rfl lfX8_13 kd_94 rfl rf_94_1 ?_
          refine x_sipush (pc' := 25) (v := 546) dX8_puts_22 rfl (by decide) ?_
          refine x_dup2 (pc' := 26) dX8_puts_25 rfl rfl rfl ?_
          refine x_iald (pc' := 27) dX8_puts_26 rfl kd_96 (by rw [ln_96]; unfold vp_in; decide) ?_
          show X none d mX8_puts 27 [.ref 94, .int (τ4.1 101 (τ4.1 94 16).toNatClampNeg)] [.int (τ5.1 96 546), .int 546, .ref 96] τ5 _
          refine x_iconst (pc' := 28) (v := 1) dX8_puts_27 rfl (by decide) ?_
          refine x_iadd (pc' := 29) dX8_puts_28 rfl ?_
          refine x_iast (pc' := 30) dX8_puts_29 rfl kd_96 (by rw [ln_96]; unfold vp_in; decide) ?_
          obtain ⟨τ6, eτ6⟩ : ∃ τ : Mem, τ = (w1 τ5 96 546 ((τ5.1 96 546) + 1)) := ⟨_, rfl⟩
          show X none d mX8_puts 30 [.ref 94, .int (τ4.1 101 (τ4.1 94 16).toNatClampNeg)] [] (w1 τ5 96 546 ((τ5.1 96 546) + 1)) _
          rw [← eτ6]
          replace h := h τ6 eτ6
          refine x_vret dX8_puts_30 rfl ?_
          show X none (d + 1) mX8_does 81 [.ref 94, .int x1] [] τ6 _
          refine x_goto (pc' := 0) dX8_does_81 (by decide) ?_
          exact h
        · replace h := h.2 hc
          refine x_aload_n (pc' := 43) dX8_does_42 rfl rfl rfl ?_
          refine x_getr (pc' := 46) dX8_does_43 rfl lfX8_36 kd_94 rfl rf_94_15 ?_
          refine x_aload_n (pc' := 47) dX8_does_46 rfl rfl rfl ?_
          refine x_geti (pc' := 50) dX8_does_47 rfl lfX8_219 kd_94 rfl ?_
          refine x_iconst (pc' := 51) (v := 1) dX8_does_50 rfl (by decide) ?_
          refine x_isub (pc' := 52) dX8_does_51 rfl ?_
          obtain ⟨hb, h⟩ := h
          refine x_iald (pc' := 53) dX8_does_52 rfl kd_101 (by rw [ln_101]; exact hb) ?_
          refine x_bipush (pc' := 55) (v := (-2)) dX8_does_53 rfl (by decide) ?_
          refine x_icmp_ne (pc' := 58) (tgt := 84) dX8_does_55 (by decide) rfl (fun hc => ?_) (fun hc => ?_)
          · replace h := h.1 hc
            exact x_vret dX8_does_84 rfl h
          · replace h := h.2 hc
            refine x_aload_n (pc' := 59) dX8_does_58 rfl rfl rfl ?_
            refine x_dup (pc' := 60) dX8_does_59 rfl rfl ?_
            refine x_geti (pc' := 63) dX8_does_60 rfl lfX8_219 kd_94 rfl ?_
            refine x_iconst (pc' := 64) (v := 1) dX8_does_63 rfl (by decide) ?_
            refine x_isub (pc' := 65) dX8_does_64 rfl ?_
            refine x_puti (pc' := 68) dX8_does_65 rfl lfX8_219 kd_94 rfl rfl rfl ?_
            obtain ⟨τ7, eτ7⟩ : ∃ τ : Mem, τ = (w1 σ 94 16 ((σ.1 94 16) - 1)) := ⟨_, rfl⟩
            show X none (d + 1) mX8_does 68 [.ref 94, .int x1] [] (w1 σ 94 16 ((σ.1 94 16) - 1)) _
            rw [← eτ7]
            replace h := h τ7 eτ7
            refine x_aload_n (pc' := 69) dX8_does_68 rfl rfl rfl ?_
            refine x_aload_n (pc' := 70) dX8_does_69 rfl rfl rfl ?_
            refine x_getr (pc' := 73) dX8_does_70 rfl lfX8_36 kd_94 rfl rf_94_15 ?_
            refine x_aload_n (pc' := 74) dX8_does_73 rfl rfl rfl ?_
            refine x_geti (pc' := 77) dX8_does_74 rfl lfX8_219 kd_94 rfl ?_
            obtain ⟨hb, h⟩ := h
            refine x_iald (pc' := 78) dX8_does_77 rfl kd_101 (by rw [ln_101]; exact hb) ?_
            refine x_callV (pc' := 81) (As := [.int (τ7.1 101 (τ7.1 94 16).toNatClampNeg)]) dX8_does_78 rfl lmX8_216 kd_94 rfl rfl (Nat.le_of_ble_eq_true rfl) (Nat.le_of_ble_eq_true rfl) ?_
            show X none d mX8_puts 0 [.ref 94, .int (τ7.1 101 (τ7.1 94 16).toNatClampNeg)] [] τ7 _
            refine x_aload_n (pc' := 1) dX8_puts_0 rfl rfl rfl ?_
            refine x_getr (pc' := 4) dX8_puts_1 rfl lfX8_13 kd_94 rfl rf_94_1 ?_
            refine x_sipush (pc' := 7) (v := 548) dX8_puts_4 rfl (by decide) ?_
            refine x_aload_n (pc' := 8) dX8_puts_7 rfl rfl rfl ?_
            refine x_getr (pc' := 11) dX8_puts_8 rfl lfX8_13 kd_94 rfl rf_94_1 ?_
            refine x_sipush (pc' := 14) (v := 546) dX8_puts_11 rfl (by decide) ?_
            refine x_iald (pc' := 15) dX8_puts_14 rfl kd_96 (by rw [ln_96]; unfold vp_in; decide) ?_
            show X none d mX8_puts 15 [.ref 94, .int (τ7.1 101 (τ7.1 94 16).toNatClampNeg)] [.int (τ7.1 96 546), .int 548, .ref 96] τ7 _
            refine x_iadd (pc' := 16) dX8_puts_15 rfl ?_
            refine x_iload_n (pc' := 17) dX8_puts_16 rfl rfl rfl ?_
            obtain ⟨hb, h⟩ := h
            refine x_iast (pc' := 18) dX8_puts_17 rfl kd_96 (by rw [ln_96]; exact hb) ?_
            obtain ⟨τ8, eτ8⟩ : ∃ τ : Mem, τ = (w1 τ7 96 (548 + (τ7.1 96 546)).toNatClampNeg (τ7.1 101 (τ7.1 94 16).toNatClampNeg)) := ⟨_, rfl⟩
            show X none d mX8_puts 18 [.ref 94, .int (τ7.1 101 (τ7.1 94 16).toNatClampNeg)] [] (w1 τ7 96 (548 + (τ7.1 96 546)).toNatClampNeg (τ7.1 101 (τ7.1 94 16).toNatClampNeg)) _
            rw [← eτ8]
            replace h := h τ8 eτ8
            refine x_aload_n (pc' := 19) dX8_puts_18 rfl rfl rfl ?_
            refine x_getr (pc' := 22) dX8_puts_19 rfl lfX8_13 kd_94 rfl rf_94_1 ?_
            refine x_sipush (pc' := 25) (v := 546) dX8_puts_22 rfl (by decide) ?_
            refine x_dup2 (pc' := 26) dX8_puts_25 rfl rfl rfl ?_
            refine x_iald (pc' := 27) dX8_puts_26 rfl kd_96 (by rw [ln_96]; unfold vp_in; decide) ?_
            show X none d mX8_puts 27 [.ref 94, .int (τ7.1 101 (τ7.1 94 16).toNatClampNeg)] [.int (τ8.1 96 546), .int 546, .ref 96] τ8 _
            refine x_iconst (pc' := 28) (v := 1) dX8_puts_27 rfl (by decide) ?_
            refine x_iadd (pc' := 29) dX8_puts_28 rfl ?_
            refine x_iast (pc' := 30) dX8_puts_29 rfl kd_96 (by rw [ln_96]; unfold vp_in; decide) ?_
            obtain ⟨τ9, eτ9⟩ : ∃ τ : Mem, τ = (w1 τ8 96 546 ((τ8.1 96 546) + 1)) := ⟨_, rfl⟩
            show X none d mX8_puts 30 [.ref 94, .int (τ7.1 101 (τ7.1 94 16).toNatClampNeg)] [] (w1 τ8 96 546 ((τ8.1 96 546) + 1)) _
            rw [← eτ9]
            replace h := h τ9 eτ9
            refine x_vret dX8_puts_30 rfl ?_
            show X none (d + 1) mX8_does 81 [.ref 94, .int x1] [] τ9 _
            refine x_goto (pc' := 0) dX8_does_81 (by decide) ?_
            exact h
set_option maxRecDepth 100000 in
set_option maxHeartbeats 4000000 in
theorem vX8_deep_0 {d : Nat} {σ : Mem} {Q : Option Value → Mem → Prop} 
    (h : X none d mX8_deep 4 [.ref 94, .int 0, .int 0] [] σ Q) :
    X none d mX8_deep 0 [.ref 94, Unk, Unk] [] σ Q := by
  refine x_iconst (pc' := 1) (v := 0) dX8_deep_0 rfl (by decide) ?_
  refine x_istore_n (pc' := 2) dX8_deep_1 rfl rfl (by decide) rfl (ls' := [.ref 94, .int 0, Unk]) rfl ?_
  refine x_iconst (pc' := 3) (v := 0) dX8_deep_2 rfl (by decide) ?_
  refine x_istore_n (pc' := 4) dX8_deep_3 rfl rfl (by decide) rfl (ls' := [.ref 94, .int 0, .int 0]) rfl ?_
  exact h
set_option maxRecDepth 100000 in
set_option maxHeartbeats 4000000 in
theorem vX8_deep_4 {d : Nat} {σ : Mem} {Q : Option Value → Mem → Prop} {x1 x2 : Int32} 
    (h : (((σ.1 94 16) ≤ x2 → Q (some (.int x1)) σ) ∧ (¬ (σ.1 94 16) ≤ x2 → (vp_in x2 128 ∧ (((σ.1 101 x2.toNatClampNeg) = (-4) → X none d mX8_deep 4 [.ref 94, .int (x1 + 1), .int (x2 + 1)] [] σ Q) ∧ (¬ (σ.1 101 x2.toNatClampNeg) = (-4) → (vp_in x2 128 ∧ ((¬ (σ.1 101 x2.toNatClampNeg) = (-5) → X none d mX8_deep 4 [.ref 94, .int (x1 + 0), .int (x2 + 1)] [] σ Q) ∧ ((σ.1 101 x2.toNatClampNeg) = (-5) → X none d mX8_deep 4 [.ref 94, .int (x1 + 1), .int (x2 + 1)] [] σ Q))))))))) :
    X none d mX8_deep 4 [.ref 94, .int x1, .int x2] [] σ Q := by
  refine x_iload_n (pc' := 5) dX8_deep_4 rfl rfl rfl ?_
  refine x_aload_n (pc' := 6) dX8_deep_5 rfl rfl rfl ?_
  refine x_geti (pc' := 9) dX8_deep_6 rfl lfX8_219 kd_94 rfl ?_
  refine x_icmp_ge (pc' := 12) (tgt := 48) dX8_deep_9 (by decide) rfl (fun hc => ?_) (fun hc => ?_)
  · replace h := h.1 hc
    refine x_iload_n (pc' := 49) dX8_deep_48 rfl rfl rfl ?_
    exact x_iret dX8_deep_49 rfl rfl h
  · replace h := h.2 hc
    refine x_iload_n (pc' := 13) dX8_deep_12 rfl rfl rfl ?_
    refine x_aload_n (pc' := 14) dX8_deep_13 rfl rfl rfl ?_
    refine x_getr (pc' := 17) dX8_deep_14 rfl lfX8_36 kd_94 rfl rf_94_15 ?_
    refine x_iload_n (pc' := 18) dX8_deep_17 rfl rfl rfl ?_
    obtain ⟨hb, h⟩ := h
    refine x_iald (pc' := 19) dX8_deep_18 rfl kd_101 (by rw [ln_101]; exact hb) ?_
    refine x_bipush (pc' := 21) (v := (-4)) dX8_deep_19 rfl (by decide) ?_
    refine x_icmp_eq (pc' := 24) (tgt := 35) dX8_deep_21 (by decide) rfl (fun hc => ?_) (fun hc => ?_)
    · replace h := h.1 hc
      refine x_iconst (pc' := 36) (v := 1) dX8_deep_35 rfl (by decide) ?_
      refine x_goto (pc' := 40) dX8_deep_36 (by decide) ?_
      refine x_iadd (pc' := 41) dX8_deep_40 rfl ?_
      refine x_istore_n (pc' := 42) dX8_deep_41 rfl rfl (by decide) rfl (ls' := [.ref 94, .int (x1 + 1), .int x2]) rfl ?_
      refine x_iinc (pc' := 45) (v := 1) dX8_deep_42 rfl (by decide) rfl rfl (by decide) (ls' := [.ref 94, .int (x1 + 1), .int (x2 + 1)]) rfl ?_
      refine x_goto (pc' := 4) dX8_deep_45 (by decide) ?_
      exact h
    · replace h := h.2 hc
      refine x_aload_n (pc' := 25) dX8_deep_24 rfl rfl rfl ?_
      refine x_getr (pc' := 28) dX8_deep_25 rfl lfX8_36 kd_94 rfl rf_94_15 ?_
      refine x_iload_n (pc' := 29) dX8_deep_28 rfl rfl rfl ?_
      obtain ⟨hb, h⟩ := h
      refine x_iald (pc' := 30) dX8_deep_29 rfl kd_101 (by rw [ln_101]; exact hb) ?_
      refine x_bipush (pc' := 32) (v := (-5)) dX8_deep_30 rfl (by decide) ?_
      refine x_icmp_ne (pc' := 35) (tgt := 39) dX8_deep_32 (by decide) rfl (fun hc => ?_) (fun hc => ?_)
      · replace h := h.1 hc
        refine x_iconst (pc' := 40) (v := 0) dX8_deep_39 rfl (by decide) ?_
        refine x_iadd (pc' := 41) dX8_deep_40 rfl ?_
        refine x_istore_n (pc' := 42) dX8_deep_41 rfl rfl (by decide) rfl (ls' := [.ref 94, .int (x1 + 0), .int x2]) rfl ?_
        refine x_iinc (pc' := 45) (v := 1) dX8_deep_42 rfl (by decide) rfl rfl (by decide) (ls' := [.ref 94, .int (x1 + 0), .int (x2 + 1)]) rfl ?_
        refine x_goto (pc' := 4) dX8_deep_45 (by decide) ?_
        exact h
      · replace h := h.2 hc
        refine x_iconst (pc' := 36) (v := 1) dX8_deep_35 rfl (by decide) ?_
        refine x_goto (pc' := 40) dX8_deep_36 (by decide) ?_
        refine x_iadd (pc' := 41) dX8_deep_40 rfl ?_
        refine x_istore_n (pc' := 42) dX8_deep_41 rfl rfl (by decide) rfl (ls' := [.ref 94, .int (x1 + 1), .int x2]) rfl ?_
        refine x_iinc (pc' := 45) (v := 1) dX8_deep_42 rfl (by decide) rfl rfl (by decide) (ls' := [.ref 94, .int (x1 + 1), .int (x2 + 1)]) rfl ?_
        refine x_goto (pc' := 4) dX8_deep_45 (by decide) ?_
        exact h
set_option maxRecDepth 100000 in
set_option maxHeartbeats 4000000 in
theorem vX8_spot_0 {d : Nat} {σ : Mem} {Q : Option Value → Mem → Prop} 
    (h : (X none (d + 3) mX8_next 0 [.ref 94] [] σ (fun r τ1 => ∃ u2 : Int32, r = some (.int u2) ∧ ((¬ u2 = 91 → ((u2 = 40 → (X none (d + 3) mX8_deep 0 [.ref 94, Unk, Unk] [] τ1 (fun r τ3 => ∃ u4 : Int32, r = some (.int u4) ∧ ((¬ u4 = 12 → (∀ τ5 : Mem, τ5 = (w1 τ3 94 13 ((τ3.1 94 13) + 1)) → ((¬ u2 = 33 → (vp_in (τ5.1 94 16) 128 ∧ (∀ τ6 : Mem, τ6 = (w1 τ5 101 (τ5.1 94 16).toNatClampNeg (-5)) → (∀ τ7 : Mem, τ7 = (w1 τ6 94 16 ((τ6.1 94 16) + 1)) → Q (some (.int 2)) τ7)))) ∧ (u2 = 33 → (vp_in (τ5.1 94 16) 128 ∧ (∀ τ8 : Mem, τ8 = (w1 τ5 101 (τ5.1 94 16).toNatClampNeg (-4)) → (∀ τ9 : Mem, τ9 = (w1 τ8 94 16 ((τ8.1 94 16) + 1)) → Q (some (.int 2)) τ9))))))) ∧ (u4 = 12 → Q (some (.int 0)) τ3))))) ∧ (¬ u2 = 40 → ((¬ u2 = 33 → Q (some (.int 0)) τ1) ∧ (u2 = 33 → (X none (d + 3) mX8_deep 0 [.ref 94, Unk, Unk] [] τ1 (fun r τ10 => ∃ u11 : Int32, r = some (.int u11) ∧ ((¬ u11 = 12 → (∀ τ12 : Mem, τ12 = (w1 τ10 94 13 ((τ10.1 94 13) + 1)) → ((¬ u2 = 33 → (vp_in (τ12.1 94 16) 128 ∧ (∀ τ13 : Mem, τ13 = (w1 τ12 101 (τ12.1 94 16).toNatClampNeg (-5)) → (∀ τ14 : Mem, τ14 = (w1 τ13 94 16 ((τ13.1 94 16) + 1)) → Q (some (.int 2)) τ14)))) ∧ (u2 = 33 → (vp_in (τ12.1 94 16) 128 ∧ (∀ τ15 : Mem, τ15 = (w1 τ12 101 (τ12.1 94 16).toNatClampNeg (-4)) → (∀ τ16 : Mem, τ16 = (w1 τ15 94 16 ((τ15.1 94 16) + 1)) → Q (some (.int 2)) τ16))))))) ∧ (u11 = 12 → Q (some (.int 0)) τ10))))))))) ∧ (u2 = 91 → (X none (d + 3) mX8_takesRect 0 [.ref 94, Unk, Unk, Unk] [] τ1 (fun r τ17 => ∃ u18 : Int32, r = some (.int u18) ∧ ((¬ u18 = 0 → (X none (d + 3) mX8_notes 0 [.ref 94] [] τ17 (fun r τ19 => r = none ∧ Q (some (.int 1)) τ19))) ∧ (u18 = 0 → Q (some (.int 0)) τ17))))))))) :
    X none (d + 4) mX8_spot 0 [.ref 94, Unk] [] σ Q := by
  refine x_aload_n (pc' := 1) dX8_spot_0 rfl rfl rfl ?_
  refine x_callV (pc' := 4) (As := []) dX8_spot_1 rfl lmX8_200 kd_94 rfl rfl (Nat.le_of_ble_eq_true rfl) (Nat.le_of_ble_eq_true rfl) ?_
  show X none (d + 3) mX8_next 0 [.ref 94] [] σ _
  refine X.mono h ?_
  rintro r τ1 ⟨u2, rfl, h⟩
  show X none (d + 4) mX8_spot 4 [.ref 94, Unk] [.int u2] τ1 _
  refine x_istore_n (pc' := 5) dX8_spot_4 rfl rfl (by decide) rfl (ls' := [.ref 94, .int u2]) rfl ?_
  refine x_iload_n (pc' := 6) dX8_spot_5 rfl rfl rfl ?_
  refine x_bipush (pc' := 8) (v := 91) dX8_spot_6 rfl (by decide) ?_
  refine x_icmp_ne (pc' := 11) (tgt := 26) dX8_spot_8 (by decide) rfl (fun hc => ?_) (fun hc => ?_)
  · replace h := h.1 hc
    refine x_iload_n (pc' := 27) dX8_spot_26 rfl rfl rfl ?_
    refine x_bipush (pc' := 29) (v := 40) dX8_spot_27 rfl (by decide) ?_
    refine x_icmp_eq (pc' := 32) (tgt := 38) dX8_spot_29 (by decide) rfl (fun hc => ?_) (fun hc => ?_)
    · replace h := h.1 hc
      refine x_aload_n (pc' := 39) dX8_spot_38 rfl rfl rfl ?_
      refine x_callV (pc' := 42) (As := []) dX8_spot_39 rfl lmX8_229 kd_94 rfl rfl (Nat.le_of_ble_eq_true rfl) (Nat.le_of_ble_eq_true rfl) ?_
      show X none (d + 3) mX8_deep 0 [.ref 94, Unk, Unk] [] τ1 _
      refine X.mono h ?_
      rintro r τ3 ⟨u4, rfl, h⟩
      show X none (d + 4) mX8_spot 42 [.ref 94, .int u2] [.int u4] τ3 _
      refine x_bipush (pc' := 44) (v := 12) dX8_spot_42 rfl (by decide) ?_
      refine x_icmp_ne (pc' := 47) (tgt := 49) dX8_spot_44 (by decide) rfl (fun hc => ?_) (fun hc => ?_)
      · replace h := h.1 hc
        refine x_aload_n (pc' := 50) dX8_spot_49 rfl rfl rfl ?_
        refine x_dup (pc' := 51) dX8_spot_50 rfl rfl ?_
        refine x_geti (pc' := 54) dX8_spot_51 rfl lfX8_191 kd_94 rfl ?_
        refine x_iconst (pc' := 55) (v := 1) dX8_spot_54 rfl (by decide) ?_
        refine x_iadd (pc' := 56) dX8_spot_55 rfl ?_
        refine x_puti (pc' := 59) dX8_spot_56 rfl lfX8_191 kd_94 rfl rfl rfl ?_
        obtain ⟨τ5, eτ5⟩ : ∃ τ : Mem, τ = (w1 τ3 94 13 ((τ3.1 94 13) + 1)) := ⟨_, rfl⟩
        show X none (d + 4) mX8_spot 59 [.ref 94, .int u2] [] (w1 τ3 94 13 ((τ3.1 94 13) + 1)) _
        rw [← eτ5]
        replace h := h τ5 eτ5
        refine x_aload_n (pc' := 60) dX8_spot_59 rfl rfl rfl ?_
        refine x_iload_n (pc' := 61) dX8_spot_60 rfl rfl rfl ?_
        refine x_bipush (pc' := 63) (v := 33) dX8_spot_61 rfl (by decide) ?_
        refine x_icmp_ne (pc' := 66) (tgt := 71) dX8_spot_63 (by decide) rfl (fun hc => ?_) (fun hc => ?_)
        · replace h := h.1 hc
          refine x_bipush (pc' := 73) (v := (-5)) dX8_spot_71 rfl (by decide) ?_
          refine x_callV (pc' := 76) (As := [.int (-5)]) dX8_spot_73 rfl lmX8_232 kd_94 rfl rfl (Nat.le_of_ble_eq_true rfl) (Nat.le_of_ble_eq_true rfl) ?_
          show X none (d + 3) mX8_opens 0 [.ref 94, .int (-5)] [] τ5 _
          refine x_aload_n (pc' := 1) dX8_opens_0 rfl rfl rfl ?_
          refine x_getr (pc' := 4) dX8_opens_1 rfl lfX8_36 kd_94 rfl rf_94_15 ?_
          refine x_aload_n (pc' := 5) dX8_opens_4 rfl rfl rfl ?_
          refine x_geti (pc' := 8) dX8_opens_5 rfl lfX8_219 kd_94 rfl ?_
          refine x_iload_n (pc' := 9) dX8_opens_8 rfl rfl rfl ?_
          obtain ⟨hb, h⟩ := h
          refine x_iast (pc' := 10) dX8_opens_9 rfl kd_101 (by rw [ln_101]; exact hb) ?_
          obtain ⟨τ6, eτ6⟩ : ∃ τ : Mem, τ = (w1 τ5 101 (τ5.1 94 16).toNatClampNeg (-5)) := ⟨_, rfl⟩
          show X none (d + 3) mX8_opens 10 [.ref 94, .int (-5)] [] (w1 τ5 101 (τ5.1 94 16).toNatClampNeg (-5)) _
          rw [← eτ6]
          replace h := h τ6 eτ6
          refine x_aload_n (pc' := 11) dX8_opens_10 rfl rfl rfl ?_
          refine x_dup (pc' := 12) dX8_opens_11 rfl rfl ?_
          refine x_geti (pc' := 15) dX8_opens_12 rfl lfX8_219 kd_94 rfl ?_
          refine x_iconst (pc' := 16) (v := 1) dX8_opens_15 rfl (by decide) ?_
          refine x_iadd (pc' := 17) dX8_opens_16 rfl ?_
          refine x_puti (pc' := 20) dX8_opens_17 rfl lfX8_219 kd_94 rfl rfl rfl ?_
          obtain ⟨τ7, eτ7⟩ : ∃ τ : Mem, τ = (w1 τ6 94 16 ((τ6.1 94 16) + 1)) := ⟨_, rfl⟩
          show X none (d + 3) mX8_opens 20 [.ref 94, .int (-5)] [] (w1 τ6 94 16 ((τ6.1 94 16) + 1)) _
          rw [← eτ7]
          replace h := h τ7 eτ7
          refine x_vret dX8_opens_20 rfl ?_
          show X none (d + 4) mX8_spot 76 [.ref 94, .int u2] [] τ7 _
          refine x_iconst (pc' := 77) (v := 2) dX8_spot_76 rfl (by decide) ?_
          exact x_iret dX8_spot_77 rfl rfl h
        · replace h := h.2 hc
          refine x_bipush (pc' := 68) (v := (-4)) dX8_spot_66 rfl (by decide) ?_
          refine x_goto (pc' := 73) dX8_spot_68 (by decide) ?_
          refine x_callV (pc' := 76) (As := [.int (-4)]) dX8_spot_73 rfl lmX8_232 kd_94 rfl rfl (Nat.le_of_ble_eq_true rfl) (Nat.le_of_ble_eq_true rfl) ?_
          show X none (d + 3) mX8_opens 0 [.ref 94, .int (-4)] [] τ5 _
          refine x_aload_n (pc' := 1) dX8_opens_0 rfl rfl rfl ?_
          refine x_getr (pc' := 4) dX8_opens_1 rfl lfX8_36 kd_94 rfl rf_94_15 ?_
          refine x_aload_n (pc' := 5) dX8_opens_4 rfl rfl rfl ?_
          refine x_geti (pc' := 8) dX8_opens_5 rfl lfX8_219 kd_94 rfl ?_
          refine x_iload_n (pc' := 9) dX8_opens_8 rfl rfl rfl ?_
          obtain ⟨hb, h⟩ := h
          refine x_iast (pc' := 10) dX8_opens_9 rfl kd_101 (by rw [ln_101]; exact hb) ?_
          obtain ⟨τ8, eτ8⟩ : ∃ τ : Mem, τ = (w1 τ5 101 (τ5.1 94 16).toNatClampNeg (-4)) := ⟨_, rfl⟩
          show X none (d + 3) mX8_opens 10 [.ref 94, .int (-4)] [] (w1 τ5 101 (τ5.1 94 16).toNatClampNeg (-4)) _
          rw [← eτ8]
          replace h := h τ8 eτ8
          refine x_aload_n (pc' := 11) dX8_opens_10 rfl rfl rfl ?_
          refine x_dup (pc' := 12) dX8_opens_11 rfl rfl ?_
          refine x_geti (pc' := 15) dX8_opens_12 rfl lfX8_219 kd_94 rfl ?_
          refine x_iconst (pc' := 16) (v := 1) dX8_opens_15 rfl (by decide) ?_
          refine x_iadd (pc' := 17) dX8_opens_16 rfl ?_
          refine x_puti (pc' := 20) dX8_opens_17 rfl lfX8_219 kd_94 rfl rfl rfl ?_
          obtain ⟨τ9, eτ9⟩ : ∃ τ : Mem, τ = (w1 τ8 94 16 ((τ8.1 94 16) + 1)) := ⟨_, rfl⟩
          show X none (d + 3) mX8_opens 20 [.ref 94, .int (-4)] [] (w1 τ8 94 16 ((τ8.1 94 16) + 1)) _
          rw [← eτ9]
          replace h := h τ9 eτ9
          refine x_vret dX8_opens_20 rfl ?_
          show X none (d + 4) mX8_spot 76 [.ref 94, .int u2] [] τ9 _
          refine x_iconst (pc' := 77) (v := 2) dX8_spot_76 rfl (by decide) ?_
          exact x_iret dX8_spot_77 rfl rfl h
      · replace h := h.2 hc
        refine x_iconst (pc' := 48) (v := 0) dX8_spot_47 rfl (by decide) ?_
        exact x_iret dX8_spot_48 rfl rfl h
    · replace h := h.2 hc
      refine x_iload_n (pc' := 33) dX8_spot_32 rfl rfl rfl ?_
      refine x_bipush (pc' := 35) (v := 33) dX8_spot_33 rfl (by decide) ?_
      refine x_icmp_ne (pc' := 38) (tgt := 47) dX8_spot_35 (by decide) rfl (fun hc => ?_) (fun hc => ?_)
      · replace h := h.1 hc
        refine x_iconst (pc' := 48) (v := 0) dX8_spot_47 rfl (by decide) ?_
        exact x_iret dX8_spot_48 rfl rfl h
      · replace h := h.2 hc
        refine x_aload_n (pc' := 39) dX8_spot_38 rfl rfl rfl ?_
        refine x_callV (pc' := 42) (As := []) dX8_spot_39 rfl lmX8_229 kd_94 rfl rfl (Nat.le_of_ble_eq_true rfl) (Nat.le_of_ble_eq_true rfl) ?_
        show X none (d + 3) mX8_deep 0 [.ref 94, Unk, Unk] [] τ1 _
        refine X.mono h ?_
        rintro r τ10 ⟨u11, rfl, h⟩
        show X none (d + 4) mX8_spot 42 [.ref 94, .int u2] [.int u11] τ10 _
        refine x_bipush (pc' := 44) (v := 12) dX8_spot_42 rfl (by decide) ?_
        refine x_icmp_ne (pc' := 47) (tgt := 49) dX8_spot_44 (by decide) rfl (fun hc => ?_) (fun hc => ?_)
        · replace h := h.1 hc
          refine x_aload_n (pc' := 50) dX8_spot_49 rfl rfl rfl ?_
          refine x_dup (pc' := 51) dX8_spot_50 rfl rfl ?_
          refine x_geti (pc' := 54) dX8_spot_51 rfl lfX8_191 kd_94 rfl ?_
          refine x_iconst (pc' := 55) (v := 1) dX8_spot_54 rfl (by decide) ?_
          refine x_iadd (pc' := 56) dX8_spot_55 rfl ?_
          refine x_puti (pc' := 59) dX8_spot_56 rfl lfX8_191 kd_94 rfl rfl rfl ?_
          obtain ⟨τ12, eτ12⟩ : ∃ τ : Mem, τ = (w1 τ10 94 13 ((τ10.1 94 13) + 1)) := ⟨_, rfl⟩
          show X none (d + 4) mX8_spot 59 [.ref 94, .int u2] [] (w1 τ10 94 13 ((τ10.1 94 13) + 1)) _
          rw [← eτ12]
          replace h := h τ12 eτ12
          refine x_aload_n (pc' := 60) dX8_spot_59 rfl rfl rfl ?_
          refine x_iload_n (pc' := 61) dX8_spot_60 rfl rfl rfl ?_
          refine x_bipush (pc' := 63) (v := 33) dX8_spot_61 rfl (by decide) ?_
          refine x_icmp_ne (pc' := 66) (tgt := 71) dX8_spot_63 (by decide) rfl (fun hc => ?_) (fun hc => ?_)
          · replace h := h.1 hc
            refine x_bipush (pc' := 73) (v := (-5)) dX8_spot_71 rfl (by decide) ?_
            refine x_callV (pc' := 76) (As := [.int (-5)]) dX8_spot_73 rfl lmX8_232 kd_94 rfl rfl (Nat.le_of_ble_eq_true rfl) (Nat.le_of_ble_eq_true rfl) ?_
            show X none (d + 3) mX8_opens 0 [.ref 94, .int (-5)] [] τ12 _
            refine x_aload_n (pc' := 1) dX8_opens_0 rfl rfl rfl ?_
            refine x_getr (pc' := 4) dX8_opens_1 rfl lfX8_36 kd_94 rfl rf_94_15 ?_
            refine x_aload_n (pc' := 5) dX8_opens_4 rfl rfl rfl ?_
            refine x_geti (pc' := 8) dX8_opens_5 rfl lfX8_219 kd_94 rfl ?_
            refine x_iload_n (pc' := 9) dX8_opens_8 rfl rfl rfl ?_
            obtain ⟨hb, h⟩ := h
            refine x_iast (pc' := 10) dX8_opens_9 rfl kd_101 (by rw [ln_101]; exact hb) ?_
            obtain ⟨τ13, eτ13⟩ : ∃ τ : Mem, τ = (w1 τ12 101 (τ12.1 94 16).toNatClampNeg (-5)) := ⟨_, rfl⟩
            show X none (d + 3) mX8_opens 10 [.ref 94, .int (-5)] [] (w1 τ12 101 (τ12.1 94 16).toNatClampNeg (-5)) _
            rw [← eτ13]
            replace h := h τ13 eτ13
            refine x_aload_n (pc' := 11) dX8_opens_10 rfl rfl rfl ?_
            refine x_dup (pc' := 12) dX8_opens_11 rfl rfl ?_
            refine x_geti (pc' := 15) dX8_opens_12 rfl lfX8_219 kd_94 rfl ?_
            refine x_iconst (pc' := 16) (v := 1) dX8_opens_15 rfl (by decide) ?_
            refine x_iadd (pc' := 17) dX8_opens_16 rfl ?_
            refine x_puti (pc' := 20) dX8_opens_17 rfl lfX8_219 kd_94 rfl rfl rfl ?_
            obtain ⟨τ14, eτ14⟩ : ∃ τ : Mem, τ = (w1 τ13 94 16 ((τ13.1 94 16) + 1)) := ⟨_, rfl⟩
            show X none (d + 3) mX8_opens 20 [.ref 94, .int (-5)] [] (w1 τ13 94 16 ((τ13.1 94 16) + 1)) _
            rw [← eτ14]
            replace h := h τ14 eτ14
            refine x_vret dX8_opens_20 rfl ?_
            show X none (d + 4) mX8_spot 76 [.ref 94, .int u2] [] τ14 _
            refine x_iconst (pc' := 77) (v := 2) dX8_spot_76 rfl (by decide) ?_
            exact x_iret dX8_spot_77 rfl rfl h
          · replace h := h.2 hc
            refine x_bipush (pc' := 68) (v := (-4)) dX8_spot_66 rfl (by decide) ?_
            refine x_goto (pc' := 73) dX8_spot_68 (by decide) ?_
            refine x_callV (pc' := 76) (As := [.int (-4)]) dX8_spot_73 rfl lmX8_232 kd_94 rfl rfl (Nat.le_of_ble_eq_true rfl) (Nat.le_of_ble_eq_true rfl) ?_
            show X none (d + 3) mX8_opens 0 [.ref 94, .int (-4)] [] τ12 _
            refine x_aload_n (pc' := 1) dX8_opens_0 rfl rfl rfl ?_
            refine x_getr (pc' := 4) dX8_opens_1 rfl lfX8_36 kd_94 rfl rf_94_15 ?_
            refine x_aload_n (pc' := 5) dX8_opens_4 rfl rfl rfl ?_
            refine x_geti (pc' := 8) dX8_opens_5 rfl lfX8_219 kd_94 rfl ?_
            refine x_iload_n (pc' := 9) dX8_opens_8 rfl rfl rfl ?_
            obtain ⟨hb, h⟩ := h
            refine x_iast (pc' := 10) dX8_opens_9 rfl kd_101 (by rw [ln_101]; exact hb) ?_
            obtain ⟨τ15, eτ15⟩ : ∃ τ : Mem, τ = (w1 τ12 101 (τ12.1 94 16).toNatClampNeg (-4)) := ⟨_, rfl⟩
            show X none (d + 3) mX8_opens 10 [.ref 94, .int (-4)] [] (w1 τ12 101 (τ12.1 94 16).toNatClampNeg (-4)) _
            rw [← eτ15]
            replace h := h τ15 eτ15
            refine x_aload_n (pc' := 11) dX8_opens_10 rfl rfl rfl ?_
            refine x_dup (pc' := 12) dX8_opens_11 rfl rfl ?_
            refine x_geti (pc' := 15) dX8_opens_12 rfl lfX8_219 kd_94 rfl ?_
            refine x_iconst (pc' := 16) (v := 1) dX8_opens_15 rfl (by decide) ?_
            refine x_iadd (pc' := 17) dX8_opens_16 rfl ?_
            refine x_puti (pc' := 20) dX8_opens_17 rfl lfX8_219 kd_94 rfl rfl rfl ?_
            obtain ⟨τ16, eτ16⟩ : ∃ τ : Mem, τ = (w1 τ15 94 16 ((τ15.1 94 16) + 1)) := ⟨_, rfl⟩
            show X none (d + 3) mX8_opens 20 [.ref 94, .int (-4)] [] (w1 τ15 94 16 ((τ15.1 94 16) + 1)) _
            rw [← eτ16]
            replace h := h τ16 eτ16
            refine x_vret dX8_opens_20 rfl ?_
            show X none (d + 4) mX8_spot 76 [.ref 94, .int u2] [] τ16 _
            refine x_iconst (pc' := 77) (v := 2) dX8_spot_76 rfl (by decide) ?_
            exact x_iret dX8_spot_77 rfl rfl h
        · replace h := h.2 hc
          refine x_iconst (pc' := 48) (v := 0) dX8_spot_47 rfl (by decide) ?_
          exact x_iret dX8_spot_48 rfl rfl h
  · replace h := h.2 hc
    refine x_aload_n (pc' := 12) dX8_spot_11 rfl rfl rfl ?_
    refine x_callV (pc' := 15) (As := []) dX8_spot_12 rfl lmX8_222 kd_94 rfl rfl (Nat.le_of_ble_eq_true rfl) (Nat.le_of_ble_eq_true rfl) ?_
    show X none (d + 3) mX8_takesRect 0 [.ref 94, Unk, Unk, Unk] [] τ1 _
    refine X.mono h ?_
    rintro r τ17 ⟨u18, rfl, h⟩
    show X none (d + 4) mX8_spot 15 [.ref 94, .int u2] [.int u18] τ17 _
    refine x_if_ne (pc' := 18) (tgt := 20) dX8_spot_15 (by decide) rfl (fun hc => ?_) (fun hc => ?_)
    · replace h := h.1 hc
      refine x_aload_n (pc' := 21) dX8_spot_20 rfl rfl rfl ?_
      refine x_callV (pc' := 24) (As := []) dX8_spot_21 rfl lmX8_226 kd_94 rfl rfl (Nat.le_of_ble_eq_true rfl) (Nat.le_of_ble_eq_true rfl) ?_
      show X none (d + 3) mX8_notes 0 [.ref 94] [] τ17 _
      refine X.mono h ?_
      rintro r τ19 ⟨rfl, h⟩
      show X none (d + 4) mX8_spot 24 [.ref 94, .int u2] [] τ19 _
      refine x_iconst (pc' := 25) (v := 1) dX8_spot_24 rfl (by decide) ?_
      exact x_iret dX8_spot_25 rfl rfl h
    · replace h := h.2 hc
      refine x_iconst (pc' := 19) (v := 0) dX8_spot_18 rfl (by decide) ?_
      exact x_iret dX8_spot_19 rfl rfl h
set_option maxRecDepth 100000 in
set_option maxHeartbeats 4000000 in
theorem vX8_behind_0 {d : Nat} {σ : Mem} {Q : Option Value → Mem → Prop} 
    (h : (X none (d + 1) mX8_next 0 [.ref 94] [] σ (fun r τ1 => ∃ u2 : Int32, r = some (.int u2) ∧ ((¬ u2 = 38 → ((u2 = 43 → (X none (d + 1) mX8_does 0 [.ref 94, .int 0] [] τ1 (fun r τ3 => r = none ∧ ((¬ u2 = 43 → (vp_in (τ3.1 94 16) 128 ∧ (∀ τ4 : Mem, τ4 = (w1 τ3 101 (τ3.1 94 16).toNatClampNeg (-2)) → (∀ τ5 : Mem, τ5 = (w1 τ4 94 16 ((τ4.1 94 16) + 1)) → (∀ τ6 : Mem, τ6 = (w1 τ5 94 13 ((τ5.1 94 13) + 1)) → ((¬ u2 = 59 → ((¬ u2 = 41 → Q (some (.int 2)) τ6) ∧ (u2 = 41 → Q (some (.int 1)) τ6))) ∧ (u2 = 59 → Q (some (.int 3)) τ6))))))) ∧ (u2 = 43 → (vp_in (τ3.1 94 16) 128 ∧ (∀ τ7 : Mem, τ7 = (w1 τ3 101 (τ3.1 94 16).toNatClampNeg (-1)) → (∀ τ8 : Mem, τ8 = (w1 τ7 94 16 ((τ7.1 94 16) + 1)) → (∀ τ9 : Mem, τ9 = (w1 τ8 94 13 ((τ8.1 94 13) + 1)) → ((¬ u2 = 59 → ((¬ u2 = 41 → Q (some (.int 2)) τ9) ∧ (u2 = 41 → Q (some (.int 1)) τ9))) ∧ (u2 = 59 → Q (some (.int 3)) τ9))))))))))) ∧ (¬ u2 = 43 → ((¬ u2 = 45 → ((u2 = 41 → (X none (d + 1) mX8_does 0 [.ref 94, .int 0] [] τ1 (fun r τ10 => r = none ∧ (((τ10.1 94 16) ≤ 0 → ((¬ u2 = 41 → (((τ10.1 94 16) ≤ 0 → (∀ τ11 : Mem, τ11 = (w1 τ10 94 16 ((τ10.1 94 16) - 0)) → (X none (d + 1) mX8_notes 0 [.ref 94] [] τ11 (fun r τ12 => r = none ∧ (∀ τ13 : Mem, τ13 = (w1 τ12 94 13 ((τ12.1 94 13) + 1)) → ((¬ u2 = 59 → ((¬ u2 = 41 → Q (some (.int 2)) τ13) ∧ (u2 = 41 → Q (some (.int 1)) τ13))) ∧ (u2 = 59 → Q (some (.int 3)) τ13))))))) ∧ (¬ (τ10.1 94 16) ≤ 0 → (∀ τ14 : Mem, τ14 = (w1 τ10 94 16 ((τ10.1 94 16) - 1)) → (X none (d + 1) mX8_notes 0 [.ref 94] [] τ14 (fun r τ15 => r = none ∧ (∀ τ16 : Mem, τ16 = (w1 τ15 94 13 ((τ15.1 94 13) + 1)) → ((¬ u2 = 59 → ((¬ u2 = 41 → Q (some (.int 2)) τ16) ∧ (u2 = 41 → Q (some (.int 1)) τ16))) ∧ (u2 = 59 → Q (some (.int 3)) τ16))))))))) ∧ (u2 = 41 → Q (some (.int 0)) τ10))) ∧ (¬ (τ10.1 94 16) ≤ 0 → ((¬ u2 = 41 → Q (some (.int 0)) τ10) ∧ (u2 = 41 → (((τ10.1 94 16) ≤ 0 → (∀ τ17 : Mem, τ17 = (w1 τ10 94 16 ((τ10.1 94 16) - 0)) → (X none (d + 1) mX8_notes 0 [.ref 94] [] τ17 (fun r τ18 => r = none ∧ (∀ τ19 : Mem, τ19 = (w1 τ18 94 13 ((τ18.1 94 13) + 1)) → ((¬ u2 = 59 → ((¬ u2 = 41 → Q (some (.int 2)) τ19) ∧ (u2 = 41 → Q (some (.int 1)) τ19))) ∧ (u2 = 59 → Q (some (.int 3)) τ19))))))) ∧ (¬ (τ10.1 94 16) ≤ 0 → (∀ τ20 : Mem, τ20 = (w1 τ10 94 16 ((τ10.1 94 16) - 1)) → (X none (d + 1) mX8_notes 0 [.ref 94] [] τ20 (fun r τ21 => r = none ∧ (∀ τ22 : Mem, τ22 = (w1 τ21 94 13 ((τ21.1 94 13) + 1)) → ((¬ u2 = 59 → ((¬ u2 = 41 → Q (some (.int 2)) τ22) ∧ (u2 = 41 → Q (some (.int 1)) τ22))) ∧ (u2 = 59 → Q (some (.int 3)) τ22))))))))))))))) ∧ (¬ u2 = 41 → ((¬ u2 = 59 → Q (some (.int 0)) τ1) ∧ (u2 = 59 → (X none (d + 1) mX8_does 0 [.ref 94, .int 0] [] τ1 (fun r τ23 => r = none ∧ (((τ23.1 94 16) ≤ 0 → ((¬ u2 = 41 → (((τ23.1 94 16) ≤ 0 → (∀ τ24 : Mem, τ24 = (w1 τ23 94 16 ((τ23.1 94 16) - 0)) → (X none (d + 1) mX8_notes 0 [.ref 94] [] τ24 (fun r τ25 => r = none ∧ (∀ τ26 : Mem, τ26 = (w1 τ25 94 13 ((τ25.1 94 13) + 1)) → ((¬ u2 = 59 → ((¬ u2 = 41 → Q (some (.int 2)) τ26) ∧ (u2 = 41 → Q (some (.int 1)) τ26))) ∧ (u2 = 59 → Q (some (.int 3)) τ26))))))) ∧ (¬ (τ23.1 94 16) ≤ 0 → (∀ τ27 : Mem, τ27 = (w1 τ23 94 16 ((τ23.1 94 16) - 1)) → (X none (d + 1) mX8_notes 0 [.ref 94] [] τ27 (fun r τ28 => r = none ∧ (∀ τ29 : Mem, τ29 = (w1 τ28 94 13 ((τ28.1 94 13) + 1)) → ((¬ u2 = 59 → ((¬ u2 = 41 → Q (some (.int 2)) τ29) ∧ (u2 = 41 → Q (some (.int 1)) τ29))) ∧ (u2 = 59 → Q (some (.int 3)) τ29))))))))) ∧ (u2 = 41 → Q (some (.int 0)) τ23))) ∧ (¬ (τ23.1 94 16) ≤ 0 → ((¬ u2 = 41 → Q (some (.int 0)) τ23) ∧ (u2 = 41 → (((τ23.1 94 16) ≤ 0 → (∀ τ30 : Mem, τ30 = (w1 τ23 94 16 ((τ23.1 94 16) - 0)) → (X none (d + 1) mX8_notes 0 [.ref 94] [] τ30 (fun r τ31 => r = none ∧ (∀ τ32 : Mem, τ32 = (w1 τ31 94 13 ((τ31.1 94 13) + 1)) → ((¬ u2 = 59 → ((¬ u2 = 41 → Q (some (.int 2)) τ32) ∧ (u2 = 41 → Q (some (.int 1)) τ32))) ∧ (u2 = 59 → Q (some (.int 3)) τ32))))))) ∧ (¬ (τ23.1 94 16) ≤ 0 → (∀ τ33 : Mem, τ33 = (w1 τ23 94 16 ((τ23.1 94 16) - 1)) → (X none (d + 1) mX8_notes 0 [.ref 94] [] τ33 (fun r τ34 => r = none ∧ (∀ τ35 : Mem, τ35 = (w1 τ34 94 13 ((τ34.1 94 13) + 1)) → ((¬ u2 = 59 → ((¬ u2 = 41 → Q (some (.int 2)) τ35) ∧ (u2 = 41 → Q (some (.int 1)) τ35))) ∧ (u2 = 59 → Q (some (.int 3)) τ35))))))))))))))))))) ∧ (u2 = 45 → (X none (d + 1) mX8_does 0 [.ref 94, .int 0] [] τ1 (fun r τ36 => r = none ∧ ((¬ u2 = 43 → (vp_in (τ36.1 94 16) 128 ∧ (∀ τ37 : Mem, τ37 = (w1 τ36 101 (τ36.1 94 16).toNatClampNeg (-2)) → (∀ τ38 : Mem, τ38 = (w1 τ37 94 16 ((τ37.1 94 16) + 1)) → (∀ τ39 : Mem, τ39 = (w1 τ38 94 13 ((τ38.1 94 13) + 1)) → ((¬ u2 = 59 → ((¬ u2 = 41 → Q (some (.int 2)) τ39) ∧ (u2 = 41 → Q (some (.int 1)) τ39))) ∧ (u2 = 59 → Q (some (.int 3)) τ39))))))) ∧ (u2 = 43 → (vp_in (τ36.1 94 16) 128 ∧ (∀ τ40 : Mem, τ40 = (w1 τ36 101 (τ36.1 94 16).toNatClampNeg (-1)) → (∀ τ41 : Mem, τ41 = (w1 τ40 94 16 ((τ40.1 94 16) + 1)) → (∀ τ42 : Mem, τ42 = (w1 τ41 94 13 ((τ41.1 94 13) + 1)) → ((¬ u2 = 59 → ((¬ u2 = 41 → Q (some (.int 2)) τ42) ∧ (u2 = 41 → Q (some (.int 1)) τ42))) ∧ (u2 = 59 → Q (some (.int 3)) τ42))))))))))))))) ∧ (u2 = 38 → (X none (d + 1) mX8_does 0 [.ref 94, .int 1] [] τ1 (fun r τ43 => r = none ∧ (vp_in (τ43.1 94 16) 128 ∧ (∀ τ44 : Mem, τ44 = (w1 τ43 101 (τ43.1 94 16).toNatClampNeg (-3)) → (∀ τ45 : Mem, τ45 = (w1 τ44 94 16 ((τ44.1 94 16) + 1)) → (∀ τ46 : Mem, τ46 = (w1 τ45 94 13 ((τ45.1 94 13) + 1)) → ((¬ u2 = 59 → ((¬ u2 = 41 → Q (some (.int 2)) τ46) ∧ (u2 = 41 → Q (some (.int 1)) τ46))) ∧ (u2 = 59 → Q (some (.int 3)) τ46))))))))))))) :
    X none (d + 2) mX8_behind 0 [.ref 94, Unk] [] σ Q := by
  refine x_aload_n (pc' := 1) dX8_behind_0 rfl rfl rfl ?_
  refine x_callV (pc' := 4) (As := []) dX8_behind_1 rfl lmX8_200 kd_94 rfl rfl (Nat.le_of_ble_eq_true rfl) (Nat.le_of_ble_eq_true rfl) ?_
  show X none (d + 1) mX8_next 0 [.ref 94] [] σ _
  refine X.mono h ?_
  rintro r τ1 ⟨u2, rfl, h⟩
  show X none (d + 2) mX8_behind 4 [.ref 94, Unk] [.int u2] τ1 _
  refine x_istore_n (pc' := 5) dX8_behind_4 rfl rfl (by decide) rfl (ls' := [.ref 94, .int u2]) rfl ?_
  refine x_iload_n (pc' := 6) dX8_behind_5 rfl rfl rfl ?_
  refine x_bipush (pc' := 8) (v := 38) dX8_behind_6 rfl (by decide) ?_
  refine x_icmp_ne (pc' := 11) (tgt := 25) dX8_behind_8 (by decide) rfl (fun hc => ?_) (fun hc => ?_)
  · replace h := h.1 hc
    refine x_iload_n (pc' := 26) dX8_behind_25 rfl rfl rfl ?_
    refine x_bipush (pc' := 28) (v := 43) dX8_behind_26 rfl (by decide) ?_
    refine x_icmp_eq (pc' := 31) (tgt := 37) dX8_behind_28 (by decide) rfl (fun hc => ?_) (fun hc => ?_)
    · replace h := h.1 hc
      refine x_aload_n (pc' := 38) dX8_behind_37 rfl rfl rfl ?_
      refine x_iconst (pc' := 39) (v := 0) dX8_behind_38 rfl (by decide) ?_
      refine x_callV (pc' := 42) (As := [.int 0]) dX8_behind_39 rfl lmX8_235 kd_94 rfl rfl (Nat.le_of_ble_eq_true rfl) (Nat.le_of_ble_eq_true rfl) ?_
      show X none (d + 1) mX8_does 0 [.ref 94, .int 0] [] τ1 _
      refine X.mono h ?_
      rintro r τ3 ⟨rfl, h⟩
      show X none (d + 2) mX8_behind 42 [.ref 94, .int u2] [] τ3 _
      refine x_aload_n (pc' := 43) dX8_behind_42 rfl rfl rfl ?_
      refine x_iload_n (pc' := 44) dX8_behind_43 rfl rfl rfl ?_
      refine x_bipush (pc' := 46) (v := 43) dX8_behind_44 rfl (by decide) ?_
      refine x_icmp_ne (pc' := 49) (tgt := 53) dX8_behind_46 (by decide) rfl (fun hc => ?_) (fun hc => ?_)
      · replace h := h.1 hc
        refine x_bipush (pc' := 55) (v := (-2)) dX8_behind_53 rfl (by decide) ?_
        refine x_callV (pc' := 58) (As := [.int (-2)]) dX8_behind_55 rfl lmX8_232 kd_94 rfl rfl (Nat.le_of_ble_eq_true rfl) (Nat.le_of_ble_eq_true rfl) ?_
        show X none (d + 1) mX8_opens 0 [.ref 94, .int (-2)] [] τ3 _
        refine x_aload_n (pc' := 1) dX8_opens_0 rfl rfl rfl ?_
        refine x_getr (pc' := 4) dX8_opens_1 rfl lfX8_36 kd_94 rfl rf_94_15 ?_
        refine x_aload_n (pc' := 5) dX8_opens_4 rfl rfl rfl ?_
        refine x_geti (pc' := 8) dX8_opens_5 rfl lfX8_219 kd_94 rfl ?_
        refine x_iload_n (pc' := 9) dX8_opens_8 rfl rfl rfl ?_
        obtain ⟨hb, h⟩ := h
        refine x_iast (pc' := 10) dX8_opens_9 rfl kd_101 (by rw [ln_101]; exact hb) ?_
        obtain ⟨τ4, eτ4⟩ : ∃ τ : Mem, τ = (w1 τ3 101 (τ3.1 94 16).toNatClampNeg (-2)) := ⟨_, rfl⟩
        show X none (d + 1) mX8_opens 10 [.ref 94, .int (-2)] [] (w1 τ3 101 (τ3.1 94 16).toNatClampNeg (-2)) _
        rw [← eτ4]
        replace h := h τ4 eτ4
        refine x_aload_n (pc' := 11) dX8_opens_10 rfl rfl rfl ?_
        refine x_dup (pc' := 12) dX8_opens_11 rfl rfl ?_
        refine x_geti (pc' := 15) dX8_opens_12 rfl lfX8_219 kd_94 rfl ?_
        refine x_iconst (pc' := 16) (v := 1) dX8_opens_15 rfl (by decide) ?_
        refine x_iadd (pc' := 17) dX8_opens_16 rfl ?_
        refine x_puti (pc' := 20) dX8_opens_17 rfl lfX8_219 kd_94 rfl rfl rfl ?_
        obtain ⟨τ5, eτ5⟩ : ∃ τ : Mem, τ = (w1 τ4 94 16 ((τ4.1 94 16) + 1)) := ⟨_, rfl⟩
        show X none (d + 1) mX8_opens 20 [.ref 94, .int (-2)] [] (w1 τ4 94 16 ((τ4.1 94 16) + 1)) _
        rw [← eτ5]
        replace h := h τ5 eτ5
        refine x_vret dX8_opens_20 rfl ?_
        show X none (d + 2) mX8_behind 58 [.ref 94, .int u2] [] τ5 _
        refine x_goto (pc' := 136) dX8_behind_58 (by decide) ?_
        refine x_aload_n (pc' := 137) dX8_behind_136 rfl rfl rfl ?_
        refine x_dup (pc' := 138) dX8_behind_137 rfl rfl ?_
        refine x_geti (pc' := 141) dX8_behind_138 rfl lfX8_191 kd_94 rfl ?_
        refine x_iconst (pc' := 142) (v := 1) dX8_behind_141 rfl (by decide) ?_
        refine x_iadd (pc' := 143) dX8_behind_142 rfl ?_
        refine x_puti (pc' := 146) dX8_behind_143 rfl lfX8_191 kd_94 rfl rfl rfl ?_
        obtain ⟨τ6, eτ6⟩ : ∃ τ : Mem, τ = (w1 τ5 94 13 ((τ5.1 94 13) + 1)) := ⟨_, rfl⟩
        show X none (d + 2) mX8_behind 146 [.ref 94, .int u2] [] (w1 τ5 94 13 ((τ5.1 94 13) + 1)) _
        rw [← eτ6]
        replace h := h τ6 eτ6
        refine x_iload_n (pc' := 147) dX8_behind_146 rfl rfl rfl ?_
        refine x_bipush (pc' := 149) (v := 59) dX8_behind_147 rfl (by decide) ?_
        refine x_icmp_ne (pc' := 152) (tgt := 156) dX8_behind_149 (by decide) rfl (fun hc => ?_) (fun hc => ?_)
        · replace h := h.1 hc
          refine x_iload_n (pc' := 157) dX8_behind_156 rfl rfl rfl ?_
          refine x_bipush (pc' := 159) (v := 41) dX8_behind_157 rfl (by decide) ?_
          refine x_icmp_ne (pc' := 162) (tgt := 166) dX8_behind_159 (by decide) rfl (fun hc => ?_) (fun hc => ?_)
          · replace h := h.1 hc
            refine x_iconst (pc' := 167) (v := 2) dX8_behind_166 rfl (by decide) ?_
            exact x_iret dX8_behind_167 rfl rfl h
          · replace h := h.2 hc
            refine x_iconst (pc' := 163) (v := 1) dX8_behind_162 rfl (by decide) ?_
            refine x_goto (pc' := 167) dX8_behind_163 (by decide) ?_
            exact x_iret dX8_behind_167 rfl rfl h
        · replace h := h.2 hc
          refine x_iconst (pc' := 153) (v := 3) dX8_behind_152 rfl (by decide) ?_
          refine x_goto (pc' := 167) dX8_behind_153 (by decide) ?_
          exact x_iret dX8_behind_167 rfl rfl h
      · replace h := h.2 hc
        refine x_iconst (pc' := 50) (v := (-1)) dX8_behind_49 rfl (by decide) ?_
        refine x_goto (pc' := 55) dX8_behind_50 (by decide) ?_
        refine x_callV (pc' := 58) (As := [.int (-1)]) dX8_behind_55 rfl lmX8_232 kd_94 rfl rfl (Nat.le_of_ble_eq_true rfl) (Nat.le_of_ble_eq_true rfl) ?_
        show X none (d + 1) mX8_opens 0 [.ref 94, .int (-1)] [] τ3 _
        refine x_aload_n (pc' := 1) dX8_opens_0 rfl rfl rfl ?_
        refine x_getr (pc' := 4) dX8_opens_1 rfl lfX8_36 kd_94 rfl rf_94_15 ?_
        refine x_aload_n (pc' := 5) dX8_opens_4 rfl rfl rfl ?_
        refine x_geti (pc' := 8) dX8_opens_5 rfl lfX8_219 kd_94 rfl ?_
        refine x_iload_n (pc' := 9) dX8_opens_8 rfl rfl rfl ?_
        obtain ⟨hb, h⟩ := h
        refine x_iast (pc' := 10) dX8_opens_9 rfl kd_101 (by rw [ln_101]; exact hb) ?_
        obtain ⟨τ7, eτ7⟩ : ∃ τ : Mem, τ = (w1 τ3 101 (τ3.1 94 16).toNatClampNeg (-1)) := ⟨_, rfl⟩
        show X none (d + 1) mX8_opens 10 [.ref 94, .int (-1)] [] (w1 τ3 101 (τ3.1 94 16).toNatClampNeg (-1)) _
        rw [← eτ7]
        replace h := h τ7 eτ7
        refine x_aload_n (pc' := 11) dX8_opens_10 rfl rfl rfl ?_
        refine x_dup (pc' := 12) dX8_opens_11 rfl rfl ?_
        refine x_geti (pc' := 15) dX8_opens_12 rfl lfX8_219 kd_94 rfl ?_
        refine x_iconst (pc' := 16) (v := 1) dX8_opens_15 rfl (by decide) ?_
        refine x_iadd (pc' := 17) dX8_opens_16 rfl ?_
        refine x_puti (pc' := 20) dX8_opens_17 rfl lfX8_219 kd_94 rfl rfl rfl ?_
        obtain ⟨τ8, eτ8⟩ : ∃ τ : Mem, τ = (w1 τ7 94 16 ((τ7.1 94 16) + 1)) := ⟨_, rfl⟩
        show X none (d + 1) mX8_opens 20 [.ref 94, .int (-1)] [] (w1 τ7 94 16 ((τ7.1 94 16) + 1)) _
        rw [← eτ8]
        replace h := h τ8 eτ8
        refine x_vret dX8_opens_20 rfl ?_
        show X none (d + 2) mX8_behind 58 [.ref 94, .int u2] [] τ8 _
        refine x_goto (pc' := 136) dX8_behind_58 (by decide) ?_
        refine x_aload_n (pc' := 137) dX8_behind_136 rfl rfl rfl ?_
        refine x_dup (pc' := 138) dX8_behind_137 rfl rfl ?_
        refine x_geti (pc' := 141) dX8_behind_138 rfl lfX8_191 kd_94 rfl ?_
        refine x_iconst (pc' := 142) (v := 1) dX8_behind_141 rfl (by decide) ?_
        refine x_iadd (pc' := 143) dX8_behind_142 rfl ?_
        refine x_puti (pc' := 146) dX8_behind_143 rfl lfX8_191 kd_94 rfl rfl rfl ?_
        obtain ⟨τ9, eτ9⟩ : ∃ τ : Mem, τ = (w1 τ8 94 13 ((τ8.1 94 13) + 1)) := ⟨_, rfl⟩
        show X none (d + 2) mX8_behind 146 [.ref 94, .int u2] [] (w1 τ8 94 13 ((τ8.1 94 13) + 1)) _
        rw [← eτ9]
        replace h := h τ9 eτ9
        refine x_iload_n (pc' := 147) dX8_behind_146 rfl rfl rfl ?_
        refine x_bipush (pc' := 149) (v := 59) dX8_behind_147 rfl (by decide) ?_
        refine x_icmp_ne (pc' := 152) (tgt := 156) dX8_behind_149 (by decide) rfl (fun hc => ?_) (fun hc => ?_)
        · replace h := h.1 hc
          refine x_iload_n (pc' := 157) dX8_behind_156 rfl rfl rfl ?_
          refine x_bipush (pc' := 159) (v := 41) dX8_behind_157 rfl (by decide) ?_
          refine x_icmp_ne (pc' := 162) (tgt := 166) dX8_behind_159 (by decide) rfl (fun hc => ?_) (fun hc => ?_)
          · replace h := h.1 hc
            refine x_iconst (pc' := 167) (v := 2) dX8_behind_166 rfl (by decide) ?_
            exact x_iret dX8_behind_167 rfl rfl h
          · replace h := h.2 hc
            refine x_iconst (pc' := 163) (v := 1) dX8_behind_162 rfl (by decide) ?_
            refine x_goto (pc' := 167) dX8_behind_163 (by decide) ?_
            exact x_iret dX8_behind_167 rfl rfl h
        · replace h := h.2 hc
          refine x_iconst (pc' := 153) (v := 3) dX8_behind_152 rfl (by decide) ?_
          refine x_goto (pc' := 167) dX8_behind_153 (by decide) ?_
          exact x_iret dX8_behind_167 rfl rfl h
    · replace h := h.2 hc
      refine x_iload_n (pc' := 32) dX8_behind_31 rfl rfl rfl ?_
      refine x_bipush (pc' := 34) (v := 45) dX8_behind_32 rfl (by decide) ?_
      refine x_icmp_ne (pc' := 37) (tgt := 61) dX8_behind_34 (by decide) rfl (fun hc => ?_) (fun hc => ?_)
      · replace h := h.1 hc
        refine x_iload_n (pc' := 62) dX8_behind_61 rfl rfl rfl ?_
        refine x_bipush (pc' := 64) (v := 41) dX8_behind_62 rfl (by decide) ?_
        refine x_icmp_eq (pc' := 67) (tgt := 73) dX8_behind_64 (by decide) rfl (fun hc => ?_) (fun hc => ?_)
        · replace h := h.1 hc
          refine x_aload_n (pc' := 74) dX8_behind_73 rfl rfl rfl ?_
          refine x_iconst (pc' := 75) (v := 0) dX8_behind_74 rfl (by decide) ?_
          refine x_callV (pc' := 78) (As := [.int 0]) dX8_behind_75 rfl lmX8_235 kd_94 rfl rfl (Nat.le_of_ble_eq_true rfl) (Nat.le_of_ble_eq_true rfl) ?_
          show X none (d + 1) mX8_does 0 [.ref 94, .int 0] [] τ1 _
          refine X.mono h ?_
          rintro r τ10 ⟨rfl, h⟩
          show X none (d + 2) mX8_behind 78 [.ref 94, .int u2] [] τ10 _
          refine x_aload_n (pc' := 79) dX8_behind_78 rfl rfl rfl ?_
          refine x_geti (pc' := 82) dX8_behind_79 rfl lfX8_219 kd_94 rfl ?_
          refine x_if_le (pc' := 85) (tgt := 89) dX8_behind_82 (by decide) rfl (fun hc => ?_) (fun hc => ?_)
          · replace h := h.1 hc
            refine x_iconst (pc' := 90) (v := 0) dX8_behind_89 rfl (by decide) ?_
            refine x_iload_n (pc' := 91) dX8_behind_90 rfl rfl rfl ?_
            refine x_bipush (pc' := 93) (v := 41) dX8_behind_91 rfl (by decide) ?_
            refine x_icmp_ne (pc' := 96) (tgt := 100) dX8_behind_93 (by decide) rfl (fun hc => ?_) (fun hc => ?_)
            · replace h := h.1 hc
              refine x_iconst (pc' := 101) (v := 0) dX8_behind_100 rfl (by decide) ?_
              refine x_icmp_eq (pc' := 104) (tgt := 106) dX8_behind_101 (by decide) rfl (fun _ => ?_) (fun hc => absurd hc (by decide))
              refine x_aload_n (pc' := 107) dX8_behind_106 rfl rfl rfl ?_
              refine x_dup (pc' := 108) dX8_behind_107 rfl rfl ?_
              refine x_geti (pc' := 111) dX8_behind_108 rfl lfX8_219 kd_94 rfl ?_
              refine x_aload_n (pc' := 112) dX8_behind_111 rfl rfl rfl ?_
              refine x_geti (pc' := 115) dX8_behind_112 rfl lfX8_219 kd_94 rfl ?_
              refine x_if_le (pc' := 118) (tgt := 122) dX8_behind_115 (by decide) rfl (fun hc => ?_) (fun hc => ?_)
              · replace h := h.1 hc
                refine x_iconst (pc' := 123) (v := 0) dX8_behind_122 rfl (by decide) ?_
                refine x_isub (pc' := 124) dX8_behind_123 rfl ?_
                refine x_puti (pc' := 127) dX8_behind_124 rfl lfX8_219 kd_94 rfl rfl rfl ?_
                obtain ⟨τ11, eτ11⟩ : ∃ τ : Mem, τ = (w1 τ10 94 16 ((τ10.1 94 16) - 0)) := ⟨_, rfl⟩
                show X none (d + 2) mX8_behind 127 [.ref 94, .int u2] [] (w1 τ10 94 16 ((τ10.1 94 16) - 0)) _
                rw [← eτ11]
                replace h := h τ11 eτ11
                refine x_aload_n (pc' := 128) dX8_behind_127 rfl rfl rfl ?_
                refine x_callV (pc' := 131) (As := []) dX8_behind_128 rfl lmX8_226 kd_94 rfl rfl (Nat.le_of_ble_eq_true rfl) (Nat.le_of_ble_eq_true rfl) ?_
                show X none (d + 1) mX8_notes 0 [.ref 94] [] τ11 _
                refine X.mono h ?_
                rintro r τ12 ⟨rfl, h⟩
                show X none (d + 2) mX8_behind 131 [.ref 94, .int u2] [] τ12 _
                refine x_goto (pc' := 136) dX8_behind_131 (by decide) ?_
                refine x_aload_n (pc' := 137) dX8_behind_136 rfl rfl rfl ?_
                refine x_dup (pc' := 138) dX8_behind_137 rfl rfl ?_
                refine x_geti (pc' := 141) dX8_behind_138 rfl lfX8_191 kd_94 rfl ?_
                refine x_iconst (pc' := 142) (v := 1) dX8_behind_141 rfl (by decide) ?_
                refine x_iadd (pc' := 143) dX8_behind_142 rfl ?_
                refine x_puti (pc' := 146) dX8_behind_143 rfl lfX8_191 kd_94 rfl rfl rfl ?_
                obtain ⟨τ13, eτ13⟩ : ∃ τ : Mem, τ = (w1 τ12 94 13 ((τ12.1 94 13) + 1)) := ⟨_, rfl⟩
                show X none (d + 2) mX8_behind 146 [.ref 94, .int u2] [] (w1 τ12 94 13 ((τ12.1 94 13) + 1)) _
                rw [← eτ13]
                replace h := h τ13 eτ13
                refine x_iload_n (pc' := 147) dX8_behind_146 rfl rfl rfl ?_
                refine x_bipush (pc' := 149) (v := 59) dX8_behind_147 rfl (by decide) ?_
                refine x_icmp_ne (pc' := 152) (tgt := 156) dX8_behind_149 (by decide) rfl (fun hc => ?_) (fun hc => ?_)
                · replace h := h.1 hc
                  refine x_iload_n (pc' := 157) dX8_behind_156 rfl rfl rfl ?_
                  refine x_bipush (pc' := 159) (v := 41) dX8_behind_157 rfl (by decide) ?_
                  refine x_icmp_ne (pc' := 162) (tgt := 166) dX8_behind_159 (by decide) rfl (fun hc => ?_) (fun hc => ?_)
                  · replace h := h.1 hc
                    refine x_iconst (pc' := 167) (v := 2) dX8_behind_166 rfl (by decide) ?_
                    exact x_iret dX8_behind_167 rfl rfl h
                  · replace h := h.2 hc
                    refine x_iconst (pc' := 163) (v := 1) dX8_behind_162 rfl (by decide) ?_
                    refine x_goto (pc' := 167) dX8_behind_163 (by decide) ?_
                    exact x_iret dX8_behind_167 rfl rfl h
                · replace h := h.2 hc
                  refine x_iconst (pc' := 153) (v := 3) dX8_behind_152 rfl (by decide) ?_
                  refine x_goto (pc' := 167) dX8_behind_153 (by decide) ?_
                  exact x_iret dX8_behind_167 rfl rfl h
              · replace h := h.2 hc
                refine x_iconst (pc' := 119) (v := 1) dX8_behind_118 rfl (by decide) ?_
                refine x_goto (pc' := 123) dX8_behind_119 (by decide) ?_
                refine x_isub (pc' := 124) dX8_behind_123 rfl ?_
                refine x_puti (pc' := 127) dX8_behind_124 rfl lfX8_219 kd_94 rfl rfl rfl ?_
                obtain ⟨τ14, eτ14⟩ : ∃ τ : Mem, τ = (w1 τ10 94 16 ((τ10.1 94 16) - 1)) := ⟨_, rfl⟩
                show X none (d + 2) mX8_behind 127 [.ref 94, .int u2] [] (w1 τ10 94 16 ((τ10.1 94 16) - 1)) _
                rw [← eτ14]
                replace h := h τ14 eτ14
                refine x_aload_n (pc' := 128) dX8_behind_127 rfl rfl rfl ?_
                refine x_callV (pc' := 131) (As := []) dX8_behind_128 rfl lmX8_226 kd_94 rfl rfl (Nat.le_of_ble_eq_true rfl) (Nat.le_of_ble_eq_true rfl) ?_
                show X none (d + 1) mX8_notes 0 [.ref 94] [] τ14 _
                refine X.mono h ?_
                rintro r τ15 ⟨rfl, h⟩
                show X none (d + 2) mX8_behind 131 [.ref 94, .int u2] [] τ15 _
                refine x_goto (pc' := 136) dX8_behind_131 (by decide) ?_
                refine x_aload_n (pc' := 137) dX8_behind_136 rfl rfl rfl ?_
                refine x_dup (pc' := 138) dX8_behind_137 rfl rfl ?_
                refine x_geti (pc' := 141) dX8_behind_138 rfl lfX8_191 kd_94 rfl ?_
                refine x_iconst (pc' := 142) (v := 1) dX8_behind_141 rfl (by decide) ?_
                refine x_iadd (pc' := 143) dX8_behind_142 rfl ?_
                refine x_puti (pc' := 146) dX8_behind_143 rfl lfX8_191 kd_94 rfl rfl rfl ?_
                obtain ⟨τ16, eτ16⟩ : ∃ τ : Mem, τ = (w1 τ15 94 13 ((τ15.1 94 13) + 1)) := ⟨_, rfl⟩
                show X none (d + 2) mX8_behind 146 [.ref 94, .int u2] [] (w1 τ15 94 13 ((τ15.1 94 13) + 1)) _
                rw [← eτ16]
                replace h := h τ16 eτ16
                refine x_iload_n (pc' := 147) dX8_behind_146 rfl rfl rfl ?_
                refine x_bipush (pc' := 149) (v := 59) dX8_behind_147 rfl (by decide) ?_
                refine x_icmp_ne (pc' := 152) (tgt := 156) dX8_behind_149 (by decide) rfl (fun hc => ?_) (fun hc => ?_)
                · replace h := h.1 hc
                  refine x_iload_n (pc' := 157) dX8_behind_156 rfl rfl rfl ?_
                  refine x_bipush (pc' := 159) (v := 41) dX8_behind_157 rfl (by decide) ?_
                  refine x_icmp_ne (pc' := 162) (tgt := 166) dX8_behind_159 (by decide) rfl (fun hc => ?_) (fun hc => ?_)
                  · replace h := h.1 hc
                    refine x_iconst (pc' := 167) (v := 2) dX8_behind_166 rfl (by decide) ?_
                    exact x_iret dX8_behind_167 rfl rfl h
                  · replace h := h.2 hc
                    refine x_iconst (pc' := 163) (v := 1) dX8_behind_162 rfl (by decide) ?_
                    refine x_goto (pc' := 167) dX8_behind_163 (by decide) ?_
                    exact x_iret dX8_behind_167 rfl rfl h
                · replace h := h.2 hc
                  refine x_iconst (pc' := 153) (v := 3) dX8_behind_152 rfl (by decide) ?_
                  refine x_goto (pc' := 167) dX8_behind_153 (by decide) ?_
                  exact x_iret dX8_behind_167 rfl rfl h
            · replace h := h.2 hc
              refine x_iconst (pc' := 97) (v := 1) dX8_behind_96 rfl (by decide) ?_
              refine x_goto (pc' := 101) dX8_behind_97 (by decide) ?_
              refine x_icmp_eq (pc' := 104) (tgt := 106) dX8_behind_101 (by decide) rfl (fun hc => absurd hc (by decide)) (fun _ => ?_)
              refine x_iconst (pc' := 105) (v := 0) dX8_behind_104 rfl (by decide) ?_
              exact x_iret dX8_behind_105 rfl rfl h
          · replace h := h.2 hc
            refine x_iconst (pc' := 86) (v := 1) dX8_behind_85 rfl (by decide) ?_
            refine x_goto (pc' := 90) dX8_behind_86 (by decide) ?_
            refine x_iload_n (pc' := 91) dX8_behind_90 rfl rfl rfl ?_
            refine x_bipush (pc' := 93) (v := 41) dX8_behind_91 rfl (by decide) ?_
            refine x_icmp_ne (pc' := 96) (tgt := 100) dX8_behind_93 (by decide) rfl (fun hc => ?_) (fun hc => ?_)
            · replace h := h.1 hc
              refine x_iconst (pc' := 101) (v := 0) dX8_behind_100 rfl (by decide) ?_
              refine x_icmp_eq (pc' := 104) (tgt := 106) dX8_behind_101 (by decide) rfl (fun hc => absurd hc (by decide)) (fun _ => ?_)
              refine x_iconst (pc' := 105) (v := 0) dX8_behind_104 rfl (by decide) ?_
              exact x_iret dX8_behind_105 rfl rfl h
            · replace h := h.2 hc
              refine x_iconst (pc' := 97) (v := 1) dX8_behind_96 rfl (by decide) ?_
              refine x_goto (pc' := 101) dX8_behind_97 (by decide) ?_
              refine x_icmp_eq (pc' := 104) (tgt := 106) dX8_behind_101 (by decide) rfl (fun _ => ?_) (fun hc => absurd hc (by decide))
              refine x_aload_n (pc' := 107) dX8_behind_106 rfl rfl rfl ?_
              refine x_dup (pc' := 108) dX8_behind_107 rfl rfl ?_
              refine x_geti (pc' := 111) dX8_behind_108 rfl lfX8_219 kd_94 rfl ?_
              refine x_aload_n (pc' := 112) dX8_behind_111 rfl rfl rfl ?_
              refine x_geti (pc' := 115) dX8_behind_112 rfl lfX8_219 kd_94 rfl ?_
              refine x_if_le (pc' := 118) (tgt := 122) dX8_behind_115 (by decide) rfl (fun hc => ?_) (fun hc => ?_)
              · replace h := h.1 hc
                refine x_iconst (pc' := 123) (v := 0) dX8_behind_122 rfl (by decide) ?_
                refine x_isub (pc' := 124) dX8_behind_123 rfl ?_
                refine x_puti (pc' := 127) dX8_behind_124 rfl lfX8_219 kd_94 rfl rfl rfl ?_
                obtain ⟨τ17, eτ17⟩ : ∃ τ : Mem, τ = (w1 τ10 94 16 ((τ10.1 94 16) - 0)) := ⟨_, rfl⟩
                show X none (d + 2) mX8_behind 127 [.ref 94, .int u2] [] (w1 τ10 94 16 ((τ10.1 94 16) - 0)) _
                rw [← eτ17]
                replace h := h τ17 eτ17
                refine x_aload_n (pc' := 128) dX8_behind_127 rfl rfl rfl ?_
                refine x_callV (pc' := 131) (As := []) dX8_behind_128 rfl lmX8_226 kd_94 rfl rfl (Nat.le_of_ble_eq_true rfl) (Nat.le_of_ble_eq_true rfl) ?_
                show X none (d + 1) mX8_notes 0 [.ref 94] [] τ17 _
                refine X.mono h ?_
                rintro r τ18 ⟨rfl, h⟩
                show X none (d + 2) mX8_behind 131 [.ref 94, .int u2] [] τ18 _
                refine x_goto (pc' := 136) dX8_behind_131 (by decide) ?_
                refine x_aload_n (pc' := 137) dX8_behind_136 rfl rfl rfl ?_
                refine x_dup (pc' := 138) dX8_behind_137 rfl rfl ?_
                refine x_geti (pc' := 141) dX8_behind_138 rfl lfX8_191 kd_94 rfl ?_
                refine x_iconst (pc' := 142) (v := 1) dX8_behind_141 rfl (by decide) ?_
                refine x_iadd (pc' := 143) dX8_behind_142 rfl ?_
                refine x_puti (pc' := 146) dX8_behind_143 rfl lfX8_191 kd_94 rfl rfl rfl ?_
                obtain ⟨τ19, eτ19⟩ : ∃ τ : Mem, τ = (w1 τ18 94 13 ((τ18.1 94 13) + 1)) := ⟨_, rfl⟩
                show X none (d + 2) mX8_behind 146 [.ref 94, .int u2] [] (w1 τ18 94 13 ((τ18.1 94 13) + 1)) _
                rw [← eτ19]
                replace h := h τ19 eτ19
                refine x_iload_n (pc' := 147) dX8_behind_146 rfl rfl rfl ?_
                refine x_bipush (pc' := 149) (v := 59) dX8_behind_147 rfl (by decide) ?_
                refine x_icmp_ne (pc' := 152) (tgt := 156) dX8_behind_149 (by decide) rfl (fun hc => ?_) (fun hc => ?_)
                · replace h := h.1 hc
                  refine x_iload_n (pc' := 157) dX8_behind_156 rfl rfl rfl ?_
                  refine x_bipush (pc' := 159) (v := 41) dX8_behind_157 rfl (by decide) ?_
                  refine x_icmp_ne (pc' := 162) (tgt := 166) dX8_behind_159 (by decide) rfl (fun hc => ?_) (fun hc => ?_)
                  · replace h := h.1 hc
                    refine x_iconst (pc' := 167) (v := 2) dX8_behind_166 rfl (by decide) ?_
                    exact x_iret dX8_behind_167 rfl rfl h
                  · replace h := h.2 hc
                    refine x_iconst (pc' := 163) (v := 1) dX8_behind_162 rfl (by decide) ?_
                    refine x_goto (pc' := 167) dX8_behind_163 (by decide) ?_
                    exact x_iret dX8_behind_167 rfl rfl h
                · replace h := h.2 hc
                  refine x_iconst (pc' := 153) (v := 3) dX8_behind_152 rfl (by decide) ?_
                  refine x_goto (pc' := 167) dX8_behind_153 (by decide) ?_
                  exact x_iret dX8_behind_167 rfl rfl h
              · replace h := h.2 hc
                refine x_iconst (pc' := 119) (v := 1) dX8_behind_118 rfl (by decide) ?_
                refine x_goto (pc' := 123) dX8_behind_119 (by decide) ?_
                refine x_isub (pc' := 124) dX8_behind_123 rfl ?_
                refine x_puti (pc' := 127) dX8_behind_124 rfl lfX8_219 kd_94 rfl rfl rfl ?_
                obtain ⟨τ20, eτ20⟩ : ∃ τ : Mem, τ = (w1 τ10 94 16 ((τ10.1 94 16) - 1)) := ⟨_, rfl⟩
                show X none (d + 2) mX8_behind 127 [.ref 94, .int u2] [] (w1 τ10 94 16 ((τ10.1 94 16) - 1)) _
                rw [← eτ20]
                replace h := h τ20 eτ20
                refine x_aload_n (pc' := 128) dX8_behind_127 rfl rfl rfl ?_
                refine x_callV (pc' := 131) (As := []) dX8_behind_128 rfl lmX8_226 kd_94 rfl rfl (Nat.le_of_ble_eq_true rfl) (Nat.le_of_ble_eq_true rfl) ?_
                show X none (d + 1) mX8_notes 0 [.ref 94] [] τ20 _
                refine X.mono h ?_
                rintro r τ21 ⟨rfl, h⟩
                show X none (d + 2) mX8_behind 131 [.ref 94, .int u2] [] τ21 _
                refine x_goto (pc' := 136) dX8_behind_131 (by decide) ?_
                refine x_aload_n (pc' := 137) dX8_behind_136 rfl rfl rfl ?_
                refine x_dup (pc' := 138) dX8_behind_137 rfl rfl ?_
                refine x_geti (pc' := 141) dX8_behind_138 rfl lfX8_191 kd_94 rfl ?_
                refine x_iconst (pc' := 142) (v := 1) dX8_behind_141 rfl (by decide) ?_
                refine x_iadd (pc' := 143) dX8_behind_142 rfl ?_
                refine x_puti (pc' := 146) dX8_behind_143 rfl lfX8_191 kd_94 rfl rfl rfl ?_
                obtain ⟨τ22, eτ22⟩ : ∃ τ : Mem, τ = (w1 τ21 94 13 ((τ21.1 94 13) + 1)) := ⟨_, rfl⟩
                show X none (d + 2) mX8_behind 146 [.ref 94, .int u2] [] (w1 τ21 94 13 ((τ21.1 94 13) + 1)) _
                rw [← eτ22]
                replace h := h τ22 eτ22
                refine x_iload_n (pc' := 147) dX8_behind_146 rfl rfl rfl ?_
                refine x_bipush (pc' := 149) (v := 59) dX8_behind_147 rfl (by decide) ?_
                refine x_icmp_ne (pc' := 152) (tgt := 156) dX8_behind_149 (by decide) rfl (fun hc => ?_) (fun hc => ?_)
                · replace h := h.1 hc
                  refine x_iload_n (pc' := 157) dX8_behind_156 rfl rfl rfl ?_
                  refine x_bipush (pc' := 159) (v := 41) dX8_behind_157 rfl (by decide) ?_
                  refine x_icmp_ne (pc' := 162) (tgt := 166) dX8_behind_159 (by decide) rfl (fun hc => ?_) (fun hc => ?_)
                  · replace h := h.1 hc
                    refine x_iconst (pc' := 167) (v := 2) dX8_behind_166 rfl (by decide) ?_
                    exact x_iret dX8_behind_167 rfl rfl h
                  · replace h := h.2 hc
                    refine x_iconst (pc' := 163) (v := 1) dX8_behind_162 rfl (by decide) ?_
                    refine x_goto (pc' := 167) dX8_behind_163 (by decide) ?_
                    exact x_iret dX8_behind_167 rfl rfl h
                · replace h := h.2 hc
                  refine x_iconst (pc' := 153) (v := 3) dX8_behind_152 rfl (by decide) ?_
                  refine x_goto (pc' := 167) dX8_behind_153 (by decide) ?_
                  exact x_iret dX8_behind_167 rfl rfl h
        · replace h := h.2 hc
          refine x_iload_n (pc' := 68) dX8_behind_67 rfl rfl rfl ?_
          refine x_bipush (pc' := 70) (v := 59) dX8_behind_68 rfl (by decide) ?_
          refine x_icmp_ne (pc' := 73) (tgt := 134) dX8_behind_70 (by decide) rfl (fun hc => ?_) (fun hc => ?_)
          · replace h := h.1 hc
            refine x_iconst (pc' := 135) (v := 0) dX8_behind_134 rfl (by decide) ?_
            exact x_iret dX8_behind_135 rfl rfl h
          · replace h := h.2 hc
            refine x_aload_n (pc' := 74) dX8_behind_73 rfl rfl rfl ?_
            refine x_iconst (pc' := 75) (v := 0) dX8_behind_74 rfl (by decide) ?_
            refine x_callV (pc' := 78) (As := [.int 0]) dX8_behind_75 rfl lmX8_235 kd_94 rfl rfl (Nat.le_of_ble_eq_true rfl) (Nat.le_of_ble_eq_true rfl) ?_
            show X none (d + 1) mX8_does 0 [.ref 94, .int 0] [] τ1 _
            refine X.mono h ?_
            rintro r τ23 ⟨rfl, h⟩
            show X none (d + 2) mX8_behind 78 [.ref 94, .int u2] [] τ23 _
            refine x_aload_n (pc' := 79) dX8_behind_78 rfl rfl rfl ?_
            refine x_geti (pc' := 82) dX8_behind_79 rfl lfX8_219 kd_94 rfl ?_
            refine x_if_le (pc' := 85) (tgt := 89) dX8_behind_82 (by decide) rfl (fun hc => ?_) (fun hc => ?_)
            · replace h := h.1 hc
              refine x_iconst (pc' := 90) (v := 0) dX8_behind_89 rfl (by decide) ?_
              refine x_iload_n (pc' := 91) dX8_behind_90 rfl rfl rfl ?_
              refine x_bipush (pc' := 93) (v := 41) dX8_behind_91 rfl (by decide) ?_
              refine x_icmp_ne (pc' := 96) (tgt := 100) dX8_behind_93 (by decide) rfl (fun hc => ?_) (fun hc => ?_)
              · replace h := h.1 hc
                refine x_iconst (pc' := 101) (v := 0) dX8_behind_100 rfl (by decide) ?_
                refine x_icmp_eq (pc' := 104) (tgt := 106) dX8_behind_101 (by decide) rfl (fun _ => ?_) (fun hc => absurd hc (by decide))
                refine x_aload_n (pc' := 107) dX8_behind_106 rfl rfl rfl ?_
                refine x_dup (pc' := 108) dX8_behind_107 rfl rfl ?_
                refine x_geti (pc' := 111) dX8_behind_108 rfl lfX8_219 kd_94 rfl ?_
                refine x_aload_n (pc' := 112) dX8_behind_111 rfl rfl rfl ?_
                refine x_geti (pc' := 115) dX8_behind_112 rfl lfX8_219 kd_94 rfl ?_
                refine x_if_le (pc' := 118) (tgt := 122) dX8_behind_115 (by decide) rfl (fun hc => ?_) (fun hc => ?_)
                · replace h := h.1 hc
                  refine x_iconst (pc' := 123) (v := 0) dX8_behind_122 rfl (by decide) ?_
                  refine x_isub (pc' := 124) dX8_behind_123 rfl ?_
                  refine x_puti (pc' := 127) dX8_behind_124 rfl lfX8_219 kd_94 rfl rfl rfl ?_
                  obtain ⟨τ24, eτ24⟩ : ∃ τ : Mem, τ = (w1 τ23 94 16 ((τ23.1 94 16) - 0)) := ⟨_, rfl⟩
                  show X none (d + 2) mX8_behind 127 [.ref 94, .int u2] [] (w1 τ23 94 16 ((τ23.1 94 16) - 0)) _
                  rw [← eτ24]
                  replace h := h τ24 eτ24
                  refine x_aload_n (pc' := 128) dX8_behind_127 rfl rfl rfl ?_
                  refine x_callV (pc' := 131) (As := []) dX8_behind_128 rfl lmX8_226 kd_94 rfl rfl (Nat.le_of_ble_eq_true rfl) (Nat.le_of_ble_eq_true rfl) ?_
                  show X none (d + 1) mX8_notes 0 [.ref 94] [] τ24 _
                  refine X.mono h ?_
                  rintro r τ25 ⟨rfl, h⟩
                  show X none (d + 2) mX8_behind 131 [.ref 94, .int u2] [] τ25 _
                  refine x_goto (pc' := 136) dX8_behind_131 (by decide) ?_
                  refine x_aload_n (pc' := 137) dX8_behind_136 rfl rfl rfl ?_
                  refine x_dup (pc' := 138) dX8_behind_137 rfl rfl ?_
                  refine x_geti (pc' := 141) dX8_behind_138 rfl lfX8_191 kd_94 rfl ?_
                  refine x_iconst (pc' := 142) (v := 1) dX8_behind_141 rfl (by decide) ?_
                  refine x_iadd (pc' := 143) dX8_behind_142 rfl ?_
                  refine x_puti (pc' := 146) dX8_behind_143 rfl lfX8_191 kd_94 rfl rfl rfl ?_
                  obtain ⟨τ26, eτ26⟩ : ∃ τ : Mem, τ = (w1 τ25 94 13 ((τ25.1 94 13) + 1)) := ⟨_, rfl⟩
                  show X none (d + 2) mX8_behind 146 [.ref 94, .int u2] [] (w1 τ25 94 13 ((τ25.1 94 13) + 1)) _
                  rw [← eτ26]
                  replace h := h τ26 eτ26
                  refine x_iload_n (pc' := 147) dX8_behind_146 rfl rfl rfl ?_
                  refine x_bipush (pc' := 149) (v := 59) dX8_behind_147 rfl (by decide) ?_
                  refine x_icmp_ne (pc' := 152) (tgt := 156) dX8_behind_149 (by decide) rfl (fun hc => ?_) (fun hc => ?_)
                  · replace h := h.1 hc
                    refine x_iload_n (pc' := 157) dX8_behind_156 rfl rfl rfl ?_
                    refine x_bipush (pc' := 159) (v := 41) dX8_behind_157 rfl (by decide) ?_
                    refine x_icmp_ne (pc' := 162) (tgt := 166) dX8_behind_159 (by decide) rfl (fun hc => ?_) (fun hc => ?_)
                    · replace h := h.1 hc
                      refine x_iconst (pc' := 167) (v := 2) dX8_behind_166 rfl (by decide) ?_
                      exact x_iret dX8_behind_167 rfl rfl h
                    · replace h := h.2 hc
                      refine x_iconst (pc' := 163) (v := 1) dX8_behind_162 rfl (by decide) ?_
                      refine x_goto (pc' := 167) dX8_behind_163 (by decide) ?_
                      exact x_iret dX8_behind_167 rfl rfl h
                  · replace h := h.2 hc
                    refine x_iconst (pc' := 153) (v := 3) dX8_behind_152 rfl (by decide) ?_
                    refine x_goto (pc' := 167) dX8_behind_153 (by decide) ?_
                    exact x_iret dX8_behind_167 rfl rfl h
                · replace h := h.2 hc
                  refine x_iconst (pc' := 119) (v := 1) dX8_behind_118 rfl (by decide) ?_
                  refine x_goto (pc' := 123) dX8_behind_119 (by decide) ?_
                  refine x_isub (pc' := 124) dX8_behind_123 rfl ?_
                  refine x_puti (pc' := 127) dX8_behind_124 rfl lfX8_219 kd_94 rfl rfl rfl ?_
                  obtain ⟨τ27, eτ27⟩ : ∃ τ : Mem, τ = (w1 τ23 94 16 ((τ23.1 94 16) - 1)) := ⟨_, rfl⟩
                  show X none (d + 2) mX8_behind 127 [.ref 94, .int u2] [] (w1 τ23 94 16 ((τ23.1 94 16) - 1)) _
                  rw [← eτ27]
                  replace h := h τ27 eτ27
                  refine x_aload_n (pc' := 128) dX8_behind_127 rfl rfl rfl ?_
                  refine x_callV (pc' := 131) (As := []) dX8_behind_128 rfl lmX8_226 kd_94 rfl rfl (Nat.le_of_ble_eq_true rfl) (Nat.le_of_ble_eq_true rfl) ?_
                  show X none (d + 1) mX8_notes 0 [.ref 94] [] τ27 _
                  refine X.mono h ?_
                  rintro r τ28 ⟨rfl, h⟩
                  show X none (d + 2) mX8_behind 131 [.ref 94, .int u2] [] τ28 _
                  refine x_goto (pc' := 136) dX8_behind_131 (by decide) ?_
                  refine x_aload_n (pc' := 137) dX8_behind_136 rfl rfl rfl ?_
                  refine x_dup (pc' := 138) dX8_behind_137 rfl rfl ?_
                  refine x_geti (pc' := 141) dX8_behind_138 rfl lfX8_191 kd_94 rfl ?_
                  refine x_iconst (pc' := 142) (v := 1) dX8_behind_141 rfl (by decide) ?_
                  refine x_iadd (pc' := 143) dX8_behind_142 rfl ?_
                  refine x_puti (pc' := 146) dX8_behind_143 rfl lfX8_191 kd_94 rfl rfl rfl ?_
                  obtain ⟨τ29, eτ29⟩ : ∃ τ : Mem, τ = (w1 τ28 94 13 ((τ28.1 94 13) + 1)) := ⟨_, rfl⟩
                  show X none (d + 2) mX8_behind 146 [.ref 94, .int u2] [] (w1 τ28 94 13 ((τ28.1 94 13) + 1)) _
                  rw [← eτ29]
                  replace h := h τ29 eτ29
                  refine x_iload_n (pc' := 147) dX8_behind_146 rfl rfl rfl ?_
                  refine x_bipush (pc' := 149) (v := 59) dX8_behind_147 rfl (by decide) ?_
                  refine x_icmp_ne (pc' := 152) (tgt := 156) dX8_behind_149 (by decide) rfl (fun hc => ?_) (fun hc => ?_)
                  · replace h := h.1 hc
                    refine x_iload_n (pc' := 157) dX8_behind_156 rfl rfl rfl ?_
                    refine x_bipush (pc' := 159) (v := 41) dX8_behind_157 rfl (by decide) ?_
                    refine x_icmp_ne (pc' := 162) (tgt := 166) dX8_behind_159 (by decide) rfl (fun hc => ?_) (fun hc => ?_)
                    · replace h := h.1 hc
                      refine x_iconst (pc' := 167) (v := 2) dX8_behind_166 rfl (by decide) ?_
                      exact x_iret dX8_behind_167 rfl rfl h
                    · replace h := h.2 hc
                      refine x_iconst (pc' := 163) (v := 1) dX8_behind_162 rfl (by decide) ?_
                      refine x_goto (pc' := 167) dX8_behind_163 (by decide) ?_
                      exact x_iret dX8_behind_167 rfl rfl h
                  · replace h := h.2 hc
                    refine x_iconst (pc' := 153) (v := 3) dX8_behind_152 rfl (by decide) ?_
                    refine x_goto (pc' := 167) dX8_behind_153 (by decide) ?_
                    exact x_iret dX8_behind_167 rfl rfl h
              · replace h := h.2 hc
                refine x_iconst (pc' := 97) (v := 1) dX8_behind_96 rfl (by decide) ?_
                refine x_goto (pc' := 101) dX8_behind_97 (by decide) ?_
                refine x_icmp_eq (pc' := 104) (tgt := 106) dX8_behind_101 (by decide) rfl (fun hc => absurd hc (by decide)) (fun _ => ?_)
                refine x_iconst (pc' := 105) (v := 0) dX8_behind_104 rfl (by decide) ?_
                exact x_iret dX8_behind_105 rfl rfl h
            · replace h := h.2 hc
              refine x_iconst (pc' := 86) (v := 1) dX8_behind_85 rfl (by decide) ?_
              refine x_goto (pc' := 90) dX8_behind_86 (by decide) ?_
              refine x_iload_n (pc' := 91) dX8_behind_90 rfl rfl rfl ?_
              refine x_bipush (pc' := 93) (v := 41) dX8_behind_91 rfl (by decide) ?_
              refine x_icmp_ne (pc' := 96) (tgt := 100) dX8_behind_93 (by decide) rfl (fun hc => ?_) (fun hc => ?_)
              · replace h := h.1 hc
                refine x_iconst (pc' := 101) (v := 0) dX8_behind_100 rfl (by decide) ?_
                refine x_icmp_eq (pc' := 104) (tgt := 106) dX8_behind_101 (by decide) rfl (fun hc => absurd hc (by decide)) (fun _ => ?_)
                refine x_iconst (pc' := 105) (v := 0) dX8_behind_104 rfl (by decide) ?_
                exact x_iret dX8_behind_105 rfl rfl h
              · replace h := h.2 hc
                refine x_iconst (pc' := 97) (v := 1) dX8_behind_96 rfl (by decide) ?_
                refine x_goto (pc' := 101) dX8_behind_97 (by decide) ?_
                refine x_icmp_eq (pc' := 104) (tgt := 106) dX8_behind_101 (by decide) rfl (fun _ => ?_) (fun hc => absurd hc (by decide))
                refine x_aload_n (pc' := 107) dX8_behind_106 rfl rfl rfl ?_
                refine x_dup (pc' := 108) dX8_behind_107 rfl rfl ?_
                refine x_geti (pc' := 111) dX8_behind_108 rfl lfX8_219 kd_94 rfl ?_
                refine x_aload_n (pc' := 112) dX8_behind_111 rfl rfl rfl ?_
                refine x_geti (pc' := 115) dX8_behind_112 rfl lfX8_219 kd_94 rfl ?_
                refine x_if_le (pc' := 118) (tgt := 122) dX8_behind_115 (by decide) rfl (fun hc => ?_) (fun hc => ?_)
                · replace h := h.1 hc
                  refine x_iconst (pc' := 123) (v := 0) dX8_behind_122 rfl (by decide) ?_
                  refine x_isub (pc' := 124) dX8_behind_123 rfl ?_
                  refine x_puti (pc' := 127) dX8_behind_124 rfl lfX8_219 kd_94 rfl rfl rfl ?_
                  obtain ⟨τ30, eτ30⟩ : ∃ τ : Mem, τ = (w1 τ23 94 16 ((τ23.1 94 16) - 0)) := ⟨_, rfl⟩
                  show X none (d + 2) mX8_behind 127 [.ref 94, .int u2] [] (w1 τ23 94 16 ((τ23.1 94 16) - 0)) _
                  rw [← eτ30]
                  replace h := h τ30 eτ30
                  refine x_aload_n (pc' := 128) dX8_behind_127 rfl rfl rfl ?_
                  refine x_callV (pc' := 131) (As := []) dX8_behind_128 rfl lmX8_226 kd_94 rfl rfl (Nat.le_of_ble_eq_true rfl) (Nat.le_of_ble_eq_true rfl) ?_
                  show X none (d + 1) mX8_notes 0 [.ref 94] [] τ30 _
                  refine X.mono h ?_
                  rintro r τ31 ⟨rfl, h⟩
                  show X none (d + 2) mX8_behind 131 [.ref 94, .int u2] [] τ31 _
                  refine x_goto (pc' := 136) dX8_behind_131 (by decide) ?_
                  refine x_aload_n (pc' := 137) dX8_behind_136 rfl rfl rfl ?_
                  refine x_dup (pc' := 138) dX8_behind_137 rfl rfl ?_
                  refine x_geti (pc' := 141) dX8_behind_138 rfl lfX8_191 kd_94 rfl ?_
                  refine x_iconst (pc' := 142) (v := 1) dX8_behind_141 rfl (by decide) ?_
                  refine x_iadd (pc' := 143) dX8_behind_142 rfl ?_
                  refine x_puti (pc' := 146) dX8_behind_143 rfl lfX8_191 kd_94 rfl rfl rfl ?_
                  obtain ⟨τ32, eτ32⟩ : ∃ τ : Mem, τ = (w1 τ31 94 13 ((τ31.1 94 13) + 1)) := ⟨_, rfl⟩
                  show X none (d + 2) mX8_behind 146 [.ref 94, .int u2] [] (w1 τ31 94 13 ((τ31.1 94 13) + 1)) _
                  rw [← eτ32]
                  replace h := h τ32 eτ32
                  refine x_iload_n (pc' := 147) dX8_behind_146 rfl rfl rfl ?_
                  refine x_bipush (pc' := 149) (v := 59) dX8_behind_147 rfl (by decide) ?_
                  refine x_icmp_ne (pc' := 152) (tgt := 156) dX8_behind_149 (by decide) rfl (fun hc => ?_) (fun hc => ?_)
                  · replace h := h.1 hc
                    refine x_iload_n (pc' := 157) dX8_behind_156 rfl rfl rfl ?_
                    refine x_bipush (pc' := 159) (v := 41) dX8_behind_157 rfl (by decide) ?_
                    refine x_icmp_ne (pc' := 162) (tgt := 166) dX8_behind_159 (by decide) rfl (fun hc => ?_) (fun hc => ?_)
                    · replace h := h.1 hc
                      refine x_iconst (pc' := 167) (v := 2) dX8_behind_166 rfl (by decide) ?_
                      exact x_iret dX8_behind_167 rfl rfl h
                    · replace h := h.2 hc
                      refine x_iconst (pc' := 163) (v := 1) dX8_behind_162 rfl (by decide) ?_
                      refine x_goto (pc' := 167) dX8_behind_163 (by decide) ?_
                      exact x_iret dX8_behind_167 rfl rfl h
                  · replace h := h.2 hc
                    refine x_iconst (pc' := 153) (v := 3) dX8_behind_152 rfl (by decide) ?_
                    refine x_goto (pc' := 167) dX8_behind_153 (by decide) ?_
                    exact x_iret dX8_behind_167 rfl rfl h
                · replace h := h.2 hc
                  refine x_iconst (pc' := 119) (v := 1) dX8_behind_118 rfl (by decide) ?_
                  refine x_goto (pc' := 123) dX8_behind_119 (by decide) ?_
                  refine x_isub (pc' := 124) dX8_behind_123 rfl ?_
                  refine x_puti (pc' := 127) dX8_behind_124 rfl lfX8_219 kd_94 rfl rfl rfl ?_
                  obtain ⟨τ33, eτ33⟩ : ∃ τ : Mem, τ = (w1 τ23 94 16 ((τ23.1 94 16) - 1)) := ⟨_, rfl⟩
                  show X none (d + 2) mX8_behind 127 [.ref 94, .int u2] [] (w1 τ23 94 16 ((τ23.1 94 16) - 1)) _
                  rw [← eτ33]
                  replace h := h τ33 eτ33
                  refine x_aload_n (pc' := 128) dX8_behind_127 rfl rfl rfl ?_
                  refine x_callV (pc' := 131) (As := []) dX8_behind_128 rfl lmX8_226 kd_94 rfl rfl (Nat.le_of_ble_eq_true rfl) (Nat.le_of_ble_eq_true rfl) ?_
                  show X none (d + 1) mX8_notes 0 [.ref 94] [] τ33 _
                  refine X.mono h ?_
                  rintro r τ34 ⟨rfl, h⟩
                  show X none (d + 2) mX8_behind 131 [.ref 94, .int u2] [] τ34 _
                  refine x_goto (pc' := 136) dX8_behind_131 (by decide) ?_
                  refine x_aload_n (pc' := 137) dX8_behind_136 rfl rfl rfl ?_
                  refine x_dup (pc' := 138) dX8_behind_137 rfl rfl ?_
                  refine x_geti (pc' := 141) dX8_behind_138 rfl lfX8_191 kd_94 rfl ?_
                  refine x_iconst (pc' := 142) (v := 1) dX8_behind_141 rfl (by decide) ?_
                  refine x_iadd (pc' := 143) dX8_behind_142 rfl ?_
                  refine x_puti (pc' := 146) dX8_behind_143 rfl lfX8_191 kd_94 rfl rfl rfl ?_
                  obtain ⟨τ35, eτ35⟩ : ∃ τ : Mem, τ = (w1 τ34 94 13 ((τ34.1 94 13) + 1)) := ⟨_, rfl⟩
                  show X none (d + 2) mX8_behind 146 [.ref 94, .int u2] [] (w1 τ34 94 13 ((τ34.1 94 13) + 1)) _
                  rw [← eτ35]
                  replace h := h τ35 eτ35
                  refine x_iload_n (pc' := 147) dX8_behind_146 rfl rfl rfl ?_
                  refine x_bipush (pc' := 149) (v := 59) dX8_behind_147 rfl (by decide) ?_
                  refine x_icmp_ne (pc' := 152) (tgt := 156) dX8_behind_149 (by decide) rfl (fun hc => ?_) (fun hc => ?_)
                  · replace h := h.1 hc
                    refine x_iload_n (pc' := 157) dX8_behind_156 rfl rfl rfl ?_
                    refine x_bipush (pc' := 159) (v := 41) dX8_behind_157 rfl (by decide) ?_
                    refine x_icmp_ne (pc' := 162) (tgt := 166) dX8_behind_159 (by decide) rfl (fun hc => ?_) (fun hc => ?_)
                    · replace h := h.1 hc
                      refine x_iconst (pc' := 167) (v := 2) dX8_behind_166 rfl (by decide) ?_
                      exact x_iret dX8_behind_167 rfl rfl h
                    · replace h := h.2 hc
                      refine x_iconst (pc' := 163) (v := 1) dX8_behind_162 rfl (by decide) ?_
                      refine x_goto (pc' := 167) dX8_behind_163 (by decide) ?_
                      exact x_iret dX8_behind_167 rfl rfl h
                  · replace h := h.2 hc
                    refine x_iconst (pc' := 153) (v := 3) dX8_behind_152 rfl (by decide) ?_
                    refine x_goto (pc' := 167) dX8_behind_153 (by decide) ?_
                    exact x_iret dX8_behind_167 rfl rfl h
      · replace h := h.2 hc
        refine x_aload_n (pc' := 38) dX8_behind_37 rfl rfl rfl ?_
        refine x_iconst (pc' := 39) (v := 0) dX8_behind_38 rfl (by decide) ?_
        refine x_callV (pc' := 42) (As := [.int 0]) dX8_behind_39 rfl lmX8_235 kd_94 rfl rfl (Nat.le_of_ble_eq_true rfl) (Nat.le_of_ble_eq_true rfl) ?_
        show X none (d + 1) mX8_does 0 [.ref 94, .int 0] [] τ1 _
        refine X.mono h ?_
        rintro r τ36 ⟨rfl, h⟩
        show X none (d + 2) mX8_behind 42 [.ref 94, .int u2] [] τ36 _
        refine x_aload_n (pc' := 43) dX8_behind_42 rfl rfl rfl ?_
        refine x_iload_n (pc' := 44) dX8_behind_43 rfl rfl rfl ?_
        refine x_bipush (pc' := 46) (v := 43) dX8_behind_44 rfl (by decide) ?_
        refine x_icmp_ne (pc' := 49) (tgt := 53) dX8_behind_46 (by decide) rfl (fun hc => ?_) (fun hc => ?_)
        · replace h := h.1 hc
          refine x_bipush (pc' := 55) (v := (-2)) dX8_behind_53 rfl (by decide) ?_
          refine x_callV (pc' := 58) (As := [.int (-2)]) dX8_behind_55 rfl lmX8_232 kd_94 rfl rfl (Nat.le_of_ble_eq_true rfl) (Nat.le_of_ble_eq_true rfl) ?_
          show X none (d + 1) mX8_opens 0 [.ref 94, .int (-2)] [] τ36 _
          refine x_aload_n (pc' := 1) dX8_opens_0 rfl rfl rfl ?_
          refine x_getr (pc' := 4) dX8_opens_1 rfl lfX8_36 kd_94 rfl rf_94_15 ?_
          refine x_aload_n (pc' := 5) dX8_opens_4 rfl rfl rfl ?_
          refine x_geti (pc' := 8) dX8_opens_5 rfl lfX8_219 kd_94 rfl ?_
          refine x_iload_n (pc' := 9) dX8_opens_8 rfl rfl rfl ?_
          obtain ⟨hb, h⟩ := h
          refine x_iast (pc' := 10) dX8_opens_9 rfl kd_101 (by rw [ln_101]; exact hb) ?_
          obtain ⟨τ37, eτ37⟩ : ∃ τ : Mem, τ = (w1 τ36 101 (τ36.1 94 16).toNatClampNeg (-2)) := ⟨_, rfl⟩
          show X none (d + 1) mX8_opens 10 [.ref 94, .int (-2)] [] (w1 τ36 101 (τ36.1 94 16).toNatClampNeg (-2)) _
          rw [← eτ37]
          replace h := h τ37 eτ37
          refine x_aload_n (pc' := 11) dX8_opens_10 rfl rfl rfl ?_
          refine x_dup (pc' := 12) dX8_opens_11 rfl rfl ?_
          refine x_geti (pc' := 15) dX8_opens_12 rfl lfX8_219 kd_94 rfl ?_
          refine x_iconst (pc' := 16) (v := 1) dX8_opens_15 rfl (by decide) ?_
          refine x_iadd (pc' := 17) dX8_opens_16 rfl ?_
          refine x_puti (pc' := 20) dX8_opens_17 rfl lfX8_219 kd_94 rfl rfl rfl ?_
          obtain ⟨τ38, eτ38⟩ : ∃ τ : Mem, τ = (w1 τ37 94 16 ((τ37.1 94 16) + 1)) := ⟨_, rfl⟩
          show X none (d + 1) mX8_opens 20 [.ref 94, .int (-2)] [] (w1 τ37 94 16 ((τ37.1 94 16) + 1)) _
          rw [← eτ38]
          replace h := h τ38 eτ38
          refine x_vret dX8_opens_20 rfl ?_
          show X none (d + 2) mX8_behind 58 [.ref 94, .int u2] [] τ38 _
          refine x_goto (pc' := 136) dX8_behind_58 (by decide) ?_
          refine x_aload_n (pc' := 137) dX8_behind_136 rfl rfl rfl ?_
          refine x_dup (pc' := 138) dX8_behind_137 rfl rfl ?_
          refine x_geti (pc' := 141) dX8_behind_138 rfl lfX8_191 kd_94 rfl ?_
          refine x_iconst (pc' := 142) (v := 1) dX8_behind_141 rfl (by decide) ?_
          refine x_iadd (pc' := 143) dX8_behind_142 rfl ?_
          refine x_puti (pc' := 146) dX8_behind_143 rfl lfX8_191 kd_94 rfl rfl rfl ?_
          obtain ⟨τ39, eτ39⟩ : ∃ τ : Mem, τ = (w1 τ38 94 13 ((τ38.1 94 13) + 1)) := ⟨_, rfl⟩
          show X none (d + 2) mX8_behind 146 [.ref 94, .int u2] [] (w1 τ38 94 13 ((τ38.1 94 13) + 1)) _
          rw [← eτ39]
          replace h := h τ39 eτ39
          refine x_iload_n (pc' := 147) dX8_behind_146 rfl rfl rfl ?_
          refine x_bipush (pc' := 149) (v := 59) dX8_behind_147 rfl (by decide) ?_
          refine x_icmp_ne (pc' := 152) (tgt := 156) dX8_behind_149 (by decide) rfl (fun hc => ?_) (fun hc => ?_)
          · replace h := h.1 hc
            refine x_iload_n (pc' := 157) dX8_behind_156 rfl rfl rfl ?_
            refine x_bipush (pc' := 159) (v := 41) dX8_behind_157 rfl (by decide) ?_
            refine x_icmp_ne (pc' := 162) (tgt := 166) dX8_behind_159 (by decide) rfl (fun hc => ?_) (fun hc => ?_)
            · replace h := h.1 hc
              refine x_iconst (pc' := 167) (v := 2) dX8_behind_166 rfl (by decide) ?_
              exact x_iret dX8_behind_167 rfl rfl h
            · replace h := h.2 hc
              refine x_iconst (pc' := 163) (v := 1) dX8_behind_162 rfl (by decide) ?_
              refine x_goto (pc' := 167) dX8_behind_163 (by decide) ?_
              exact x_iret dX8_behind_167 rfl rfl h
          · replace h := h.2 hc
            refine x_iconst (pc' := 153) (v := 3) dX8_behind_152 rfl (by decide) ?_
            refine x_goto (pc' := 167) dX8_behind_153 (by decide) ?_
            exact x_iret dX8_behind_167 rfl rfl h
        · replace h := h.2 hc
          refine x_iconst (pc' := 50) (v := (-1)) dX8_behind_49 rfl (by decide) ?_
          refine x_goto (pc' := 55) dX8_behind_50 (by decide) ?_
          refine x_callV (pc' := 58) (As := [.int (-1)]) dX8_behind_55 rfl lmX8_232 kd_94 rfl rfl (Nat.le_of_ble_eq_true rfl) (Nat.le_of_ble_eq_true rfl) ?_
          show X none (d + 1) mX8_opens 0 [.ref 94, .int (-1)] [] τ36 _
          refine x_aload_n (pc' := 1) dX8_opens_0 rfl rfl rfl ?_
          refine x_getr (pc' := 4) dX8_opens_1 rfl lfX8_36 kd_94 rfl rf_94_15 ?_
          refine x_aload_n (pc' := 5) dX8_opens_4 rfl rfl rfl ?_
          refine x_geti (pc' := 8) dX8_opens_5 rfl lfX8_219 kd_94 rfl ?_
          refine x_iload_n (pc' := 9) dX8_opens_8 rfl rfl rfl ?_
          obtain ⟨hb, h⟩ := h
          refine x_iast (pc' := 10) dX8_opens_9 rfl kd_101 (by rw [ln_101]; exact hb) ?_
          obtain ⟨τ40, eτ40⟩ : ∃ τ : Mem, τ = (w1 τ36 101 (τ36.1 94 16).toNatClampNeg (-1)) := ⟨_, rfl⟩
          show X none (d + 1) mX8_opens 10 [.ref 94, .int (-1)] [] (w1 τ36 101 (τ36.1 94 16).toNatClampNeg (-1)) _
          rw [← eτ40]
          replace h := h τ40 eτ40
          refine x_aload_n (pc' := 11) dX8_opens_10 rfl rfl rfl ?_
          refine x_dup (pc' := 12) dX8_opens_11 rfl rfl ?_
          refine x_geti (pc' := 15) dX8_opens_12 rfl lfX8_219 kd_94 rfl ?_
          refine x_iconst (pc' := 16) (v := 1) dX8_opens_15 rfl (by decide) ?_
          refine x_iadd (pc' := 17) dX8_opens_16 rfl ?_
          refine x_puti (pc' := 20) dX8_opens_17 rfl lfX8_219 kd_94 rfl rfl rfl ?_
          obtain ⟨τ41, eτ41⟩ : ∃ τ : Mem, τ = (w1 τ40 94 16 ((τ40.1 94 16) + 1)) := ⟨_, rfl⟩
          show X none (d + 1) mX8_opens 20 [.ref 94, .int (-1)] [] (w1 τ40 94 16 ((τ40.1 94 16) + 1)) _
          rw [← eτ41]
          replace h := h τ41 eτ41
          refine x_vret dX8_opens_20 rfl ?_
          show X none (d + 2) mX8_behind 58 [.ref 94, .int u2] [] τ41 _
          refine x_goto (pc' := 136) dX8_behind_58 (by decide) ?_
          refine x_aload_n (pc' := 137) dX8_behind_136 rfl rfl rfl ?_
          refine x_dup (pc' := 138) dX8_behind_137 rfl rfl ?_
          refine x_geti (pc' := 141) dX8_behind_138 rfl lfX8_191 kd_94 rfl ?_
          refine x_iconst (pc' := 142) (v := 1) dX8_behind_141 rfl (by decide) ?_
          refine x_iadd (pc' := 143) dX8_behind_142 rfl ?_
          refine x_puti (pc' := 146) dX8_behind_143 rfl lfX8_191 kd_94 rfl rfl rfl ?_
          obtain ⟨τ42, eτ42⟩ : ∃ τ : Mem, τ = (w1 τ41 94 13 ((τ41.1 94 13) + 1)) := ⟨_, rfl⟩
          show X none (d + 2) mX8_behind 146 [.ref 94, .int u2] [] (w1 τ41 94 13 ((τ41.1 94 13) + 1)) _
          rw [← eτ42]
          replace h := h τ42 eτ42
          refine x_iload_n (pc' := 147) dX8_behind_146 rfl rfl rfl ?_
          refine x_bipush (pc' := 149) (v := 59) dX8_behind_147 rfl (by decide) ?_
          refine x_icmp_ne (pc' := 152) (tgt := 156) dX8_behind_149 (by decide) rfl (fun hc => ?_) (fun hc => ?_)
          · replace h := h.1 hc
            refine x_iload_n (pc' := 157) dX8_behind_156 rfl rfl rfl ?_
            refine x_bipush (pc' := 159) (v := 41) dX8_behind_157 rfl (by decide) ?_
            refine x_icmp_ne (pc' := 162) (tgt := 166) dX8_behind_159 (by decide) rfl (fun hc => ?_) (fun hc => ?_)
            · replace h := h.1 hc
              refine x_iconst (pc' := 167) (v := 2) dX8_behind_166 rfl (by decide) ?_
              exact x_iret dX8_behind_167 rfl rfl h
            · replace h := h.2 hc
              refine x_iconst (pc' := 163) (v := 1) dX8_behind_162 rfl (by decide) ?_
              refine x_goto (pc' := 167) dX8_behind_163 (by decide) ?_
              exact x_iret dX8_behind_167 rfl rfl h
          · replace h := h.2 hc
            refine x_iconst (pc' := 153) (v := 3) dX8_behind_152 rfl (by decide) ?_
            refine x_goto (pc' := 167) dX8_behind_153 (by decide) ?_
            exact x_iret dX8_behind_167 rfl rfl h
  · replace h := h.2 hc
    refine x_aload_n (pc' := 12) dX8_behind_11 rfl rfl rfl ?_
    refine x_iconst (pc' := 13) (v := 1) dX8_behind_12 rfl (by decide) ?_
    refine x_callV (pc' := 16) (As := [.int 1]) dX8_behind_13 rfl lmX8_235 kd_94 rfl rfl (Nat.le_of_ble_eq_true rfl) (Nat.le_of_ble_eq_true rfl) ?_
    show X none (d + 1) mX8_does 0 [.ref 94, .int 1] [] τ1 _
    refine X.mono h ?_
    rintro r τ43 ⟨rfl, h⟩
    show X none (d + 2) mX8_behind 16 [.ref 94, .int u2] [] τ43 _
    refine x_aload_n (pc' := 17) dX8_behind_16 rfl rfl rfl ?_
    refine x_bipush (pc' := 19) (v := (-3)) dX8_behind_17 rfl (by decide) ?_
    refine x_callV (pc' := 22) (As := [.int (-3)]) dX8_behind_19 rfl lmX8_232 kd_94 rfl rfl (Nat.le_of_ble_eq_true rfl) (Nat.le_of_ble_eq_true rfl) ?_
    show X none (d + 1) mX8_opens 0 [.ref 94, .int (-3)] [] τ43 _
    refine x_aload_n (pc' := 1) dX8_opens_0 rfl rfl rfl ?_
    refine x_getr (pc' := 4) dX8_opens_1 rfl lfX8_36 kd_94 rfl rf_94_15 ?_
    refine x_aload_n (pc' := 5) dX8_opens_4 rfl rfl rfl ?_
    refine x_geti (pc' := 8) dX8_opens_5 rfl lfX8_219 kd_94 rfl ?_
    refine x_iload_n (pc' := 9) dX8_opens_8 rfl rfl rfl ?_
    obtain ⟨hb, h⟩ := h
    refine x_iast (pc' := 10) dX8_opens_9 rfl kd_101 (by rw [ln_101]; exact hb) ?_
    obtain ⟨τ44, eτ44⟩ : ∃ τ : Mem, τ = (w1 τ43 101 (τ43.1 94 16).toNatClampNeg (-3)) := ⟨_, rfl⟩
    show X none (d + 1) mX8_opens 10 [.ref 94, .int (-3)] [] (w1 τ43 101 (τ43.1 94 16).toNatClampNeg (-3)) _
    rw [← eτ44]
    replace h := h τ44 eτ44
    refine x_aload_n (pc' := 11) dX8_opens_10 rfl rfl rfl ?_
    refine x_dup (pc' := 12) dX8_opens_11 rfl rfl ?_
    refine x_geti (pc' := 15) dX8_opens_12 rfl lfX8_219 kd_94 rfl ?_
    refine x_iconst (pc' := 16) (v := 1) dX8_opens_15 rfl (by decide) ?_
    refine x_iadd (pc' := 17) dX8_opens_16 rfl ?_
    refine x_puti (pc' := 20) dX8_opens_17 rfl lfX8_219 kd_94 rfl rfl rfl ?_
    obtain ⟨τ45, eτ45⟩ : ∃ τ : Mem, τ = (w1 τ44 94 16 ((τ44.1 94 16) + 1)) := ⟨_, rfl⟩
    show X none (d + 1) mX8_opens 20 [.ref 94, .int (-3)] [] (w1 τ44 94 16 ((τ44.1 94 16) + 1)) _
    rw [← eτ45]
    replace h := h τ45 eτ45
    refine x_vret dX8_opens_20 rfl ?_
    show X none (d + 2) mX8_behind 22 [.ref 94, .int u2] [] τ45 _
    refine x_goto (pc' := 136) dX8_behind_22 (by decide) ?_
    refine x_aload_n (pc' := 137) dX8_behind_136 rfl rfl rfl ?_
    refine x_dup (pc' := 138) dX8_behind_137 rfl rfl ?_
    refine x_geti (pc' := 141) dX8_behind_138 rfl lfX8_191 kd_94 rfl ?_
    refine x_iconst (pc' := 142) (v := 1) dX8_behind_141 rfl (by decide) ?_
    refine x_iadd (pc' := 143) dX8_behind_142 rfl ?_
    refine x_puti (pc' := 146) dX8_behind_143 rfl lfX8_191 kd_94 rfl rfl rfl ?_
    obtain ⟨τ46, eτ46⟩ : ∃ τ : Mem, τ = (w1 τ45 94 13 ((τ45.1 94 13) + 1)) := ⟨_, rfl⟩
    show X none (d + 2) mX8_behind 146 [.ref 94, .int u2] [] (w1 τ45 94 13 ((τ45.1 94 13) + 1)) _
    rw [← eτ46]
    replace h := h τ46 eτ46
    refine x_iload_n (pc' := 147) dX8_behind_146 rfl rfl rfl ?_
    refine x_bipush (pc' := 149) (v := 59) dX8_behind_147 rfl (by decide) ?_
    refine x_icmp_ne (pc' := 152) (tgt := 156) dX8_behind_149 (by decide) rfl (fun hc => ?_) (fun hc => ?_)
    · replace h := h.1 hc
      refine x_iload_n (pc' := 157) dX8_behind_156 rfl rfl rfl ?_
      refine x_bipush (pc' := 159) (v := 41) dX8_behind_157 rfl (by decide) ?_
      refine x_icmp_ne (pc' := 162) (tgt := 166) dX8_behind_159 (by decide) rfl (fun hc => ?_) (fun hc => ?_)
      · replace h := h.1 hc
        refine x_iconst (pc' := 167) (v := 2) dX8_behind_166 rfl (by decide) ?_
        exact x_iret dX8_behind_167 rfl rfl h
      · replace h := h.2 hc
        refine x_iconst (pc' := 163) (v := 1) dX8_behind_162 rfl (by decide) ?_
        refine x_goto (pc' := 167) dX8_behind_163 (by decide) ?_
        exact x_iret dX8_behind_167 rfl rfl h
    · replace h := h.2 hc
      refine x_iconst (pc' := 153) (v := 3) dX8_behind_152 rfl (by decide) ?_
      refine x_goto (pc' := 167) dX8_behind_153 (by decide) ?_
      exact x_iret dX8_behind_167 rfl rfl h
set_option maxRecDepth 100000 in
set_option maxHeartbeats 4000000 in
theorem vX8_area_0 {d : Nat} {σ : Mem} {Q : Option Value → Mem → Prop} 
    (h : ((∀ τ1 : Mem, τ1 = (w1 σ 96 546 0) → ((∀ τ2 : Mem, τ2 = (w1 τ1 96 547 0) → (∀ τ3 : Mem, τ3 = (w1 τ2 94 13 0) → (∀ τ4 : Mem, τ4 = (w1 τ3 94 16 0) → X none (d + 5) mX8_area 30 [.ref 94, .int 2] [] τ4 Q))))))) :
    X none (d + 5) mX8_area 0 [.ref 94, Unk] [] σ Q := by
  refine x_aload_n (pc' := 1) dX8_area_0 rfl rfl rfl ?_
  refine x_getr (pc' := 4) dX8_area_1 rfl lfX8_13 kd_94 rfl rf_94_1 ?_
  refine x_sipush (pc' := 7) (v := 546) dX8_area_4 rfl (by decide) ?_
  refine x_iconst (pc' := 8) (v := 0) dX8_area_7 rfl (by decide) ?_
  refine x_iast (pc' := 9) dX8_area_8 rfl kd_96 (by rw [ln_96]; unfold vp_in; decide) ?_
  obtain ⟨τ1, eτ1⟩ : ∃ τ : Mem, τ = (w1 σ 96 546 0) := ⟨_, rfl⟩
  show X none (d + 5) mX8_area 9 [.ref 94, Unk] [] (w1 σ 96 546 0) _
  rw [← eτ1]
  replace h := h τ1 eτ1
  refine x_aload_n (pc' := 10) dX8_area_9 rfl rfl rfl ?_
  refine x_getr (pc' := 13) dX8_area_10 rfl lfX8_13 kd_94 rfl rf_94_1 ?_
  refine x_sipush (pc' := 16) (v := 547) dX8_area_13 rfl (by decide) ?_
  refine x_iconst (pc' := 17) (v := 0) dX8_area_16 rfl (by decide) ?_
  refine x_iast (pc' := 18) dX8_area_17 rfl kd_96 (by rw [ln_96]; unfold vp_in; decide) ?_
  obtain ⟨τ2, eτ2⟩ : ∃ τ : Mem, τ = (w1 τ1 96 547 0) := ⟨_, rfl⟩
  show X none (d + 5) mX8_area 18 [.ref 94, Unk] [] (w1 τ1 96 547 0) _
  rw [← eτ2]
  replace h := h τ2 eτ2
  refine x_aload_n (pc' := 19) dX8_area_18 rfl rfl rfl ?_
  refine x_iconst (pc' := 20) (v := 0) dX8_area_19 rfl (by decide) ?_
  refine x_puti (pc' := 23) dX8_area_20 rfl lfX8_191 kd_94 rfl rfl rfl ?_
  obtain ⟨τ3, eτ3⟩ : ∃ τ : Mem, τ = (w1 τ2 94 13 0) := ⟨_, rfl⟩
  show X none (d + 5) mX8_area 23 [.ref 94, Unk] [] (w1 τ2 94 13 0) _
  rw [← eτ3]
  replace h := h τ3 eτ3
  refine x_aload_n (pc' := 24) dX8_area_23 rfl rfl rfl ?_
  refine x_iconst (pc' := 25) (v := 0) dX8_area_24 rfl (by decide) ?_
  refine x_puti (pc' := 28) dX8_area_25 rfl lfX8_219 kd_94 rfl rfl rfl ?_
  obtain ⟨τ4, eτ4⟩ : ∃ τ : Mem, τ = (w1 τ3 94 16 0) := ⟨_, rfl⟩
  show X none (d + 5) mX8_area 28 [.ref 94, Unk] [] (w1 τ3 94 16 0) _
  rw [← eτ4]
  replace h := h τ4 eτ4
  refine x_iconst (pc' := 29) (v := 2) dX8_area_28 rfl (by decide) ?_
  refine x_istore_n (pc' := 30) dX8_area_29 rfl rfl (by decide) rfl (ls' := [.ref 94, .int 2]) rfl ?_
  exact h
set_option maxRecDepth 100000 in
set_option maxHeartbeats 4000000 in
theorem vX8_area_30 {d : Nat} {σ : Mem} {Q : Option Value → Mem → Prop} {x1 : Int32} 
    (h : ((x1 = 1 → ((¬ x1 = 2 → (X none (d + 4) mX8_behind 0 [.ref 94, Unk] [] σ (fun r τ1 => ∃ u2 : Int32, r = some (.int u2) ∧ X none (d + 5) mX8_area 30 [.ref 94, .int u2] [] τ1 Q))) ∧ (x1 = 2 → (X none (d + 4) mX8_spot 0 [.ref 94, Unk] [] σ (fun r τ3 => ∃ u4 : Int32, r = some (.int u4) ∧ X none (d + 5) mX8_area 30 [.ref 94, .int u4] [] τ3 Q))))) ∧ (¬ x1 = 1 → ((¬ x1 = 2 → ((x1 = 0 → Q (some (.int ((-10) - (σ.1 94 14)))) σ) ∧ (¬ x1 = 0 → (X none (d + 4) mX8_next 0 [.ref 94] [] σ (fun r τ5 => ∃ u6 : Int32, r = some (.int u6) ∧ ((u6 < 0 → (X none (d + 4) mX8_copyArea 0 [.ref 94, .int 546, .int 0, Unk] [] τ5 (fun r τ7 => r = none ∧ Q (some (.int (τ7.1 96 1))) τ7))) ∧ (¬ u6 < 0 → Q (some (.int ((-10) - (τ5.1 94 14)))) τ5))))))) ∧ (x1 = 2 → ((¬ x1 = 2 → (X none (d + 4) mX8_behind 0 [.ref 94, Unk] [] σ (fun r τ8 => ∃ u9 : Int32, r = some (.int u9) ∧ X none (d + 5) mX8_area 30 [.ref 94, .int u9] [] τ8 Q))) ∧ (x1 = 2 → (X none (d + 4) mX8_spot 0 [.ref 94, Unk] [] σ (fun r τ10 => ∃ u11 : Int32, r = some (.int u11) ∧ X none (d + 5) mX8_area 30 [.ref 94, .int u11] [] τ10 Q))))))))) :
    X none (d + 5) mX8_area 30 [.ref 94, .int x1] [] σ Q := by
  refine x_iload_n (pc' := 31) dX8_area_30 rfl rfl rfl ?_
  refine x_iconst (pc' := 32) (v := 1) dX8_area_31 rfl (by decide) ?_
  refine x_icmp_eq (pc' := 35) (tgt := 40) dX8_area_32 (by decide) rfl (fun hc => ?_) (fun hc => ?_)
  · replace h := h.1 hc
    refine x_iload_n (pc' := 41) dX8_area_40 rfl rfl rfl ?_
    refine x_iconst (pc' := 42) (v := 2) dX8_area_41 rfl (by decide) ?_
    refine x_icmp_ne (pc' := 45) (tgt := 52) dX8_area_42 (by decide) rfl (fun hc => ?_) (fun hc => ?_)
    · replace h := h.1 hc
      refine x_aload_n (pc' := 53) dX8_area_52 rfl rfl rfl ?_
      refine x_callV (pc' := 56) (As := []) dX8_area_53 rfl lmX8_242 kd_94 rfl rfl (Nat.le_of_ble_eq_true rfl) (Nat.le_of_ble_eq_true rfl) ?_
      show X none (d + 4) mX8_behind 0 [.ref 94, Unk] [] σ _
      refine X.mono h ?_
      rintro r τ1 ⟨u2, rfl, h⟩
      show X none (d + 5) mX8_area 56 [.ref 94, .int x1] [.int u2] τ1 _
      refine x_istore_n (pc' := 57) dX8_area_56 rfl rfl (by decide) rfl (ls' := [.ref 94, .int u2]) rfl ?_
      refine x_goto (pc' := 30) dX8_area_57 (by decide) ?_
      exact h
    · replace h := h.2 hc
      refine x_aload_n (pc' := 46) dX8_area_45 rfl rfl rfl ?_
      refine x_callV (pc' := 49) (As := []) dX8_area_46 rfl lmX8_239 kd_94 rfl rfl (Nat.le_of_ble_eq_true rfl) (Nat.le_of_ble_eq_true rfl) ?_
      show X none (d + 4) mX8_spot 0 [.ref 94, Unk] [] σ _
      refine X.mono h ?_
      rintro r τ3 ⟨u4, rfl, h⟩
      show X none (d + 5) mX8_area 49 [.ref 94, .int x1] [.int u4] τ3 _
      refine x_goto (pc' := 56) dX8_area_49 (by decide) ?_
      refine x_istore_n (pc' := 57) dX8_area_56 rfl rfl (by decide) rfl (ls' := [.ref 94, .int u4]) rfl ?_
      refine x_goto (pc' := 30) dX8_area_57 (by decide) ?_
      exact h
  · replace h := h.2 hc
    refine x_iload_n (pc' := 36) dX8_area_35 rfl rfl rfl ?_
    refine x_iconst (pc' := 37) (v := 2) dX8_area_36 rfl (by decide) ?_
    refine x_icmp_ne (pc' := 40) (tgt := 60) dX8_area_37 (by decide) rfl (fun hc => ?_) (fun hc => ?_)
    · replace h := h.1 hc
      refine x_iload_n (pc' := 61) dX8_area_60 rfl rfl rfl ?_
      refine x_if_eq (pc' := 64) (tgt := 71) dX8_area_61 (by decide) rfl (fun hc => ?_) (fun hc => ?_)
      · replace h := h.1 hc
        refine x_bipush (pc' := 73) (v := (-10)) dX8_area_71 rfl (by decide) ?_
        refine x_aload_n (pc' := 74) dX8_area_73 rfl rfl rfl ?_
        refine x_geti (pc' := 77) dX8_area_74 rfl lfX8_197 kd_94 rfl ?_
        refine x_isub (pc' := 78) dX8_area_77 rfl ?_
        exact x_iret dX8_area_78 rfl rfl h
      · replace h := h.2 hc
        refine x_aload_n (pc' := 65) dX8_area_64 rfl rfl rfl ?_
        refine x_callV (pc' := 68) (As := []) dX8_area_65 rfl lmX8_200 kd_94 rfl rfl (Nat.le_of_ble_eq_true rfl) (Nat.le_of_ble_eq_true rfl) ?_
        show X none (d + 4) mX8_next 0 [.ref 94] [] σ _
        refine X.mono h ?_
        rintro r τ5 ⟨u6, rfl, h⟩
        show X none (d + 5) mX8_area 68 [.ref 94, .int x1] [.int u6] τ5 _
        refine x_if_lt (pc' := 71) (tgt := 79) dX8_area_68 (by decide) rfl (fun hc => ?_) (fun hc => ?_)
        · replace h := h.1 hc
          refine x_aload_n (pc' := 80) dX8_area_79 rfl rfl rfl ?_
          refine x_sipush (pc' := 83) (v := 546) dX8_area_80 rfl (by decide) ?_
          refine x_iconst (pc' := 84) (v := 0) dX8_area_83 rfl (by decide) ?_
          refine x_callV (pc' := 87) (As := [.int 546, .int 0]) dX8_area_84 rfl lmX8_245 kd_94 rfl rfl (Nat.le_of_ble_eq_true rfl) (Nat.le_of_ble_eq_true rfl) ?_
          show X none (d + 4) mX8_copyArea 0 [.ref 94, .int 546, .int 0, Unk] [] τ5 _
          refine X.mono h ?_
          rintro r τ7 ⟨rfl, h⟩
          show X none (d + 5) mX8_area 87 [.ref 94, .int x1] [] τ7 _
          refine x_aload_n (pc' := 88) dX8_area_87 rfl rfl rfl ?_
          refine x_getr (pc' := 91) dX8_area_88 rfl lfX8_13 kd_94 rfl rf_94_1 ?_
          refine x_iconst (pc' := 92) (v := 1) dX8_area_91 rfl (by decide) ?_
          refine x_iald (pc' := 93) dX8_area_92 rfl kd_96 (by rw [ln_96]; unfold vp_in; decide) ?_
          show X none (d + 5) mX8_area 93 [.ref 94, .int x1] [.int (τ7.1 96 1)] τ7 _
          exact x_iret dX8_area_93 rfl rfl h
        · replace h := h.2 hc
          refine x_bipush (pc' := 73) (v := (-10)) dX8_area_71 rfl (by decide) ?_
          refine x_aload_n (pc' := 74) dX8_area_73 rfl rfl rfl ?_
          refine x_geti (pc' := 77) dX8_area_74 rfl lfX8_197 kd_94 rfl ?_
          refine x_isub (pc' := 78) dX8_area_77 rfl ?_
          exact x_iret dX8_area_78 rfl rfl h
    · replace h := h.2 hc
      refine x_iload_n (pc' := 41) dX8_area_40 rfl rfl rfl ?_
      refine x_iconst (pc' := 42) (v := 2) dX8_area_41 rfl (by decide) ?_
      refine x_icmp_ne (pc' := 45) (tgt := 52) dX8_area_42 (by decide) rfl (fun hc => ?_) (fun hc => ?_)
      · replace h := h.1 hc
        refine x_aload_n (pc' := 53) dX8_area_52 rfl rfl rfl ?_
        refine x_callV (pc' := 56) (As := []) dX8_area_53 rfl lmX8_242 kd_94 rfl rfl (Nat.le_of_ble_eq_true rfl) (Nat.le_of_ble_eq_true rfl) ?_
        show X none (d + 4) mX8_behind 0 [.ref 94, Unk] [] σ _
        refine X.mono h ?_
        rintro r τ8 ⟨u9, rfl, h⟩
        show X none (d + 5) mX8_area 56 [.ref 94, .int x1] [.int u9] τ8 _
        refine x_istore_n (pc' := 57) dX8_area_56 rfl rfl (by decide) rfl (ls' := [.ref 94, .int u9]) rfl ?_
        refine x_goto (pc' := 30) dX8_area_57 (by decide) ?_
        exact h
      · replace h := h.2 hc
        refine x_aload_n (pc' := 46) dX8_area_45 rfl rfl rfl ?_
        refine x_callV (pc' := 49) (As := []) dX8_area_46 rfl lmX8_239 kd_94 rfl rfl (Nat.le_of_ble_eq_true rfl) (Nat.le_of_ble_eq_true rfl) ?_
        show X none (d + 4) mX8_spot 0 [.ref 94, Unk] [] σ _
        refine X.mono h ?_
        rintro r τ10 ⟨u11, rfl, h⟩
        show X none (d + 5) mX8_area 49 [.ref 94, .int x1] [.int u11] τ10 _
        refine x_goto (pc' := 56) dX8_area_49 (by decide) ?_
        refine x_istore_n (pc' := 57) dX8_area_56 rfl rfl (by decide) rfl (ls' := [.ref 94, .int u11]) rfl ?_
        refine x_goto (pc' := 30) dX8_area_57 (by decide) ?_
        exact h
