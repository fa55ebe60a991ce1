set_option maxRecDepth 100000 in
set_option maxHeartbeats 4000000 in
theorem vX8_copy_0 {d : Nat} {σ : Mem} {Q : Option Value → Mem → Prop} {x1 x2 : Int32} 
    (h : X none d mX8_copy 2 [.ref 94, .int x1, .int x2, .int 0] [] σ Q) :
    X none d mX8_copy 0 [.ref 94, .int x1, .int x2, Unk] [] σ Q := by
  refine x_iconst (pc' := 1) (v := 0) dX8_copy_0 rfl (by decide) ?_
  refine x_istore_n (pc' := 2) dX8_copy_1 rfl rfl (by decide) rfl (ls' := [.ref 94, .int x1, .int x2, .int 0]) rfl ?_
  exact h
set_option maxRecDepth 100000 in
set_option maxHeartbeats 4000000 in
theorem vX8_copy_2 {d : Nat} {σ : Mem} {Q : Option Value → Mem → Prop} {x1 x2 x3 : Int32} 
    (h : ((678 ≤ x3 → Q (none) σ) ∧ (¬ 678 ≤ x3 → (vp_in (x1 + x3) 7458 ∧ (vp_in (x2 + x3) 7458 ∧ (∀ τ1 : Mem, τ1 = (w1 σ 95 (x2 + x3).toNatClampNeg (σ.1 95 (x1 + x3).toNatClampNeg)) → X none d mX8_copy 2 [.ref 94, .int x1, .int x2, .int (x3 + 1)] [] τ1 Q)))))) :
    X none d mX8_copy 2 [.ref 94, .int x1, .int x2, .int x3] [] σ Q := by
  refine x_iload_n (pc' := 3) dX8_copy_2 rfl rfl rfl ?_
  refine x_sipush (pc' := 6) (v := 678) dX8_copy_3 rfl (by decide) ?_
  refine x_icmp_ge (pc' := 9) (tgt := 31) dX8_copy_6 (by decide) rfl (fun hc => ?_) (fun hc => ?_)
  · replace h := h.1 hc
    exact x_vret dX8_copy_31 rfl h
  · replace h := h.2 hc
    refine x_aload_n (pc' := 10) dX8_copy_9 rfl rfl rfl ?_
    refine x_getr (pc' := 13) dX8_copy_10 rfl lfX8_7 kd_94 rfl rf_94_0 ?_
    refine x_iload_n (pc' := 14) dX8_copy_13 rfl rfl rfl ?_
    refine x_iload_n (pc' := 15) dX8_copy_14 rfl rfl rfl ?_
    refine x_iadd (pc' := 16) dX8_copy_15 rfl ?_
    refine x_aload_n (pc' := 17) dX8_copy_16 rfl rfl rfl ?_
    refine x_getr (pc' := 20) dX8_copy_17 rfl lfX8_7 kd_94 rfl rf_94_0 ?_
    refine x_iload_n (pc' := 21) dX8_copy_20 rfl rfl rfl ?_
    refine x_iload_n (pc' := 22) dX8_copy_21 rfl rfl rfl ?_
    refine x_iadd (pc' := 23) dX8_copy_22 rfl ?_
    obtain ⟨hb, h⟩ := h
    refine x_iald (pc' := 24) dX8_copy_23 rfl kd_95 (by rw [ln_95]; exact hb) ?_
    obtain ⟨hb, h⟩ := h
    refine x_iast (pc' := 25) dX8_copy_24 rfl kd_95 (by rw [ln_95]; exact hb) ?_
    obtain ⟨τ1, eτ1⟩ : ∃ τ : Mem, τ = (w1 σ 95 (x2 + x3).toNatClampNeg (σ.1 95 (x1 + x3).toNatClampNeg)) := ⟨_, rfl⟩
    show X none d mX8_copy 25 [.ref 94, .int x1, .int x2, .int x3] [] (w1 σ 95 (x2 + x3).toNatClampNeg (σ.1 95 (x1 + x3).toNatClampNeg)) _
    rw [← eτ1]
    replace h := h τ1 eτ1
    refine x_iinc (pc' := 28) (v := 1) dX8_copy_25 rfl (by decide) rfl rfl (by decide) (ls' := [.ref 94, .int x1, .int x2, .int (x3 + 1)]) rfl ?_
    refine x_goto (pc' := 2) dX8_copy_28 (by decide) ?_
    exact h
set_option maxRecDepth 100000 in
set_option maxHeartbeats 4000000 in
theorem vX8_copyArea_0 {d : Nat} {σ : Mem} {Q : Option Value → Mem → Prop} {x1 x2 : Int32} 
    (h : X none d mX8_copyArea 2 [.ref 94, .int x1, .int x2, .int 0] [] σ Q) :
    X none d mX8_copyArea 0 [.ref 94, .int x1, .int x2, Unk] [] σ Q := by
  refine x_iconst (pc' := 1) (v := 0) dX8_copyArea_0 rfl (by decide) ?_
  refine x_istore_n (pc' := 2) dX8_copyArea_1 rfl rfl (by decide) rfl (ls' := [.ref 94, .int x1, .int x2, .int 0]) rfl ?_
  exact h
set_option maxRecDepth 100000 in
set_option maxHeartbeats 4000000 in
theorem vX8_copyArea_2 {d : Nat} {σ : Mem} {Q : Option Value → Mem → Prop} {x1 x2 x3 : Int32} 
    (h : ((182 ≤ x3 → Q (none) σ) ∧ (¬ 182 ≤ x3 → (vp_in (x1 + x3) 728 ∧ (vp_in (x2 + x3) 728 ∧ (∀ τ1 : Mem, τ1 = (w1 σ 96 (x2 + x3).toNatClampNeg (σ.1 96 (x1 + x3).toNatClampNeg)) → X none d mX8_copyArea 2 [.ref 94, .int x1, .int x2, .int (x3 + 1)] [] τ1 Q)))))) :
    X none d mX8_copyArea 2 [.ref 94, .int x1, .int x2, .int x3] [] σ Q := by
  refine x_iload_n (pc' := 3) dX8_copyArea_2 rfl rfl rfl ?_
  refine x_sipush (pc' := 6) (v := 182) dX8_copyArea_3 rfl (by decide) ?_
  refine x_icmp_ge (pc' := 9) (tgt := 31) dX8_copyArea_6 (by decide) rfl (fun hc => ?_) (fun hc => ?_)
  · replace h := h.1 hc
    exact x_vret dX8_copyArea_31 rfl h
  · replace h := h.2 hc
    refine x_aload_n (pc' := 10) dX8_copyArea_9 rfl rfl rfl ?_
    refine x_getr (pc' := 13) dX8_copyArea_10 rfl lfX8_13 kd_94 rfl rf_94_1 ?_
    refine x_iload_n (pc' := 14) dX8_copyArea_13 rfl rfl rfl ?_
    refine x_iload_n (pc' := 15) dX8_copyArea_14 rfl rfl rfl ?_
    refine x_iadd (pc' := 16) dX8_copyArea_15 rfl ?_
    refine x_aload_n (pc' := 17) dX8_copyArea_16 rfl rfl rfl ?_
    refine x_getr (pc' := 20) dX8_copyArea_17 rfl lfX8_13 kd_94 rfl rf_94_1 ?_
    refine x_iload_n (pc' := 21) dX8_copyArea_20 rfl rfl rfl ?_
    refine x_iload_n (pc' := 22) dX8_copyArea_21 rfl rfl rfl ?_
    refine x_iadd (pc' := 23) dX8_copyArea_22 rfl ?_
    obtain ⟨hb, h⟩ := h
    refine x_iald (pc' := 24) dX8_copyArea_23 rfl kd_96 (by rw [ln_96]; exact hb) ?_
    obtain ⟨hb, h⟩ := h
    refine x_iast (pc' := 25) dX8_copyArea_24 rfl kd_96 (by rw [ln_96]; exact hb) ?_
    obtain ⟨τ1, eτ1⟩ : ∃ τ : Mem, τ = (w1 σ 96 (x2 + x3).toNatClampNeg (σ.1 96 (x1 + x3).toNatClampNeg)) := ⟨_, rfl⟩
    show X none d mX8_copyArea 25 [.ref 94, .int x1, .int x2, .int x3] [] (w1 σ 96 (x2 + x3).toNatClampNeg (σ.1 96 (x1 + x3).toNatClampNeg)) _
    rw [← eτ1]
    replace h := h τ1 eτ1
    refine x_iinc (pc' := 28) (v := 1) dX8_copyArea_25 rfl (by decide) rfl rfl (by decide) (ls' := [.ref 94, .int x1, .int x2, .int (x3 + 1)]) rfl ?_
    refine x_goto (pc' := 2) dX8_copyArea_28 (by decide) ?_
    exact h
set_option maxRecDepth 100000 in
set_option maxHeartbeats 4000000 in
theorem vX8_find_0 {d : Nat} {σ : Mem} {Q : Option Value → Mem → Prop} {x1 : Int32} 
    (h : X none (d + 1) mX8_find 2 [.ref 94, .int x1, .int 0] [] σ Q) :
    X none (d + 1) mX8_find 0 [.ref 94, .int x1, Unk] [] σ Q := by
  refine x_iconst (pc' := 1) (v := 0) dX8_find_0 rfl (by decide) ?_
  refine x_istore_n (pc' := 2) dX8_find_1 rfl rfl (by decide) rfl (ls' := [.ref 94, .int x1, .int 0]) rfl ?_
  exact h
set_option maxRecDepth 100000 in
set_option maxHeartbeats 4000000 in
theorem vX8_find_2 {d : Nat} {σ : Mem} {Q : Option Value → Mem → Prop} {x1 x2 : Int32} 
    (h : (((σ.1 95 0) ≤ x2 → Q (some (.int (-1))) σ) ∧ (¬ (σ.1 95 0) ≤ x2 → (vp_in (6 + x2) 7458 ∧ ((¬ (σ.1 95 (6 + x2).toNatClampNeg) = x1 → X none (d + 1) mX8_find 2 [.ref 94, .int x1, .int (x2 + 1)] [] σ Q) ∧ ((σ.1 95 (6 + x2).toNatClampNeg) = x1 → (vp_in (494 + x2) 7458 ∧ ((¬ (σ.1 95 (494 + x2).toNatClampNeg) = 0 → X none (d + 1) mX8_find 2 [.ref 94, .int x1, .int (x2 + 1)] [] σ Q) ∧ ((σ.1 95 (494 + x2).toNatClampNeg) = 0 → Q (some (.int x2)) σ))))))))) :
    X none (d + 1) mX8_find 2 [.ref 94, .int x1, .int x2] [] σ Q := by
  refine x_iload_n (pc' := 3) dX8_find_2 rfl rfl rfl ?_
  refine x_aload_n (pc' := 4) dX8_find_3 rfl rfl rfl ?_
  refine x_getr (pc' := 7) dX8_find_4 rfl lfX8_7 kd_94 rfl rf_94_0 ?_
  refine x_iconst (pc' := 8) (v := 0) dX8_find_7 rfl (by decide) ?_
  refine x_iald (pc' := 9) dX8_find_8 rfl kd_95 (by rw [ln_95]; unfold vp_in; decide) ?_
  show X none (d + 1) mX8_find 9 [.ref 94, .int x1, .int x2] [.int (σ.1 95 0), .int x2] σ _
  refine x_icmp_ge (pc' := 12) (tgt := 41) dX8_find_9 (by decide) rfl (fun hc => ?_) (fun hc => ?_)
  · replace h := h.1 hc
    refine x_iconst (pc' := 42) (v := (-1)) dX8_find_41 rfl (by decide) ?_
    exact x_iret dX8_find_42 rfl rfl h
  · replace h := h.2 hc
    refine x_aload_n (pc' := 13) dX8_find_12 rfl rfl rfl ?_
    refine x_getr (pc' := 16) dX8_find_13 rfl lfX8_7 kd_94 rfl rf_94_0 ?_
    refine x_bipush (pc' := 18) (v := 6) dX8_find_16 rfl (by decide) ?_
    refine x_iload_n (pc' := 19) dX8_find_18 rfl rfl rfl ?_
    refine x_iadd (pc' := 20) dX8_find_19 rfl ?_
    obtain ⟨hb, h⟩ := h
    refine x_iald (pc' := 21) dX8_find_20 rfl kd_95 (by rw [ln_95]; exact hb) ?_
    refine x_iload_n (pc' := 22) dX8_find_21 rfl rfl rfl ?_
    refine x_icmp_ne (pc' := 25) (tgt := 35) dX8_find_22 (by decide) rfl (fun hc => ?_) (fun hc => ?_)
    · replace h := h.1 hc
      refine x_iinc (pc' := 38) (v := 1) dX8_find_35 rfl (by decide) rfl rfl (by decide) (ls' := [.ref 94, .int x1, .int (x2 + 1)]) rfl ?_
      refine x_goto (pc' := 2) dX8_find_38 (by decide) ?_
      exact h
    · replace h := h.2 hc
      refine x_aload_n (pc' := 26) dX8_find_25 rfl rfl rfl ?_
      refine x_iload_n (pc' := 27) dX8_find_26 rfl rfl rfl ?_
      refine x_callV (pc' := 30) (As := [.int x2]) dX8_find_27 rfl lmX8_57 kd_94 rfl rfl (Nat.le_of_ble_eq_true rfl) (Nat.le_of_ble_eq_true rfl) ?_
      show X none d mX8_isThere 0 [.ref 94, .int x2] [] σ _
      refine x_aload_n (pc' := 1) dX8_isThere_0 rfl rfl rfl ?_
      refine x_getr (pc' := 4) dX8_isThere_1 rfl lfX8_7 kd_94 rfl rf_94_0 ?_
      refine x_sipush (pc' := 7) (v := 494) dX8_isThere_4 rfl (by decide) ?_
      refine x_iload_n (pc' := 8) dX8_isThere_7 rfl rfl rfl ?_
      refine x_iadd (pc' := 9) dX8_isThere_8 rfl ?_
      obtain ⟨hb, h⟩ := h
      refine x_iald (pc' := 10) dX8_isThere_9 rfl kd_95 (by rw [ln_95]; exact hb) ?_
      refine x_if_ne (pc' := 13) (tgt := 17) dX8_isThere_10 (by decide) rfl (fun hc => ?_) (fun hc => ?_)
      · replace h := h.1 hc
        refine x_iconst (pc' := 18) (v := 0) dX8_isThere_17 rfl (by decide) ?_
        refine x_iret dX8_isThere_18 rfl rfl ?_
        show X none (d + 1) mX8_find 30 [.ref 94, .int x1, .int x2] [.int 0] σ _
        refine x_if_eq (pc' := 33) (tgt := 35) dX8_find_30 (by decide) rfl (fun _ => ?_) (fun hc => absurd hc (by decide))
        refine x_iinc (pc' := 38) (v := 1) dX8_find_35 rfl (by decide) rfl rfl (by decide) (ls' := [.ref 94, .int x1, .int (x2 + 1)]) rfl ?_
        refine x_goto (pc' := 2) dX8_find_38 (by decide) ?_
        exact h
      · replace h := h.2 hc
        refine x_iconst (pc' := 14) (v := 1) dX8_isThere_13 rfl (by decide) ?_
        refine x_goto (pc' := 18) dX8_isThere_14 (by decide) ?_
        refine x_iret dX8_isThere_18 rfl rfl ?_
        show X none (d + 1) mX8_find 30 [.ref 94, .int x1, .int x2] [.int 1] σ _
        refine x_if_eq (pc' := 33) (tgt := 35) dX8_find_30 (by decide) rfl (fun hc => absurd hc (by decide)) (fun _ => ?_)
        refine x_iload_n (pc' := 34) dX8_find_33 rfl rfl rfl ?_
        exact x_iret dX8_find_34 rfl rfl h
set_option maxRecDepth 100000 in
set_option maxHeartbeats 4000000 in
theorem vX8_counts_0 {d : Nat} {σ : Mem} {Q : Option Value → Mem → Prop} {x1 : Int32} 
    (h : (vp_in (372 + x1) 7458 ∧ (vp_in (250 + x1) 7458 ∧ (((σ.1 95 (250 + x1).toNatClampNeg) < 0 → (((σ.1 95 3).toInt < 1 ∨ 5 < (σ.1 95 3).toInt → Q (some (.int 1)) σ) ∧ ((σ.1 95 3).toInt = 1 → Q (some (.int (σ.1 95 (372 + x1).toNatClampNeg))) σ) ∧ ((σ.1 95 3).toInt = 2 → (vp_in (128 + x1) 7458 ∧ (vp_in (250 + x1) 7458 ∧ ((¬ (((σ.1 95 (128 + x1).toNatClampNeg) + (σ.1 95 (250 + x1).toNatClampNeg)) - ((σ.1 95 (128 + x1).toNatClampNeg) + (σ.1 95 (250 + x1).toNatClampNeg)) / 2 * 2) = 0 → Q (some (.int 0)) σ) ∧ ((((σ.1 95 (128 + x1).toNatClampNeg) + (σ.1 95 (250 + x1).toNatClampNeg)) - ((σ.1 95 (128 + x1).toNatClampNeg) + (σ.1 95 (250 + x1).toNatClampNeg)) / 2 * 2) = 0 → Q (some (.int 1)) σ))))) ∧ ((σ.1 95 3).toInt = 3 → Q (some (.int (2 * (σ.1 95 (372 + x1).toNatClampNeg)))) σ) ∧ ((σ.1 95 3).toInt = 4 → Q (some (.int 0)) σ) ∧ ((σ.1 95 3).toInt = 5 → (vp_in (6 + x1) 7458 ∧ Q (some (.int (0 + ((σ.1 95 (6 + x1).toNatClampNeg) - (σ.1 95 (6 + x1).toNatClampNeg) / 10 * 10)))) σ)))) ∧ (¬ (σ.1 95 (250 + x1).toNatClampNeg) < 0 → (((σ.1 95 3).toInt < 1 ∨ 5 < (σ.1 95 3).toInt → Q (some (.int 1)) σ) ∧ ((σ.1 95 3).toInt = 1 → Q (some (.int (σ.1 95 (372 + x1).toNatClampNeg))) σ) ∧ ((σ.1 95 3).toInt = 2 → (vp_in (128 + x1) 7458 ∧ (vp_in (250 + x1) 7458 ∧ ((¬ (((σ.1 95 (128 + x1).toNatClampNeg) + (σ.1 95 (250 + x1).toNatClampNeg)) - ((σ.1 95 (128 + x1).toNatClampNeg) + (σ.1 95 (250 + x1).toNatClampNeg)) / 2 * 2) = 0 → Q (some (.int 0)) σ) ∧ ((((σ.1 95 (128 + x1).toNatClampNeg) + (σ.1 95 (250 + x1).toNatClampNeg)) - ((σ.1 95 (128 + x1).toNatClampNeg) + (σ.1 95 (250 + x1).toNatClampNeg)) / 2 * 2) = 0 → Q (some (.int 1)) σ))))) ∧ ((σ.1 95 3).toInt = 3 → Q (some (.int (2 * (σ.1 95 (372 + x1).toNatClampNeg)))) σ) ∧ ((σ.1 95 3).toInt = 4 → Q (some (.int (σ.1 95 (372 + x1).toNatClampNeg))) σ) ∧ ((σ.1 95 3).toInt = 5 → (vp_in (6 + x1) 7458 ∧ Q (some (.int ((σ.1 95 (372 + x1).toNatClampNeg) + ((σ.1 95 (6 + x1).toNatClampNeg) - (σ.1 95 (6 + x1).toNatClampNeg) / 10 * 10)))) σ)))))))) :
    X none d mX8_counts 0 [.ref 94, .int x1, Unk, Unk] [] σ Q := by
  refine x_aload_n (pc' := 1) dX8_counts_0 rfl rfl rfl ?_
  refine x_getr (pc' := 4) dX8_counts_1 rfl lfX8_7 kd_94 rfl rf_94_0 ?_
  refine x_sipush (pc' := 7) (v := 372) dX8_counts_4 rfl (by decide) ?_
  refine x_iload_n (pc' := 8) dX8_counts_7 rfl rfl rfl ?_
  refine x_iadd (pc' := 9) dX8_counts_8 rfl ?_
  obtain ⟨hb, h⟩ := h
  refine x_iald (pc' := 10) dX8_counts_9 rfl kd_95 (by rw [ln_95]; exact hb) ?_
  refine x_istore_n (pc' := 11) dX8_counts_10 rfl rfl (by decide) rfl (ls' := [.ref 94, .int x1, .int (σ.1 95 (372 + x1).toNatClampNeg), Unk]) rfl ?_
  refine x_aload_n (pc' := 12) dX8_counts_11 rfl rfl rfl ?_
  refine x_getr (pc' := 15) dX8_counts_12 rfl lfX8_7 kd_94 rfl rf_94_0 ?_
  refine x_sipush (pc' := 18) (v := 250) dX8_counts_15 rfl (by decide) ?_
  refine x_iload_n (pc' := 19) dX8_counts_18 rfl rfl rfl ?_
  refine x_iadd (pc' := 20) dX8_counts_19 rfl ?_
  obtain ⟨hb, h⟩ := h
  refine x_iald (pc' := 21) dX8_counts_20 rfl kd_95 (by rw [ln_95]; exact hb) ?_
  refine x_if_lt (pc' := 24) (tgt := 28) dX8_counts_21 (by decide) rfl (fun hc => ?_) (fun hc => ?_)
  · replace h := h.1 hc
    refine x_iconst (pc' := 29) (v := 0) dX8_counts_28 rfl (by decide) ?_
    refine x_istore_n (pc' := 30) dX8_counts_29 rfl rfl (by decide) rfl (ls' := [.ref 94, .int x1, .int (σ.1 95 (372 + x1).toNatClampNeg), .int 0]) rfl ?_
    refine x_aload_n (pc' := 31) dX8_counts_30 rfl rfl rfl ?_
    refine x_getr (pc' := 34) dX8_counts_31 rfl lfX8_7 kd_94 rfl rf_94_0 ?_
    refine x_iconst (pc' := 35) (v := 3) dX8_counts_34 rfl (by decide) ?_
    refine x_iald (pc' := 36) dX8_counts_35 rfl kd_95 (by rw [ln_95]; unfold vp_in; decide) ?_
    show X none d mX8_counts 36 [.ref 94, .int x1, .int (σ.1 95 (372 + x1).toNatClampNeg), .int 0] [.int (σ.1 95 3)] σ _
    by_cases hc : (σ.1 95 3).toInt < 1 ∨ 5 < (σ.1 95 3).toInt
    · refine x_tblOut (pc' := 127) dX8_counts_36 hc (by decide) ?_
      replace h := h.1 hc
      refine x_iconst (pc' := 128) (v := 1) dX8_counts_127 rfl (by decide) ?_
      exact x_iret dX8_counts_128 rfl rfl h
    · replace h := h.2
      have hr : (σ.1 95 3).toInt = 1 ∨ (σ.1 95 3).toInt = 2 ∨ (σ.1 95 3).toInt = 3 ∨ (σ.1 95 3).toInt = 4 ∨ (σ.1 95 3).toInt = 5 := by omega
      rcases hr with hr | hr | hr | hr | hr
      · refine x_tblIn (pc' := 72) dX8_counts_36 (by omega) (by omega) (off := 36) (by rw [hr]; rfl) (by decide) ?_
        replace h := h.1 hr
        refine x_iload_n (pc' := 73) dX8_counts_72 rfl rfl rfl ?_
        exact x_iret dX8_counts_73 rfl rfl h
      · refine x_tblIn (pc' := 74) dX8_counts_36 (by omega) (by omega) (off := 38) (by rw [hr]; rfl) (by decide) ?_
        replace h := h.2.1 hr
        refine x_aload_n (pc' := 75) dX8_counts_74 rfl rfl rfl ?_
        refine x_getr (pc' := 78) dX8_counts_75 rfl lfX8_7 kd_94 rfl rf_94_0 ?_
        refine x_sipush (pc' := 81) (v := 128) dX8_counts_78 rfl (by decide) ?_
        refine x_iload_n (pc' := 82) dX8_counts_81 rfl rfl rfl ?_
        refine x_iadd (pc' := 83) dX8_counts_82 rfl ?_
        obtain ⟨hb, h⟩ := h
        refine x_iald (pc' := 84) dX8_counts_83 rfl kd_95 (by rw [ln_95]; exact hb) ?_
        refine x_aload_n (pc' := 85) dX8_counts_84 rfl rfl rfl ?_
        refine x_getr (pc' := 88) dX8_counts_85 rfl lfX8_7 kd_94 rfl rf_94_0 ?_
        refine x_sipush (pc' := 91) (v := 250) dX8_counts_88 rfl (by decide) ?_
        refine x_iload_n (pc' := 92) dX8_counts_91 rfl rfl rfl ?_
        refine x_iadd (pc' := 93) dX8_counts_92 rfl ?_
        obtain ⟨hb, h⟩ := h
        refine x_iald (pc' := 94) dX8_counts_93 rfl kd_95 (by rw [ln_95]; exact hb) ?_
        refine x_iadd (pc' := 95) dX8_counts_94 rfl ?_
        refine x_iconst (pc' := 96) (v := 2) dX8_counts_95 rfl (by decide) ?_
        refine x_irem (pc' := 97) dX8_counts_96 rfl (by decide) ?_
        refine x_if_ne (pc' := 100) (tgt := 104) dX8_counts_97 (by decide) rfl (fun hc => ?_) (fun hc => ?_)
        · replace h := h.1 hc
          refine x_iconst (pc' := 105) (v := 0) dX8_counts_104 rfl (by decide) ?_
          exact x_iret dX8_counts_105 rfl rfl h
        · replace h := h.2 hc
          refine x_iconst (pc' := 101) (v := 1) dX8_counts_100 rfl (by decide) ?_
          refine x_goto (pc' := 105) dX8_counts_101 (by decide) ?_
          exact x_iret dX8_counts_105 rfl rfl h
      · refine x_tblIn (pc' := 106) dX8_counts_36 (by omega) (by omega) (off := 70) (by rw [hr]; rfl) (by decide) ?_
        replace h := h.2.2.1 hr
        refine x_iconst (pc' := 107) (v := 2) dX8_counts_106 rfl (by decide) ?_
        refine x_iload_n (pc' := 108) dX8_counts_107 rfl rfl rfl ?_
        refine x_imul (pc' := 109) dX8_counts_108 rfl ?_
        exact x_iret dX8_counts_109 rfl rfl h
      · refine x_tblIn (pc' := 110) dX8_counts_36 (by omega) (by omega) (off := 74) (by rw [hr]; rfl) (by decide) ?_
        replace h := h.2.2.2.1 hr
        refine x_iload_n (pc' := 111) dX8_counts_110 rfl rfl rfl ?_
        exact x_iret dX8_counts_111 rfl rfl h
      · refine x_tblIn (pc' := 112) dX8_counts_36 (by omega) (by omega) (off := 76) (by rw [hr]; rfl) (by decide) ?_
        replace h := h.2.2.2.2 hr
        refine x_iload_n (pc' := 113) dX8_counts_112 rfl rfl rfl ?_
        refine x_aload_n (pc' := 114) dX8_counts_113 rfl rfl rfl ?_
        refine x_getr (pc' := 117) dX8_counts_114 rfl lfX8_7 kd_94 rfl rf_94_0 ?_
        refine x_bipush (pc' := 119) (v := 6) dX8_counts_117 rfl (by decide) ?_
        refine x_iload_n (pc' := 120) dX8_counts_119 rfl rfl rfl ?_
        refine x_iadd (pc' := 121) dX8_counts_120 rfl ?_
        obtain ⟨hb, h⟩ := h
        refine x_iald (pc' := 122) dX8_counts_121 rfl kd_95 (by rw [ln_95]; exact hb) ?_
        refine x_bipush (pc' := 124) (v := 10) dX8_counts_122 rfl (by decide) ?_
        refine x_irem (pc' := 125) dX8_counts_124 rfl (by decide) ?_
        refine x_iadd (pc' := 126) dX8_counts_125 rfl ?_
        exact x_iret dX8_counts_126 rfl rfl h
  · replace h := h.2 hc
    refine x_iload_n (pc' := 25) dX8_counts_24 rfl rfl rfl ?_
    refine x_goto (pc' := 29) dX8_counts_25 (by decide) ?_
    refine x_istore_n (pc' := 30) dX8_counts_29 rfl rfl (by decide) rfl (ls' := [.ref 94, .int x1, .int (σ.1 95 (372 + x1).toNatClampNeg), .int (σ.1 95 (372 + x1).toNatClampNeg)]) rfl ?_
    refine x_aload_n (pc' := 31) dX8_counts_30 rfl rfl rfl ?_
    refine x_getr (pc' := 34) dX8_counts_31 rfl lfX8_7 kd_94 rfl rf_94_0 ?_
    refine x_iconst (pc' := 35) (v := 3) dX8_counts_34 rfl (by decide) ?_
    refine x_iald (pc' := 36) dX8_counts_35 rfl kd_95 (by rw [ln_95]; unfold vp_in; decide) ?_
    show X none d mX8_counts 36 [.ref 94, .int x1, .int (σ.1 95 (372 + x1).toNatClampNeg), .int (σ.1 95 (372 + x1).toNatClampNeg)] [.int (σ.1 95 3)] σ _
    by_cases hc : (σ.1 95 3).toInt < 1 ∨ 5 < (σ.1 95 3).toInt
    · refine x_tblOut (pc' := 127) dX8_counts_36 hc (by decide) ?_
      replace h := h.1 hc
      refine x_iconst (pc' := 128) (v := 1) dX8_counts_127 rfl (by decide) ?_
      exact x_iret dX8_counts_128 rfl rfl h
    · replace h := h.2
      have hr : (σ.1 95 3).toInt = 1 ∨ (σ.1 95 3).toInt = 2 ∨ (σ.1 95 3).toInt = 3 ∨ (σ.1 95 3).toInt = 4 ∨ (σ.1 95 3).toInt = 5 := by omega
      rcases hr with hr | hr | hr | hr | hr
      · refine x_tblIn (pc' := 72) dX8_counts_36 (by omega) (by omega) (off := 36) (by rw [hr]; rfl) (by decide) ?_
        replace h := h.1 hr
        refine x_iload_n (pc' := 73) dX8_counts_72 rfl rfl rfl ?_
        exact x_iret dX8_counts_73 rfl rfl h
      · refine x_tblIn (pc' := 74) dX8_counts_36 (by omega) (by omega) (off := 38) (by rw [hr]; rfl) (by decide) ?_
        replace h := h.2.1 hr
        refine x_aload_n (pc' := 75) dX8_counts_74 rfl rfl rfl ?_
        refine x_getr (pc' := 78) dX8_counts_75 rfl lfX8_7 kd_94 rfl rf_94_0 ?_
        refine x_sipush (pc' := 81) (v := 128) dX8_counts_78 rfl (by decide) ?_
        refine x_iload_n (pc' := 82) dX8_counts_81 rfl rfl rfl ?_
        refine x_iadd (pc' := 83) dX8_counts_82 rfl ?_
        obtain ⟨hb, h⟩ := h
        refine x_iald (pc' := 84) dX8_counts_83 rfl kd_95 (by rw [ln_95]; exact hb) ?_
        refine x_aload_n (pc' := 85) dX8_counts_84 rfl rfl rfl ?_
        refine x_getr (pc' := 88) dX8_counts_85 rfl lfX8_7 kd_94 rfl rf_94_0 ?_
        refine x_sipush (pc' := 91) (v := 250) dX8_counts_88 rfl (by decide) ?_
        refine x_iload_n (pc' := 92) dX8_counts_91 rfl rfl rfl ?_
        refine x_iadd (pc' := 93) dX8_counts_92 rfl ?_
        obtain ⟨hb, h⟩ := h
        refine x_iald (pc' := 94) dX8_counts_93 rfl kd_95 (by rw [ln_95]; exact hb) ?_
        refine x_iadd (pc' := 95) dX8_counts_94 rfl ?_
        refine x_iconst (pc' := 96) (v := 2) dX8_counts_95 rfl (by decide) ?_
        refine x_irem (pc' := 97) dX8_counts_96 rfl (by decide) ?_
        refine x_if_ne (pc' := 100) (tgt := 104) dX8_counts_97 (by decide) rfl (fun hc => ?_) (fun hc => ?_)
        · replace h := h.1 hc
          refine x_iconst (pc' := 105) (v := 0) dX8_counts_104 rfl (by decide) ?_
          exact x_iret dX8_counts_105 rfl rfl h
        · replace h := h.2 hc
          refine x_iconst (pc' := 101) (v := 1) dX8_counts_100 rfl (by decide) ?_
          refine x_goto (pc' := 105) dX8_counts_101 (by decide) ?_
          exact x_iret dX8_counts_105 rfl rfl h
      · refine x_tblIn (pc' := 106) dX8_counts_36 (by omega) (by omega) (off := 70) (by rw [hr]; rfl) (by decide) ?_
        replace h := h.2.2.1 hr
        refine x_iconst (pc' := 107) (v := 2) dX8_counts_106 rfl (by decide) ?_
        refine x_iload_n (pc' := 108) dX8_counts_107 rfl rfl rfl ?_
        refine x_imul (pc' := 109) dX8_counts_108 rfl ?_
        exact x_iret dX8_counts_109 rfl rfl h
      · refine x_tblIn (pc' := 110) dX8_counts_36 (by omega) (by omega) (off := 74) (by rw [hr]; rfl) (by decide) ?_
        replace h := h.2.2.2.1 hr
        refine x_iload_n (pc' := 111) dX8_counts_110 rfl rfl rfl ?_
        exact x_iret dX8_counts_111 rfl rfl h
      · refine x_tblIn (pc' := 112) dX8_counts_36 (by omega) (by omega) (off := 76) (by rw [hr]; rfl) (by decide) ?_
        replace h := h.2.2.2.2 hr
        refine x_iload_n (pc' := 113) dX8_counts_112 rfl rfl rfl ?_
        refine x_aload_n (pc' := 114) dX8_counts_113 rfl rfl rfl ?_
        refine x_getr (pc' := 117) dX8_counts_114 rfl lfX8_7 kd_94 rfl rf_94_0 ?_
        refine x_bipush (pc' := 119) (v := 6) dX8_counts_117 rfl (by decide) ?_
        refine x_iload_n (pc' := 120) dX8_counts_119 rfl rfl rfl ?_
        refine x_iadd (pc' := 121) dX8_counts_120 rfl ?_
        obtain ⟨hb, h⟩ := h
        refine x_iald (pc' := 122) dX8_counts_121 rfl kd_95 (by rw [ln_95]; exact hb) ?_
        refine x_bipush (pc' := 124) (v := 10) dX8_counts_122 rfl (by decide) ?_
        refine x_irem (pc' := 125) dX8_counts_124 rfl (by decide) ?_
        refine x_iadd (pc' := 126) dX8_counts_125 rfl ?_
        exact x_iret dX8_counts_126 rfl rfl h
set_option maxRecDepth 100000 in
set_option maxHeartbeats 4000000 in
theorem vX8_minds_0 {d : Nat} {σ : Mem} {Q : Option Value → Mem → Prop} 
    (h : ((¬ (σ.1 94 2) = 8 → (X none d mX8_copy 0 [.ref 94, .int 0, .int (2034 + (678 * (σ.1 94 2))), Unk] [] σ (fun r τ1 => r = none ∧ (∀ τ2 : Mem, τ2 = (w1 τ1 94 2 ((τ1.1 94 2) + 1)) → Q (none) τ2)))) ∧ ((σ.1 94 2) = 8 → X none (d + 1) mX8_minds 11 [.ref 94, .int 0] [] σ Q))) :
    X none (d + 1) mX8_minds 0 [.ref 94, Unk] [] σ Q := by
  refine x_aload_n (pc' := 1) dX8_minds_0 rfl rfl rfl ?_
  refine x_geti (pc' := 4) dX8_minds_1 rfl lfX8_60 kd_94 rfl ?_
  refine x_bipush (pc' := 6) (v := 8) dX8_minds_4 rfl (by decide) ?_
  refine x_icmp_ne (pc' := 9) (tgt := 58) dX8_minds_6 (by decide) rfl (fun hc => ?_) (fun hc => ?_)
  · replace h := h.1 hc
    refine x_aload_n (pc' := 59) dX8_minds_58 rfl rfl rfl ?_
    refine x_iconst (pc' := 60) (v := 0) dX8_minds_59 rfl (by decide) ?_
    refine x_sipush (pc' := 63) (v := 2034) dX8_minds_60 rfl (by decide) ?_
    refine x_sipush (pc' := 66) (v := 678) dX8_minds_63 rfl (by decide) ?_
    refine x_aload_n (pc' := 67) dX8_minds_66 rfl rfl rfl ?_
    refine x_geti (pc' := 70) dX8_minds_67 rfl lfX8_60 kd_94 rfl ?_
    refine x_imul (pc' := 71) dX8_minds_70 rfl ?_
    refine x_iadd (pc' := 72) dX8_minds_71 rfl ?_
    refine x_callV (pc' := 75) (As := [.int 0, .int (2034 + (678 * (σ.1 94 2)))]) dX8_minds_72 rfl lmX8_64 kd_94 rfl rfl (Nat.le_of_ble_eq_true rfl) (Nat.le_of_ble_eq_true rfl) ?_
    show X none d mX8_copy 0 [.ref 94, .int 0, .int (2034 + (678 * (σ.1 94 2))), Unk] [] σ _
    refine X.mono h ?_
    rintro r τ1 ⟨rfl, h⟩
    show X none (d + 1) mX8_minds 75 [.ref 94, Unk] [] τ1 _
    refine x_aload_n (pc' := 76) dX8_minds_75 rfl rfl rfl ?_
    refine x_dup (pc' := 77) dX8_minds_76 rfl rfl ?_
    refine x_geti (pc' := 80) dX8_minds_77 rfl lfX8_60 kd_94 rfl ?_
    refine x_iconst (pc' := 81) (v := 1) dX8_minds_80 rfl (by decide) ?_
    refine x_iadd (pc' := 82) dX8_minds_81 rfl ?_
    refine x_puti (pc' := 85) dX8_minds_82 rfl lfX8_60 kd_94 rfl rfl rfl ?_
    obtain ⟨τ2, eτ2⟩ : ∃ τ : Mem, τ = (w1 τ1 94 2 ((τ1.1 94 2) + 1)) := ⟨_, rfl⟩
    show X none (d + 1) mX8_minds 85 [.ref 94, Unk] [] (w1 τ1 94 2 ((τ1.1 94 2) + 1)) _
    rw [← eτ2]
    replace h := h τ2 eτ2
    exact x_vret dX8_minds_85 rfl h
  · replace h := h.2 hc
    refine x_iconst (pc' := 10) (v := 0) dX8_minds_9 rfl (by decide) ?_
    refine x_istore_n (pc' := 11) dX8_minds_10 rfl rfl (by decide) rfl (ls' := [.ref 94, .int 0]) rfl ?_
    exact h
set_option maxRecDepth 100000 in
set_option maxHeartbeats 4000000 in
theorem vX8_minds_11 {d : Nat} {σ : Mem} {Q : Option Value → Mem → Prop} {x1 : Int32} 
    (h : ((4746 ≤ x1 → (∀ τ1 : Mem, τ1 = (w1 σ 94 2 ((σ.1 94 2) - 1)) → (X none d mX8_copy 0 [.ref 94, .int 0, .int (2034 + (678 * (τ1.1 94 2))), Unk] [] τ1 (fun r τ2 => r = none ∧ (∀ τ3 : Mem, τ3 = (w1 τ2 94 2 ((τ2.1 94 2) + 1)) → Q (none) τ3))))) ∧ (¬ 4746 ≤ x1 → (vp_in ((2034 + x1) + 678) 7458 ∧ (vp_in (2034 + x1) 7458 ∧ (∀ τ4 : Mem, τ4 = (w1 σ 95 (2034 + x1).toNatClampNeg (σ.1 95 ((2034 + x1) + 678).toNatClampNeg)) → X none (d + 1) mX8_minds 11 [.ref 94, .int (x1 + 1)] [] τ4 Q)))))) :
    X none (d + 1) mX8_minds 11 [.ref 94, .int x1] [] σ Q := by
  refine x_iload_n (pc' := 12) dX8_minds_11 rfl rfl rfl ?_
  refine x_sipush (pc' := 15) (v := 4746) dX8_minds_12 rfl (by decide) ?_
  refine x_icmp_ge (pc' := 18) (tgt := 48) dX8_minds_15 (by decide) rfl (fun hc => ?_) (fun hc => ?_)
  · replace h := h.1 hc
    refine x_aload_n (pc' := 49) dX8_minds_48 rfl rfl rfl ?_
    refine x_dup (pc' := 50) dX8_minds_49 rfl rfl ?_
    refine x_geti (pc' := 53) dX8_minds_50 rfl lfX8_60 kd_94 rfl ?_
    refine x_iconst (pc' := 54) (v := 1) dX8_minds_53 rfl (by decide) ?_
    refine x_isub (pc' := 55) dX8_minds_54 rfl ?_
    refine x_puti (pc' := 58) dX8_minds_55 rfl lfX8_60 kd_94 rfl rfl rfl ?_
    obtain ⟨τ1, eτ1⟩ : ∃ τ : Mem, τ = (w1 σ 94 2 ((σ.1 94 2) - 1)) := ⟨_, rfl⟩
    show X none (d + 1) mX8_minds 58 [.ref 94, .int x1] [] (w1 σ 94 2 ((σ.1 94 2) - 1)) _
    rw [← eτ1]
    replace h := h τ1 eτ1
    refine x_aload_n (pc' := 59) dX8_minds_58 rfl rfl rfl ?_
    refine x_iconst (pc' := 60) (v := 0) dX8_minds_59 rfl (by decide) ?_
    refine x_sipush (pc' := 63) (v := 2034) dX8_minds_60 rfl (by decide) ?_
    refine x_sipush (pc' := 66) (v := 678) dX8_minds_63 rfl (by decide) ?_
    refine x_aload_n (pc' := 67) dX8_minds_66 rfl rfl rfl ?_
    refine x_geti (pc' := 70) dX8_minds_67 rfl lfX8_60 kd_94 rfl ?_
    refine x_imul (pc' := 71) dX8_minds_70 rfl ?_
    refine x_iadd (pc' := 72) dX8_minds_71 rfl ?_
    refine x_callV (pc' := 75) (As := [.int 0, .int (2034 + (678 * (τ1.1 94 2)))]) dX8_minds_72 rfl lmX8_64 kd_94 rfl rfl (Nat.le_of_ble_eq_true rfl) (Nat.le_of_ble_eq_true rfl) ?_
    show X none d mX8_copy 0 [.ref 94, .int 0, .int (2034 + (678 * (τ1.1 94 2))), Unk] [] τ1 _
    refine X.mono h ?_
    rintro r τ2 ⟨rfl, h⟩
    show X none (d + 1) mX8_minds 75 [.ref 94, .int x1] [] τ2 _
    refine x_aload_n (pc' := 76) dX8_minds_75 rfl rfl rfl ?_
    refine x_dup (pc' := 77) dX8_minds_76 rfl rfl ?_
    refine x_geti (pc' := 80) dX8_minds_77 rfl lfX8_60 kd_94 rfl ?_
    refine x_iconst (pc' := 81) (v := 1) dX8_minds_80 rfl (by decide) ?_
    refine x_iadd (pc' := 82) dX8_minds_81 rfl ?_
    refine x_puti (pc' := 85) dX8_minds_82 rfl lfX8_60 kd_94 rfl rfl rfl ?_
    obtain ⟨τ3, eτ3⟩ : ∃ τ : Mem, τ = (w1 τ2 94 2 ((τ2.1 94 2) + 1)) := ⟨_, rfl⟩
    show X none (d + 1) mX8_minds 85 [.ref 94, .int x1] [] (w1 τ2 94 2 ((τ2.1 94 2) + 1)) _
    rw [← eτ3]
    replace h := h τ3 eτ3
    exact x_vret dX8_minds_85 rfl h
  · replace h := h.2 hc
    refine x_aload_n (pc' := 19) dX8_minds_18 rfl rfl rfl ?_
    refine x_getr (pc' := 22) dX8_minds_19 rfl lfX8_7 kd_94 rfl rf_94_0 ?_
    refine x_sipush (pc' := 25) (v := 2034) dX8_minds_22 rfl (by decide) ?_
    refine x_iload_n (pc' := 26) dX8_minds_25 rfl rfl rfl ?_
    refine x_iadd (pc' := 27) dX8_minds_26 rfl ?_
    refine x_aload_n (pc' := 28) dX8_minds_27 rfl rfl rfl ?_
    refine x_getr (pc' := 31) dX8_minds_28 rfl lfX8_7 kd_94 rfl rf_94_0 ?_
    refine x_sipush (pc' := 34) (v := 2034) dX8_minds_31 rfl (by decide) ?_
    refine x_iload_n (pc' := 35) dX8_minds_34 rfl rfl rfl ?_
    refine x_iadd (pc' := 36) dX8_minds_35 rfl ?_
    refine x_sipush (pc' := 39) (v := 678) dX8_minds_36 rfl (by decide) ?_
    refine x_iadd (pc' := 40) dX8_minds_39 rfl ?_
    obtain ⟨hb, h⟩ := h
    refine x_iald (pc' := 41) dX8_minds_40 rfl kd_95 (by rw [ln_95]; exact hb) ?_
    obtain ⟨hb, h⟩ := h
    refine x_iast (pc' := 42) dX8_minds_41 rfl kd_95 (by rw [ln_95]; exact hb) ?_
    obtain ⟨τ4, eτ4⟩ : ∃ τ : Mem, τ = (w1 σ 95 (2034 + x1).toNatClampNeg (σ.1 95 ((2034 + x1) + 678).toNatClampNeg)) := ⟨_, rfl⟩
    show X none (d + 1) mX8_minds 42 [.ref 94, .int x1] [] (w1 σ 95 (2034 + x1).toNatClampNeg (σ.1 95 ((2034 + x1) + 678).toNatClampNeg)) _
    rw [← eτ4]
    replace h := h τ4 eτ4
    refine x_iinc (pc' := 45) (v := 1) dX8_minds_42 rfl (by decide) rfl rfl (by decide) (ls' := [.ref 94, .int (x1 + 1)]) rfl ?_
    refine x_goto (pc' := 11) dX8_minds_45 (by decide) ?_
    exact h
set_option maxRecDepth 100000 in
set_option maxHeartbeats 4000000 in
theorem vX8_carriedBy_0 {d : Nat} {σ : Mem} {Q : Option Value → Mem → Prop} {x0 : Int32} 
    (h : X none d mX8_carriedBy 4 [.int x0, .int 1, .int x0] [] σ Q) :
    X none d mX8_carriedBy 0 [.int x0, Unk, Unk] [] σ Q := by
  refine x_iconst (pc' := 1) (v := 1) dX8_carriedBy_0 rfl (by decide) ?_
  refine x_istore_n (pc' := 2) dX8_carriedBy_1 rfl rfl (by decide) rfl (ls' := [.int x0, .int 1, Unk]) rfl ?_
  refine x_iload_n (pc' := 3) dX8_carriedBy_2 rfl rfl rfl ?_
  refine x_istore_n (pc' := 4) dX8_carriedBy_3 rfl rfl (by decide) rfl (ls' := [.int x0, .int 1, .int x0]) rfl ?_
  exact h
set_option maxRecDepth 100000 in
set_option maxHeartbeats 4000000 in
theorem vX8_carriedBy_4 {d : Nat} {σ : Mem} {Q : Option Value → Mem → Prop} {x0 x1 x2 : Int32} 
    (h : ((¬ (x2 - x2 / 2 * 2) = 1 → Q (some (.int x1)) σ) ∧ ((x2 - x2 / 2 * 2) = 1 → X none d mX8_carriedBy 4 [.int x0, .int (x1 * 2), .int (x2 / 2)] [] σ Q))) :
    X none d mX8_carriedBy 4 [.int x0, .int x1, .int x2] [] σ Q := by
  refine x_iload_n (pc' := 5) dX8_carriedBy_4 rfl rfl rfl ?_
  refine x_iconst (pc' := 6) (v := 2) dX8_carriedBy_5 rfl (by decide) ?_
  refine x_irem (pc' := 7) dX8_carriedBy_6 rfl (by decide) ?_
  refine x_iconst (pc' := 8) (v := 1) dX8_carriedBy_7 rfl (by decide) ?_
  refine x_icmp_ne (pc' := 11) (tgt := 22) dX8_carriedBy_8 (by decide) rfl (fun hc => ?_) (fun hc => ?_)
  · replace h := h.1 hc
    refine x_iload_n (pc' := 23) dX8_carriedBy_22 rfl rfl rfl ?_
    exact x_iret dX8_carriedBy_23 rfl rfl h
  · replace h := h.2 hc
    refine x_iload_n (pc' := 12) dX8_carriedBy_11 rfl rfl rfl ?_
    refine x_iconst (pc' := 13) (v := 2) dX8_carriedBy_12 rfl (by decide) ?_
    refine x_imul (pc' := 14) dX8_carriedBy_13 rfl ?_
    refine x_istore_n (pc' := 15) dX8_carriedBy_14 rfl rfl (by decide) rfl (ls' := [.int x0, .int (x1 * 2), .int x2]) rfl ?_
    refine x_iload_n (pc' := 16) dX8_carriedBy_15 rfl rfl rfl ?_
    refine x_iconst (pc' := 17) (v := 2) dX8_carriedBy_16 rfl (by decide) ?_
    refine x_idiv (pc' := 18) dX8_carriedBy_17 rfl (by decide) ?_
    refine x_istore_n (pc' := 19) dX8_carriedBy_18 rfl rfl (by decide) rfl (ls' := [.int x0, .int (x1 * 2), .int (x2 / 2)]) rfl ?_
    refine x_goto (pc' := 4) dX8_carriedBy_19 (by decide) ?_
    exact h
set_option maxRecDepth 100000 in
set_option maxHeartbeats 4000000 in
theorem vX8_comes_0 {d : Nat} {σ : Mem} {Q : Option Value → Mem → Prop} {x1 x2 x3 : Int32} 
    (h : (X none d mX8_carriedBy 0 [.int (σ.1 95 0), Unk, Unk] [] σ (fun r τ1 => ∃ u2 : Int32, r = some (.int u2) ∧ ((∀ τ3 : Mem, τ3 = (w1 τ1 95 4 ((σ.1 95 4) + u2)) → (vp_in (6 + (σ.1 95 0)) 7458 ∧ (∀ τ4 : Mem, τ4 = (w1 τ3 95 (6 + (σ.1 95 0)).toNatClampNeg (τ3.1 95 2)) → (vp_in (128 + (σ.1 95 0)) 7458 ∧ (∀ τ5 : Mem, τ5 = (w1 τ4 95 (128 + (σ.1 95 0)).toNatClampNeg x1) → (vp_in (250 + (σ.1 95 0)) 7458 ∧ (∀ τ6 : Mem, τ6 = (w1 τ5 95 (250 + (σ.1 95 0)).toNatClampNeg x2) → (vp_in (372 + (σ.1 95 0)) 7458 ∧ (∀ τ7 : Mem, τ7 = (w1 τ6 95 (372 + (σ.1 95 0)).toNatClampNeg x3) → (vp_in (494 + (σ.1 95 0)) 7458 ∧ (∀ τ8 : Mem, τ8 = (w1 τ7 95 (494 + (σ.1 95 0)).toNatClampNeg 0) → ((∀ τ9 : Mem, τ9 = (w1 τ8 95 0 ((τ8.1 95 0) + 1)) → ((∀ τ10 : Mem, τ10 = (w1 τ9 95 2 ((τ9.1 95 2) + 1)) → Q (none) τ10))))))))))))))))))) :
    X none (d + 1) mX8_comes 0 [.ref 94, .int x1, .int x2, .int x3, Unk] [] σ Q := by
  refine x_aload_n (pc' := 1) dX8_comes_0 rfl rfl rfl ?_
  refine x_getr (pc' := 4) dX8_comes_1 rfl lfX8_7 kd_94 rfl rf_94_0 ?_
  refine x_iconst (pc' := 5) (v := 0) dX8_comes_4 rfl (by decide) ?_
  refine x_iald (pc' := 6) dX8_comes_5 rfl kd_95 (by rw [ln_95]; unfold vp_in; decide) ?_
  show X none (d + 1) mX8_comes 6 [.ref 94, .int x1, .int x2, .int x3, Unk] [.int (σ.1 95 0)] σ _
  refine x_istore (pc' := 8) dX8_comes_6 rfl (by decide) rfl (ls' := [.ref 94, .int x1, .int x2, .int x3, .int (σ.1 95 0)]) rfl ?_
  refine x_aload_n (pc' := 9) dX8_comes_8 rfl rfl rfl ?_
  refine x_getr (pc' := 12) dX8_comes_9 rfl lfX8_7 kd_94 rfl rf_94_0 ?_
  refine x_iconst (pc' := 13) (v := 4) dX8_comes_12 rfl (by decide) ?_
  refine x_dup2 (pc' := 14) dX8_comes_13 rfl rfl rfl ?_
  refine x_iald (pc' := 15) dX8_comes_14 rfl kd_95 (by rw [ln_95]; unfold vp_in; decide) ?_
  show X none (d + 1) mX8_comes 15 [.ref 94, .int x1, .int x2, .int x3, .int (σ.1 95 0)] [.int (σ.1 95 4), .int 4, .ref 95] σ _
  refine x_iload (pc' := 17) dX8_comes_15 rfl rfl ?_
  refine x_callS (pc' := 20) (As := [.int (σ.1 95 0)]) dX8_comes_17 rfl lmX8_68 rfl rfl (Nat.le_of_ble_eq_true rfl) (Nat.le_of_ble_eq_true rfl) ?_
  show X none d mX8_carriedBy 0 [.int (σ.1 95 0), Unk, Unk] [] σ _
  refine X.mono h ?_
  rintro r τ1 ⟨u2, rfl, h⟩
  show X none (d + 1) mX8_comes 20 [.ref 94, .int x1, .int x2, .int x3, .int (σ.1 95 0)] [.int u2, .int (σ.1 95 4), .int 4, .ref 95] τ1 _
  refine x_iadd (pc' := 21) dX8_comes_20 rfl ?_
  refine x_iast (pc' := 22) dX8_comes_21 rfl kd_95 (by rw [ln_95]; unfold vp_in; decide) ?_
  obtain ⟨τ3, eτ3⟩ : ∃ τ : Mem, τ = (w1 τ1 95 4 ((σ.1 95 4) + u2)) := ⟨_, rfl⟩
  show X none (d + 1) mX8_comes 22 [.ref 94, .int x1, .int x2, .int x3, .int (σ.1 95 0)] [] (w1 τ1 95 4 ((σ.1 95 4) + u2)) _
  rw [← eτ3]
  replace h := h τ3 eτ3
  refine x_aload_n (pc' := 23) dX8_comes_22 rfl rfl rfl ?_
  refine x_getr (pc' := 26) dX8_comes_23 rfl lfX8_7 kd_94 rfl rf_94_0 ?_
  refine x_bipush (pc' := 28) (v := 6) dX8_comes_26 rfl (by decide) ?_
  refine x_iload (pc' := 30) dX8_comes_28 rfl rfl ?_
  refine x_iadd (pc' := 31) dX8_comes_30 rfl ?_
  refine x_aload_n (pc' := 32) dX8_comes_31 rfl rfl rfl ?_
  refine x_getr (pc' := 35) dX8_comes_32 rfl lfX8_7 kd_94 rfl rf_94_0 ?_
  refine x_iconst (pc' := 36) (v := 2) dX8_comes_35 rfl (by decide) ?_
  refine x_iald (pc' := 37) dX8_comes_36 rfl kd_95 (by rw [ln_95]; unfold vp_in; decide) ?_
  show X none (d + 1) mX8_comes 37 [.ref 94, .int x1, .int x2, .int x3, .int (σ.1 95 0)] [.int (τ3.1 95 2), .int (6 + (σ.1 95 0)), .ref 95] τ3 _
  obtain ⟨hb, h⟩ := h
  refine x_iast (pc' := 38) dX8_comes_37 rfl kd_95 (by rw [ln_95]; exact hb) ?_
  obtain ⟨τ4, eτ4⟩ : ∃ τ : Mem, τ = (w1 τ3 95 (6 + (σ.1 95 0)).toNatClampNeg (τ3.1 95 2)) := ⟨_, rfl⟩
  show X none (d + 1) mX8_comes 38 [.ref 94, .int x1, .int x2, .int x3, .int (σ.1 95 0)] [] (w1 τ3 95 (6 + (σ.1 95 0)).toNatClampNeg (τ3.1 95 2)) _
  rw [← eτ4]
  replace h := h τ4 eτ4
  refine x_aload_n (pc' := 39) dX8_comes_38 rfl rfl rfl ?_
  refine x_getr (pc' := 42) dX8_comes_39 rfl lfX8_7 kd_94 rfl rf_94_0 ?_
  refine x_sipush (pc' := 45) (v := 128) dX8_comes_42 rfl (by decide) ?_
  refine x_iload (pc' := 47) dX8_comes_45 rfl rfl ?_
  refine x_iadd (pc' := 48) dX8_comes_47 rfl ?_
  refine x_iload_n (pc' := 49) dX8_comes_48 rfl rfl rfl ?_
  obtain ⟨hb, h⟩ := h
  refine x_iast (pc' := 50) dX8_comes_49 rfl kd_95 (by rw [ln_95]; exact hb) ?_
  obtain ⟨τ5, eτ5⟩ : ∃ τ : Mem, τ = (w1 τ4 95 (128 + (σ.1 95 0)).toNatClampNeg x1) := ⟨_, rfl⟩
  show X none (d + 1) mX8_comes 50 [.ref 94, .int x1, .int x2, .int x3, .int (σ.1 95 0)] [] (w1 τ4 95 (128 + (σ.1 95 0)).toNatClampNeg x1) _
  rw [← eτ5]
  replace h := h τ5 eτ5
  refine x_aload_n (pc' := 51) dX8_comes_50 rfl rfl rfl ?_
  refine x_getr (pc' := 54) dX8_comes_51 rfl lfX8_7 kd_94 rfl rf_94_0 ?_
  refine x_sipush (pc' := 57) (v := 250) dX8_comes_54 rfl (by decide) ?_
  refine x_iload (pc' := 59) dX8_comes_57 rfl rfl ?_
  refine x_iadd (pc' := 60) dX8_comes_59 rfl ?_
  refine x_iload_n (pc' := 61) dX8_comes_60 rfl rfl rfl ?_
  obtain ⟨hb, h⟩ := h
  refine x_iast (pc' := 62) dX8_comes_61 rfl kd_95 (by rw [ln_95]; exact hb) ?_
  obtain ⟨τ6, eτ6⟩ : ∃ τ : Mem, τ = (w1 τ5 95 (250 + (σ.1 95 0)).toNatClampNeg x2) := ⟨_, rfl⟩
  show X none (d + 1) mX8_comes 62 [.ref 94, .int x1, .int x2, .int x3, .int (σ.1 95 0)] [] (w1 τ5 95 (250 + (σ.1 95 0)).toNatClampNeg x2) _
  rw [← eτ6]
  replace h := h τ6 eτ6
  refine x_aload_n (pc' := 63) dX8_comes_62 rfl rfl rfl ?_
  refine x_getr (pc' := 66) dX8_comes_63 rfl lfX8_7 kd_94 rfl rf_94_0 ?_
  refine x_sipush (pc' := 69) (v := 372) dX8_comes_66 rfl (by decide) ?_
  refine x_iload (pc' := 71) dX8_comes_69 rfl rfl ?_
  refine x_iadd (pc' := 72) dX8_comes_71 rfl ?_
  refine x_iload_n (pc' := 73) dX8_comes_72 rfl rfl rfl ?_
  obtain ⟨hb, h⟩ := h
  refine x_iast (pc' := 74) dX8_comes_73 rfl kd_95 (by rw [ln_95]; exact hb) ?_
  obtain ⟨τ7, eτ7⟩ : ∃ τ : Mem, τ = (w1 τ6 95 (372 + (σ.1 95 0)).toNatClampNeg x3) := ⟨_, rfl⟩
  show X none (d + 1) mX8_comes 74 [.ref 94, .int x1, .int x2, .int x3, .int (σ.1 95 0)] [] (w1 τ6 95 (372 + (σ.1 95 0)).toNatClampNeg x3) _
  rw [← eτ7]
  replace h := h τ7 eτ7
  refine x_aload_n (pc' := 75) dX8_comes_74 rfl rfl rfl ?_
  refine x_getr (pc' := 78) dX8_comes_75 rfl lfX8_7 kd_94 rfl rf_94_0 ?_
  refine x_sipush (pc' := 81) (v := 494) dX8_comes_78 rfl (by decide) ?_
  refine x_iload (pc' := 83) dX8_comes_81 rfl rfl ?_
  refine x_iadd (pc' := 84) dX8_comes_83 rfl ?_
  refine x_iconst (pc' := 85) (v := 0) dX8_comes_84 rfl (by decide) ?_
  obtain ⟨hb, h⟩ := h
  refine x_iast (pc' := 86) dX8_comes_85 rfl kd_95 (by rw [ln_95]; exact hb) ?_
  obtain ⟨τ8, eτ8⟩ : ∃ τ : Mem, τ = (w1 τ7 95 (494 + (σ.1 95 0)).toNatClampNeg 0) := ⟨_, rfl⟩
  show X none (d + 1) mX8_comes 86 [.ref 94, .int x1, .int x2, .int x3, .int (σ.1 95 0)] [] (w1 τ7 95 (494 + (σ.1 95 0)).toNatClampNeg 0) _
  rw [← eτ8]
  replace h := h τ8 eτ8
  refine x_aload_n (pc' := 87) dX8_comes_86 rfl rfl rfl ?_
  refine x_getr (pc' := 90) dX8_comes_87 rfl lfX8_7 kd_94 rfl rf_94_0 ?_
  refine x_iconst (pc' := 91) (v := 0) dX8_comes_90 rfl (by decide) ?_
  refine x_dup2 (pc' := 92) dX8_comes_91 rfl rfl rfl ?_
  refine x_iald (pc' := 93) dX8_comes_92 rfl kd_95 (by rw [ln_95]; unfold vp_in; decide) ?_
  show X none (d + 1) mX8_comes 93 [.ref 94, .int x1, .int x2, .int x3, .int (σ.1 95 0)] [.int (τ8.1 95 0), .int 0, .ref 95] τ8 _
  refine x_iconst (pc' := 94) (v := 1) dX8_comes_93 rfl (by decide) ?_
  refine x_iadd (pc' := 95) dX8_comes_94 rfl ?_
  refine x_iast (pc' := 96) dX8_comes_95 rfl kd_95 (by rw [ln_95]; unfold vp_in; decide) ?_
  obtain ⟨τ9, eτ9⟩ : ∃ τ : Mem, τ = (w1 τ8 95 0 ((τ8.1 95 0) + 1)) := ⟨_, rfl⟩
  show X none (d + 1) mX8_comes 96 [.ref 94, .int x1, .int x2, .int x3, .int (σ.1 95 0)] [] (w1 τ8 95 0 ((τ8.1 95 0) + 1)) _
  rw [← eτ9]
  replace h := h τ9 eτ9
  refine x_aload_n (pc' := 97) dX8_comes_96 rfl rfl rfl ?_
  refine x_getr (pc' := 100) dX8_comes_97 rfl lfX8_7 kd_94 rfl rf_94_0 ?_
  refine x_iconst (pc' := 101) (v := 2) dX8_comes_100 rfl (by decide) ?_
  refine x_dup2 (pc' := 102) dX8_comes_101 rfl rfl rfl ?_
  refine x_iald (pc' := 103) dX8_comes_102 rfl kd_95 (by rw [ln_95]; unfold vp_in; decide) ?_
  show X none (d + 1) mX8_comes 103 [.ref 94, .int x1, .int x2, .int x3, .int (σ.1 95 0)] [.int (τ9.1 95 2), .int 2, .ref 95] τ9 _
  refine x_iconst (pc' := 104) (v := 1) dX8_comes_103 rfl (by decide) ?_
  refine x_iadd (pc' := 105) dX8_comes_104 rfl ?_
  refine x_iast (pc' := 106) dX8_comes_105 rfl kd_95 (by rw [ln_95]; unfold vp_in; decide) ?_
  obtain ⟨τ10, eτ10⟩ : ∃ τ : Mem, τ = (w1 τ9 95 2 ((τ9.1 95 2) + 1)) := ⟨_, rfl⟩
  show X none (d + 1) mX8_comes 106 [.ref 94, .int x1, .int x2, .int x3, .int (σ.1 95 0)] [] (w1 τ9 95 2 ((τ9.1 95 2) + 1)) _
  rw [← eτ10]
  replace h := h τ10 eτ10
  exact x_vret dX8_comes_106 rfl h
set_option maxRecDepth 100000 in
set_option maxHeartbeats 4000000 in
theorem vX8_laysAnew_0 {d : Nat} {σ : Mem} {Q : Option Value → Mem → Prop} 
    (h : X none (d + 1) mX8_laysAnew 4 [.ref 94, .int 0, .int 0] [] σ Q) :
    X none (d + 1) mX8_laysAnew 0 [.ref 94, Unk, Unk] [] σ Q := by
  refine x_iconst (pc' := 1) (v := 0) dX8_laysAnew_0 rfl (by decide) ?_
  refine x_istore_n (pc' := 2) dX8_laysAnew_1 rfl rfl (by decide) rfl (ls' := [.ref 94, .int 0, Unk]) rfl ?_
  refine x_iconst (pc' := 3) (v := 0) dX8_laysAnew_2 rfl (by decide) ?_
  refine x_istore_n (pc' := 4) dX8_laysAnew_3 rfl rfl (by decide) rfl (ls' := [.ref 94, .int 0, .int 0]) rfl ?_
  exact h
set_option maxRecDepth 100000 in
set_option maxHeartbeats 4000000 in
theorem vX8_laysAnew_4 {d : Nat} {σ : Mem} {Q : Option Value → Mem → Prop} {x1 x2 : Int32} 
    (h : (((σ.1 95 0) ≤ x2 → X none (d + 1) mX8_laysAnew 111 [.ref 94, .int x1, .int 0] [] σ Q) ∧ (¬ (σ.1 95 0) ≤ x2 → (vp_in (494 + x2) 7458 ∧ ((¬ (σ.1 95 (494 + x2).toNatClampNeg) = 0 → X none (d + 1) mX8_laysAnew 4 [.ref 94, .int x1, .int (x2 + 1)] [] σ Q) ∧ ((σ.1 95 (494 + x2).toNatClampNeg) = 0 → (vp_in (6 + x2) 7458 ∧ (vp_in (6 + x1) 7458 ∧ (∀ τ1 : Mem, τ1 = (w1 σ 95 (6 + x1).toNatClampNeg (σ.1 95 (6 + x2).toNatClampNeg)) → (vp_in (128 + x2) 7458 ∧ (vp_in (128 + x1) 7458 ∧ (∀ τ2 : Mem, τ2 = (w1 τ1 95 (128 + x1).toNatClampNeg (τ1.1 95 (128 + x2).toNatClampNeg)) → (vp_in (250 + x2) 7458 ∧ (vp_in (250 + x1) 7458 ∧ (∀ τ3 : Mem, τ3 = (w1 τ2 95 (250 + x1).toNatClampNeg (τ2.1 95 (250 + x2).toNatClampNeg)) → (vp_in (372 + x2) 7458 ∧ (vp_in (372 + x1) 7458 ∧ (∀ τ4 : Mem, τ4 = (w1 τ3 95 (372 + x1).toNatClampNeg (τ3.1 95 (372 + x2).toNatClampNeg)) → X none (d + 1) mX8_laysAnew 4 [.ref 94, .int (x1 + 1), .int (x2 + 1)] [] τ4 Q)))))))))))))))))) :
    X none (d + 1) mX8_laysAnew 4 [.ref 94, .int x1, .int x2] [] σ Q := by
  refine x_iload_n (pc' := 5) dX8_laysAnew_4 rfl rfl rfl ?_
  refine x_aload_n (pc' := 6) dX8_laysAnew_5 rfl rfl rfl ?_
  refine x_getr (pc' := 9) dX8_laysAnew_6 rfl lfX8_7 kd_94 rfl rf_94_0 ?_
  refine x_iconst (pc' := 10) (v := 0) dX8_laysAnew_9 rfl (by decide) ?_
  refine x_iald (pc' := 11) dX8_laysAnew_10 rfl kd_95 (by rw [ln_95]; unfold vp_in; decide) ?_
  show X none (d + 1) mX8_laysAnew 11 [.ref 94, .int x1, .int x2] [.int (σ.1 95 0), .int x2] σ _
  refine x_icmp_ge (pc' := 14) (tgt := 109) dX8_laysAnew_11 (by decide) rfl (fun hc => ?_) (fun hc => ?_)
  · replace h := h.1 hc
    refine x_iconst (pc' := 110) (v := 0) dX8_laysAnew_109 rfl (by decide) ?_
    refine x_istore_n (pc' := 111) dX8_laysAnew_110 rfl rfl (by decide) rfl (ls' := [.ref 94, .int x1, .int 0]) rfl ?_
    exact h
  · replace h := h.2 hc
    refine x_aload_n (pc' := 15) dX8_laysAnew_14 rfl rfl rfl ?_
    refine x_iload_n (pc' := 16) dX8_laysAnew_15 rfl rfl rfl ?_
    refine x_callV (pc' := 19) (As := [.int x2]) dX8_laysAnew_16 rfl lmX8_57 kd_94 rfl rfl (Nat.le_of_ble_eq_true rfl) (Nat.le_of_ble_eq_true rfl) ?_
    show X none d mX8_isThere 0 [.ref 94, .int x2] [] σ _
    refine x_aload_n (pc' := 1) dX8_isThere_0 rfl rfl rfl ?_
    refine x_getr (pc' := 4) dX8_isThere_1 rfl lfX8_7 kd_94 rfl rf_94_0 ?_
    refine x_sipush (pc' := 7) (v := 494) dX8_isThere_4 rfl (by decide) ?_
    refine x_iload_n (pc' := 8) dX8_isThere_7 rfl rfl rfl ?_
    refine x_iadd (pc' := 9) dX8_isThere_8 rfl ?_
    obtain ⟨hb, h⟩ := h
    refine x_iald (pc' := 10) dX8_isThere_9 rfl kd_95 (by rw [ln_95]; exact hb) ?_
    refine x_if_ne (pc' := 13) (tgt := 17) dX8_isThere_10 (by decide) rfl (fun hc => ?_) (fun hc => ?_)
    · replace h := h.1 hc
      refine x_iconst (pc' := 18) (v := 0) dX8_isThere_17 rfl (by decide) ?_
      refine x_iret dX8_isThere_18 rfl rfl ?_
      show X none (d + 1) mX8_laysAnew 19 [.ref 94, .int x1, .int x2] [.int 0] σ _
      refine x_if_eq (pc' := 22) (tgt := 103) dX8_laysAnew_19 (by decide) rfl (fun _ => ?_) (fun hc => absurd hc (by decide))
      refine x_iinc (pc' := 106) (v := 1) dX8_laysAnew_103 rfl (by decide) rfl rfl (by decide) (ls' := [.ref 94, .int x1, .int (x2 + 1)]) rfl ?_
      refine x_goto (pc' := 4) dX8_laysAnew_106 (by decide) ?_
      exact h
    · replace h := h.2 hc
      refine x_iconst (pc' := 14) (v := 1) dX8_isThere_13 rfl (by decide) ?_
      refine x_goto (pc' := 18) dX8_isThere_14 (by decide) ?_
      refine x_iret dX8_isThere_18 rfl rfl ?_
      show X none (d + 1) mX8_laysAnew 19 [.ref 94, .int x1, .int x2] [.int 1] σ _
      refine x_if_eq (pc' := 22) (tgt := 103) dX8_laysAnew_19 (by decide) rfl (fun hc => absurd hc (by decide)) (fun _ => ?_)
      refine x_aload_n (pc' := 23) dX8_laysAnew_22 rfl rfl rfl ?_
      refine x_getr (pc' := 26) dX8_laysAnew_23 rfl lfX8_7 kd_94 rfl rf_94_0 ?_
      refine x_bipush (pc' := 28) (v := 6) dX8_laysAnew_26 rfl (by decide) ?_
      refine x_iload_n (pc' := 29) dX8_laysAnew_28 rfl rfl rfl ?_
      refine x_iadd (pc' := 30) dX8_laysAnew_29 rfl ?_
      refine x_aload_n (pc' := 31) dX8_laysAnew_30 rfl rfl rfl ?_
      refine x_getr (pc' := 34) dX8_laysAnew_31 rfl lfX8_7 kd_94 rfl rf_94_0 ?_
      refine x_bipush (pc' := 36) (v := 6) dX8_laysAnew_34 rfl (by decide) ?_
      refine x_iload_n (pc' := 37) dX8_laysAnew_36 rfl rfl rfl ?_
      refine x_iadd (pc' := 38) dX8_laysAnew_37 rfl ?_
      obtain ⟨hb, h⟩ := h
      refine x_iald (pc' := 39) dX8_laysAnew_38 rfl kd_95 (by rw [ln_95]; exact hb) ?_
      obtain ⟨hb, h⟩ := h
      refine x_iast (pc' := 40) dX8_laysAnew_39 rfl kd_95 (by rw [ln_95]; exact hb) ?_
      obtain ⟨τ1, eτ1⟩ : ∃ τ : Mem, τ = (w1 σ 95 (6 + x1).toNatClampNeg (σ.1 95 (6 + x2).toNatClampNeg)) := ⟨_, rfl⟩
      show X none (d + 1) mX8_laysAnew 40 [.ref 94, .int x1, .int x2] [] (w1 σ 95 (6 + x1).toNatClampNeg (σ.1 95 (6 + x2).toNatClampNeg)) _
      rw [← eτ1]
      replace h := h τ1 eτ1
      refine x_aload_n (pc' := 41) dX8_laysAnew_40 rfl rfl rfl ?_
      refine x_getr (pc' := 44) dX8_laysAnew_41 rfl lfX8_7 kd_94 rfl rf_94_0 ?_
      refine x_sipush (pc' := 47) (v := 128) dX8_laysAnew_44 rfl (by decide) ?_
      refine x_iload_n (pc' := 48) dX8_laysAnew_47 rfl rfl rfl ?_
      refine x_iadd (pc' := 49) dX8_laysAnew_48 rfl ?_
      refine x_aload_n (pc' := 50) dX8_laysAnew_49 rfl rfl rfl ?_
      refine x_getr (pc' := 53) dX8_laysAnew_50 rfl lfX8_7 kd_94 rfl rf_94_0 ?_
      refine x_sipush (pc' := 56) (v := 128) dX8_laysAnew_53 rfl (by decide) ?_
      refine x_iload_n (pc' := 57) dX8_laysAnew_56 rfl rfl rfl ?_
      refine x_iadd (pc' := 58) dX8_laysAnew_57 rfl ?_
      obtain ⟨hb, h⟩ := h
      refine x_iald (pc' := 59) dX8_laysAnew_58 rfl kd_95 (by rw [ln_95]; exact hb) ?_
      obtain ⟨hb, h⟩ := h
      refine x_iast (pc' := 60) dX8_laysAnew_59 rfl kd_95 (by rw [ln_95]; exact hb) ?_
      obtain ⟨τ2, eτ2⟩ : ∃ τ : Mem, τ = (w1 τ1 95 (128 + x1).toNatClampNeg (τ1.1 95 (128 + x2).toNatClampNeg)) := ⟨_, rfl⟩
      show X none (d + 1) mX8_laysAnew 60 [.ref 94, .int x1, .int x2] [] (w1 τ1 95 (128 + x1).toNatClampNeg (τ1.1 95 (128 + x2).toNatClampNeg)) _
      rw [← eτ2]
      replace h := h τ2 eτ2
      refine x_aload_n (pc' := 61) dX8_laysAnew_60 rfl rfl rfl ?_
      refine x_getr (pc' := 64) dX8_laysAnew_61 rfl lfX8_7 kd_94 rfl rf_94_0 ?_
      refine x_sipush (pc' := 67) (v := 250) dX8_laysAnew_64 rfl (by decide) ?_
      refine x_iload_n (pc' := 68) dX8_laysAnew_67 rfl rfl rfl ?_
      refine x_iadd (pc' := 69) dX8_laysAnew_68 rfl ?_
      refine x_aload_n (pc' := 70) dX8_laysAnew_69 rfl rfl rfl ?_
      refine x_getr (pc' := 73) dX8_laysAnew_70 rfl lfX8_7 kd_94 rfl rf_94_0 ?_
      refine x_sipush (pc' := 76) (v := 250) dX8_laysAnew_73 rfl (by decide) ?_
      refine x_iload_n (pc' := 77) dX8_laysAnew_76 rfl rfl rfl ?_
      refine x_iadd (pc' := 78) dX8_laysAnew_77 rfl ?_
      obtain ⟨hb, h⟩ := h
      refine x_iald (pc' := 79) dX8_laysAnew_78 rfl kd_95 (by rw [ln_95]; exact hb) ?_
      obtain ⟨hb, h⟩ := h
      refine x_iast (pc' := 80) dX8_laysAnew_79 rfl kd_95 (by rw [ln_95]; exact hb) ?_
      obtain ⟨τ3, eτ3⟩ : ∃ τ : Mem, τ = (w1 τ2 95 (250 + x1).toNatClampNeg (τ2.1 95 (250 + x2).toNatClampNeg)) := ⟨_, rfl⟩
      show X none (d + 1) mX8_laysAnew 80 [.ref 94, .int x1, .int x2] [] (w1 τ2 95 (250 + x1).toNatClampNeg (τ2.1 95 (250 + x2).toNatClampNeg)) _
      rw [← eτ3]
      replace h := h τ3 eτ3
      refine x_aload_n (pc' := 81) dX8_laysAnew_80 rfl rfl rfl ?_
      refine x_getr (pc' := 84) dX8_laysAnew_81 rfl lfX8_7 kd_94 rfl rf_94_0 ?_
      refine x_sipush (pc' := 87) (v := 372) dX8_laysAnew_84 rfl (by decide) ?_
      refine x_iload_n (pc' := 88) dX8_laysAnew_87 rfl rfl rfl ?_
      refine x_iadd (pc' := 89) dX8_laysAnew_88 rfl ?_
      refine x_aload_n (pc' := 90) dX8_laysAnew_89 rfl rfl rfl ?_
      refine x_getr (pc' := 93) dX8_laysAnew_90 rfl lfX8_7 kd_94 rfl rf_94_0 ?_
      refine x_sipush (pc' := 96) (v := 372) dX8_laysAnew_93 rfl (by decide) ?_
      refine x_iload_n (pc' := 97) dX8_laysAnew_96 rfl rfl rfl ?_
      refine x_iadd (pc' := 98) dX8_laysAnew_97 rfl ?_
      obtain ⟨hb, h⟩ := h
      refine x_iald (pc' := 99) dX8_laysAnew_98 rfl kd_95 (by rw [ln_95]; exact hb) ?_
      obtain ⟨hb, h⟩ := h
      refine x_iast (pc' := 100) dX8_laysAnew_99 rfl kd_95 (by rw [ln_95]; exact hb) ?_
      obtain ⟨τ4, eτ4⟩ : ∃ τ : Mem, τ = (w1 τ3 95 (372 + x1).toNatClampNeg (τ3.1 95 (372 + x2).toNatClampNeg)) := ⟨_, rfl⟩
      show X none (d + 1) mX8_laysAnew 100 [.ref 94, .int x1, .int x2] [] (w1 τ3 95 (372 + x1).toNatClampNeg (τ3.1 95 (372 + x2).toNatClampNeg)) _
      rw [← eτ4]
      replace h := h τ4 eτ4
      refine x_iinc (pc' := 103) (v := 1) dX8_laysAnew_100 rfl (by decide) rfl rfl (by decide) (ls' := [.ref 94, .int (x1 + 1), .int x2]) rfl ?_
      refine x_iinc (pc' := 106) (v := 1) dX8_laysAnew_103 rfl (by decide) rfl rfl (by decide) (ls' := [.ref 94, .int (x1 + 1), .int (x2 + 1)]) rfl ?_
      refine x_goto (pc' := 4) dX8_laysAnew_106 (by decide) ?_
      exact h
set_option maxRecDepth 100000 in
set_option maxHeartbeats 4000000 in
theorem vX8_laysAnew_111 {d : Nat} {σ : Mem} {Q : Option Value → Mem → Prop} {x1 x2 : Int32} 
    (h : (((σ.1 95 0) ≤ x2 → ((∀ τ1 : Mem, τ1 = (w1 σ 95 0 x1) → ((∀ τ2 : Mem, τ2 = (w1 τ1 95 1 0) → ((∀ τ3 : Mem, τ3 = (w1 τ2 95 5 ((τ2.1 95 5) + 1)) → Q (none) τ3))))))) ∧ (¬ (σ.1 95 0) ≤ x2 → (vp_in (494 + x2) 7458 ∧ (∀ τ4 : Mem, τ4 = (w1 σ 95 (494 + x2).toNatClampNeg 0) → X none (d + 1) mX8_laysAnew 111 [.ref 94, .int x1, .int (x2 + 1)] [] τ4 Q))))) :
    X none (d + 1) mX8_laysAnew 111 [.ref 94, .int x1, .int x2] [] σ Q := by
  refine x_iload_n (pc' := 112) dX8_laysAnew_111 rfl rfl rfl ?_
  refine x_aload_n (pc' := 113) dX8_laysAnew_112 rfl rfl rfl ?_
  refine x_getr (pc' := 116) dX8_laysAnew_113 rfl lfX8_7 kd_94 rfl rf_94_0 ?_
  refine x_iconst (pc' := 117) (v := 0) dX8_laysAnew_116 rfl (by decide) ?_
  refine x_iald (pc' := 118) dX8_laysAnew_117 rfl kd_95 (by rw [ln_95]; unfold vp_in; decide) ?_
  show X none (d + 1) mX8_laysAnew 118 [.ref 94, .int x1, .int x2] [.int (σ.1 95 0), .int x2] σ _
  refine x_icmp_ge (pc' := 121) (tgt := 138) dX8_laysAnew_118 (by decide) rfl (fun hc => ?_) (fun hc => ?_)
  · replace h := h.1 hc
    refine x_aload_n (pc' := 139) dX8_laysAnew_138 rfl rfl rfl ?_
    refine x_getr (pc' := 142) dX8_laysAnew_139 rfl lfX8_7 kd_94 rfl rf_94_0 ?_
    refine x_iconst (pc' := 143) (v := 0) dX8_laysAnew_142 rfl (by decide) ?_
    refine x_iload_n (pc' := 144) dX8_laysAnew_143 rfl rfl rfl ?_
    refine x_iast (pc' := 145) dX8_laysAnew_144 rfl kd_95 (by rw [ln_95]; unfold vp_in; decide) ?_
    obtain ⟨τ1, eτ1⟩ : ∃ τ : Mem, τ = (w1 σ 95 0 x1) := ⟨_, rfl⟩
    show X none (d + 1) mX8_laysAnew 145 [.ref 94, .int x1, .int x2] [] (w1 σ 95 0 x1) _
    rw [← eτ1]
    replace h := h τ1 eτ1
    refine x_aload_n (pc' := 146) dX8_laysAnew_145 rfl rfl rfl ?_
    refine x_getr (pc' := 149) dX8_laysAnew_146 rfl lfX8_7 kd_94 rfl rf_94_0 ?_
    refine x_iconst (pc' := 150) (v := 1) dX8_laysAnew_149 rfl (by decide) ?_
    refine x_iconst (pc' := 151) (v := 0) dX8_laysAnew_150 rfl (by decide) ?_
    refine x_iast (pc' := 152) dX8_laysAnew_151 rfl kd_95 (by rw [ln_95]; unfold vp_in; decide) ?_
    obtain ⟨τ2, eτ2⟩ : ∃ τ : Mem, τ = (w1 τ1 95 1 0) := ⟨_, rfl⟩
    show X none (d + 1) mX8_laysAnew 152 [.ref 94, .int x1, .int x2] [] (w1 τ1 95 1 0) _
    rw [← eτ2]
    replace h := h τ2 eτ2
    refine x_aload_n (pc' := 153) dX8_laysAnew_152 rfl rfl rfl ?_
    refine x_getr (pc' := 156) dX8_laysAnew_153 rfl lfX8_7 kd_94 rfl rf_94_0 ?_
    refine x_iconst (pc' := 157) (v := 5) dX8_laysAnew_156 rfl (by decide) ?_
    refine x_dup2 (pc' := 158) dX8_laysAnew_157 rfl rfl rfl ?_
    refine x_iald (pc' := 159) dX8_laysAnew_158 rfl kd_95 (by rw [ln_95]; unfold vp_in; decide) ?_
    show X none (d + 1) mX8_laysAnew 159 [.ref 94, .int x1, .int x2] [.int (τ2.1 95 5), .int 5, .ref 95] τ2 _
    refine x_iconst (pc' := 160) (v := 1) dX8_laysAnew_159 rfl (by decide) ?_
    refine x_iadd (pc' := 161) dX8_laysAnew_160 rfl ?_
    refine x_iast (pc' := 162) dX8_laysAnew_161 rfl kd_95 (by rw [ln_95]; unfold vp_in; decide) ?_
    obtain ⟨τ3, eτ3⟩ : ∃ τ : Mem, τ = (w1 τ2 95 5 ((τ2.1 95 5) + 1)) := ⟨_, rfl⟩
    show X none (d + 1) mX8_laysAnew 162 [.ref 94, .int x1, .int x2] [] (w1 τ2 95 5 ((τ2.1 95 5) + 1)) _
    rw [← eτ3]
    replace h := h τ3 eτ3
    exact x_vret dX8_laysAnew_162 rfl h
  · replace h := h.2 hc
    refine x_aload_n (pc' := 122) dX8_laysAnew_121 rfl rfl rfl ?_
    refine x_getr (pc' := 125) dX8_laysAnew_122 rfl lfX8_7 kd_94 rfl rf_94_0 ?_
    refine x_sipush (pc' := 128) (v := 494) dX8_laysAnew_125 rfl (by decide) ?_
    refine x_iload_n (pc' := 129) dX8_laysAnew_128 rfl rfl rfl ?_
    refine x_iadd (pc' := 130) dX8_laysAnew_129 rfl ?_
    refine x_iconst (pc' := 131) (v := 0) dX8_laysAnew_130 rfl (by decide) ?_
    obtain ⟨hb, h⟩ := h
    refine x_iast (pc' := 132) dX8_laysAnew_131 rfl kd_95 (by rw [ln_95]; exact hb) ?_
    obtain ⟨τ4, eτ4⟩ : ∃ τ : Mem, τ = (w1 σ 95 (494 + x2).toNatClampNeg 0) := ⟨_, rfl⟩
    show X none (d + 1) mX8_laysAnew 132 [.ref 94, .int x1, .int x2] [] (w1 σ 95 (494 + x2).toNatClampNeg 0) _
    rw [← eτ4]
    replace h := h τ4 eτ4
    refine x_iinc (pc' := 135) (v := 1) dX8_laysAnew_132 rfl (by decide) rfl rfl (by decide) (ls' := [.ref 94, .int x1, .int (x2 + 1)]) rfl ?_
    refine x_goto (pc' := 111) dX8_laysAnew_135 (by decide) ?_
    exact h
set_option maxRecDepth 100000 in
set_option maxHeartbeats 4000000 in
theorem vX8_goes_0 {d : Nat} {σ : Mem} {Q : Option Value → Mem → Prop} {x1 : Int32} 
    (h : (X none (d + 1) mX8_carriedBy 0 [.int (σ.1 95 1), Unk, Unk] [] σ (fun r τ1 => ∃ u2 : Int32, r = some (.int u2) ∧ ((∀ τ3 : Mem, τ3 = (w1 τ1 95 4 ((σ.1 95 4) + u2)) → (vp_in (494 + x1) 7458 ∧ (∀ τ4 : Mem, τ4 = (w1 τ3 95 (494 + x1).toNatClampNeg 1) → (vp_in (616 + (τ4.1 95 1)) 7458 ∧ (∀ τ5 : Mem, τ5 = (w1 τ4 95 (616 + (τ4.1 95 1)).toNatClampNeg x1) → ((∀ τ6 : Mem, τ6 = (w1 τ5 95 1 ((τ5.1 95 1) + 1)) → (((τ6.1 95 1) ≤ ((τ6.1 95 0) - (τ6.1 95 1)) → Q (none) τ6) ∧ (¬ (τ6.1 95 1) ≤ ((τ6.1 95 0) - (τ6.1 95 1)) → (X none (d + 1) mX8_laysAnew 0 [.ref 94, Unk, Unk] [] τ6 (fun r τ7 => r = none ∧ Q (none) τ7))))))))))))))) :
    X none (d + 2) mX8_goes 0 [.ref 94, .int x1] [] σ Q := by
  refine x_aload_n (pc' := 1) dX8_goes_0 rfl rfl rfl ?_
  refine x_getr (pc' := 4) dX8_goes_1 rfl lfX8_7 kd_94 rfl rf_94_0 ?_
  refine x_iconst (pc' := 5) (v := 4) dX8_goes_4 rfl (by decide) ?_
  refine x_dup2 (pc' := 6) dX8_goes_5 rfl rfl rfl ?_
  refine x_iald (pc' := 7) dX8_goes_6 rfl kd_95 (by rw [ln_95]; unfold vp_in; decide) ?_
  show X none (d + 2) mX8_goes 7 [.ref 94, .int x1] [.int (σ.1 95 4), .int 4, .ref 95] σ _
  refine x_aload_n (pc' := 8) dX8_goes_7 rfl rfl rfl ?_
  refine x_getr (pc' := 11) dX8_goes_8 rfl lfX8_7 kd_94 rfl rf_94_0 ?_
  refine x_iconst (pc' := 12) (v := 1) dX8_goes_11 rfl (by decide) ?_
  refine x_iald (pc' := 13) dX8_goes_12 rfl kd_95 (by rw [ln_95]; unfold vp_in; decide) ?_
  show X none (d + 2) mX8_goes 13 [.ref 94, .int x1] [.int (σ.1 95 1), .int (σ.1 95 4), .int 4, .ref 95] σ _
  refine x_callS (pc' := 16) (As := [.int (σ.1 95 1)]) dX8_goes_13 rfl lmX8_68 rfl rfl (Nat.le_of_ble_eq_true rfl) (Nat.le_of_ble_eq_true rfl) ?_
  show X none (d + 1) mX8_carriedBy 0 [.int (σ.1 95 1), Unk, Unk] [] σ _
  refine X.mono h ?_
  rintro r τ1 ⟨u2, rfl, h⟩
  show X none (d + 2) mX8_goes 16 [.ref 94, .int x1] [.int u2, .int (σ.1 95 4), .int 4, .ref 95] τ1 _
  refine x_iadd (pc' := 17) dX8_goes_16 rfl ?_
  refine x_iast (pc' := 18) dX8_goes_17 rfl kd_95 (by rw [ln_95]; unfold vp_in; decide) ?_
  obtain ⟨τ3, eτ3⟩ : ∃ τ : Mem, τ = (w1 τ1 95 4 ((σ.1 95 4) + u2)) := ⟨_, rfl⟩
  show X none (d + 2) mX8_goes 18 [.ref 94, .int x1] [] (w1 τ1 95 4 ((σ.1 95 4) + u2)) _
  rw [← eτ3]
  replace h := h τ3 eτ3
  refine x_aload_n (pc' := 19) dX8_goes_18 rfl rfl rfl ?_
  refine x_getr (pc' := 22) dX8_goes_19 rfl lfX8_7 kd_94 rfl rf_94_0 ?_
  refine x_sipush (pc' := 25) (v := 494) dX8_goes_22 rfl (by decide) ?_
  refine x_iload_n (pc' := 26) dX8_goes_25 rfl rfl rfl ?_
  refine x_iadd (pc' := 27) dX8_goes_26 rfl ?_
  refine x_iconst (pc' := 28) (v := 1) dX8_goes_27 rfl (by decide) ?_
  obtain ⟨hb, h⟩ := h
  refine x_iast (pc' := 29) dX8_goes_28 rfl kd_95 (by rw [ln_95]; exact hb) ?_
  obtain ⟨τ4, eτ4⟩ : ∃ τ : Mem, τ = (w1 τ3 95 (494 + x1).toNatClampNeg 1) := ⟨_, rfl⟩
  show X none (d + 2) mX8_goes 29 [.ref 94, .int x1] [] (w1 τ3 95 (494 + x1).toNatClampNeg 1) _
  rw [← eτ4]
  replace h := h τ4 eτ4
  refine x_aload_n (pc' := 30) dX8_goes_29 rfl rfl rfl ?_
  refine x_getr (pc' := 33) dX8_goes_30 rfl lfX8_7 kd_94 rfl rf_94_0 ?_
  refine x_sipush (pc' := 36) (v := 616) dX8_goes_33 rfl (by decide) ?_
  refine x_aload_n (pc' := 37) dX8_goes_36 rfl rfl rfl ?_
  refine x_getr (pc' := 40) dX8_goes_37 rfl lfX8_7 kd_94 rfl rf_94_0 ?_
  refine x_iconst (pc' := 41) (v := 1) dX8_goes_40 rfl (by decide) ?_
  refine x_iald (pc' := 42) dX8_goes_41 rfl kd_95 (by rw [ln_95]; unfold vp_in; decide) ?_
  show X none (d + 2) mX8_goes 42 [.ref 94, .int x1] [.int (τ4.1 95 1), .int 616, .ref 95] τ4 _
  refine x_iadd (pc' := 43) dX8_goes_42 rfl ?_
  refine x_iload_n (pc' := 44) dX8_goes_43 rfl rfl rfl ?_
  obtain ⟨hb, h⟩ := h
  refine x_iast (pc' := 45) dX8_goes_44 rfl kd_95 (by rw [ln_95]; exact hb) ?_
  obtain ⟨τ5, eτ5⟩ : ∃ τ : Mem, τ = (w1 τ4 95 (616 + (τ4.1 95 1)).toNatClampNeg x1) := ⟨_, rfl⟩
  show X none (d + 2) mX8_goes 45 [.ref 94, .int x1] [] (w1 τ4 95 (616 + (τ4.1 95 1)).toNatClampNeg x1) _
  rw [← eτ5]
  replace h := h τ5 eτ5
  refine x_aload_n (pc' := 46) dX8_goes_45 rfl rfl rfl ?_
  refine x_getr (pc' := 49) dX8_goes_46 rfl lfX8_7 kd_94 rfl rf_94_0 ?_
  refine x_iconst (pc' := 50) (v := 1) dX8_goes_49 rfl (by decide) ?_
  refine x_dup2 (pc' := 51) dX8_goes_50 rfl rfl rfl ?_
  refine x_iald (pc' := 52) dX8_goes_51 rfl kd_95 (by rw [ln_95]; unfold vp_in; decide) ?_
  show X none (d + 2) mX8_goes 52 [.ref 94, .int x1] [.int (τ5.1 95 1), .int 1, .ref 95] τ5 _
  refine x_iconst (pc' := 53) (v := 1) dX8_goes_52 rfl (by decide) ?_
  refine x_iadd (pc' := 54) dX8_goes_53 rfl ?_
  refine x_iast (pc' := 55) dX8_goes_54 rfl kd_95 (by rw [ln_95]; unfold vp_in; decide) ?_
  obtain ⟨τ6, eτ6⟩ : ∃ τ : Mem, τ = (w1 τ5 95 1 ((τ5.1 95 1) + 1)) := ⟨_, rfl⟩
  show X none (d + 2) mX8_goes 55 [.ref 94, .int x1] [] (w1 τ5 95 1 ((τ5.1 95 1) + 1)) _
  rw [← eτ6]
  replace h := h τ6 eτ6
  refine x_aload_n (pc' := 56) dX8_goes_55 rfl rfl rfl ?_
  refine x_getr (pc' := 59) dX8_goes_56 rfl lfX8_7 kd_94 rfl rf_94_0 ?_
  refine x_iconst (pc' := 60) (v := 1) dX8_goes_59 rfl (by decide) ?_
  refine x_iald (pc' := 61) dX8_goes_60 rfl kd_95 (by rw [ln_95]; unfold vp_in; decide) ?_
  show X none (d + 2) mX8_goes 61 [.ref 94, .int x1] [.int (τ6.1 95 1)] τ6 _
  refine x_aload_n (pc' := 62) dX8_goes_61 rfl rfl rfl ?_
  refine x_callV (pc' := 65) (As := []) dX8_goes_62 rfl lmX8_72 kd_94 rfl rfl (Nat.le_of_ble_eq_true rfl) (Nat.le_of_ble_eq_true rfl) ?_
  show X none (d + 1) mX8_points 0 [.ref 94] [] τ6 _
  refine x_aload_n (pc' := 1) dX8_points_0 rfl rfl rfl ?_
  refine x_getr (pc' := 4) dX8_points_1 rfl lfX8_7 kd_94 rfl rf_94_0 ?_
  refine x_iconst (pc' := 5) (v := 0) dX8_points_4 rfl (by decide) ?_
  refine x_iald (pc' := 6) dX8_points_5 rfl kd_95 (by rw [ln_95]; unfold vp_in; decide) ?_
  show X none (d + 1) mX8_points 6 [.ref 94] [.int (τ6.1 95 0)] τ6 _
  refine x_aload_n (pc' := 7) dX8_points_6 rfl rfl rfl ?_
  refine x_getr (pc' := 10) dX8_points_7 rfl lfX8_7 kd_94 rfl rf_94_0 ?_
  refine x_iconst (pc' := 11) (v := 1) dX8_points_10 rfl (by decide) ?_
  refine x_iald (pc' := 12) dX8_points_11 rfl kd_95 (by rw [ln_95]; unfold vp_in; decide) ?_
  show X none (d + 1) mX8_points 12 [.ref 94] [.int (τ6.1 95 1), .int (τ6.1 95 0)] τ6 _
  refine x_isub (pc' := 13) dX8_points_12 rfl ?_
  refine x_iret dX8_points_13 rfl rfl ?_
  show X none (d + 2) mX8_goes 65 [.ref 94, .int x1] [.int ((τ6.1 95 0) - (τ6.1 95 1)), .int (τ6.1 95 1)] τ6 _
  refine x_icmp_le (pc' := 68) (tgt := 72) dX8_goes_65 (by decide) rfl (fun hc => ?_) (fun hc => ?_)
  · replace h := h.1 hc
    exact x_vret dX8_goes_72 rfl h
  · replace h := h.2 hc
    refine x_aload_n (pc' := 69) dX8_goes_68 rfl rfl rfl ?_
    refine x_callV (pc' := 72) (As := []) dX8_goes_69 rfl lmX8_76 kd_94 rfl rfl (Nat.le_of_ble_eq_true rfl) (Nat.le_of_ble_eq_true rfl) ?_
    show X none (d + 1) mX8_laysAnew 0 [.ref 94, Unk, Unk] [] τ6 _
    refine X.mono h ?_
    rintro r τ7 ⟨rfl, h⟩
    show X none (d + 2) mX8_goes 72 [.ref 94, .int x1] [] τ7 _
    exact x_vret dX8_goes_72 rfl h
