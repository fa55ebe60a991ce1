set_option maxRecDepth 100000 in
set_option maxHeartbeats 4000000 in
theorem vX8_isIn_0 {d : Nat} {σ : Mem} {Q : Option Value → Mem → Prop} {x1 x2 x3 x4 x5 : Int32} 
    (h : (vp_in (128 + x1) 7458 ∧ ((¬ (x2 ≤ (σ.1 95 (128 + x1).toNatClampNeg) ∧ (σ.1 95 (128 + x1).toNatClampNeg) ≤ x3) → Q (some (.int 0)) σ) ∧ ((x2 ≤ (σ.1 95 (128 + x1).toNatClampNeg) ∧ (σ.1 95 (128 + x1).toNatClampNeg) ≤ x3) → (vp_in (250 + x1) 7458 ∧ ((¬ (x4 ≤ (σ.1 95 (250 + x1).toNatClampNeg) ∧ (σ.1 95 (250 + x1).toNatClampNeg) ≤ x5) → Q (some (.int 0)) σ) ∧ ((x4 ≤ (σ.1 95 (250 + x1).toNatClampNeg) ∧ (σ.1 95 (250 + x1).toNatClampNeg) ≤ x5) → Q (some (.int 1)) σ))))))) :
    X none (d + 1) mX8_isIn 0 [.ref 94, .int x1, .int x2, .int x3, .int x4, .int x5] [] σ Q := by
  refine x_aload_n (pc' := 1) dX8_isIn_0 rfl rfl rfl ?_
  refine x_getr (pc' := 4) dX8_isIn_1 rfl lfX8_7 kd_94 rfl rf_94_0 ?_
  refine x_sipush (pc' := 7) (v := 128) dX8_isIn_4 rfl (by decide) ?_
  refine x_iload_n (pc' := 8) dX8_isIn_7 rfl rfl rfl ?_
  refine x_iadd (pc' := 9) dX8_isIn_8 rfl ?_
  obtain ⟨hb, h⟩ := h
  refine x_iald (pc' := 10) dX8_isIn_9 rfl kd_95 (by rw [ln_95]; exact hb) ?_
  refine x_i2l (pc' := 11) dX8_isIn_10 rfl ?_
  refine x_iload_n (pc' := 12) dX8_isIn_11 rfl rfl rfl ?_
  refine x_i2l (pc' := 13) dX8_isIn_12 rfl ?_
  refine x_iload_n (pc' := 14) dX8_isIn_13 rfl rfl rfl ?_
  refine x_i2l (pc' := 15) dX8_isIn_14 rfl ?_
  refine x_callS (pc' := 18) (As := [.long (((σ.1 95 (128 + x1).toNatClampNeg)).toInt64), .long ((x2).toInt64), .long ((x3).toInt64)]) dX8_isIn_15 rfl lmX8_49 rfl rfl (Nat.le_of_ble_eq_true rfl) (Nat.le_of_ble_eq_true rfl) ?_
  show X none d mX8_in 0 [.long (((σ.1 95 (128 + x1).toNatClampNeg)).toInt64), Unk, .long ((x2).toInt64), Unk, .long ((x3).toInt64), Unk] [] σ _
  refine sp_in (x := (σ.1 95 (128 + x1).toNatClampNeg)) (lo := x2) (hi := x3) rfl rfl ?_
  show X none (d + 1) mX8_isIn 18 [.ref 94, .int x1, .int x2, .int x3, .int x4, .int x5] [.int (if (x2 ≤ (σ.1 95 (128 + x1).toNatClampNeg) ∧ (σ.1 95 (128 + x1).toNatClampNeg) ≤ x3) then 1 else 0)] σ _
  refine x_if_eq (pc' := 21) (tgt := 48) dX8_isIn_18 (by decide) rfl (fun hc => ?_) (fun hc => ?_)
  · replace h := h.1 (b01_ne hc)
    refine x_iconst (pc' := 49) (v := 0) dX8_isIn_48 rfl (by decide) ?_
    exact x_iret dX8_isIn_49 rfl rfl h
  · replace h := h.2 (b01_eq hc)
    refine x_aload_n (pc' := 22) dX8_isIn_21 rfl rfl rfl ?_
    refine x_getr (pc' := 25) dX8_isIn_22 rfl lfX8_7 kd_94 rfl rf_94_0 ?_
    refine x_sipush (pc' := 28) (v := 250) dX8_isIn_25 rfl (by decide) ?_
    refine x_iload_n (pc' := 29) dX8_isIn_28 rfl rfl rfl ?_
    refine x_iadd (pc' := 30) dX8_isIn_29 rfl ?_
    obtain ⟨hb, h⟩ := h
    refine x_iald (pc' := 31) dX8_isIn_30 rfl kd_95 (by rw [ln_95]; exact hb) ?_
    refine x_i2l (pc' := 32) dX8_isIn_31 rfl ?_
    refine x_iload (pc' := 34) dX8_isIn_32 rfl rfl ?_
    refine x_i2l (pc' := 35) dX8_isIn_34 rfl ?_
    refine x_iload (pc' := 37) dX8_isIn_35 rfl rfl ?_
    refine x_i2l (pc' := 38) dX8_isIn_37 rfl ?_
    refine x_callS (pc' := 41) (As := [.long (((σ.1 95 (250 + x1).toNatClampNeg)).toInt64), .long ((x4).toInt64), .long ((x5).toInt64)]) dX8_isIn_38 rfl lmX8_49 rfl rfl (Nat.le_of_ble_eq_true rfl) (Nat.le_of_ble_eq_true rfl) ?_
    show X none d mX8_in 0 [.long (((σ.1 95 (250 + x1).toNatClampNeg)).toInt64), Unk, .long ((x4).toInt64), Unk, .long ((x5).toInt64), Unk] [] σ _
    refine sp_in (x := (σ.1 95 (250 + x1).toNatClampNeg)) (lo := x4) (hi := x5) rfl rfl ?_
    show X none (d + 1) mX8_isIn 41 [.ref 94, .int x1, .int x2, .int x3, .int x4, .int x5] [.int (if (x4 ≤ (σ.1 95 (250 + x1).toNatClampNeg) ∧ (σ.1 95 (250 + x1).toNatClampNeg) ≤ x5) then 1 else 0)] σ _
    refine x_if_eq (pc' := 44) (tgt := 48) dX8_isIn_41 (by decide) rfl (fun hc => ?_) (fun hc => ?_)
    · replace h := h.1 (b01_ne hc)
      refine x_iconst (pc' := 49) (v := 0) dX8_isIn_48 rfl (by decide) ?_
      exact x_iret dX8_isIn_49 rfl rfl h
    · replace h := h.2 (b01_eq hc)
      refine x_iconst (pc' := 45) (v := 1) dX8_isIn_44 rfl (by decide) ?_
      refine x_goto (pc' := 49) dX8_isIn_45 (by decide) ?_
      exact x_iret dX8_isIn_49 rfl rfl h
set_option maxRecDepth 100000 in
set_option maxHeartbeats 4000000 in
theorem vX8_isAhead_0 {d : Nat} {σ : Mem} {Q : Option Value → Mem → Prop} {x1 x2 : Int32} 
    (h : (vp_in (128 + x1) 7458 ∧ (vp_in (128 + x2) 7458 ∧ (((σ.1 95 (128 + x1).toNatClampNeg) = (σ.1 95 (128 + x2).toNatClampNeg) → (vp_in (250 + x1) 7458 ∧ (vp_in (250 + x2) 7458 ∧ (((σ.1 95 (250 + x1).toNatClampNeg) = (σ.1 95 (250 + x2).toNatClampNeg) → (vp_in (6 + x1) 7458 ∧ (vp_in (6 + x2) 7458 ∧ ((0 ≤ ((σ.1 95 (6 + x1).toNatClampNeg) - (σ.1 95 (6 + x2).toNatClampNeg)) → Q (some (.int 0)) σ) ∧ (¬ 0 ≤ ((σ.1 95 (6 + x1).toNatClampNeg) - (σ.1 95 (6 + x2).toNatClampNeg)) → Q (some (.int 1)) σ))))) ∧ (¬ (σ.1 95 (250 + x1).toNatClampNeg) = (σ.1 95 (250 + x2).toNatClampNeg) → (vp_in (250 + x1) 7458 ∧ (vp_in (250 + x2) 7458 ∧ ((0 ≤ ((σ.1 95 (250 + x1).toNatClampNeg) - (σ.1 95 (250 + x2).toNatClampNeg)) → Q (some (.int 0)) σ) ∧ (¬ 0 ≤ ((σ.1 95 (250 + x1).toNatClampNeg) - (σ.1 95 (250 + x2).toNatClampNeg)) → Q (some (.int 1)) σ))))))))) ∧ (¬ (σ.1 95 (128 + x1).toNatClampNeg) = (σ.1 95 (128 + x2).toNatClampNeg) → (vp_in (128 + x1) 7458 ∧ (vp_in (128 + x2) 7458 ∧ ((0 ≤ ((σ.1 95 (128 + x1).toNatClampNeg) - (σ.1 95 (128 + x2).toNatClampNeg)) → Q (some (.int 0)) σ) ∧ (¬ 0 ≤ ((σ.1 95 (128 + x1).toNatClampNeg) - (σ.1 95 (128 + x2).toNatClampNeg)) → Q (some (.int 1)) σ))))))))) :
    X none d mX8_isAhead 0 [.ref 94, .int x1, .int x2, Unk] [] σ Q := by
  refine x_aload_n (pc' := 1) dX8_isAhead_0 rfl rfl rfl ?_
  refine x_getr (pc' := 4) dX8_isAhead_1 rfl lfX8_7 kd_94 rfl rf_94_0 ?_
  refine x_sipush (pc' := 7) (v := 128) dX8_isAhead_4 rfl (by decide) ?_
  refine x_iload_n (pc' := 8) dX8_isAhead_7 rfl rfl rfl ?_
  refine x_iadd (pc' := 9) dX8_isAhead_8 rfl ?_
  obtain ⟨hb, h⟩ := h
  refine x_iald (pc' := 10) dX8_isAhead_9 rfl kd_95 (by rw [ln_95]; exact hb) ?_
  refine x_aload_n (pc' := 11) dX8_isAhead_10 rfl rfl rfl ?_
  refine x_getr (pc' := 14) dX8_isAhead_11 rfl lfX8_7 kd_94 rfl rf_94_0 ?_
  refine x_sipush (pc' := 17) (v := 128) dX8_isAhead_14 rfl (by decide) ?_
  refine x_iload_n (pc' := 18) dX8_isAhead_17 rfl rfl rfl ?_
  refine x_iadd (pc' := 19) dX8_isAhead_18 rfl ?_
  obtain ⟨hb, h⟩ := h
  refine x_iald (pc' := 20) dX8_isAhead_19 rfl kd_95 (by rw [ln_95]; exact hb) ?_
  refine x_icmp_eq (pc' := 23) (tgt := 47) dX8_isAhead_20 (by decide) rfl (fun hc => ?_) (fun hc => ?_)
  · replace h := h.1 hc
    refine x_aload_n (pc' := 48) dX8_isAhead_47 rfl rfl rfl ?_
    refine x_getr (pc' := 51) dX8_isAhead_48 rfl lfX8_7 kd_94 rfl rf_94_0 ?_
    refine x_sipush (pc' := 54) (v := 250) dX8_isAhead_51 rfl (by decide) ?_
    refine x_iload_n (pc' := 55) dX8_isAhead_54 rfl rfl rfl ?_
    refine x_iadd (pc' := 56) dX8_isAhead_55 rfl ?_
    obtain ⟨hb, h⟩ := h
    refine x_iald (pc' := 57) dX8_isAhead_56 rfl kd_95 (by rw [ln_95]; exact hb) ?_
    refine x_aload_n (pc' := 58) dX8_isAhead_57 rfl rfl rfl ?_
    refine x_getr (pc' := 61) dX8_isAhead_58 rfl lfX8_7 kd_94 rfl rf_94_0 ?_
    refine x_sipush (pc' := 64) (v := 250) dX8_isAhead_61 rfl (by decide) ?_
    refine x_iload_n (pc' := 65) dX8_isAhead_64 rfl rfl rfl ?_
    refine x_iadd (pc' := 66) dX8_isAhead_65 rfl ?_
    obtain ⟨hb, h⟩ := h
    refine x_iald (pc' := 67) dX8_isAhead_66 rfl kd_95 (by rw [ln_95]; exact hb) ?_
    refine x_icmp_eq (pc' := 70) (tgt := 94) dX8_isAhead_67 (by decide) rfl (fun hc => ?_) (fun hc => ?_)
    · replace h := h.1 hc
      refine x_aload_n (pc' := 95) dX8_isAhead_94 rfl rfl rfl ?_
      refine x_getr (pc' := 98) dX8_isAhead_95 rfl lfX8_7 kd_94 rfl rf_94_0 ?_
      refine x_bipush (pc' := 100) (v := 6) dX8_isAhead_98 rfl (by decide) ?_
      refine x_iload_n (pc' := 101) dX8_isAhead_100 rfl rfl rfl ?_
      refine x_iadd (pc' := 102) dX8_isAhead_101 rfl ?_
      obtain ⟨hb, h⟩ := h
      refine x_iald (pc' := 103) dX8_isAhead_102 rfl kd_95 (by rw [ln_95]; exact hb) ?_
      refine x_aload_n (pc' := 104) dX8_isAhead_103 rfl rfl rfl ?_
      refine x_getr (pc' := 107) dX8_isAhead_104 rfl lfX8_7 kd_94 rfl rf_94_0 ?_
      refine x_bipush (pc' := 109) (v := 6) dX8_isAhead_107 rfl (by decide) ?_
      refine x_iload_n (pc' := 110) dX8_isAhead_109 rfl rfl rfl ?_
      refine x_iadd (pc' := 111) dX8_isAhead_110 rfl ?_
      obtain ⟨hb, h⟩ := h
      refine x_iald (pc' := 112) dX8_isAhead_111 rfl kd_95 (by rw [ln_95]; exact hb) ?_
      refine x_isub (pc' := 113) dX8_isAhead_112 rfl ?_
      refine x_istore_n (pc' := 114) dX8_isAhead_113 rfl rfl (by decide) rfl (ls' := [.ref 94, .int x1, .int x2, .int ((σ.1 95 (6 + x1).toNatClampNeg) - (σ.1 95 (6 + x2).toNatClampNeg))]) rfl ?_
      refine x_iload_n (pc' := 115) dX8_isAhead_114 rfl rfl rfl ?_
      refine x_if_ge (pc' := 118) (tgt := 122) dX8_isAhead_115 (by decide) rfl (fun hc => ?_) (fun hc => ?_)
      · replace h := h.1 hc
        refine x_iconst (pc' := 123) (v := 0) dX8_isAhead_122 rfl (by decide) ?_
        exact x_iret dX8_isAhead_123 rfl rfl h
      · replace h := h.2 hc
        refine x_iconst (pc' := 119) (v := 1) dX8_isAhead_118 rfl (by decide) ?_
        refine x_goto (pc' := 123) dX8_isAhead_119 (by decide) ?_
        exact x_iret dX8_isAhead_123 rfl rfl h
    · replace h := h.2 hc
      refine x_aload_n (pc' := 71) dX8_isAhead_70 rfl rfl rfl ?_
      refine x_getr (pc' := 74) dX8_isAhead_71 rfl lfX8_7 kd_94 rfl rf_94_0 ?_
      refine x_sipush (pc' := 77) (v := 250) dX8_isAhead_74 rfl (by decide) ?_
      refine x_iload_n (pc' := 78) dX8_isAhead_77 rfl rfl rfl ?_
      refine x_iadd (pc' := 79) dX8_isAhead_78 rfl ?_
      obtain ⟨hb, h⟩ := h
      refine x_iald (pc' := 80) dX8_isAhead_79 rfl kd_95 (by rw [ln_95]; exact hb) ?_
      refine x_aload_n (pc' := 81) dX8_isAhead_80 rfl rfl rfl ?_
      refine x_getr (pc' := 84) dX8_isAhead_81 rfl lfX8_7 kd_94 rfl rf_94_0 ?_
      refine x_sipush (pc' := 87) (v := 250) dX8_isAhead_84 rfl (by decide) ?_
      refine x_iload_n (pc' := 88) dX8_isAhead_87 rfl rfl rfl ?_
      refine x_iadd (pc' := 89) dX8_isAhead_88 rfl ?_
      obtain ⟨hb, h⟩ := h
      refine x_iald (pc' := 90) dX8_isAhead_89 rfl kd_95 (by rw [ln_95]; exact hb) ?_
      refine x_isub (pc' := 91) dX8_isAhead_90 rfl ?_
      refine x_goto (pc' := 113) dX8_isAhead_91 (by decide) ?_
      refine x_istore_n (pc' := 114) dX8_isAhead_113 rfl rfl (by decide) rfl (ls' := [.ref 94, .int x1, .int x2, .int ((σ.1 95 (250 + x1).toNatClampNeg) - (σ.1 95 (250 + x2).toNatClampNeg))]) rfl ?_
      refine x_iload_n (pc' := 115) dX8_isAhead_114 rfl rfl rfl ?_
      refine x_if_ge (pc' := 118) (tgt := 122) dX8_isAhead_115 (by decide) rfl (fun hc => ?_) (fun hc => ?_)
      · replace h := h.1 hc
        refine x_iconst (pc' := 123) (v := 0) dX8_isAhead_122 rfl (by decide) ?_
        exact x_iret dX8_isAhead_123 rfl rfl h
      · replace h := h.2 hc
        refine x_iconst (pc' := 119) (v := 1) dX8_isAhead_118 rfl (by decide) ?_
        refine x_goto (pc' := 123) dX8_isAhead_119 (by decide) ?_
        exact x_iret dX8_isAhead_123 rfl rfl h
  · replace h := h.2 hc
    refine x_aload_n (pc' := 24) dX8_isAhead_23 rfl rfl rfl ?_
    refine x_getr (pc' := 27) dX8_isAhead_24 rfl lfX8_7 kd_94 rfl rf_94_0 ?_
    refine x_sipush (pc' := 30) (v := 128) dX8_isAhead_27 rfl (by decide) ?_
    refine x_iload_n (pc' := 31) dX8_isAhead_30 rfl rfl rfl ?_
    refine x_iadd (pc' := 32) dX8_isAhead_31 rfl ?_
    obtain ⟨hb, h⟩ := h
    refine x_iald (pc' := 33) dX8_isAhead_32 rfl kd_95 (by rw [ln_95]; exact hb) ?_
    refine x_aload_n (pc' := 34) dX8_isAhead_33 rfl rfl rfl ?_
    refine x_getr (pc' := 37) dX8_isAhead_34 rfl lfX8_7 kd_94 rfl rf_94_0 ?_
    refine x_sipush (pc' := 40) (v := 128) dX8_isAhead_37 rfl (by decide) ?_
    refine x_iload_n (pc' := 41) dX8_isAhead_40 rfl rfl rfl ?_
    refine x_iadd (pc' := 42) dX8_isAhead_41 rfl ?_
    obtain ⟨hb, h⟩ := h
    refine x_iald (pc' := 43) dX8_isAhead_42 rfl kd_95 (by rw [ln_95]; exact hb) ?_
    refine x_isub (pc' := 44) dX8_isAhead_43 rfl ?_
    refine x_goto (pc' := 113) dX8_isAhead_44 (by decide) ?_
    refine x_istore_n (pc' := 114) dX8_isAhead_113 rfl rfl (by decide) rfl (ls' := [.ref 94, .int x1, .int x2, .int ((σ.1 95 (128 + x1).toNatClampNeg) - (σ.1 95 (128 + x2).toNatClampNeg))]) rfl ?_
    refine x_iload_n (pc' := 115) dX8_isAhead_114 rfl rfl rfl ?_
    refine x_if_ge (pc' := 118) (tgt := 122) dX8_isAhead_115 (by decide) rfl (fun hc => ?_) (fun hc => ?_)
    · replace h := h.1 hc
      refine x_iconst (pc' := 123) (v := 0) dX8_isAhead_122 rfl (by decide) ?_
      exact x_iret dX8_isAhead_123 rfl rfl h
    · replace h := h.2 hc
      refine x_iconst (pc' := 119) (v := 1) dX8_isAhead_118 rfl (by decide) ?_
      refine x_goto (pc' := 123) dX8_isAhead_119 (by decide) ?_
      exact x_iret dX8_isAhead_123 rfl rfl h
set_option maxRecDepth 100000 in
set_option maxHeartbeats 4000000 in
theorem vX8_insert_0 {d : Nat} {σ : Mem} {Q : Option Value → Mem → Prop} {x1 : Int32} 
    (h : X none (d + 1) mX8_insert 5 [.ref 94, .int x1, .int (σ.1 94 12)] [] σ Q) :
    X none (d + 1) mX8_insert 0 [.ref 94, .int x1, Unk] [] σ Q := by
  refine x_aload_n (pc' := 1) dX8_insert_0 rfl rfl rfl ?_
  refine x_geti (pc' := 4) dX8_insert_1 rfl lfX8_113 kd_94 rfl ?_
  refine x_istore_n (pc' := 5) dX8_insert_4 rfl rfl (by decide) rfl (ls' := [.ref 94, .int x1, .int (σ.1 94 12)]) rfl ?_
  exact h
set_option maxRecDepth 100000 in
set_option maxHeartbeats 4000000 in
theorem vX8_insert_5 {d : Nat} {σ : Mem} {Q : Option Value → Mem → Prop} {x1 x2 : Int32} 
    (h : ((x2 ≤ 0 → (vp_in x2 60 ∧ (∀ τ1 : Mem, τ1 = (w1 σ 100 x2.toNatClampNeg x1) → (∀ τ2 : Mem, τ2 = (w1 τ1 94 12 ((τ1.1 94 12) + 1)) → Q (none) τ2)))) ∧ (¬ x2 ≤ 0 → (vp_in (x2 - 1) 60 ∧ (X none d mX8_isAhead 0 [.ref 94, .int x1, .int (σ.1 100 (x2 - 1).toNatClampNeg), Unk] [] σ (fun r τ3 => ∃ u4 : Int32, r = some (.int u4) ∧ ((u4 = 0 → (vp_in x2 60 ∧ (∀ τ5 : Mem, τ5 = (w1 τ3 100 x2.toNatClampNeg x1) → (∀ τ6 : Mem, τ6 = (w1 τ5 94 12 ((τ5.1 94 12) + 1)) → Q (none) τ6)))) ∧ (¬ u4 = 0 → (vp_in (x2 - 1) 60 ∧ (vp_in x2 60 ∧ (∀ τ7 : Mem, τ7 = (w1 τ3 100 x2.toNatClampNeg (τ3.1 100 (x2 - 1).toNatClampNeg)) → X none (d + 1) mX8_insert 5 [.ref 94, .int x1, .int (x2 + (-1))] [] τ7 Q))))))))))) :
    X none (d + 1) mX8_insert 5 [.ref 94, .int x1, .int x2] [] σ Q := by
  refine x_iload_n (pc' := 6) dX8_insert_5 rfl rfl rfl ?_
  refine x_if_le (pc' := 9) (tgt := 45) dX8_insert_6 (by decide) rfl (fun hc => ?_) (fun hc => ?_)
  · replace h := h.1 hc
    refine x_aload_n (pc' := 46) dX8_insert_45 rfl rfl rfl ?_
    refine x_getr (pc' := 49) dX8_insert_46 rfl lfX8_33 kd_94 rfl rf_94_11 ?_
    refine x_iload_n (pc' := 50) dX8_insert_49 rfl rfl rfl ?_
    refine x_iload_n (pc' := 51) dX8_insert_50 rfl rfl rfl ?_
    obtain ⟨hb, h⟩ := h
    refine x_iast (pc' := 52) dX8_insert_51 rfl kd_100 (by rw [ln_100]; exact hb) ?_
    obtain ⟨τ1, eτ1⟩ : ∃ τ : Mem, τ = (w1 σ 100 x2.toNatClampNeg x1) := ⟨_, rfl⟩
    show X none (d + 1) mX8_insert 52 [.ref 94, .int x1, .int x2] [] (w1 σ 100 x2.toNatClampNeg x1) _
    rw [← eτ1]
    replace h := h τ1 eτ1
    refine x_aload_n (pc' := 53) dX8_insert_52 rfl rfl rfl ?_
    refine x_dup (pc' := 54) dX8_insert_53 rfl rfl ?_
    refine x_geti (pc' := 57) dX8_insert_54 rfl lfX8_113 kd_94 rfl ?_
    refine x_iconst (pc' := 58) (v := 1) dX8_insert_57 rfl (by decide) ?_
    refine x_iadd (pc' := 59) dX8_insert_58 rfl ?_
    refine x_puti (pc' := 62) dX8_insert_59 rfl lfX8_113 kd_94 rfl rfl rfl ?_
    obtain ⟨τ2, eτ2⟩ : ∃ τ : Mem, τ = (w1 τ1 94 12 ((τ1.1 94 12) + 1)) := ⟨_, rfl⟩
    show X none (d + 1) mX8_insert 62 [.ref 94, .int x1, .int x2] [] (w1 τ1 94 12 ((τ1.1 94 12) + 1)) _
    rw [← eτ2]
    replace h := h τ2 eτ2
    exact x_vret dX8_insert_62 rfl h
  · replace h := h.2 hc
    refine x_aload_n (pc' := 10) dX8_insert_9 rfl rfl rfl ?_
    refine x_iload_n (pc' := 11) dX8_insert_10 rfl rfl rfl ?_
    refine x_aload_n (pc' := 12) dX8_insert_11 rfl rfl rfl ?_
    refine x_getr (pc' := 15) dX8_insert_12 rfl lfX8_33 kd_94 rfl rf_94_11 ?_
    refine x_iload_n (pc' := 16) dX8_insert_15 rfl rfl rfl ?_
    refine x_iconst (pc' := 17) (v := 1) dX8_insert_16 rfl (by decide) ?_
    refine x_isub (pc' := 18) dX8_insert_17 rfl ?_
    obtain ⟨hb, h⟩ := h
    refine x_iald (pc' := 19) dX8_insert_18 rfl kd_100 (by rw [ln_100]; exact hb) ?_
    refine x_callV (pc' := 22) (As := [.int x1, .int (σ.1 100 (x2 - 1).toNatClampNeg)]) dX8_insert_19 rfl lmX8_116 kd_94 rfl rfl (Nat.le_of_ble_eq_true rfl) (Nat.le_of_ble_eq_true rfl) ?_
    show X none d mX8_isAhead 0 [.ref 94, .int x1, .int (σ.1 100 (x2 - 1).toNatClampNeg), Unk] [] σ _
    refine X.mono h ?_
    rintro r τ3 ⟨u4, rfl, h⟩
    show X none (d + 1) mX8_insert 22 [.ref 94, .int x1, .int x2] [.int u4] τ3 _
    refine x_if_eq (pc' := 25) (tgt := 45) dX8_insert_22 (by decide) rfl (fun hc => ?_) (fun hc => ?_)
    · replace h := h.1 hc
      refine x_aload_n (pc' := 46) dX8_insert_45 rfl rfl rfl ?_
      refine x_getr (pc' := 49) dX8_insert_46 rfl lfX8_33 kd_94 rfl rf_94_11 ?_
      refine x_iload_n (pc' := 50) dX8_insert_49 rfl rfl rfl ?_
      refine x_iload_n (pc' := 51) dX8_insert_50 rfl rfl rfl ?_
      obtain ⟨hb, h⟩ := h
      refine x_iast (pc' := 52) dX8_insert_51 rfl kd_100 (by rw [ln_100]; exact hb) ?_
      obtain ⟨τ5, eτ5⟩ : ∃ τ : Mem, τ = (w1 τ3 100 x2.toNatClampNeg x1) := ⟨_, rfl⟩
      show X none (d + 1) mX8_insert 52 [.ref 94, .int x1, .int x2] [] (w1 τ3 100 x2.toNatClampNeg x1) _
      rw [← eτ5]
      replace h := h τ5 eτ5
      refine x_aload_n (pc' := 53) dX8_insert_52 rfl rfl rfl ?_
      refine x_dup (pc' := 54) dX8_insert_53 rfl rfl ?_
      refine x_geti (pc' := 57) dX8_insert_54 rfl lfX8_113 kd_94 rfl ?_
      refine x_iconst (pc' := 58) (v := 1) dX8_insert_57 rfl (by decide) ?_
      refine x_iadd (pc' := 59) dX8_insert_58 rfl ?_
      refine x_puti (pc' := 62) dX8_insert_59 rfl lfX8_113 kd_94 rfl rfl rfl ?_
      obtain ⟨τ6, eτ6⟩ : ∃ τ : Mem, τ = (w1 τ5 94 12 ((τ5.1 94 12) + 1)) := ⟨_, rfl⟩
      show X none (d + 1) mX8_insert 62 [.ref 94, .int x1, .int x2] [] (w1 τ5 94 12 ((τ5.1 94 12) + 1)) _
      rw [← eτ6]
      replace h := h τ6 eτ6
      exact x_vret dX8_insert_62 rfl h
    · replace h := h.2 hc
      refine x_aload_n (pc' := 26) dX8_insert_25 rfl rfl rfl ?_
      refine x_getr (pc' := 29) dX8_insert_26 rfl lfX8_33 kd_94 rfl rf_94_11 ?_
      refine x_iload_n (pc' := 30) dX8_insert_29 rfl rfl rfl ?_
      refine x_aload_n (pc' := 31) dX8_insert_30 rfl rfl rfl ?_
      refine x_getr (pc' := 34) dX8_insert_31 rfl lfX8_33 kd_94 rfl rf_94_11 ?_
      refine x_iload_n (pc' := 35) dX8_insert_34 rfl rfl rfl ?_
      refine x_iconst (pc' := 36) (v := 1) dX8_insert_35 rfl (by decide) ?_
      refine x_isub (pc' := 37) dX8_insert_36 rfl ?_
      obtain ⟨hb, h⟩ := h
      refine x_iald (pc' := 38) dX8_insert_37 rfl kd_100 (by rw [ln_100]; exact hb) ?_
      obtain ⟨hb, h⟩ := h
      refine x_iast (pc' := 39) dX8_insert_38 rfl kd_100 (by rw [ln_100]; exact hb) ?_
      obtain ⟨τ7, eτ7⟩ : ∃ τ : Mem, τ = (w1 τ3 100 x2.toNatClampNeg (τ3.1 100 (x2 - 1).toNatClampNeg)) := ⟨_, rfl⟩
      show X none (d + 1) mX8_insert 39 [.ref 94, .int x1, .int x2] [] (w1 τ3 100 x2.toNatClampNeg (τ3.1 100 (x2 - 1).toNatClampNeg)) _
      rw [← eτ7]
      replace h := h τ7 eτ7
      refine x_iinc (pc' := 42) (v := (-1)) dX8_insert_39 rfl (by decide) rfl rfl (by decide) (ls' := [.ref 94, .int x1, .int (x2 + (-1))]) rfl ?_
      refine x_goto (pc' := 5) dX8_insert_42 (by decide) ?_
      exact h
set_option maxRecDepth 100000 in
set_option maxHeartbeats 4000000 in
theorem vX8_lines_0 {d : Nat} {σ : Mem} {Q : Option Value → Mem → Prop} {x1 x2 x3 x4 : Int32} 
    (h : (∀ τ1 : Mem, τ1 = (w1 σ 94 12 0) → X none (d + 2) mX8_lines 8 [.ref 94, .int x1, .int x2, .int x3, .int x4, .int 0] [] τ1 Q)) :
    X none (d + 2) mX8_lines 0 [.ref 94, .int x1, .int x2, .int x3, .int x4, Unk] [] σ Q := by
  refine x_aload_n (pc' := 1) dX8_lines_0 rfl rfl rfl ?_
  refine x_iconst (pc' := 2) (v := 0) dX8_lines_1 rfl (by decide) ?_
  refine x_puti (pc' := 5) dX8_lines_2 rfl lfX8_113 kd_94 rfl rfl rfl ?_
  obtain ⟨τ1, eτ1⟩ : ∃ τ : Mem, τ = (w1 σ 94 12 0) := ⟨_, rfl⟩
  show X none (d + 2) mX8_lines 5 [.ref 94, .int x1, .int x2, .int x3, .int x4, Unk] [] (w1 σ 94 12 0) _
  rw [← eτ1]
  replace h := h τ1 eτ1
  refine x_iconst (pc' := 6) (v := 0) dX8_lines_5 rfl (by decide) ?_
  refine x_istore (pc' := 8) dX8_lines_6 rfl (by decide) rfl (ls' := [.ref 94, .int x1, .int x2, .int x3, .int x4, .int 0]) rfl ?_
  exact h
set_option maxRecDepth 100000 in
set_option maxHeartbeats 4000000 in
theorem vX8_lines_8 {d : Nat} {σ : Mem} {Q : Option Value → Mem → Prop} {x1 x2 x3 x4 x5 : Int32} 
    (h : (((σ.1 95 0) ≤ x5 → Q (none) σ) ∧ (¬ (σ.1 95 0) ≤ x5 → (vp_in (494 + x5) 7458 ∧ ((¬ (σ.1 95 (494 + x5).toNatClampNeg) = 0 → X none (d + 2) mX8_lines 8 [.ref 94, .int x1, .int x2, .int x3, .int x4, .int (x5 + 1)] [] σ Q) ∧ ((σ.1 95 (494 + x5).toNatClampNeg) = 0 → (X none (d + 1) mX8_isIn 0 [.ref 94, .int x5, .int x1, .int x2, .int x3, .int x4] [] σ (fun r τ1 => ∃ u2 : Int32, r = some (.int u2) ∧ ((u2 = 0 → X none (d + 2) mX8_lines 8 [.ref 94, .int x1, .int x2, .int x3, .int x4, .int (x5 + 1)] [] τ1 Q) ∧ (¬ u2 = 0 → (X none (d + 1) mX8_insert 0 [.ref 94, .int x5, Unk] [] τ1 (fun r τ3 => r = none ∧ X none (d + 2) mX8_lines 8 [.ref 94, .int x1, .int x2, .int x3, .int x4, .int (x5 + 1)] [] τ3 Q)))))))))))) :
    X none (d + 2) mX8_lines 8 [.ref 94, .int x1, .int x2, .int x3, .int x4, .int x5] [] σ Q := by
  refine x_iload (pc' := 10) dX8_lines_8 rfl rfl ?_
  refine x_aload_n (pc' := 11) dX8_lines_10 rfl rfl rfl ?_
  refine x_getr (pc' := 14) dX8_lines_11 rfl lfX8_7 kd_94 rfl rf_94_0 ?_
  refine x_iconst (pc' := 15) (v := 0) dX8_lines_14 rfl (by decide) ?_
  refine x_iald (pc' := 16) dX8_lines_15 rfl kd_95 (by rw [ln_95]; unfold vp_in; decide) ?_
  show X none (d + 2) mX8_lines 16 [.ref 94, .int x1, .int x2, .int x3, .int x4, .int x5] [.int (σ.1 95 0), .int x5] σ _
  refine x_icmp_ge (pc' := 19) (tgt := 54) dX8_lines_16 (by decide) rfl (fun hc => ?_) (fun hc => ?_)
  · replace h := h.1 hc
    exact x_vret dX8_lines_54 rfl h
  · replace h := h.2 hc
    refine x_aload_n (pc' := 20) dX8_lines_19 rfl rfl rfl ?_
    refine x_iload (pc' := 22) dX8_lines_20 rfl rfl ?_
    refine x_callV (pc' := 25) (As := [.int x5]) dX8_lines_22 rfl lmX8_57 kd_94 rfl rfl (Nat.le_of_ble_eq_true rfl) (Nat.le_of_ble_eq_true rfl) ?_
    show X none (d + 1) mX8_isThere 0 [.ref 94, .int x5] [] σ _
    refine x_aload_n (pc' := 1) dX8_isThere_0 rfl rfl rfl ?_
    refine x_getr (pc' := 4) dX8_isThere_1 rfl lfX8_7 kd_94 rfl rf_94_0 ?_
    refine x_sipush (pc' := 7) (v := 494) dX8_isThere_4 rfl (by decide) ?_
    refine x_iload_n (pc' := 8) dX8_isThere_7 rfl rfl rfl ?_
    refine x_iadd (pc' := 9) dX8_isThere_8 rfl ?_
    obtain ⟨hb, h⟩ := h
    refine x_iald (pc' := 10) dX8_isThere_9 rfl kd_95 (by rw [ln_95]; exact hb) ?_
    refine x_if_ne (pc' := 13) (tgt := 17) dX8_isThere_10 (by decide) rfl (fun hc => ?_) (fun hc => ?_)
    · replace h := h.1 hc
      refine x_iconst (pc' := 18) (v := 0) dX8_isThere_17 rfl (by decide) ?_
      refine x_iret dX8_isThere_18 rfl rfl ?_
      show X none (d + 2) mX8_lines 25 [.ref 94, .int x1, .int x2, .int x3, .int x4, .int x5] [.int 0] σ _
      refine x_if_eq (pc' := 28) (tgt := 48) dX8_lines_25 (by decide) rfl (fun _ => ?_) (fun hc => absurd hc (by decide))
      refine x_iinc (pc' := 51) (v := 1) dX8_lines_48 rfl (by decide) rfl rfl (by decide) (ls' := [.ref 94, .int x1, .int x2, .int x3, .int x4, .int (x5 + 1)]) rfl ?_
      refine x_goto (pc' := 8) dX8_lines_51 (by decide) ?_
      exact h
    · replace h := h.2 hc
      refine x_iconst (pc' := 14) (v := 1) dX8_isThere_13 rfl (by decide) ?_
      refine x_goto (pc' := 18) dX8_isThere_14 (by decide) ?_
      refine x_iret dX8_isThere_18 rfl rfl ?_
      show X none (d + 2) mX8_lines 25 [.ref 94, .int x1, .int x2, .int x3, .int x4, .int x5] [.int 1] σ _
      refine x_if_eq (pc' := 28) (tgt := 48) dX8_lines_25 (by decide) rfl (fun hc => absurd hc (by decide)) (fun _ => ?_)
      refine x_aload_n (pc' := 29) dX8_lines_28 rfl rfl rfl ?_
      refine x_iload (pc' := 31) dX8_lines_29 rfl rfl ?_
      refine x_iload_n (pc' := 32) dX8_lines_31 rfl rfl rfl ?_
      refine x_iload_n (pc' := 33) dX8_lines_32 rfl rfl rfl ?_
      refine x_iload_n (pc' := 34) dX8_lines_33 rfl rfl rfl ?_
      refine x_iload (pc' := 36) dX8_lines_34 rfl rfl ?_
      refine x_callV (pc' := 39) (As := [.int x5, .int x1, .int x2, .int x3, .int x4]) dX8_lines_36 rfl lmX8_120 kd_94 rfl rfl (Nat.le_of_ble_eq_true rfl) (Nat.le_of_ble_eq_true rfl) ?_
      show X none (d + 1) mX8_isIn 0 [.ref 94, .int x5, .int x1, .int x2, .int x3, .int x4] [] σ _
      refine X.mono h ?_
      rintro r τ1 ⟨u2, rfl, h⟩
      show X none (d + 2) mX8_lines 39 [.ref 94, .int x1, .int x2, .int x3, .int x4, .int x5] [.int u2] τ1 _
      refine x_if_eq (pc' := 42) (tgt := 48) dX8_lines_39 (by decide) rfl (fun hc => ?_) (fun hc => ?_)
      · replace h := h.1 hc
        refine x_iinc (pc' := 51) (v := 1) dX8_lines_48 rfl (by decide) rfl rfl (by decide) (ls' := [.ref 94, .int x1, .int x2, .int x3, .int x4, .int (x5 + 1)]) rfl ?_
        refine x_goto (pc' := 8) dX8_lines_51 (by decide) ?_
        exact h
      · replace h := h.2 hc
        refine x_aload_n (pc' := 43) dX8_lines_42 rfl rfl rfl ?_
        refine x_iload (pc' := 45) dX8_lines_43 rfl rfl ?_
        refine x_callV (pc' := 48) (As := [.int x5]) dX8_lines_45 rfl lmX8_124 kd_94 rfl rfl (Nat.le_of_ble_eq_true rfl) (Nat.le_of_ble_eq_true rfl) ?_
        show X none (d + 1) mX8_insert 0 [.ref 94, .int x5, Unk] [] τ1 _
        refine X.mono h ?_
        rintro r τ3 ⟨rfl, h⟩
        show X none (d + 2) mX8_lines 48 [.ref 94, .int x1, .int x2, .int x3, .int x4, .int x5] [] τ3 _
        refine x_iinc (pc' := 51) (v := 1) dX8_lines_48 rfl (by decide) rfl rfl (by decide) (ls' := [.ref 94, .int x1, .int x2, .int x3, .int x4, .int (x5 + 1)]) rfl ?_
        refine x_goto (pc' := 8) dX8_lines_51 (by decide) ?_
        exact h
set_option maxRecDepth 100000 in
set_option maxHeartbeats 4000000 in
theorem vX8_takesLine_0 {d : Nat} {σ : Mem} {Q : Option Value → Mem → Prop} 
    (h : ((¬ (σ.1 94 12) = 0 → (X none (d + 2) mX8_minds 0 [.ref 94, Unk] [] σ (fun r τ1 => r = none ∧ X none (d + 3) mX8_takesLine 20 [.ref 94, .int (τ1.1 94 12), .int 0] [] τ1 Q))) ∧ ((σ.1 94 12) = 0 → Q (some (.int 0)) σ))) :
    X none (d + 3) mX8_takesLine 0 [.ref 94, Unk, Unk] [] σ Q := by
  refine x_aload_n (pc' := 1) dX8_takesLine_0 rfl rfl rfl ?_
  refine x_geti (pc' := 4) dX8_takesLine_1 rfl lfX8_113 kd_94 rfl ?_
  refine x_if_ne (pc' := 7) (tgt := 9) dX8_takesLine_4 (by decide) rfl (fun hc => ?_) (fun hc => ?_)
  · replace h := h.1 hc
    refine x_aload_n (pc' := 10) dX8_takesLine_9 rfl rfl rfl ?_
    refine x_callV (pc' := 13) (As := []) dX8_takesLine_10 rfl lmX8_87 kd_94 rfl rfl (Nat.le_of_ble_eq_true rfl) (Nat.le_of_ble_eq_true rfl) ?_
    show X none (d + 2) mX8_minds 0 [.ref 94, Unk] [] σ _
    refine X.mono h ?_
    rintro r τ1 ⟨rfl, h⟩
    show X none (d + 3) mX8_takesLine 13 [.ref 94, Unk, Unk] [] τ1 _
    refine x_aload_n (pc' := 14) dX8_takesLine_13 rfl rfl rfl ?_
    refine x_geti (pc' := 17) dX8_takesLine_14 rfl lfX8_113 kd_94 rfl ?_
    refine x_istore_n (pc' := 18) dX8_takesLine_17 rfl rfl (by decide) rfl (ls' := [.ref 94, .int (τ1.1 94 12), Unk]) rfl ?_
    refine x_iconst (pc' := 19) (v := 0) dX8_takesLine_18 rfl (by decide) ?_
    refine x_istore_n (pc' := 20) dX8_takesLine_19 rfl rfl (by decide) rfl (ls' := [.ref 94, .int (τ1.1 94 12), .int 0]) rfl ?_
    exact h
  · replace h := h.2 hc
    refine x_iconst (pc' := 8) (v := 0) dX8_takesLine_7 rfl (by decide) ?_
    exact x_iret dX8_takesLine_8 rfl rfl h
set_option maxRecDepth 100000 in
set_option maxHeartbeats 4000000 in
theorem vX8_takesLine_20 {d : Nat} {σ : Mem} {Q : Option Value → Mem → Prop} {x1 x2 : Int32} 
    (h : ((x1 ≤ x2 → X none (d + 3) mX8_takesLine 53 [.ref 94, .int x1, .int 0] [] σ Q) ∧ (¬ x1 ≤ x2 → (vp_in x2 60 ∧ (vp_in (6 + (σ.1 100 x2.toNatClampNeg)) 7458 ∧ (vp_in x2 60 ∧ (∀ τ1 : Mem, τ1 = (w1 σ 100 x2.toNatClampNeg (σ.1 95 (6 + (σ.1 100 x2.toNatClampNeg)).toNatClampNeg)) → X none (d + 3) mX8_takesLine 20 [.ref 94, .int x1, .int (x2 + 1)] [] τ1 Q))))))) :
    X none (d + 3) mX8_takesLine 20 [.ref 94, .int x1, .int x2] [] σ Q := by
  refine x_iload_n (pc' := 21) dX8_takesLine_20 rfl rfl rfl ?_
  refine x_iload_n (pc' := 22) dX8_takesLine_21 rfl rfl rfl ?_
  refine x_icmp_ge (pc' := 25) (tgt := 51) dX8_takesLine_22 (by decide) rfl (fun hc => ?_) (fun hc => ?_)
  · replace h := h.1 hc
    refine x_iconst (pc' := 52) (v := 0) dX8_takesLine_51 rfl (by decide) ?_
    refine x_istore_n (pc' := 53) dX8_takesLine_52 rfl rfl (by decide) rfl (ls' := [.ref 94, .int x1, .int 0]) rfl ?_
    exact h
  · replace h := h.2 hc
    refine x_aload_n (pc' := 26) dX8_takesLine_25 rfl rfl rfl ?_
    refine x_getr (pc' := 29) dX8_takesLine_26 rfl lfX8_33 kd_94 rfl rf_94_11 ?_
    refine x_iload_n (pc' := 30) dX8_takesLine_29 rfl rfl rfl ?_
    refine x_aload_n (pc' := 31) dX8_takesLine_30 rfl rfl rfl ?_
    refine x_getr (pc' := 34) dX8_takesLine_31 rfl lfX8_7 kd_94 rfl rf_94_0 ?_
    refine x_bipush (pc' := 36) (v := 6) dX8_takesLine_34 rfl (by decide) ?_
    refine x_aload_n (pc' := 37) dX8_takesLine_36 rfl rfl rfl ?_
    refine x_getr (pc' := 40) dX8_takesLine_37 rfl lfX8_33 kd_94 rfl rf_94_11 ?_
    refine x_iload_n (pc' := 41) dX8_takesLine_40 rfl rfl rfl ?_
    obtain ⟨hb, h⟩ := h
    refine x_iald (pc' := 42) dX8_takesLine_41 rfl kd_100 (by rw [ln_100]; exact hb) ?_
    refine x_iadd (pc' := 43) dX8_takesLine_42 rfl ?_
    obtain ⟨hb, h⟩ := h
    refine x_iald (pc' := 44) dX8_takesLine_43 rfl kd_95 (by rw [ln_95]; exact hb) ?_
    obtain ⟨hb, h⟩ := h
    refine x_iast (pc' := 45) dX8_takesLine_44 rfl kd_100 (by rw [ln_100]; exact hb) ?_
    obtain ⟨τ1, eτ1⟩ : ∃ τ : Mem, τ = (w1 σ 100 x2.toNatClampNeg (σ.1 95 (6 + (σ.1 100 x2.toNatClampNeg)).toNatClampNeg)) := ⟨_, rfl⟩
    show X none (d + 3) mX8_takesLine 45 [.ref 94, .int x1, .int x2] [] (w1 σ 100 x2.toNatClampNeg (σ.1 95 (6 + (σ.1 100 x2.toNatClampNeg)).toNatClampNeg)) _
    rw [← eτ1]
    replace h := h τ1 eτ1
    refine x_iinc (pc' := 48) (v := 1) dX8_takesLine_45 rfl (by decide) rfl rfl (by decide) (ls' := [.ref 94, .int x1, .int (x2 + 1)]) rfl ?_
    refine x_goto (pc' := 20) dX8_takesLine_48 (by decide) ?_
    exact h
set_option maxRecDepth 100000 in
set_option maxHeartbeats 4000000 in
theorem vX8_takesLine_53 {d : Nat} {σ : Mem} {Q : Option Value → Mem → Prop} {x1 x2 : Int32} 
    (h : ((x1 ≤ x2 → Q (some (.int x1)) σ) ∧ (¬ x1 ≤ x2 → (vp_in x2 60 ∧ (X none (d + 2) mX8_find 0 [.ref 94, .int (σ.1 100 x2.toNatClampNeg), Unk] [] σ (fun r τ1 => ∃ u2 : Int32, r = some (.int u2) ∧ (X none (d + 2) mX8_goes 0 [.ref 94, .int u2] [] τ1 (fun r τ3 => r = none ∧ X none (d + 3) mX8_takesLine 53 [.ref 94, .int x1, .int (x2 + 1)] [] τ3 Q)))))))) :
    X none (d + 3) mX8_takesLine 53 [.ref 94, .int x1, .int x2] [] σ Q := by
  refine x_iload_n (pc' := 54) dX8_takesLine_53 rfl rfl rfl ?_
  refine x_iload_n (pc' := 55) dX8_takesLine_54 rfl rfl rfl ?_
  refine x_icmp_ge (pc' := 58) (tgt := 78) dX8_takesLine_55 (by decide) rfl (fun hc => ?_) (fun hc => ?_)
  · replace h := h.1 hc
    refine x_iload_n (pc' := 79) dX8_takesLine_78 rfl rfl rfl ?_
    exact x_iret dX8_takesLine_79 rfl rfl h
  · replace h := h.2 hc
    refine x_aload_n (pc' := 59) dX8_takesLine_58 rfl rfl rfl ?_
    refine x_aload_n (pc' := 60) dX8_takesLine_59 rfl rfl rfl ?_
    refine x_aload_n (pc' := 61) dX8_takesLine_60 rfl rfl rfl ?_
    refine x_getr (pc' := 64) dX8_takesLine_61 rfl lfX8_33 kd_94 rfl rf_94_11 ?_
    refine x_iload_n (pc' := 65) dX8_takesLine_64 rfl rfl rfl ?_
    obtain ⟨hb, h⟩ := h
    refine x_iald (pc' := 66) dX8_takesLine_65 rfl kd_100 (by rw [ln_100]; exact hb) ?_
    refine x_callV (pc' := 69) (As := [.int (σ.1 100 x2.toNatClampNeg)]) dX8_takesLine_66 rfl lmX8_94 kd_94 rfl rfl (Nat.le_of_ble_eq_true rfl) (Nat.le_of_ble_eq_true rfl) ?_
    show X none (d + 2) mX8_find 0 [.ref 94, .int (σ.1 100 x2.toNatClampNeg), Unk] [] σ _
    refine X.mono h ?_
    rintro r τ1 ⟨u2, rfl, h⟩
    show X none (d + 3) mX8_takesLine 69 [.ref 94, .int x1, .int x2] [.int u2, .ref 94] τ1 _
    refine x_callV (pc' := 72) (As := [.int u2]) dX8_takesLine_69 rfl lmX8_97 kd_94 rfl rfl (Nat.le_of_ble_eq_true rfl) (Nat.le_of_ble_eq_true rfl) ?_
    show X none (d + 2) mX8_goes 0 [.ref 94, .int u2] [] τ1 _
    refine X.mono h ?_
    rintro r τ3 ⟨rfl, h⟩
    show X none (d + 3) mX8_takesLine 72 [.ref 94, .int x1, .int x2] [] τ3 _
    refine x_iinc (pc' := 75) (v := 1) dX8_takesLine_72 rfl (by decide) rfl rfl (by decide) (ls' := [.ref 94, .int x1, .int (x2 + 1)]) rfl ?_
    refine x_goto (pc' := 53) dX8_takesLine_75 (by decide) ?_
    exact h
set_option maxRecDepth 100000 in
set_option maxHeartbeats 4000000 in
theorem vX8_sweep_0 {d : Nat} {σ : Mem} {Q : Option Value → Mem → Prop} {x1 x2 x3 x4 : Int32} 
    (h : (((rectP x1 x2 x3 x4) → (X none (d + 3) mX8_lines 0 [.ref 94, .int x1, .int x2, .int x3, .int x4, Unk] [] σ (fun r τ1 => r = none ∧ (X none (d + 3) mX8_takesLine 0 [.ref 94, Unk, Unk] [] τ1 (fun r τ2 => ∃ u3 : Int32, r = some (.int u3) ∧ Q (some (.int u3)) τ2))))) ∧ (¬ (rectP x1 x2 x3 x4) → ((∀ τ4 : Mem, τ4 = (w1 σ 99 0 ((σ.1 99 0) + 1)) → Q (some (.int (-2000000002))) τ4))))) :
    X none (d + 4) mX8_sweep 0 [.ref 94, .int x1, .int x2, .int x3, .int x4] [] σ Q := by
  refine x_iload_n (pc' := 1) dX8_sweep_0 rfl rfl rfl ?_
  refine x_iload_n (pc' := 2) dX8_sweep_1 rfl rfl rfl ?_
  refine x_iload_n (pc' := 3) dX8_sweep_2 rfl rfl rfl ?_
  refine x_iload (pc' := 5) dX8_sweep_3 rfl rfl ?_
  refine x_callS (pc' := 8) (As := [.int x1, .int x2, .int x3, .int x4]) dX8_sweep_5 rfl lmX8_127 rfl rfl (Nat.le_of_ble_eq_true rfl) (Nat.le_of_ble_eq_true rfl) ?_
  show X none (d + 3) mX8_isRect 0 [.int x1, .int x2, .int x3, .int x4] [] σ _
  refine sp_isRect ?_
  show X none (d + 4) mX8_sweep 8 [.ref 94, .int x1, .int x2, .int x3, .int x4] [.int (if (rectP x1 x2 x3 x4) then 1 else 0)] σ _
  refine x_if_ne (pc' := 11) (tgt := 16) dX8_sweep_8 (by decide) rfl (fun hc => ?_) (fun hc => ?_)
  · replace h := h.1 (b01_eq hc)
    refine x_aload_n (pc' := 17) dX8_sweep_16 rfl rfl rfl ?_
    refine x_iload_n (pc' := 18) dX8_sweep_17 rfl rfl rfl ?_
    refine x_iload_n (pc' := 19) dX8_sweep_18 rfl rfl rfl ?_
    refine x_iload_n (pc' := 20) dX8_sweep_19 rfl rfl rfl ?_
    refine x_iload (pc' := 22) dX8_sweep_20 rfl rfl ?_
    refine x_callV (pc' := 25) (As := [.int x1, .int x2, .int x3, .int x4]) dX8_sweep_22 rfl lmX8_131 kd_94 rfl rfl (Nat.le_of_ble_eq_true rfl) (Nat.le_of_ble_eq_true rfl) ?_
    show X none (d + 3) mX8_lines 0 [.ref 94, .int x1, .int x2, .int x3, .int x4, Unk] [] σ _
    refine X.mono h ?_
    rintro r τ1 ⟨rfl, h⟩
    show X none (d + 4) mX8_sweep 25 [.ref 94, .int x1, .int x2, .int x3, .int x4] [] τ1 _
    refine x_aload_n (pc' := 26) dX8_sweep_25 rfl rfl rfl ?_
    refine x_callV (pc' := 29) (As := []) dX8_sweep_26 rfl lmX8_135 kd_94 rfl rfl (Nat.le_of_ble_eq_true rfl) (Nat.le_of_ble_eq_true rfl) ?_
    show X none (d + 3) mX8_takesLine 0 [.ref 94, Unk, Unk] [] τ1 _
    refine X.mono h ?_
    rintro r τ2 ⟨u3, rfl, h⟩
    show X none (d + 4) mX8_sweep 29 [.ref 94, .int x1, .int x2, .int x3, .int x4] [.int u3] τ2 _
    exact x_iret dX8_sweep_29 rfl rfl h
  · replace h := h.2 (b01_ne hc)
    refine x_aload_n (pc' := 12) dX8_sweep_11 rfl rfl rfl ?_
    refine x_callV (pc' := 15) (As := []) dX8_sweep_12 rfl lmX8_81 kd_94 rfl rfl (Nat.le_of_ble_eq_true rfl) (Nat.le_of_ble_eq_true rfl) ?_
    show X none (d + 3) mX8_bad 0 [.ref 94] [] σ _
    refine x_aload_n (pc' := 1) dX8_bad_0 rfl rfl rfl ?_
    refine x_getr (pc' := 4) dX8_bad_1 rfl lfX8_30 kd_94 rfl rf_94_9 ?_
    refine x_iconst (pc' := 5) (v := 0) dX8_bad_4 rfl (by decide) ?_
    refine x_dup2 (pc' := 6) dX8_bad_5 rfl rfl rfl ?_
    refine x_iald (pc' := 7) dX8_bad_6 rfl kd_99 (by rw [ln_99]; unfold vp_in; decide) ?_
    show X none (d + 3) mX8_bad 7 [.ref 94] [.int (σ.1 99 0), .int 0, .ref 99] σ _
    refine x_iconst (pc' := 8) (v := 1) dX8_bad_7 rfl (by decide) ?_
    refine x_iadd (pc' := 9) dX8_bad_8 rfl ?_
    refine x_iast (pc' := 10) dX8_bad_9 rfl kd_99 (by rw [ln_99]; unfold vp_in; decide) ?_
    obtain ⟨τ4, eτ4⟩ : ∃ τ : Mem, τ = (w1 σ 99 0 ((σ.1 99 0) + 1)) := ⟨_, rfl⟩
    show X none (d + 3) mX8_bad 10 [.ref 94] [] (w1 σ 99 0 ((σ.1 99 0) + 1)) _
    rw [← eτ4]
    replace h := h τ4 eτ4
    refine x_ldc (pc' := 12) dX8_bad_10 rfl lcX8_42 ?_
    refine x_iret dX8_bad_12 rfl rfl ?_
    show X none (d + 4) mX8_sweep 15 [.ref 94, .int x1, .int x2, .int x3, .int x4] [.int (-2000000002)] τ4 _
    exact x_iret dX8_sweep_15 rfl rfl h
set_option maxRecDepth 100000 in
set_option maxHeartbeats 4000000 in
theorem vX8_counter_0 {d : Nat} {σ : Mem} {Q : Option Value → Mem → Prop} {x1 : Int32} 
    (h : (((0 ≤ x1 ∧ x1 ≤ 5) → (X none (d + 1) mX8_minds 0 [.ref 94, Unk] [] σ (fun r τ1 => r = none ∧ ((∀ τ2 : Mem, τ2 = (w1 τ1 95 3 x1) → Q (some (.int (τ1.1 95 3))) τ2))))) ∧ (¬ (0 ≤ x1 ∧ x1 ≤ 5) → ((∀ τ3 : Mem, τ3 = (w1 σ 99 0 ((σ.1 99 0) + 1)) → Q (some (.int (-2000000002))) τ3))))) :
    X none (d + 2) mX8_counter 0 [.ref 94, .int x1, Unk] [] σ Q := by
  refine x_iload_n (pc' := 1) dX8_counter_0 rfl rfl rfl ?_
  refine x_i2l (pc' := 2) dX8_counter_1 rfl ?_
  refine x_lconst (pc' := 3) (v := 0) dX8_counter_2 rfl (by decide) ?_
  refine x_ldc2 (pc' := 6) dX8_counter_3 rfl llX8_138 ?_
  refine x_callS (pc' := 9) (As := [.long ((x1).toInt64), .long 0, .long 5]) dX8_counter_6 rfl lmX8_49 rfl rfl (Nat.le_of_ble_eq_true rfl) (Nat.le_of_ble_eq_true rfl) ?_
  show X none (d + 1) mX8_in 0 [.long ((x1).toInt64), Unk, .long 0, Unk, .long 5, Unk] [] σ _
  refine sp_in (x := x1) (lo := 0) (hi := 5) (by decide) (by decide) ?_
  show X none (d + 2) mX8_counter 9 [.ref 94, .int x1, Unk] [.int (if (0 ≤ x1 ∧ x1 ≤ 5) then 1 else 0)] σ _
  refine x_if_ne (pc' := 12) (tgt := 17) dX8_counter_9 (by decide) rfl (fun hc => ?_) (fun hc => ?_)
  · replace h := h.1 (b01_eq hc)
    refine x_aload_n (pc' := 18) dX8_counter_17 rfl rfl rfl ?_
    refine x_callV (pc' := 21) (As := []) dX8_counter_18 rfl lmX8_87 kd_94 rfl rfl (Nat.le_of_ble_eq_true rfl) (Nat.le_of_ble_eq_true rfl) ?_
    show X none (d + 1) mX8_minds 0 [.ref 94, Unk] [] σ _
    refine X.mono h ?_
    rintro r τ1 ⟨rfl, h⟩
    show X none (d + 2) mX8_counter 21 [.ref 94, .int x1, Unk] [] τ1 _
    refine x_aload_n (pc' := 22) dX8_counter_21 rfl rfl rfl ?_
    refine x_getr (pc' := 25) dX8_counter_22 rfl lfX8_7 kd_94 rfl rf_94_0 ?_
    refine x_iconst (pc' := 26) (v := 3) dX8_counter_25 rfl (by decide) ?_
    refine x_iald (pc' := 27) dX8_counter_26 rfl kd_95 (by rw [ln_95]; unfold vp_in; decide) ?_
    show X none (d + 2) mX8_counter 27 [.ref 94, .int x1, Unk] [.int (τ1.1 95 3)] τ1 _
    refine x_istore_n (pc' := 28) dX8_counter_27 rfl rfl (by decide) rfl (ls' := [.ref 94, .int x1, .int (τ1.1 95 3)]) rfl ?_
    refine x_aload_n (pc' := 29) dX8_counter_28 rfl rfl rfl ?_
    refine x_getr (pc' := 32) dX8_counter_29 rfl lfX8_7 kd_94 rfl rf_94_0 ?_
    refine x_iconst (pc' := 33) (v := 3) dX8_counter_32 rfl (by decide) ?_
    refine x_iload_n (pc' := 34) dX8_counter_33 rfl rfl rfl ?_
    refine x_iast (pc' := 35) dX8_counter_34 rfl kd_95 (by rw [ln_95]; unfold vp_in; decide) ?_
    obtain ⟨τ2, eτ2⟩ : ∃ τ : Mem, τ = (w1 τ1 95 3 x1) := ⟨_, rfl⟩
    show X none (d + 2) mX8_counter 35 [.ref 94, .int x1, .int (τ1.1 95 3)] [] (w1 τ1 95 3 x1) _
    rw [← eτ2]
    replace h := h τ2 eτ2
    refine x_iload_n (pc' := 36) dX8_counter_35 rfl rfl rfl ?_
    exact x_iret dX8_counter_36 rfl rfl h
  · replace h := h.2 (b01_ne hc)
    refine x_aload_n (pc' := 13) dX8_counter_12 rfl rfl rfl ?_
    refine x_callV (pc' := 16) (As := []) dX8_counter_13 rfl lmX8_81 kd_94 rfl rfl (Nat.le_of_ble_eq_true rfl) (Nat.le_of_ble_eq_true rfl) ?_
    show X none (d + 1) mX8_bad 0 [.ref 94] [] σ _
    refine x_aload_n (pc' := 1) dX8_bad_0 rfl rfl rfl ?_
    refine x_getr (pc' := 4) dX8_bad_1 rfl lfX8_30 kd_94 rfl rf_94_9 ?_
    refine x_iconst (pc' := 5) (v := 0) dX8_bad_4 rfl (by decide) ?_
    refine x_dup2 (pc' := 6) dX8_bad_5 rfl rfl rfl ?_
    refine x_iald (pc' := 7) dX8_bad_6 rfl kd_99 (by rw [ln_99]; unfold vp_in; decide) ?_
    show X none (d + 1) mX8_bad 7 [.ref 94] [.int (σ.1 99 0), .int 0, .ref 99] σ _
    refine x_iconst (pc' := 8) (v := 1) dX8_bad_7 rfl (by decide) ?_
    refine x_iadd (pc' := 9) dX8_bad_8 rfl ?_
    refine x_iast (pc' := 10) dX8_bad_9 rfl kd_99 (by rw [ln_99]; unfold vp_in; decide) ?_
    obtain ⟨τ3, eτ3⟩ : ∃ τ : Mem, τ = (w1 σ 99 0 ((σ.1 99 0) + 1)) := ⟨_, rfl⟩
    show X none (d + 1) mX8_bad 10 [.ref 94] [] (w1 σ 99 0 ((σ.1 99 0) + 1)) _
    rw [← eτ3]
    replace h := h τ3 eτ3
    refine x_ldc (pc' := 12) dX8_bad_10 rfl lcX8_42 ?_
    refine x_iret dX8_bad_12 rfl rfl ?_
    show X none (d + 2) mX8_counter 16 [.ref 94, .int x1, Unk] [.int (-2000000002)] τ3 _
    exact x_iret dX8_counter_16 rfl rfl h
set_option maxRecDepth 100000 in
set_option maxHeartbeats 4000000 in
theorem vX8_undo_0 {d : Nat} {σ : Mem} {Q : Option Value → Mem → Prop} 
    (h : ((¬ (σ.1 94 2) = 0 → (∀ τ1 : Mem, τ1 = (w1 σ 94 2 ((σ.1 94 2) - 1)) → (X none d mX8_copy 0 [.ref 94, .int (2034 + (678 * (τ1.1 94 2))), .int 0, Unk] [] τ1 (fun r τ2 => r = none ∧ Q (some (.int (τ2.1 94 2))) τ2)))) ∧ ((σ.1 94 2) = 0 → ((∀ τ3 : Mem, τ3 = (w1 σ 99 1 ((σ.1 99 1) + 1)) → Q (some (.int (-2000000003))) τ3))))) :
    X none (d + 1) mX8_undo 0 [.ref 94] [] σ Q := by
  refine x_aload_n (pc' := 1) dX8_undo_0 rfl rfl rfl ?_
  refine x_geti (pc' := 4) dX8_undo_1 rfl lfX8_60 kd_94 rfl ?_
  refine x_if_ne (pc' := 7) (tgt := 12) dX8_undo_4 (by decide) rfl (fun hc => ?_) (fun hc => ?_)
  · replace h := h.1 hc
    refine x_aload_n (pc' := 13) dX8_undo_12 rfl rfl rfl ?_
    refine x_dup (pc' := 14) dX8_undo_13 rfl rfl ?_
    refine x_geti (pc' := 17) dX8_undo_14 rfl lfX8_60 kd_94 rfl ?_
    refine x_iconst (pc' := 18) (v := 1) dX8_undo_17 rfl (by decide) ?_
    refine x_isub (pc' := 19) dX8_undo_18 rfl ?_
    refine x_puti (pc' := 22) dX8_undo_19 rfl lfX8_60 kd_94 rfl rfl rfl ?_
    obtain ⟨τ1, eτ1⟩ : ∃ τ : Mem, τ = (w1 σ 94 2 ((σ.1 94 2) - 1)) := ⟨_, rfl⟩
    show X none (d + 1) mX8_undo 22 [.ref 94] [] (w1 σ 94 2 ((σ.1 94 2) - 1)) _
    rw [← eτ1]
    replace h := h τ1 eτ1
    refine x_aload_n (pc' := 23) dX8_undo_22 rfl rfl rfl ?_
    refine x_sipush (pc' := 26) (v := 2034) dX8_undo_23 rfl (by decide) ?_
    refine x_sipush (pc' := 29) (v := 678) dX8_undo_26 rfl (by decide) ?_
    refine x_aload_n (pc' := 30) dX8_undo_29 rfl rfl rfl ?_
    refine x_geti (pc' := 33) dX8_undo_30 rfl lfX8_60 kd_94 rfl ?_
    refine x_imul (pc' := 34) dX8_undo_33 rfl ?_
    refine x_iadd (pc' := 35) dX8_undo_34 rfl ?_
    refine x_iconst (pc' := 36) (v := 0) dX8_undo_35 rfl (by decide) ?_
    refine x_callV (pc' := 39) (As := [.int (2034 + (678 * (τ1.1 94 2))), .int 0]) dX8_undo_36 rfl lmX8_64 kd_94 rfl rfl (Nat.le_of_ble_eq_true rfl) (Nat.le_of_ble_eq_true rfl) ?_
    show X none d mX8_copy 0 [.ref 94, .int (2034 + (678 * (τ1.1 94 2))), .int 0, Unk] [] τ1 _
    refine X.mono h ?_
    rintro r τ2 ⟨rfl, h⟩
    show X none (d + 1) mX8_undo 39 [.ref 94] [] τ2 _
    refine x_aload_n (pc' := 40) dX8_undo_39 rfl rfl rfl ?_
    refine x_geti (pc' := 43) dX8_undo_40 rfl lfX8_60 kd_94 rfl ?_
    exact x_iret dX8_undo_43 rfl rfl h
  · replace h := h.2 hc
    refine x_aload_n (pc' := 8) dX8_undo_7 rfl rfl rfl ?_
    refine x_callV (pc' := 11) (As := []) dX8_undo_8 rfl lmX8_140 kd_94 rfl rfl (Nat.le_of_ble_eq_true rfl) (Nat.le_of_ble_eq_true rfl) ?_
    show X none d mX8_no 0 [.ref 94] [] σ _
    refine x_aload_n (pc' := 1) dX8_no_0 rfl rfl rfl ?_
    refine x_getr (pc' := 4) dX8_no_1 rfl lfX8_30 kd_94 rfl rf_94_9 ?_
    refine x_iconst (pc' := 5) (v := 1) dX8_no_4 rfl (by decide) ?_
    refine x_dup2 (pc' := 6) dX8_no_5 rfl rfl rfl ?_
    refine x_iald (pc' := 7) dX8_no_6 rfl kd_99 (by rw [ln_99]; unfold vp_in; decide) ?_
    show X none d mX8_no 7 [.ref 94] [.int (σ.1 99 1), .int 1, .ref 99] σ _
    refine x_iconst (pc' := 8) (v := 1) dX8_no_7 rfl (by decide) ?_
    refine x_iadd (pc' := 9) dX8_no_8 rfl ?_
    refine x_iast (pc' := 10) dX8_no_9 rfl kd_99 (by rw [ln_99]; unfold vp_in; decide) ?_
    obtain ⟨τ3, eτ3⟩ : ∃ τ : Mem, τ = (w1 σ 99 1 ((σ.1 99 1) + 1)) := ⟨_, rfl⟩
    show X none d mX8_no 10 [.ref 94] [] (w1 σ 99 1 ((σ.1 99 1) + 1)) _
    rw [← eτ3]
    replace h := h τ3 eτ3
    refine x_ldc (pc' := 12) dX8_no_10 rfl lcX8_43 ?_
    refine x_iret dX8_no_12 rfl rfl ?_
    show X none (d + 1) mX8_undo 11 [.ref 94] [.int (-2000000003)] τ3 _
    exact x_iret dX8_undo_11 rfl rfl h
set_option maxRecDepth 100000 in
set_option maxHeartbeats 4000000 in
theorem vX8_ofPoint_0 {d : Nat} {σ : Mem} {Q : Option Value → Mem → Prop} {x1 x2 : Int32} 
    (h : ((¬ x2 = 0 → ((¬ x2 = 1 → ((¬ x2 = 2 → (X none d mX8_counts 0 [.ref 94, .int x1, Unk, Unk] [] σ (fun r τ1 => ∃ u2 : Int32, r = some (.int u2) ∧ Q (some (.int u2)) τ1))) ∧ (x2 = 2 → (vp_in (372 + x1) 7458 ∧ Q (some (.int (σ.1 95 (372 + x1).toNatClampNeg))) σ)))) ∧ (x2 = 1 → (vp_in (250 + x1) 7458 ∧ Q (some (.int (σ.1 95 (250 + x1).toNatClampNeg))) σ)))) ∧ (x2 = 0 → (vp_in (128 + x1) 7458 ∧ Q (some (.int (σ.1 95 (128 + x1).toNatClampNeg))) σ)))) :
    X none (d + 1) mX8_ofPoint 0 [.ref 94, .int x1, .int x2] [] σ Q := by
  refine x_iload_n (pc' := 1) dX8_ofPoint_0 rfl rfl rfl ?_
  refine x_if_ne (pc' := 4) (tgt := 17) dX8_ofPoint_1 (by decide) rfl (fun hc => ?_) (fun hc => ?_)
  · replace h := h.1 hc
    refine x_iload_n (pc' := 18) dX8_ofPoint_17 rfl rfl rfl ?_
    refine x_iconst (pc' := 19) (v := 1) dX8_ofPoint_18 rfl (by decide) ?_
    refine x_icmp_ne (pc' := 22) (tgt := 35) dX8_ofPoint_19 (by decide) rfl (fun hc => ?_) (fun hc => ?_)
    · replace h := h.1 hc
      refine x_iload_n (pc' := 36) dX8_ofPoint_35 rfl rfl rfl ?_
      refine x_iconst (pc' := 37) (v := 2) dX8_ofPoint_36 rfl (by decide) ?_
      refine x_icmp_ne (pc' := 40) (tgt := 53) dX8_ofPoint_37 (by decide) rfl (fun hc => ?_) (fun hc => ?_)
      · replace h := h.1 hc
        refine x_aload_n (pc' := 54) dX8_ofPoint_53 rfl rfl rfl ?_
        refine x_iload_n (pc' := 55) dX8_ofPoint_54 rfl rfl rfl ?_
        refine x_callV (pc' := 58) (As := [.int x1]) dX8_ofPoint_55 rfl lmX8_143 kd_94 rfl rfl (Nat.le_of_ble_eq_true rfl) (Nat.le_of_ble_eq_true rfl) ?_
        show X none d mX8_counts 0 [.ref 94, .int x1, Unk, Unk] [] σ _
        refine X.mono h ?_
        rintro r τ1 ⟨u2, rfl, h⟩
        show X none (d + 1) mX8_ofPoint 58 [.ref 94, .int x1, .int x2] [.int u2] τ1 _
        exact x_iret dX8_ofPoint_58 rfl rfl h
      · replace h := h.2 hc
        refine x_aload_n (pc' := 41) dX8_ofPoint_40 rfl rfl rfl ?_
        refine x_getr (pc' := 44) dX8_ofPoint_41 rfl lfX8_7 kd_94 rfl rf_94_0 ?_
        refine x_sipush (pc' := 47) (v := 372) dX8_ofPoint_44 rfl (by decide) ?_
        refine x_iload_n (pc' := 48) dX8_ofPoint_47 rfl rfl rfl ?_
        refine x_iadd (pc' := 49) dX8_ofPoint_48 rfl ?_
        obtain ⟨hb, h⟩ := h
        refine x_iald (pc' := 50) dX8_ofPoint_49 rfl kd_95 (by rw [ln_95]; exact hb) ?_
        refine x_goto (pc' := 58) dX8_ofPoint_50 (by decide) ?_
        exact x_iret dX8_ofPoint_58 rfl rfl h
    · replace h := h.2 hc
      refine x_aload_n (pc' := 23) dX8_ofPoint_22 rfl rfl rfl ?_
      refine x_getr (pc' := 26) dX8_ofPoint_23 rfl lfX8_7 kd_94 rfl rf_94_0 ?_
      refine x_sipush (pc' := 29) (v := 250) dX8_ofPoint_26 rfl (by decide) ?_
      refine x_iload_n (pc' := 30) dX8_ofPoint_29 rfl rfl rfl ?_
      refine x_iadd (pc' := 31) dX8_ofPoint_30 rfl ?_
      obtain ⟨hb, h⟩ := h
      refine x_iald (pc' := 32) dX8_ofPoint_31 rfl kd_95 (by rw [ln_95]; exact hb) ?_
      refine x_goto (pc' := 58) dX8_ofPoint_32 (by decide) ?_
      exact x_iret dX8_ofPoint_58 rfl rfl h
  · replace h := h.2 hc
    refine x_aload_n (pc' := 5) dX8_ofPoint_4 rfl rfl rfl ?_
    refine x_getr (pc' := 8) dX8_ofPoint_5 rfl lfX8_7 kd_94 rfl rf_94_0 ?_
    refine x_sipush (pc' := 11) (v := 128) dX8_ofPoint_8 rfl (by decide) ?_
    refine x_iload_n (pc' := 12) dX8_ofPoint_11 rfl rfl rfl ?_
    refine x_iadd (pc' := 13) dX8_ofPoint_12 rfl ?_
    obtain ⟨hb, h⟩ := h
    refine x_iald (pc' := 14) dX8_ofPoint_13 rfl kd_95 (by rw [ln_95]; exact hb) ?_
    refine x_goto (pc' := 58) dX8_ofPoint_14 (by decide) ?_
    exact x_iret dX8_ofPoint_58 rfl rfl h
set_option maxRecDepth 100000 in
set_option maxHeartbeats 4000000 in
theorem vX8_of_0 {d : Nat} {σ : Mem} {Q : Option Value → Mem → Prop} {x1 x2 : Int32} 
    (h : (X none (d + 1) mX8_find 0 [.ref 94, .int x1, Unk] [] σ (fun r τ1 => ∃ u2 : Int32, r = some (.int u2) ∧ ((u2 < 0 → ((∀ τ3 : Mem, τ3 = (w1 τ1 99 0 ((τ1.1 99 0) + 1)) → Q (some (.int (-2000000002))) τ3))) ∧ (¬ u2 < 0 → (((0 ≤ x2 ∧ x2 ≤ 3) → (X none (d + 1) mX8_ofPoint 0 [.ref 94, .int u2, .int x2] [] τ1 (fun r τ4 => ∃ u5 : Int32, r = some (.int u5) ∧ Q (some (.int u5)) τ4))) ∧ (¬ (0 ≤ x2 ∧ x2 ≤ 3) → ((∀ τ6 : Mem, τ6 = (w1 τ1 99 0 ((τ1.1 99 0) + 1)) → Q (some (.int (-2000000002))) τ6))))))))) :
    X none (d + 2) mX8_of 0 [.ref 94, .int x1, .int x2, Unk] [] σ Q := by
  refine x_aload_n (pc' := 1) dX8_of_0 rfl rfl rfl ?_
  refine x_iload_n (pc' := 2) dX8_of_1 rfl rfl rfl ?_
  refine x_callV (pc' := 5) (As := [.int x1]) dX8_of_2 rfl lmX8_94 kd_94 rfl rfl (Nat.le_of_ble_eq_true rfl) (Nat.le_of_ble_eq_true rfl) ?_
  show X none (d + 1) mX8_find 0 [.ref 94, .int x1, Unk] [] σ _
  refine X.mono h ?_
  rintro r τ1 ⟨u2, rfl, h⟩
  show X none (d + 2) mX8_of 5 [.ref 94, .int x1, .int x2, Unk] [.int u2] τ1 _
  refine x_istore_n (pc' := 6) dX8_of_5 rfl rfl (by decide) rfl (ls' := [.ref 94, .int x1, .int x2, .int u2]) rfl ?_
  refine x_iload_n (pc' := 7) dX8_of_6 rfl rfl rfl ?_
  refine x_if_lt (pc' := 10) (tgt := 22) dX8_of_7 (by decide) rfl (fun hc => ?_) (fun hc => ?_)
  · replace h := h.1 hc
    refine x_aload_n (pc' := 23) dX8_of_22 rfl rfl rfl ?_
    refine x_callV (pc' := 26) (As := []) dX8_of_23 rfl lmX8_81 kd_94 rfl rfl (Nat.le_of_ble_eq_true rfl) (Nat.le_of_ble_eq_true rfl) ?_
    show X none (d + 1) mX8_bad 0 [.ref 94] [] τ1 _
    refine x_aload_n (pc' := 1) dX8_bad_0 rfl rfl rfl ?_
    refine x_getr (pc' := 4) dX8_bad_1 rfl lfX8_30 kd_94 rfl rf_94_9 ?_
    refine x_iconst (pc' := 5) (v := 0) dX8_bad_4 rfl (by decide) ?_
    refine x_dup2 (pc' := 6) dX8_bad_5 rfl rfl rfl ?_
    refine x_iald (pc' := 7) dX8_bad_6 rfl kd_99 (by rw [ln_99]; unfold vp_in; decide) ?_
    show X none (d + 1) mX8_bad 7 [.ref 94] [.int (τ1.1 99 0), .int 0, .ref 99] τ1 _
    refine x_iconst (pc' := 8) (v := 1) dX8_bad_7 rfl (by decide) ?_
    refine x_iadd (pc' := 9) dX8_bad_8 rfl ?_
    refine x_iast (pc' := 10) dX8_bad_9 rfl kd_99 (by rw [ln_99]; unfold vp_in; decide) ?_
    obtain ⟨τ3, eτ3⟩ : ∃ τ : Mem, τ = (w1 τ1 99 0 ((τ1.1 99 0) + 1)) := ⟨_, rfl⟩
    show X none (d + 1) mX8_bad 10 [.ref 94] [] (w1 τ1 99 0 ((τ1.1 99 0) + 1)) _
    rw [← eτ3]
    replace h := h τ3 eτ3
    refine x_ldc (pc' := 12) dX8_bad_10 rfl lcX8_42 ?_
    refine x_iret dX8_bad_12 rfl rfl ?_
    show X none (d + 2) mX8_of 26 [.ref 94, .int x1, .int x2, .int u2] [.int (-2000000002)] τ3 _
    refine x_goto (pc' := 35) dX8_of_26 (by decide) ?_
    exact x_iret dX8_of_35 rfl rfl h
  · replace h := h.2 hc
    refine x_iload_n (pc' := 11) dX8_of_10 rfl rfl rfl ?_
    refine x_i2l (pc' := 12) dX8_of_11 rfl ?_
    refine x_lconst (pc' := 13) (v := 0) dX8_of_12 rfl (by decide) ?_
    refine x_ldc2 (pc' := 16) dX8_of_13 rfl llX8_146 ?_
    refine x_callS (pc' := 19) (As := [.long ((x2).toInt64), .long 0, .long 3]) dX8_of_16 rfl lmX8_49 rfl rfl (Nat.le_of_ble_eq_true rfl) (Nat.le_of_ble_eq_true rfl) ?_
    show X none (d + 1) mX8_in 0 [.long ((x2).toInt64), Unk, .long 0, Unk, .long 3, Unk] [] τ1 _
    refine sp_in (x := x2) (lo := 0) (hi := 3) (by decide) (by decide) ?_
    show X none (d + 2) mX8_of 19 [.ref 94, .int x1, .int x2, .int u2] [.int (if (0 ≤ x2 ∧ x2 ≤ 3) then 1 else 0)] τ1 _
    refine x_if_ne (pc' := 22) (tgt := 29) dX8_of_19 (by decide) rfl (fun hc => ?_) (fun hc => ?_)
    · replace h := h.1 (b01_eq hc)
      refine x_aload_n (pc' := 30) dX8_of_29 rfl rfl rfl ?_
      refine x_iload_n (pc' := 31) dX8_of_30 rfl rfl rfl ?_
      refine x_iload_n (pc' := 32) dX8_of_31 rfl rfl rfl ?_
      refine x_callV (pc' := 35) (As := [.int u2, .int x2]) dX8_of_32 rfl lmX8_148 kd_94 rfl rfl (Nat.le_of_ble_eq_true rfl) (Nat.le_of_ble_eq_true rfl) ?_
      show X none (d + 1) mX8_ofPoint 0 [.ref 94, .int u2, .int x2] [] τ1 _
      refine X.mono h ?_
      rintro r τ4 ⟨u5, rfl, h⟩
      show X none (d + 2) mX8_of 35 [.ref 94, .int x1, .int x2, .int u2] [.int u5] τ4 _
      exact x_iret dX8_of_35 rfl rfl h
    · replace h := h.2 (b01_ne hc)
      refine x_aload_n (pc' := 23) dX8_of_22 rfl rfl rfl ?_
      refine x_callV (pc' := 26) (As := []) dX8_of_23 rfl lmX8_81 kd_94 rfl rfl (Nat.le_of_ble_eq_true rfl) (Nat.le_of_ble_eq_true rfl) ?_
      show X none (d + 1) mX8_bad 0 [.ref 94] [] τ1 _
      refine x_aload_n (pc' := 1) dX8_bad_0 rfl rfl rfl ?_
      refine x_getr (pc' := 4) dX8_bad_1 rfl lfX8_30 kd_94 rfl rf_94_9 ?_
      refine x_iconst (pc' := 5) (v := 0) dX8_bad_4 rfl (by decide) ?_
      refine x_dup2 (pc' := 6) dX8_bad_5 rfl rfl rfl ?_
      refine x_iald (pc' := 7) dX8_bad_6 rfl kd_99 (by rw [ln_99]; unfold vp_in; decide) ?_
      show X none (d + 1) mX8_bad 7 [.ref 94] [.int (τ1.1 99 0), .int 0, .ref 99] τ1 _
      refine x_iconst (pc' := 8) (v := 1) dX8_bad_7 rfl (by decide) ?_
      refine x_iadd (pc' := 9) dX8_bad_8 rfl ?_
      refine x_iast (pc' := 10) dX8_bad_9 rfl kd_99 (by rw [ln_99]; unfold vp_in; decide) ?_
      obtain ⟨τ6, eτ6⟩ : ∃ τ : Mem, τ = (w1 τ1 99 0 ((τ1.1 99 0) + 1)) := ⟨_, rfl⟩
      show X none (d + 1) mX8_bad 10 [.ref 94] [] (w1 τ1 99 0 ((τ1.1 99 0) + 1)) _
      rw [← eτ6]
      replace h := h τ6 eτ6
      refine x_ldc (pc' := 12) dX8_bad_10 rfl lcX8_42 ?_
      refine x_iret dX8_bad_12 rfl rfl ?_
      show X none (d + 2) mX8_of 26 [.ref 94, .int x1, .int x2, .int u2] [.int (-2000000002)] τ6 _
      refine x_goto (pc' := 35) dX8_of_26 (by decide) ?_
      exact x_iret dX8_of_35 rfl rfl h
set_option maxRecDepth 100000 in
set_option maxHeartbeats 4000000 in
theorem vX8_nth_0 {d : Nat} {σ : Mem} {Q : Option Value → Mem → Prop} {x1 : Int32} 
    (h : ((0 ≤ x1 → X none (d + 1) mX8_nth 13 [.ref 94, .int x1, .int x1, .int 0] [] σ Q) ∧ (¬ 0 ≤ x1 → ((∀ τ1 : Mem, τ1 = (w1 σ 99 0 ((σ.1 99 0) + 1)) → Q (some (.int (-2000000002))) τ1))))) :
    X none (d + 1) mX8_nth 0 [.ref 94, .int x1, Unk, Unk] [] σ Q := by
  refine x_iload_n (pc' := 1) dX8_nth_0 rfl rfl rfl ?_
  refine x_if_ge (pc' := 4) (tgt := 9) dX8_nth_1 (by decide) rfl (fun hc => ?_) (fun hc => ?_)
  · replace h := h.1 hc
    refine x_iload_n (pc' := 10) dX8_nth_9 rfl rfl rfl ?_
    refine x_istore_n (pc' := 11) dX8_nth_10 rfl rfl (by decide) rfl (ls' := [.ref 94, .int x1, .int x1, Unk]) rfl ?_
    refine x_iconst (pc' := 12) (v := 0) dX8_nth_11 rfl (by decide) ?_
    refine x_istore_n (pc' := 13) dX8_nth_12 rfl rfl (by decide) rfl (ls' := [.ref 94, .int x1, .int x1, .int 0]) rfl ?_
    exact h
  · replace h := h.2 hc
    refine x_aload_n (pc' := 5) dX8_nth_4 rfl rfl rfl ?_
    refine x_callV (pc' := 8) (As := []) dX8_nth_5 rfl lmX8_81 kd_94 rfl rfl (Nat.le_of_ble_eq_true rfl) (Nat.le_of_ble_eq_true rfl) ?_
    show X none d mX8_bad 0 [.ref 94] [] σ _
    refine x_aload_n (pc' := 1) dX8_bad_0 rfl rfl rfl ?_
    refine x_getr (pc' := 4) dX8_bad_1 rfl lfX8_30 kd_94 rfl rf_94_9 ?_
    refine x_iconst (pc' := 5) (v := 0) dX8_bad_4 rfl (by decide) ?_
    refine x_dup2 (pc' := 6) dX8_bad_5 rfl rfl rfl ?_
    refine x_iald (pc' := 7) dX8_bad_6 rfl kd_99 (by rw [ln_99]; unfold vp_in; decide) ?_
    show X none d mX8_bad 7 [.ref 94] [.int (σ.1 99 0), .int 0, .ref 99] σ _
    refine x_iconst (pc' := 8) (v := 1) dX8_bad_7 rfl (by decide) ?_
    refine x_iadd (pc' := 9) dX8_bad_8 rfl ?_
    refine x_iast (pc' := 10) dX8_bad_9 rfl kd_99 (by rw [ln_99]; unfold vp_in; decide) ?_
    obtain ⟨τ1, eτ1⟩ : ∃ τ : Mem, τ = (w1 σ 99 0 ((σ.1 99 0) + 1)) := ⟨_, rfl⟩
    show X none d mX8_bad 10 [.ref 94] [] (w1 σ 99 0 ((σ.1 99 0) + 1)) _
    rw [← eτ1]
    replace h := h τ1 eτ1
    refine x_ldc (pc' := 12) dX8_bad_10 rfl lcX8_42 ?_
    refine x_iret dX8_bad_12 rfl rfl ?_
    show X none (d + 1) mX8_nth 8 [.ref 94, .int x1, Unk, Unk] [.int (-2000000002)] τ1 _
    exact x_iret dX8_nth_8 rfl rfl h
set_option maxRecDepth 100000 in
set_option maxHeartbeats 4000000 in
theorem vX8_nth_13 {d : Nat} {σ : Mem} {Q : Option Value → Mem → Prop} {x1 x2 x3 : Int32} 
    (h : (((σ.1 95 0) ≤ x3 → Q (some (.int (-2000000001))) σ) ∧ (¬ (σ.1 95 0) ≤ x3 → (vp_in (494 + x3) 7458 ∧ ((¬ (σ.1 95 (494 + x3).toNatClampNeg) = 0 → X none (d + 1) mX8_nth 13 [.ref 94, .int x1, .int x2, .int (x3 + 1)] [] σ Q) ∧ ((σ.1 95 (494 + x3).toNatClampNeg) = 0 → ((¬ x2 = 0 → X none (d + 1) mX8_nth 13 [.ref 94, .int x1, .int (x2 + (-1)), .int (x3 + 1)] [] σ Q) ∧ (x2 = 0 → (vp_in (6 + x3) 7458 ∧ Q (some (.int (σ.1 95 (6 + x3).toNatClampNeg))) σ))))))))) :
    X none (d + 1) mX8_nth 13 [.ref 94, .int x1, .int x2, .int x3] [] σ Q := by
  refine x_iload_n (pc' := 14) dX8_nth_13 rfl rfl rfl ?_
  refine x_aload_n (pc' := 15) dX8_nth_14 rfl rfl rfl ?_
  refine x_getr (pc' := 18) dX8_nth_15 rfl lfX8_7 kd_94 rfl rf_94_0 ?_
  refine x_iconst (pc' := 19) (v := 0) dX8_nth_18 rfl (by decide) ?_
  refine x_iald (pc' := 20) dX8_nth_19 rfl kd_95 (by rw [ln_95]; unfold vp_in; decide) ?_
  show X none (d + 1) mX8_nth 20 [.ref 94, .int x1, .int x2, .int x3] [.int (σ.1 95 0), .int x3] σ _
  refine x_icmp_ge (pc' := 23) (tgt := 54) dX8_nth_20 (by decide) rfl (fun hc => ?_) (fun hc => ?_)
  · replace h := h.1 hc
    refine x_ldc (pc' := 56) dX8_nth_54 rfl lcX8_152 ?_
    exact x_iret dX8_nth_56 rfl rfl h
  · replace h := h.2 hc
    refine x_aload_n (pc' := 24) dX8_nth_23 rfl rfl rfl ?_
    refine x_iload_n (pc' := 25) dX8_nth_24 rfl rfl rfl ?_
    refine x_callV (pc' := 28) (As := [.int x3]) dX8_nth_25 rfl lmX8_57 kd_94 rfl rfl (Nat.le_of_ble_eq_true rfl) (Nat.le_of_ble_eq_true rfl) ?_
    show X none d mX8_isThere 0 [.ref 94, .int x3] [] σ _
    refine x_aload_n (pc' := 1) dX8_isThere_0 rfl rfl rfl ?_
    refine x_getr (pc' := 4) dX8_isThere_1 rfl lfX8_7 kd_94 rfl rf_94_0 ?_
    refine x_sipush (pc' := 7) (v := 494) dX8_isThere_4 rfl (by decide) ?_
    refine x_iload_n (pc' := 8) dX8_isThere_7 rfl rfl rfl ?_
    refine x_iadd (pc' := 9) dX8_isThere_8 rfl ?_
    obtain ⟨hb, h⟩ := h
    refine x_iald (pc' := 10) dX8_isThere_9 rfl kd_95 (by rw [ln_95]; exact hb) ?_
    refine x_if_ne (pc' := 13) (tgt := 17) dX8_isThere_10 (by decide) rfl (fun hc => ?_) (fun hc => ?_)
    · replace h := h.1 hc
      refine x_iconst (pc' := 18) (v := 0) dX8_isThere_17 rfl (by decide) ?_
      refine x_iret dX8_isThere_18 rfl rfl ?_
      show X none (d + 1) mX8_nth 28 [.ref 94, .int x1, .int x2, .int x3] [.int 0] σ _
      refine x_if_eq (pc' := 31) (tgt := 48) dX8_nth_28 (by decide) rfl (fun _ => ?_) (fun hc => absurd hc (by decide))
      refine x_iinc (pc' := 51) (v := 1) dX8_nth_48 rfl (by decide) rfl rfl (by decide) (ls' := [.ref 94, .int x1, .int x2, .int (x3 + 1)]) rfl ?_
      refine x_goto (pc' := 13) dX8_nth_51 (by decide) ?_
      exact h
    · replace h := h.2 hc
      refine x_iconst (pc' := 14) (v := 1) dX8_isThere_13 rfl (by decide) ?_
      refine x_goto (pc' := 18) dX8_isThere_14 (by decide) ?_
      refine x_iret dX8_isThere_18 rfl rfl ?_
      show X none (d + 1) mX8_nth 28 [.ref 94, .int x1, .int x2, .int x3] [.int 1] σ _
      refine x_if_eq (pc' := 31) (tgt := 48) dX8_nth_28 (by decide) rfl (fun hc => absurd hc (by decide)) (fun _ => ?_)
      refine x_iload_n (pc' := 32) dX8_nth_31 rfl rfl rfl ?_
      refine x_if_ne (pc' := 35) (tgt := 45) dX8_nth_32 (by decide) rfl (fun hc => ?_) (fun hc => ?_)
      · replace h := h.1 hc
        refine x_iinc (pc' := 48) (v := (-1)) dX8_nth_45 rfl (by decide) rfl rfl (by decide) (ls' := [.ref 94, .int x1, .int (x2 + (-1)), .int x3]) rfl ?_
        refine x_iinc (pc' := 51) (v := 1) dX8_nth_48 rfl (by decide) rfl rfl (by decide) (ls' := [.ref 94, .int x1, .int (x2 + (-1)), .int (x3 + 1)]) rfl ?_
        refine x_goto (pc' := 13) dX8_nth_51 (by decide) ?_
        exact h
      · replace h := h.2 hc
        refine x_aload_n (pc' := 36) dX8_nth_35 rfl rfl rfl ?_
        refine x_getr (pc' := 39) dX8_nth_36 rfl lfX8_7 kd_94 rfl rf_94_0 ?_
        refine x_bipush (pc' := 41) (v := 6) dX8_nth_39 rfl (by decide) ?_
        refine x_iload_n (pc' := 42) dX8_nth_41 rfl rfl rfl ?_
        refine x_iadd (pc' := 43) dX8_nth_42 rfl ?_
        obtain ⟨hb, h⟩ := h
        refine x_iald (pc' := 44) dX8_nth_43 rfl kd_95 (by rw [ln_95]; exact hb) ?_
        exact x_iret dX8_nth_44 rfl rfl h
