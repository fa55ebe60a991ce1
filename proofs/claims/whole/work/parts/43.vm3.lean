set_option maxRecDepth 100000 in
set_option maxHeartbeats 4000000 in
theorem vX8_bits_0 {d : Nat} {σ : Mem} {Q : Option Value → Mem → Prop} {x0 : Int32} 
    (h : X none d mX8_bits 4 [.int x0, .int 0, .int 0] [] σ Q) :
    X none d mX8_bits 0 [.int x0, Unk, Unk] [] σ Q := by
  refine x_iconst (pc' := 1) (v := 0) dX8_bits_0 rfl (by decide) ?_
  refine x_istore_n (pc' := 2) dX8_bits_1 rfl rfl (by decide) rfl (ls' := [.int x0, .int 0, Unk]) rfl ?_
  refine x_iconst (pc' := 3) (v := 0) dX8_bits_2 rfl (by decide) ?_
  refine x_istore_n (pc' := 4) dX8_bits_3 rfl rfl (by decide) rfl (ls' := [.int x0, .int 0, .int 0]) rfl ?_
  exact h
set_option maxRecDepth 100000 in
set_option maxHeartbeats 4000000 in
theorem vX8_bits_4 {d : Nat} {σ : Mem} {Q : Option Value → Mem → Prop} {x0 x1 x2 : Int32} 
    (h : ((8 ≤ x2 → Q (some (.int x1)) σ) ∧ (¬ 8 ≤ x2 → X none d mX8_bits 4 [.int x0, .int (x1 + ((x0 >>> ((x2 : Int32) &&& 31)) &&& 1)), .int (x2 + 1)] [] σ Q))) :
    X none d mX8_bits 4 [.int x0, .int x1, .int x2] [] σ Q := by
  refine x_iload_n (pc' := 5) dX8_bits_4 rfl rfl rfl ?_
  refine x_bipush (pc' := 7) (v := 8) dX8_bits_5 rfl (by decide) ?_
  refine x_icmp_ge (pc' := 10) (tgt := 24) dX8_bits_7 (by decide) rfl (fun hc => ?_) (fun hc => ?_)
  · replace h := h.1 hc
    refine x_iload_n (pc' := 25) dX8_bits_24 rfl rfl rfl ?_
    exact x_iret dX8_bits_25 rfl rfl h
  · replace h := h.2 hc
    refine x_iload_n (pc' := 11) dX8_bits_10 rfl rfl rfl ?_
    refine x_iload_n (pc' := 12) dX8_bits_11 rfl rfl rfl ?_
    refine x_iload_n (pc' := 13) dX8_bits_12 rfl rfl rfl ?_
    refine x_ishr (pc' := 14) dX8_bits_13 rfl ?_
    refine x_iconst (pc' := 15) (v := 1) dX8_bits_14 rfl (by decide) ?_
    refine x_iand (pc' := 16) dX8_bits_15 rfl ?_
    refine x_iadd (pc' := 17) dX8_bits_16 rfl ?_
    refine x_istore_n (pc' := 18) dX8_bits_17 rfl rfl (by decide) rfl (ls' := [.int x0, .int (x1 + ((x0 >>> ((x2 : Int32) &&& 31)) &&& 1)), .int x2]) rfl ?_
    refine x_iinc (pc' := 21) (v := 1) dX8_bits_18 rfl (by decide) rfl rfl (by decide) (ls' := [.int x0, .int (x1 + ((x0 >>> ((x2 : Int32) &&& 31)) &&& 1)), .int (x2 + 1)]) rfl ?_
    refine x_goto (pc' := 4) dX8_bits_21 (by decide) ?_
    exact h
set_option maxRecDepth 100000 in
set_option maxHeartbeats 4000000 in
theorem vX8_count_0 {d : Nat} {σ : Mem} {Q : Option Value → Mem → Prop} {x1 x2 x3 x4 : Int32} 
    (h : (((rectP x1 x2 x3 x4) → (X none (d + 2) mX8_bits 0 [.int (σ.1 95 0), Unk, Unk] [] σ (fun r τ1 => ∃ u2 : Int32, r = some (.int u2) ∧ (X none (d + 2) mX8_bits 0 [.int (τ1.1 95 1), Unk, Unk] [] τ1 (fun r τ3 => ∃ u4 : Int32, r = some (.int u4) ∧ (∀ τ5 : Mem, τ5 = (w1 τ3 94 3 ((σ.1 94 3) + (u2 + u4))) → X none (d + 3) mX8_count 50 [.ref 94, .int x1, .int x2, .int x3, .int x4, .int 0, .int 0] [] τ5 Q)))))) ∧ (¬ (rectP x1 x2 x3 x4) → ((∀ τ6 : Mem, τ6 = (w1 σ 99 0 ((σ.1 99 0) + 1)) → Q (some (.int (-2000000002))) τ6))))) :
    X none (d + 3) mX8_count 0 [.ref 94, .int x1, .int x2, .int x3, .int x4, Unk, Unk] [] σ Q := by
  refine x_iload_n (pc' := 1) dX8_count_0 rfl rfl rfl ?_
  refine x_iload_n (pc' := 2) dX8_count_1 rfl rfl rfl ?_
  refine x_iload_n (pc' := 3) dX8_count_2 rfl rfl rfl ?_
  refine x_iload (pc' := 5) dX8_count_3 rfl rfl ?_
  refine x_callS (pc' := 8) (As := [.int x1, .int x2, .int x3, .int x4]) dX8_count_5 rfl lmX8_127 rfl rfl (Nat.le_of_ble_eq_true rfl) (Nat.le_of_ble_eq_true rfl) ?_
  show X none (d + 2) mX8_isRect 0 [.int x1, .int x2, .int x3, .int x4] [] σ _
  refine sp_isRect ?_
  show X none (d + 3) mX8_count 8 [.ref 94, .int x1, .int x2, .int x3, .int x4, Unk, Unk] [.int (if (rectP x1 x2 x3 x4) then 1 else 0)] σ _
  refine x_if_ne (pc' := 11) (tgt := 16) dX8_count_8 (by decide) rfl (fun hc => ?_) (fun hc => ?_)
  · replace h := h.1 (b01_eq hc)
    refine x_aload_n (pc' := 17) dX8_count_16 rfl rfl rfl ?_
    refine x_dup (pc' := 18) dX8_count_17 rfl rfl ?_
    refine x_geti (pc' := 21) dX8_count_18 rfl lfX8_153 kd_94 rfl ?_
    refine x_aload_n (pc' := 22) dX8_count_21 rfl rfl rfl ?_
    refine x_getr (pc' := 25) dX8_count_22 rfl lfX8_7 kd_94 rfl rf_94_0 ?_
    refine x_iconst (pc' := 26) (v := 0) dX8_count_25 rfl (by decide) ?_
    refine x_iald (pc' := 27) dX8_count_26 rfl kd_95 (by rw [ln_95]; unfold vp_in; decide) ?_
    show X none (d + 3) mX8_count 27 [.ref 94, .int x1, .int x2, .int x3, .int x4, Unk, Unk] [.int (σ.1 95 0), .int (σ.1 94 3), .ref 94] σ _
    refine x_callS (pc' := 30) (As := [.int (σ.1 95 0)]) dX8_count_27 rfl lmX8_156 rfl rfl (Nat.le_of_ble_eq_true rfl) (Nat.le_of_ble_eq_true rfl) ?_
    show X none (d + 2) mX8_bits 0 [.int (σ.1 95 0), Unk, Unk] [] σ _
    refine X.mono h ?_
    rintro r τ1 ⟨u2, rfl, h⟩
    show X none (d + 3) mX8_count 30 [.ref 94, .int x1, .int x2, .int x3, .int x4, Unk, Unk] [.int u2, .int (σ.1 94 3), .ref 94] τ1 _
    refine x_aload_n (pc' := 31) dX8_count_30 rfl rfl rfl ?_
    refine x_getr (pc' := 34) dX8_count_31 rfl lfX8_7 kd_94 rfl rf_94_0 ?_
    refine x_iconst (pc' := 35) (v := 1) dX8_count_34 rfl (by decide) ?_
    refine x_iald (pc' := 36) dX8_count_35 rfl kd_95 (by rw [ln_95]; unfold vp_in; decide) ?_
    show X none (d + 3) mX8_count 36 [.ref 94, .int x1, .int x2, .int x3, .int x4, Unk, Unk] [.int (τ1.1 95 1), .int u2, .int (σ.1 94 3), .ref 94] τ1 _
    refine x_callS (pc' := 39) (As := [.int (τ1.1 95 1)]) dX8_count_36 rfl lmX8_156 rfl rfl (Nat.le_of_ble_eq_true rfl) (Nat.le_of_ble_eq_true rfl) ?_
    show X none (d + 2) mX8_bits 0 [.int (τ1.1 95 1), Unk, Unk] [] τ1 _
    refine X.mono h ?_
    rintro r τ3 ⟨u4, rfl, h⟩
    show X none (d + 3) mX8_count 39 [.ref 94, .int x1, .int x2, .int x3, .int x4, Unk, Unk] [.int u4, .int u2, .int (σ.1 94 3), .ref 94] τ3 _
    refine x_iadd (pc' := 40) dX8_count_39 rfl ?_
    refine x_iadd (pc' := 41) dX8_count_40 rfl ?_
    refine x_puti (pc' := 44) dX8_count_41 rfl lfX8_153 kd_94 rfl rfl rfl ?_
    obtain ⟨τ5, eτ5⟩ : ∃ τ : Mem, τ = (w1 τ3 94 3 ((σ.1 94 3) + (u2 + u4))) := ⟨_, rfl⟩
    show X none (d + 3) mX8_count 44 [.ref 94, .int x1, .int x2, .int x3, .int x4, Unk, Unk] [] (w1 τ3 94 3 ((σ.1 94 3) + (u2 + u4))) _
    rw [← eτ5]
    replace h := h τ5 eτ5
    refine x_iconst (pc' := 45) (v := 0) dX8_count_44 rfl (by decide) ?_
    refine x_istore (pc' := 47) dX8_count_45 rfl (by decide) rfl (ls' := [.ref 94, .int x1, .int x2, .int x3, .int x4, .int 0, Unk]) rfl ?_
    refine x_iconst (pc' := 48) (v := 0) dX8_count_47 rfl (by decide) ?_
    refine x_istore (pc' := 50) dX8_count_48 rfl (by decide) rfl (ls' := [.ref 94, .int x1, .int x2, .int x3, .int x4, .int 0, .int 0]) rfl ?_
    exact h
  · replace h := h.2 (b01_ne hc)
    refine x_aload_n (pc' := 12) dX8_count_11 rfl rfl rfl ?_
    refine x_callV (pc' := 15) (As := []) dX8_count_12 rfl lmX8_81 kd_94 rfl rfl (Nat.le_of_ble_eq_true rfl) (Nat.le_of_ble_eq_true rfl) ?_
    show X none (d + 2) mX8_bad 0 [.ref 94] [] σ _
    refine x_aload_n (pc' := 1) dX8_bad_0 rfl rfl rfl ?_
    refine x_getr (pc' := 4) dX8_bad_1 rfl lfX8_30 kd_94 rfl rf_94_9 ?_
    refine x_iconst (pc' := 5) (v := 0) dX8_bad_4 rfl (by decide) ?_
    refine x_dup2 (pc' := 6) dX8_bad_5 rfl rfl rfl ?_
    refine x_iald (pc' := 7) dX8_bad_6 rfl kd_99 (by rw [ln_99]; unfold vp_in; decide) ?_
    show X none (d + 2) mX8_bad 7 [.ref 94] [.int (σ.1 99 0), .int 0, .ref 99] σ _
    refine x_iconst (pc' := 8) (v := 1) dX8_bad_7 rfl (by decide) ?_
    refine x_iadd (pc' := 9) dX8_bad_8 rfl ?_
    refine x_iast (pc' := 10) dX8_bad_9 rfl kd_99 (by rw [ln_99]; unfold vp_in; decide) ?_
    obtain ⟨τ6, eτ6⟩ : ∃ τ : Mem, τ = (w1 σ 99 0 ((σ.1 99 0) + 1)) := ⟨_, rfl⟩
    show X none (d + 2) mX8_bad 10 [.ref 94] [] (w1 σ 99 0 ((σ.1 99 0) + 1)) _
    rw [← eτ6]
    replace h := h τ6 eτ6
    refine x_ldc (pc' := 12) dX8_bad_10 rfl lcX8_42 ?_
    refine x_iret dX8_bad_12 rfl rfl ?_
    show X none (d + 3) mX8_count 15 [.ref 94, .int x1, .int x2, .int x3, .int x4, Unk, Unk] [.int (-2000000002)] τ6 _
    exact x_iret dX8_count_15 rfl rfl h
set_option maxRecDepth 100000 in
set_option maxHeartbeats 4000000 in
theorem vX8_count_50 {d : Nat} {σ : Mem} {Q : Option Value → Mem → Prop} {x1 x2 x3 x4 x5 x6 : Int32} 
    (h : (((σ.1 95 0) ≤ x6 → Q (some (.int x5)) σ) ∧ (¬ (σ.1 95 0) ≤ x6 → (vp_in (494 + x6) 7458 ∧ ((¬ (σ.1 95 (494 + x6).toNatClampNeg) = 0 → X none (d + 3) mX8_count 50 [.ref 94, .int x1, .int x2, .int x3, .int x4, .int (x5 + 0), .int (x6 + 1)] [] σ Q) ∧ ((σ.1 95 (494 + x6).toNatClampNeg) = 0 → (X none (d + 2) mX8_isIn 0 [.ref 94, .int x6, .int x1, .int x2, .int x3, .int x4] [] σ (fun r τ1 => ∃ u2 : Int32, r = some (.int u2) ∧ ((u2 = 0 → X none (d + 3) mX8_count 50 [.ref 94, .int x1, .int x2, .int x3, .int x4, .int (x5 + 0), .int (x6 + 1)] [] τ1 Q) ∧ (¬ u2 = 0 → (X none (d + 2) mX8_counts 0 [.ref 94, .int x6, Unk, Unk] [] τ1 (fun r τ3 => ∃ u4 : Int32, r = some (.int u4) ∧ X none (d + 3) mX8_count 50 [.ref 94, .int x1, .int x2, .int x3, .int x4, .int (x5 + u4), .int (x6 + 1)] [] τ3 Q)))))))))))) :
    X none (d + 3) mX8_count 50 [.ref 94, .int x1, .int x2, .int x3, .int x4, .int x5, .int x6] [] σ Q := by
  refine x_iload (pc' := 52) dX8_count_50 rfl rfl ?_
  refine x_aload_n (pc' := 53) dX8_count_52 rfl rfl rfl ?_
  refine x_getr (pc' := 56) dX8_count_53 rfl lfX8_7 kd_94 rfl rf_94_0 ?_
  refine x_iconst (pc' := 57) (v := 0) dX8_count_56 rfl (by decide) ?_
  refine x_iald (pc' := 58) dX8_count_57 rfl kd_95 (by rw [ln_95]; unfold vp_in; decide) ?_
  show X none (d + 3) mX8_count 58 [.ref 94, .int x1, .int x2, .int x3, .int x4, .int x5, .int x6] [.int (σ.1 95 0), .int x6] σ _
  refine x_icmp_ge (pc' := 61) (tgt := 105) dX8_count_58 (by decide) rfl (fun hc => ?_) (fun hc => ?_)
  · replace h := h.1 hc
    refine x_iload (pc' := 107) dX8_count_105 rfl rfl ?_
    exact x_iret dX8_count_107 rfl rfl h
  · replace h := h.2 hc
    refine x_iload (pc' := 63) dX8_count_61 rfl rfl ?_
    refine x_aload_n (pc' := 64) dX8_count_63 rfl rfl rfl ?_
    refine x_iload (pc' := 66) dX8_count_64 rfl rfl ?_
    refine x_callV (pc' := 69) (As := [.int x6]) dX8_count_66 rfl lmX8_57 kd_94 rfl rfl (Nat.le_of_ble_eq_true rfl) (Nat.le_of_ble_eq_true rfl) ?_
    show X none (d + 2) mX8_isThere 0 [.ref 94, .int x6] [] σ _
    refine x_aload_n (pc' := 1) dX8_isThere_0 rfl rfl rfl ?_
    refine x_getr (pc' := 4) dX8_isThere_1 rfl lfX8_7 kd_94 rfl rf_94_0 ?_
    refine x_sipush (pc' := 7) (v := 494) dX8_isThere_4 rfl (by decide) ?_
    refine x_iload_n (pc' := 8) dX8_isThere_7 rfl rfl rfl ?_
    refine x_iadd (pc' := 9) dX8_isThere_8 rfl ?_
    obtain ⟨hb, h⟩ := h
    refine x_iald (pc' := 10) dX8_isThere_9 rfl kd_95 (by rw [ln_95]; exact hb) ?_
    refine x_if_ne (pc' := 13) (tgt := 17) dX8_isThere_10 (by decide) rfl (fun hc => ?_) (fun hc => ?_)
    · replace h := h.1 hc
      refine x_iconst (pc' := 18) (v := 0) dX8_isThere_17 rfl (by decide) ?_
      refine x_iret dX8_isThere_18 rfl rfl ?_
      show X none (d + 3) mX8_count 69 [.ref 94, .int x1, .int x2, .int x3, .int x4, .int x5, .int x6] [.int 0, .int x5] σ _
      refine x_if_eq (pc' := 72) (tgt := 95) dX8_count_69 (by decide) rfl (fun _ => ?_) (fun hc => absurd hc (by decide))
      refine x_iconst (pc' := 96) (v := 0) dX8_count_95 rfl (by decide) ?_
      refine x_iadd (pc' := 97) dX8_count_96 rfl ?_
      refine x_istore (pc' := 99) dX8_count_97 rfl (by decide) rfl (ls' := [.ref 94, .int x1, .int x2, .int x3, .int x4, .int (x5 + 0), .int x6]) rfl ?_
      refine x_iinc (pc' := 102) (v := 1) dX8_count_99 rfl (by decide) rfl rfl (by decide) (ls' := [.ref 94, .int x1, .int x2, .int x3, .int x4, .int (x5 + 0), .int (x6 + 1)]) rfl ?_
      refine x_goto (pc' := 50) dX8_count_102 (by decide) ?_
      exact h
    · replace h := h.2 hc
      refine x_iconst (pc' := 14) (v := 1) dX8_isThere_13 rfl (by decide) ?_
      refine x_goto (pc' := 18) dX8_isThere_14 (by decide) ?_
      refine x_iret dX8_isThere_18 rfl rfl ?_
      show X none (d + 3) mX8_count 69 [.ref 94, .int x1, .int x2, .int x3, .int x4, .int x5, .int x6] [.int 1, .int x5] σ _
      refine x_if_eq (pc' := 72) (tgt := 95) dX8_count_69 (by decide) rfl (fun hc => absurd hc (by decide)) (fun _ => ?_)
      refine x_aload_n (pc' := 73) dX8_count_72 rfl rfl rfl ?_
      refine x_iload (pc' := 75) dX8_count_73 rfl rfl ?_
      refine x_iload_n (pc' := 76) dX8_count_75 rfl rfl rfl ?_
      refine x_iload_n (pc' := 77) dX8_count_76 rfl rfl rfl ?_
      refine x_iload_n (pc' := 78) dX8_count_77 rfl rfl rfl ?_
      refine x_iload (pc' := 80) dX8_count_78 rfl rfl ?_
      refine x_callV (pc' := 83) (As := [.int x6, .int x1, .int x2, .int x3, .int x4]) dX8_count_80 rfl lmX8_120 kd_94 rfl rfl (Nat.le_of_ble_eq_true rfl) (Nat.le_of_ble_eq_true rfl) ?_
      show X none (d + 2) mX8_isIn 0 [.ref 94, .int x6, .int x1, .int x2, .int x3, .int x4] [] σ _
      refine X.mono h ?_
      rintro r τ1 ⟨u2, rfl, h⟩
      show X none (d + 3) mX8_count 83 [.ref 94, .int x1, .int x2, .int x3, .int x4, .int x5, .int x6] [.int u2, .int x5] τ1 _
      refine x_if_eq (pc' := 86) (tgt := 95) dX8_count_83 (by decide) rfl (fun hc => ?_) (fun hc => ?_)
      · replace h := h.1 hc
        refine x_iconst (pc' := 96) (v := 0) dX8_count_95 rfl (by decide) ?_
        refine x_iadd (pc' := 97) dX8_count_96 rfl ?_
        refine x_istore (pc' := 99) dX8_count_97 rfl (by decide) rfl (ls' := [.ref 94, .int x1, .int x2, .int x3, .int x4, .int (x5 + 0), .int x6]) rfl ?_
        refine x_iinc (pc' := 102) (v := 1) dX8_count_99 rfl (by decide) rfl rfl (by decide) (ls' := [.ref 94, .int x1, .int x2, .int x3, .int x4, .int (x5 + 0), .int (x6 + 1)]) rfl ?_
        refine x_goto (pc' := 50) dX8_count_102 (by decide) ?_
        exact h
      · replace h := h.2 hc
        refine x_aload_n (pc' := 87) dX8_count_86 rfl rfl rfl ?_
        refine x_iload (pc' := 89) dX8_count_87 rfl rfl ?_
        refine x_callV (pc' := 92) (As := [.int x6]) dX8_count_89 rfl lmX8_143 kd_94 rfl rfl (Nat.le_of_ble_eq_true rfl) (Nat.le_of_ble_eq_true rfl) ?_
        show X none (d + 2) mX8_counts 0 [.ref 94, .int x6, Unk, Unk] [] τ1 _
        refine X.mono h ?_
        rintro r τ3 ⟨u4, rfl, h⟩
        show X none (d + 3) mX8_count 92 [.ref 94, .int x1, .int x2, .int x3, .int x4, .int x5, .int x6] [.int u4, .int x5] τ3 _
        refine x_goto (pc' := 96) dX8_count_92 (by decide) ?_
        refine x_iadd (pc' := 97) dX8_count_96 rfl ?_
        refine x_istore (pc' := 99) dX8_count_97 rfl (by decide) rfl (ls' := [.ref 94, .int x1, .int x2, .int x3, .int x4, .int (x5 + u4), .int x6]) rfl ?_
        refine x_iinc (pc' := 102) (v := 1) dX8_count_99 rfl (by decide) rfl rfl (by decide) (ls' := [.ref 94, .int x1, .int x2, .int x3, .int x4, .int (x5 + u4), .int (x6 + 1)]) rfl ?_
        refine x_goto (pc' := 50) dX8_count_102 (by decide) ?_
        exact h
set_option maxRecDepth 100000 in
set_option maxHeartbeats 4000000 in
theorem vX8_manyIn_0 {d : Nat} {σ : Mem} {Q : Option Value → Mem → Prop} {x1 x2 x3 x4 : Int32} 
    (h : X none (d + 2) mX8_manyIn 6 [.ref 94, .int x1, .int x2, .int x3, .int x4, .int 0, .int 0] [] σ Q) :
    X none (d + 2) mX8_manyIn 0 [.ref 94, .int x1, .int x2, .int x3, .int x4, Unk, Unk] [] σ Q := by
  refine x_iconst (pc' := 1) (v := 0) dX8_manyIn_0 rfl (by decide) ?_
  refine x_istore (pc' := 3) dX8_manyIn_1 rfl (by decide) rfl (ls' := [.ref 94, .int x1, .int x2, .int x3, .int x4, .int 0, Unk]) rfl ?_
  refine x_iconst (pc' := 4) (v := 0) dX8_manyIn_3 rfl (by decide) ?_
  refine x_istore (pc' := 6) dX8_manyIn_4 rfl (by decide) rfl (ls' := [.ref 94, .int x1, .int x2, .int x3, .int x4, .int 0, .int 0]) rfl ?_
  exact h
set_option maxRecDepth 100000 in
set_option maxHeartbeats 4000000 in
theorem vX8_manyIn_6 {d : Nat} {σ : Mem} {Q : Option Value → Mem → Prop} {x1 x2 x3 x4 x5 x6 : Int32} 
    (h : (((σ.1 95 0) ≤ x6 → Q (some (.int x5)) σ) ∧ (¬ (σ.1 95 0) ≤ x6 → (vp_in (494 + x6) 7458 ∧ ((¬ (σ.1 95 (494 + x6).toNatClampNeg) = 0 → X none (d + 2) mX8_manyIn 6 [.ref 94, .int x1, .int x2, .int x3, .int x4, .int (x5 + 0), .int (x6 + 1)] [] σ Q) ∧ ((σ.1 95 (494 + x6).toNatClampNeg) = 0 → (X none (d + 1) mX8_isIn 0 [.ref 94, .int x6, .int x1, .int x2, .int x3, .int x4] [] σ (fun r τ1 => ∃ u2 : Int32, r = some (.int u2) ∧ ((u2 = 0 → X none (d + 2) mX8_manyIn 6 [.ref 94, .int x1, .int x2, .int x3, .int x4, .int (x5 + 0), .int (x6 + 1)] [] τ1 Q) ∧ (¬ u2 = 0 → X none (d + 2) mX8_manyIn 6 [.ref 94, .int x1, .int x2, .int x3, .int x4, .int (x5 + 1), .int (x6 + 1)] [] τ1 Q)))))))))) :
    X none (d + 2) mX8_manyIn 6 [.ref 94, .int x1, .int x2, .int x3, .int x4, .int x5, .int x6] [] σ Q := by
  refine x_iload (pc' := 8) dX8_manyIn_6 rfl rfl ?_
  refine x_aload_n (pc' := 9) dX8_manyIn_8 rfl rfl rfl ?_
  refine x_getr (pc' := 12) dX8_manyIn_9 rfl lfX8_7 kd_94 rfl rf_94_0 ?_
  refine x_iconst (pc' := 13) (v := 0) dX8_manyIn_12 rfl (by decide) ?_
  refine x_iald (pc' := 14) dX8_manyIn_13 rfl kd_95 (by rw [ln_95]; unfold vp_in; decide) ?_
  show X none (d + 2) mX8_manyIn 14 [.ref 94, .int x1, .int x2, .int x3, .int x4, .int x5, .int x6] [.int (σ.1 95 0), .int x6] σ _
  refine x_icmp_ge (pc' := 17) (tgt := 56) dX8_manyIn_14 (by decide) rfl (fun hc => ?_) (fun hc => ?_)
  · replace h := h.1 hc
    refine x_iload (pc' := 58) dX8_manyIn_56 rfl rfl ?_
    exact x_iret dX8_manyIn_58 rfl rfl h
  · replace h := h.2 hc
    refine x_iload (pc' := 19) dX8_manyIn_17 rfl rfl ?_
    refine x_aload_n (pc' := 20) dX8_manyIn_19 rfl rfl rfl ?_
    refine x_iload (pc' := 22) dX8_manyIn_20 rfl rfl ?_
    refine x_callV (pc' := 25) (As := [.int x6]) dX8_manyIn_22 rfl lmX8_57 kd_94 rfl rfl (Nat.le_of_ble_eq_true rfl) (Nat.le_of_ble_eq_true rfl) ?_
    show X none (d + 1) mX8_isThere 0 [.ref 94, .int x6] [] σ _
    refine x_aload_n (pc' := 1) dX8_isThere_0 rfl rfl rfl ?_
    refine x_getr (pc' := 4) dX8_isThere_1 rfl lfX8_7 kd_94 rfl rf_94_0 ?_
    refine x_sipush (pc' := 7) (v := 494) dX8_isThere_4 rfl (by decide) ?_
    refine x_iload_n (pc' := 8) dX8_isThere_7 rfl rfl rfl ?_
    refine x_iadd (pc' := 9) dX8_isThere_8 rfl ?_
    obtain ⟨hb, h⟩ := h
    refine x_iald (pc' := 10) dX8_isThere_9 rfl kd_95 (by rw [ln_95]; exact hb) ?_
    refine x_if_ne (pc' := 13) (tgt := 17) dX8_isThere_10 (by decide) rfl (fun hc => ?_) (fun hc => ?_)
    · replace h := h.1 hc
      refine x_iconst (pc' := 18) (v := 0) dX8_isThere_17 rfl (by decide) ?_
      refine x_iret dX8_isThere_18 rfl rfl ?_
      show X none (d + 2) mX8_manyIn 25 [.ref 94, .int x1, .int x2, .int x3, .int x4, .int x5, .int x6] [.int 0, .int x5] σ _
      refine x_if_eq (pc' := 28) (tgt := 46) dX8_manyIn_25 (by decide) rfl (fun _ => ?_) (fun hc => absurd hc (by decide))
      refine x_iconst (pc' := 47) (v := 0) dX8_manyIn_46 rfl (by decide) ?_
      refine x_iadd (pc' := 48) dX8_manyIn_47 rfl ?_
      refine x_istore (pc' := 50) dX8_manyIn_48 rfl (by decide) rfl (ls' := [.ref 94, .int x1, .int x2, .int x3, .int x4, .int (x5 + 0), .int x6]) rfl ?_
      refine x_iinc (pc' := 53) (v := 1) dX8_manyIn_50 rfl (by decide) rfl rfl (by decide) (ls' := [.ref 94, .int x1, .int x2, .int x3, .int x4, .int (x5 + 0), .int (x6 + 1)]) rfl ?_
      refine x_goto (pc' := 6) dX8_manyIn_53 (by decide) ?_
      exact h
    · replace h := h.2 hc
      refine x_iconst (pc' := 14) (v := 1) dX8_isThere_13 rfl (by decide) ?_
      refine x_goto (pc' := 18) dX8_isThere_14 (by decide) ?_
      refine x_iret dX8_isThere_18 rfl rfl ?_
      show X none (d + 2) mX8_manyIn 25 [.ref 94, .int x1, .int x2, .int x3, .int x4, .int x5, .int x6] [.int 1, .int x5] σ _
      refine x_if_eq (pc' := 28) (tgt := 46) dX8_manyIn_25 (by decide) rfl (fun hc => absurd hc (by decide)) (fun _ => ?_)
      refine x_aload_n (pc' := 29) dX8_manyIn_28 rfl rfl rfl ?_
      refine x_iload (pc' := 31) dX8_manyIn_29 rfl rfl ?_
      refine x_iload_n (pc' := 32) dX8_manyIn_31 rfl rfl rfl ?_
      refine x_iload_n (pc' := 33) dX8_manyIn_32 rfl rfl rfl ?_
      refine x_iload_n (pc' := 34) dX8_manyIn_33 rfl rfl rfl ?_
      refine x_iload (pc' := 36) dX8_manyIn_34 rfl rfl ?_
      refine x_callV (pc' := 39) (As := [.int x6, .int x1, .int x2, .int x3, .int x4]) dX8_manyIn_36 rfl lmX8_120 kd_94 rfl rfl (Nat.le_of_ble_eq_true rfl) (Nat.le_of_ble_eq_true rfl) ?_
      show X none (d + 1) mX8_isIn 0 [.ref 94, .int x6, .int x1, .int x2, .int x3, .int x4] [] σ _
      refine X.mono h ?_
      rintro r τ1 ⟨u2, rfl, h⟩
      show X none (d + 2) mX8_manyIn 39 [.ref 94, .int x1, .int x2, .int x3, .int x4, .int x5, .int x6] [.int u2, .int x5] τ1 _
      refine x_if_eq (pc' := 42) (tgt := 46) dX8_manyIn_39 (by decide) rfl (fun hc => ?_) (fun hc => ?_)
      · replace h := h.1 hc
        refine x_iconst (pc' := 47) (v := 0) dX8_manyIn_46 rfl (by decide) ?_
        refine x_iadd (pc' := 48) dX8_manyIn_47 rfl ?_
        refine x_istore (pc' := 50) dX8_manyIn_48 rfl (by decide) rfl (ls' := [.ref 94, .int x1, .int x2, .int x3, .int x4, .int (x5 + 0), .int x6]) rfl ?_
        refine x_iinc (pc' := 53) (v := 1) dX8_manyIn_50 rfl (by decide) rfl rfl (by decide) (ls' := [.ref 94, .int x1, .int x2, .int x3, .int x4, .int (x5 + 0), .int (x6 + 1)]) rfl ?_
        refine x_goto (pc' := 6) dX8_manyIn_53 (by decide) ?_
        exact h
      · replace h := h.2 hc
        refine x_iconst (pc' := 43) (v := 1) dX8_manyIn_42 rfl (by decide) ?_
        refine x_goto (pc' := 47) dX8_manyIn_43 (by decide) ?_
        refine x_iadd (pc' := 48) dX8_manyIn_47 rfl ?_
        refine x_istore (pc' := 50) dX8_manyIn_48 rfl (by decide) rfl (ls' := [.ref 94, .int x1, .int x2, .int x3, .int x4, .int (x5 + 1), .int x6]) rfl ?_
        refine x_iinc (pc' := 53) (v := 1) dX8_manyIn_50 rfl (by decide) rfl rfl (by decide) (ls' := [.ref 94, .int x1, .int x2, .int x3, .int x4, .int (x5 + 1), .int (x6 + 1)]) rfl ?_
        refine x_goto (pc' := 6) dX8_manyIn_53 (by decide) ?_
        exact h
set_option maxRecDepth 100000 in
set_option maxHeartbeats 4000000 in
theorem vX8_many_0 {d : Nat} {σ : Mem} {Q : Option Value → Mem → Prop} {x1 x2 x3 x4 : Int32} 
    (h : ((¬ (rectP x1 x2 x3 x4) → ((∀ τ1 : Mem, τ1 = (w1 σ 99 0 ((σ.1 99 0) + 1)) → Q (some (.int (-2000000002))) τ1))) ∧ ((rectP x1 x2 x3 x4) → (X none (d + 2) mX8_manyIn 0 [.ref 94, .int x1, .int x2, .int x3, .int x4, Unk, Unk] [] σ (fun r τ2 => ∃ u3 : Int32, r = some (.int u3) ∧ Q (some (.int u3)) τ2))))) :
    X none (d + 3) mX8_many 0 [.ref 94, .int x1, .int x2, .int x3, .int x4] [] σ Q := by
  refine x_iload_n (pc' := 1) dX8_many_0 rfl rfl rfl ?_
  refine x_iload_n (pc' := 2) dX8_many_1 rfl rfl rfl ?_
  refine x_iload_n (pc' := 3) dX8_many_2 rfl rfl rfl ?_
  refine x_iload (pc' := 5) dX8_many_3 rfl rfl ?_
  refine x_callS (pc' := 8) (As := [.int x1, .int x2, .int x3, .int x4]) dX8_many_5 rfl lmX8_127 rfl rfl (Nat.le_of_ble_eq_true rfl) (Nat.le_of_ble_eq_true rfl) ?_
  show X none (d + 2) mX8_isRect 0 [.int x1, .int x2, .int x3, .int x4] [] σ _
  refine sp_isRect ?_
  show X none (d + 3) mX8_many 8 [.ref 94, .int x1, .int x2, .int x3, .int x4] [.int (if (rectP x1 x2 x3 x4) then 1 else 0)] σ _
  refine x_if_eq (pc' := 11) (tgt := 23) dX8_many_8 (by decide) rfl (fun hc => ?_) (fun hc => ?_)
  · replace h := h.1 (b01_ne hc)
    refine x_aload_n (pc' := 24) dX8_many_23 rfl rfl rfl ?_
    refine x_callV (pc' := 27) (As := []) dX8_many_24 rfl lmX8_81 kd_94 rfl rfl (Nat.le_of_ble_eq_true rfl) (Nat.le_of_ble_eq_true rfl) ?_
    show X none (d + 2) mX8_bad 0 [.ref 94] [] σ _
    refine x_aload_n (pc' := 1) dX8_bad_0 rfl rfl rfl ?_
    refine x_getr (pc' := 4) dX8_bad_1 rfl lfX8_30 kd_94 rfl rf_94_9 ?_
    refine x_iconst (pc' := 5) (v := 0) dX8_bad_4 rfl (by decide) ?_
    refine x_dup2 (pc' := 6) dX8_bad_5 rfl rfl rfl ?_
    refine x_iald (pc' := 7) dX8_bad_6 rfl kd_99 (by rw [ln_99]; unfold vp_in; decide) ?_
    show X none (d + 2) mX8_bad 7 [.ref 94] [.int (σ.1 99 0), .int 0, .ref 99] σ _
    refine x_iconst (pc' := 8) (v := 1) dX8_bad_7 rfl (by decide) ?_
    refine x_iadd (pc' := 9) dX8_bad_8 rfl ?_
    refine x_iast (pc' := 10) dX8_bad_9 rfl kd_99 (by rw [ln_99]; unfold vp_in; decide) ?_
    obtain ⟨τ1, eτ1⟩ : ∃ τ : Mem, τ = (w1 σ 99 0 ((σ.1 99 0) + 1)) := ⟨_, rfl⟩
    show X none (d + 2) mX8_bad 10 [.ref 94] [] (w1 σ 99 0 ((σ.1 99 0) + 1)) _
    rw [← eτ1]
    replace h := h τ1 eτ1
    refine x_ldc (pc' := 12) dX8_bad_10 rfl lcX8_42 ?_
    refine x_iret dX8_bad_12 rfl rfl ?_
    show X none (d + 3) mX8_many 27 [.ref 94, .int x1, .int x2, .int x3, .int x4] [.int (-2000000002)] τ1 _
    exact x_iret dX8_many_27 rfl rfl h
  · replace h := h.2 (b01_eq hc)
    refine x_aload_n (pc' := 12) dX8_many_11 rfl rfl rfl ?_
    refine x_iload_n (pc' := 13) dX8_many_12 rfl rfl rfl ?_
    refine x_iload_n (pc' := 14) dX8_many_13 rfl rfl rfl ?_
    refine x_iload_n (pc' := 15) dX8_many_14 rfl rfl rfl ?_
    refine x_iload (pc' := 17) dX8_many_15 rfl rfl ?_
    refine x_callV (pc' := 20) (As := [.int x1, .int x2, .int x3, .int x4]) dX8_many_17 rfl lmX8_159 kd_94 rfl rfl (Nat.le_of_ble_eq_true rfl) (Nat.le_of_ble_eq_true rfl) ?_
    show X none (d + 2) mX8_manyIn 0 [.ref 94, .int x1, .int x2, .int x3, .int x4, Unk, Unk] [] σ _
    refine X.mono h ?_
    rintro r τ2 ⟨u3, rfl, h⟩
    show X none (d + 3) mX8_many 20 [.ref 94, .int x1, .int x2, .int x3, .int x4] [.int u3] τ2 _
    refine x_goto (pc' := 27) dX8_many_20 (by decide) ?_
    exact x_iret dX8_many_27 rfl rfl h
set_option maxRecDepth 100000 in
set_option maxHeartbeats 4000000 in
theorem vX8_kth_0 {d : Nat} {σ : Mem} {Q : Option Value → Mem → Prop} {x1 x2 x3 x4 x5 : Int32} 
    (h : ((¬ (rectP x1 x2 x3 x4) → ((∀ τ1 : Mem, τ1 = (w1 σ 99 0 ((σ.1 99 0) + 1)) → Q (some (.int (-2000000002))) τ1))) ∧ ((rectP x1 x2 x3 x4) → ((0 ≤ x5 → (X none (d + 2) mX8_lines 0 [.ref 94, .int x1, .int x2, .int x3, .int x4, Unk] [] σ (fun r τ2 => r = none ∧ (((τ2.1 94 12) ≤ x5 → Q (some (.int (-2000000001))) τ2) ∧ (¬ (τ2.1 94 12) ≤ x5 → (vp_in x5 60 ∧ (vp_in (6 + (τ2.1 100 x5.toNatClampNeg)) 7458 ∧ Q (some (.int (τ2.1 95 (6 + (τ2.1 100 x5.toNatClampNeg)).toNatClampNeg))) τ2))))))) ∧ (¬ 0 ≤ x5 → ((∀ τ3 : Mem, τ3 = (w1 σ 99 0 ((σ.1 99 0) + 1)) → Q (some (.int (-2000000002))) τ3))))))) :
    X none (d + 3) mX8_kth 0 [.ref 94, .int x1, .int x2, .int x3, .int x4, .int x5] [] σ Q := by
  refine x_iload_n (pc' := 1) dX8_kth_0 rfl rfl rfl ?_
  refine x_iload_n (pc' := 2) dX8_kth_1 rfl rfl rfl ?_
  refine x_iload_n (pc' := 3) dX8_kth_2 rfl rfl rfl ?_
  refine x_iload (pc' := 5) dX8_kth_3 rfl rfl ?_
  refine x_callS (pc' := 8) (As := [.int x1, .int x2, .int x3, .int x4]) dX8_kth_5 rfl lmX8_127 rfl rfl (Nat.le_of_ble_eq_true rfl) (Nat.le_of_ble_eq_true rfl) ?_
  show X none (d + 2) mX8_isRect 0 [.int x1, .int x2, .int x3, .int x4] [] σ _
  refine sp_isRect ?_
  show X none (d + 3) mX8_kth 8 [.ref 94, .int x1, .int x2, .int x3, .int x4, .int x5] [.int (if (rectP x1 x2 x3 x4) then 1 else 0)] σ _
  refine x_if_eq (pc' := 11) (tgt := 16) dX8_kth_8 (by decide) rfl (fun hc => ?_) (fun hc => ?_)
  · replace h := h.1 (b01_ne hc)
    refine x_aload_n (pc' := 17) dX8_kth_16 rfl rfl rfl ?_
    refine x_callV (pc' := 20) (As := []) dX8_kth_17 rfl lmX8_81 kd_94 rfl rfl (Nat.le_of_ble_eq_true rfl) (Nat.le_of_ble_eq_true rfl) ?_
    show X none (d + 2) mX8_bad 0 [.ref 94] [] σ _
    refine x_aload_n (pc' := 1) dX8_bad_0 rfl rfl rfl ?_
    refine x_getr (pc' := 4) dX8_bad_1 rfl lfX8_30 kd_94 rfl rf_94_9 ?_
    refine x_iconst (pc' := 5) (v := 0) dX8_bad_4 rfl (by decide) ?_
    refine x_dup2 (pc' := 6) dX8_bad_5 rfl rfl rfl ?_
    refine x_iald (pc' := 7) dX8_bad_6 rfl kd_99 (by rw [ln_99]; unfold vp_in; decide) ?_
    show X none (d + 2) mX8_bad 7 [.ref 94] [.int (σ.1 99 0), .int 0, .ref 99] σ _
    refine x_iconst (pc' := 8) (v := 1) dX8_bad_7 rfl (by decide) ?_
    refine x_iadd (pc' := 9) dX8_bad_8 rfl ?_
    refine x_iast (pc' := 10) dX8_bad_9 rfl kd_99 (by rw [ln_99]; unfold vp_in; decide) ?_
    obtain ⟨τ1, eτ1⟩ : ∃ τ : Mem, τ = (w1 σ 99 0 ((σ.1 99 0) + 1)) := ⟨_, rfl⟩
    show X none (d + 2) mX8_bad 10 [.ref 94] [] (w1 σ 99 0 ((σ.1 99 0) + 1)) _
    rw [← eτ1]
    replace h := h τ1 eτ1
    refine x_ldc (pc' := 12) dX8_bad_10 rfl lcX8_42 ?_
    refine x_iret dX8_bad_12 rfl rfl ?_
    show X none (d + 3) mX8_kth 20 [.ref 94, .int x1, .int x2, .int x3, .int x4, .int x5] [.int (-2000000002)] τ1 _
    exact x_iret dX8_kth_20 rfl rfl h
  · replace h := h.2 (b01_eq hc)
    refine x_iload (pc' := 13) dX8_kth_11 rfl rfl ?_
    refine x_if_ge (pc' := 16) (tgt := 21) dX8_kth_13 (by decide) rfl (fun hc => ?_) (fun hc => ?_)
    · replace h := h.1 hc
      refine x_aload_n (pc' := 22) dX8_kth_21 rfl rfl rfl ?_
      refine x_iload_n (pc' := 23) dX8_kth_22 rfl rfl rfl ?_
      refine x_iload_n (pc' := 24) dX8_kth_23 rfl rfl rfl ?_
      refine x_iload_n (pc' := 25) dX8_kth_24 rfl rfl rfl ?_
      refine x_iload (pc' := 27) dX8_kth_25 rfl rfl ?_
      refine x_callV (pc' := 30) (As := [.int x1, .int x2, .int x3, .int x4]) dX8_kth_27 rfl lmX8_131 kd_94 rfl rfl (Nat.le_of_ble_eq_true rfl) (Nat.le_of_ble_eq_true rfl) ?_
      show X none (d + 2) mX8_lines 0 [.ref 94, .int x1, .int x2, .int x3, .int x4, Unk] [] σ _
      refine X.mono h ?_
      rintro r τ2 ⟨rfl, h⟩
      show X none (d + 3) mX8_kth 30 [.ref 94, .int x1, .int x2, .int x3, .int x4, .int x5] [] τ2 _
      refine x_iload (pc' := 32) dX8_kth_30 rfl rfl ?_
      refine x_aload_n (pc' := 33) dX8_kth_32 rfl rfl rfl ?_
      refine x_geti (pc' := 36) dX8_kth_33 rfl lfX8_113 kd_94 rfl ?_
      refine x_icmp_ge (pc' := 39) (tgt := 57) dX8_kth_36 (by decide) rfl (fun hc => ?_) (fun hc => ?_)
      · replace h := h.1 hc
        refine x_ldc (pc' := 59) dX8_kth_57 rfl lcX8_152 ?_
        exact x_iret dX8_kth_59 rfl rfl h
      · replace h := h.2 hc
        refine x_aload_n (pc' := 40) dX8_kth_39 rfl rfl rfl ?_
        refine x_getr (pc' := 43) dX8_kth_40 rfl lfX8_7 kd_94 rfl rf_94_0 ?_
        refine x_bipush (pc' := 45) (v := 6) dX8_kth_43 rfl (by decide) ?_
        refine x_aload_n (pc' := 46) dX8_kth_45 rfl rfl rfl ?_
        refine x_getr (pc' := 49) dX8_kth_46 rfl lfX8_33 kd_94 rfl rf_94_11 ?_
        refine x_iload (pc' := 51) dX8_kth_49 rfl rfl ?_
        obtain ⟨hb, h⟩ := h
        refine x_iald (pc' := 52) dX8_kth_51 rfl kd_100 (by rw [ln_100]; exact hb) ?_
        refine x_iadd (pc' := 53) dX8_kth_52 rfl ?_
        obtain ⟨hb, h⟩ := h
        refine x_iald (pc' := 54) dX8_kth_53 rfl kd_95 (by rw [ln_95]; exact hb) ?_
        refine x_goto (pc' := 59) dX8_kth_54 (by decide) ?_
        exact x_iret dX8_kth_59 rfl rfl h
    · replace h := h.2 hc
      refine x_aload_n (pc' := 17) dX8_kth_16 rfl rfl rfl ?_
      refine x_callV (pc' := 20) (As := []) dX8_kth_17 rfl lmX8_81 kd_94 rfl rfl (Nat.le_of_ble_eq_true rfl) (Nat.le_of_ble_eq_true rfl) ?_
      show X none (d + 2) mX8_bad 0 [.ref 94] [] σ _
      refine x_aload_n (pc' := 1) dX8_bad_0 rfl rfl rfl ?_
      refine x_getr (pc' := 4) dX8_bad_1 rfl lfX8_30 kd_94 rfl rf_94_9 ?_
      refine x_iconst (pc' := 5) (v := 0) dX8_bad_4 rfl (by decide) ?_
      refine x_dup2 (pc' := 6) dX8_bad_5 rfl rfl rfl ?_
      refine x_iald (pc' := 7) dX8_bad_6 rfl kd_99 (by rw [ln_99]; unfold vp_in; decide) ?_
      show X none (d + 2) mX8_bad 7 [.ref 94] [.int (σ.1 99 0), .int 0, .ref 99] σ _
      refine x_iconst (pc' := 8) (v := 1) dX8_bad_7 rfl (by decide) ?_
      refine x_iadd (pc' := 9) dX8_bad_8 rfl ?_
      refine x_iast (pc' := 10) dX8_bad_9 rfl kd_99 (by rw [ln_99]; unfold vp_in; decide) ?_
      obtain ⟨τ3, eτ3⟩ : ∃ τ : Mem, τ = (w1 σ 99 0 ((σ.1 99 0) + 1)) := ⟨_, rfl⟩
      show X none (d + 2) mX8_bad 10 [.ref 94] [] (w1 σ 99 0 ((σ.1 99 0) + 1)) _
      rw [← eτ3]
      replace h := h τ3 eτ3
      refine x_ldc (pc' := 12) dX8_bad_10 rfl lcX8_42 ?_
      refine x_iret dX8_bad_12 rfl rfl ?_
      show X none (d + 3) mX8_kth 20 [.ref 94, .int x1, .int x2, .int x3, .int x4, .int x5] [.int (-2000000002)] τ3 _
      exact x_iret dX8_kth_20 rfl rfl h
set_option maxRecDepth 100000 in
set_option maxHeartbeats 4000000 in
theorem vX8_half_0 {d : Nat} {σ : Mem} {Q : Option Value → Mem → Prop} {x1 x2 x3 x4 : Int32} 
    (h : (((rectP x1 x2 x3 x4) → (X none (d + 2) mX8_lines 0 [.ref 94, .int x1, .int x2, .int x3, .int x4, Unk] [] σ (fun r τ1 => r = none ∧ ((¬ (τ1.1 94 12) = 0 → (vp_in ((((τ1.1 94 12) + 1) / 2) - 1) 60 ∧ (vp_in (128 + (τ1.1 100 ((((τ1.1 94 12) + 1) / 2) - 1).toNatClampNeg)) 7458 ∧ Q (some (.int (τ1.1 95 (128 + (τ1.1 100 ((((τ1.1 94 12) + 1) / 2) - 1).toNatClampNeg)).toNatClampNeg))) τ1))) ∧ ((τ1.1 94 12) = 0 → Q (some (.int (-2000000001))) τ1))))) ∧ (¬ (rectP x1 x2 x3 x4) → ((∀ τ2 : Mem, τ2 = (w1 σ 99 0 ((σ.1 99 0) + 1)) → Q (some (.int (-2000000002))) τ2))))) :
    X none (d + 3) mX8_half 0 [.ref 94, .int x1, .int x2, .int x3, .int x4] [] σ Q := by
  refine x_iload_n (pc' := 1) dX8_half_0 rfl rfl rfl ?_
  refine x_iload_n (pc' := 2) dX8_half_1 rfl rfl rfl ?_
  refine x_iload_n (pc' := 3) dX8_half_2 rfl rfl rfl ?_
  refine x_iload (pc' := 5) dX8_half_3 rfl rfl ?_
  refine x_callS (pc' := 8) (As := [.int x1, .int x2, .int x3, .int x4]) dX8_half_5 rfl lmX8_127 rfl rfl (Nat.le_of_ble_eq_true rfl) (Nat.le_of_ble_eq_true rfl) ?_
  show X none (d + 2) mX8_isRect 0 [.int x1, .int x2, .int x3, .int x4] [] σ _
  refine sp_isRect ?_
  show X none (d + 3) mX8_half 8 [.ref 94, .int x1, .int x2, .int x3, .int x4] [.int (if (rectP x1 x2 x3 x4) then 1 else 0)] σ _
  refine x_if_ne (pc' := 11) (tgt := 16) dX8_half_8 (by decide) rfl (fun hc => ?_) (fun hc => ?_)
  · replace h := h.1 (b01_eq hc)
    refine x_aload_n (pc' := 17) dX8_half_16 rfl rfl rfl ?_
    refine x_iload_n (pc' := 18) dX8_half_17 rfl rfl rfl ?_
    refine x_iload_n (pc' := 19) dX8_half_18 rfl rfl rfl ?_
    refine x_iload_n (pc' := 20) dX8_half_19 rfl rfl rfl ?_
    refine x_iload (pc' := 22) dX8_half_20 rfl rfl ?_
    refine x_callV (pc' := 25) (As := [.int x1, .int x2, .int x3, .int x4]) dX8_half_22 rfl lmX8_131 kd_94 rfl rfl (Nat.le_of_ble_eq_true rfl) (Nat.le_of_ble_eq_true rfl) ?_
    show X none (d + 2) mX8_lines 0 [.ref 94, .int x1, .int x2, .int x3, .int x4, Unk] [] σ _
    refine X.mono h ?_
    rintro r τ1 ⟨rfl, h⟩
    show X none (d + 3) mX8_half 25 [.ref 94, .int x1, .int x2, .int x3, .int x4] [] τ1 _
    refine x_aload_n (pc' := 26) dX8_half_25 rfl rfl rfl ?_
    refine x_geti (pc' := 29) dX8_half_26 rfl lfX8_113 kd_94 rfl ?_
    refine x_if_ne (pc' := 32) (tgt := 37) dX8_half_29 (by decide) rfl (fun hc => ?_) (fun hc => ?_)
    · replace h := h.1 hc
      refine x_aload_n (pc' := 38) dX8_half_37 rfl rfl rfl ?_
      refine x_getr (pc' := 41) dX8_half_38 rfl lfX8_7 kd_94 rfl rf_94_0 ?_
      refine x_sipush (pc' := 44) (v := 128) dX8_half_41 rfl (by decide) ?_
      refine x_aload_n (pc' := 45) dX8_half_44 rfl rfl rfl ?_
      refine x_getr (pc' := 48) dX8_half_45 rfl lfX8_33 kd_94 rfl rf_94_11 ?_
      refine x_aload_n (pc' := 49) dX8_half_48 rfl rfl rfl ?_
      refine x_geti (pc' := 52) dX8_half_49 rfl lfX8_113 kd_94 rfl ?_
      refine x_iconst (pc' := 53) (v := 1) dX8_half_52 rfl (by decide) ?_
      refine x_iadd (pc' := 54) dX8_half_53 rfl ?_
      refine x_iconst (pc' := 55) (v := 2) dX8_half_54 rfl (by decide) ?_
      refine x_idiv (pc' := 56) dX8_half_55 rfl (by decide) ?_
      refine x_iconst (pc' := 57) (v := 1) dX8_half_56 rfl (by decide) ?_
      refine x_isub (pc' := 58) dX8_half_57 rfl ?_
      obtain ⟨hb, h⟩ := h
      refine x_iald (pc' := 59) dX8_half_58 rfl kd_100 (by rw [ln_100]; exact hb) ?_
      refine x_iadd (pc' := 60) dX8_half_59 rfl ?_
      obtain ⟨hb, h⟩ := h
      refine x_iald (pc' := 61) dX8_half_60 rfl kd_95 (by rw [ln_95]; exact hb) ?_
      exact x_iret dX8_half_61 rfl rfl h
    · replace h := h.2 hc
      refine x_ldc (pc' := 34) dX8_half_32 rfl lcX8_152 ?_
      refine x_goto (pc' := 61) dX8_half_34 (by decide) ?_
      exact x_iret dX8_half_61 rfl rfl h
  · replace h := h.2 (b01_ne hc)
    refine x_aload_n (pc' := 12) dX8_half_11 rfl rfl rfl ?_
    refine x_callV (pc' := 15) (As := []) dX8_half_12 rfl lmX8_81 kd_94 rfl rfl (Nat.le_of_ble_eq_true rfl) (Nat.le_of_ble_eq_true rfl) ?_
    show X none (d + 2) mX8_bad 0 [.ref 94] [] σ _
    refine x_aload_n (pc' := 1) dX8_bad_0 rfl rfl rfl ?_
    refine x_getr (pc' := 4) dX8_bad_1 rfl lfX8_30 kd_94 rfl rf_94_9 ?_
    refine x_iconst (pc' := 5) (v := 0) dX8_bad_4 rfl (by decide) ?_
    refine x_dup2 (pc' := 6) dX8_bad_5 rfl rfl rfl ?_
    refine x_iald (pc' := 7) dX8_bad_6 rfl kd_99 (by rw [ln_99]; unfold vp_in; decide) ?_
    show X none (d + 2) mX8_bad 7 [.ref 94] [.int (σ.1 99 0), .int 0, .ref 99] σ _
    refine x_iconst (pc' := 8) (v := 1) dX8_bad_7 rfl (by decide) ?_
    refine x_iadd (pc' := 9) dX8_bad_8 rfl ?_
    refine x_iast (pc' := 10) dX8_bad_9 rfl kd_99 (by rw [ln_99]; unfold vp_in; decide) ?_
    obtain ⟨τ2, eτ2⟩ : ∃ τ : Mem, τ = (w1 σ 99 0 ((σ.1 99 0) + 1)) := ⟨_, rfl⟩
    show X none (d + 2) mX8_bad 10 [.ref 94] [] (w1 σ 99 0 ((σ.1 99 0) + 1)) _
    rw [← eτ2]
    replace h := h τ2 eτ2
    refine x_ldc (pc' := 12) dX8_bad_10 rfl lcX8_42 ?_
    refine x_iret dX8_bad_12 rfl rfl ?_
    show X none (d + 3) mX8_half 15 [.ref 94, .int x1, .int x2, .int x3, .int x4] [.int (-2000000002)] τ2 _
    exact x_iret dX8_half_15 rfl rfl h
set_option maxRecDepth 100000 in
set_option maxHeartbeats 4000000 in
theorem vX8_below_0 {d : Nat} {σ : Mem} {Q : Option Value → Mem → Prop} {x1 x2 : Int32} 
    (h : ((¬ (onA x1) → ((∀ τ1 : Mem, τ1 = (w1 σ 99 0 ((σ.1 99 0) + 1)) → Q (some (.int (-2000000002))) τ1))) ∧ ((onA x1) → ((¬ (onA x2) → ((∀ τ2 : Mem, τ2 = (w1 σ 99 0 ((σ.1 99 0) + 1)) → Q (some (.int (-2000000002))) τ2))) ∧ ((onA x2) → (X none (d + 2) mX8_manyIn 0 [.ref 94, .int (-500), .int x1, .int (-500), .int x2, Unk, Unk] [] σ (fun r τ3 => ∃ u4 : Int32, r = some (.int u4) ∧ Q (some (.int u4)) τ3))))))) :
    X none (d + 3) mX8_below 0 [.ref 94, .int x1, .int x2] [] σ Q := by
  refine x_iload_n (pc' := 1) dX8_below_0 rfl rfl rfl ?_
  refine x_callS (pc' := 4) (As := [.int x1]) dX8_below_1 rfl lmX8_53 rfl rfl (Nat.le_of_ble_eq_true rfl) (Nat.le_of_ble_eq_true rfl) ?_
  show X none (d + 2) mX8_isPlace 0 [.int x1] [] σ _
  refine sp_isPlace ?_
  show X none (d + 3) mX8_below 4 [.ref 94, .int x1, .int x2] [.int (if (onA x1) then 1 else 0)] σ _
  refine x_if_eq (pc' := 7) (tgt := 29) dX8_below_4 (by decide) rfl (fun hc => ?_) (fun hc => ?_)
  · replace h := h.1 (b01_ne hc)
    refine x_aload_n (pc' := 30) dX8_below_29 rfl rfl rfl ?_
    refine x_callV (pc' := 33) (As := []) dX8_below_30 rfl lmX8_81 kd_94 rfl rfl (Nat.le_of_ble_eq_true rfl) (Nat.le_of_ble_eq_true rfl) ?_
    show X none (d + 2) mX8_bad 0 [.ref 94] [] σ _
    refine x_aload_n (pc' := 1) dX8_bad_0 rfl rfl rfl ?_
    refine x_getr (pc' := 4) dX8_bad_1 rfl lfX8_30 kd_94 rfl rf_94_9 ?_
    refine x_iconst (pc' := 5) (v := 0) dX8_bad_4 rfl (by decide) ?_
    refine x_dup2 (pc' := 6) dX8_bad_5 rfl rfl rfl ?_
    refine x_iald (pc' := 7) dX8_bad_6 rfl kd_99 (by rw [ln_99]; unfold vp_in; decide) ?_
    show X none (d + 2) mX8_bad 7 [.ref 94] [.int (σ.1 99 0), .int 0, .ref 99] σ _
    refine x_iconst (pc' := 8) (v := 1) dX8_bad_7 rfl (by decide) ?_
    refine x_iadd (pc' := 9) dX8_bad_8 rfl ?_
    refine x_iast (pc' := 10) dX8_bad_9 rfl kd_99 (by rw [ln_99]; unfold vp_in; decide) ?_
    obtain ⟨τ1, eτ1⟩ : ∃ τ : Mem, τ = (w1 σ 99 0 ((σ.1 99 0) + 1)) := ⟨_, rfl⟩
    show X none (d + 2) mX8_bad 10 [.ref 94] [] (w1 σ 99 0 ((σ.1 99 0) + 1)) _
    rw [← eτ1]
    replace h := h τ1 eτ1
    refine x_ldc (pc' := 12) dX8_bad_10 rfl lcX8_42 ?_
    refine x_iret dX8_bad_12 rfl rfl ?_
    show X none (d + 3) mX8_below 33 [.ref 94, .int x1, .int x2] [.int (-2000000002)] τ1 _
    exact x_iret dX8_below_33 rfl rfl h
  · replace h := h.2 (b01_eq hc)
    refine x_iload_n (pc' := 8) dX8_below_7 rfl rfl rfl ?_
    refine x_callS (pc' := 11) (As := [.int x2]) dX8_below_8 rfl lmX8_53 rfl rfl (Nat.le_of_ble_eq_true rfl) (Nat.le_of_ble_eq_true rfl) ?_
    show X none (d + 2) mX8_isPlace 0 [.int x2] [] σ _
    refine sp_isPlace ?_
    show X none (d + 3) mX8_below 11 [.ref 94, .int x1, .int x2] [.int (if (onA x2) then 1 else 0)] σ _
    refine x_if_eq (pc' := 14) (tgt := 29) dX8_below_11 (by decide) rfl (fun hc => ?_) (fun hc => ?_)
    · replace h := h.1 (b01_ne hc)
      refine x_aload_n (pc' := 30) dX8_below_29 rfl rfl rfl ?_
      refine x_callV (pc' := 33) (As := []) dX8_below_30 rfl lmX8_81 kd_94 rfl rfl (Nat.le_of_ble_eq_true rfl) (Nat.le_of_ble_eq_true rfl) ?_
      show X none (d + 2) mX8_bad 0 [.ref 94] [] σ _
      refine x_aload_n (pc' := 1) dX8_bad_0 rfl rfl rfl ?_
      refine x_getr (pc' := 4) dX8_bad_1 rfl lfX8_30 kd_94 rfl rf_94_9 ?_
      refine x_iconst (pc' := 5) (v := 0) dX8_bad_4 rfl (by decide) ?_
      refine x_dup2 (pc' := 6) dX8_bad_5 rfl rfl rfl ?_
      refine x_iald (pc' := 7) dX8_bad_6 rfl kd_99 (by rw [ln_99]; unfold vp_in; decide) ?_
      show X none (d + 2) mX8_bad 7 [.ref 94] [.int (σ.1 99 0), .int 0, .ref 99] σ _
      refine x_iconst (pc' := 8) (v := 1) dX8_bad_7 rfl (by decide) ?_
      refine x_iadd (pc' := 9) dX8_bad_8 rfl ?_
      refine x_iast (pc' := 10) dX8_bad_9 rfl kd_99 (by rw [ln_99]; unfold vp_in; decide) ?_
      obtain ⟨τ2, eτ2⟩ : ∃ τ : Mem, τ = (w1 σ 99 0 ((σ.1 99 0) + 1)) := ⟨_, rfl⟩
      show X none (d + 2) mX8_bad 10 [.ref 94] [] (w1 σ 99 0 ((σ.1 99 0) + 1)) _
      rw [← eτ2]
      replace h := h τ2 eτ2
      refine x_ldc (pc' := 12) dX8_bad_10 rfl lcX8_42 ?_
      refine x_iret dX8_bad_12 rfl rfl ?_
      show X none (d + 3) mX8_below 33 [.ref 94, .int x1, .int x2] [.int (-2000000002)] τ2 _
      exact x_iret dX8_below_33 rfl rfl h
    · replace h := h.2 (b01_eq hc)
      refine x_aload_n (pc' := 15) dX8_below_14 rfl rfl rfl ?_
      refine x_sipush (pc' := 18) (v := (-500)) dX8_below_15 rfl (by decide) ?_
      refine x_iload_n (pc' := 19) dX8_below_18 rfl rfl rfl ?_
      refine x_sipush (pc' := 22) (v := (-500)) dX8_below_19 rfl (by decide) ?_
      refine x_iload_n (pc' := 23) dX8_below_22 rfl rfl rfl ?_
      refine x_callV (pc' := 26) (As := [.int (-500), .int x1, .int (-500), .int x2]) dX8_below_23 rfl lmX8_159 kd_94 rfl rfl (Nat.le_of_ble_eq_true rfl) (Nat.le_of_ble_eq_true rfl) ?_
      show X none (d + 2) mX8_manyIn 0 [.ref 94, .int (-500), .int x1, .int (-500), .int x2, Unk, Unk] [] σ _
      refine X.mono h ?_
      rintro r τ3 ⟨u4, rfl, h⟩
      show X none (d + 3) mX8_below 26 [.ref 94, .int x1, .int x2] [.int u4] τ3 _
      refine x_goto (pc' := 33) dX8_below_26 (by decide) ?_
      exact x_iret dX8_below_33 rfl rfl h
set_option maxRecDepth 100000 in
set_option maxHeartbeats 4000000 in
theorem vX8_ring_0 {d : Nat} {σ : Mem} {Q : Option Value → Mem → Prop} {x1 x2 x3 : Int32} 
    (h : ((¬ (onA x1) → ((∀ τ1 : Mem, τ1 = (w1 σ 99 0 ((σ.1 99 0) + 1)) → Q (some (.int (-2000000002))) τ1))) ∧ ((onA x1) → ((¬ (onA x2) → ((∀ τ2 : Mem, τ2 = (w1 σ 99 0 ((σ.1 99 0) + 1)) → Q (some (.int (-2000000002))) τ2))) ∧ ((onA x2) → (((1 ≤ x3 ∧ x3 ≤ 60) → ((x3 ≤ ((σ.1 95 0) - (σ.1 95 1)) → X none (d + 3) mX8_ring 45 [.ref 94, .int x1, .int x2, .int x3, .int 0] [] σ Q) ∧ (¬ x3 ≤ ((σ.1 95 0) - (σ.1 95 1)) → Q (some (.int (-2000000001))) σ))) ∧ (¬ (1 ≤ x3 ∧ x3 ≤ 60) → ((∀ τ3 : Mem, τ3 = (w1 σ 99 0 ((σ.1 99 0) + 1)) → Q (some (.int (-2000000002))) τ3))))))))) :
    X none (d + 3) mX8_ring 0 [.ref 94, .int x1, .int x2, .int x3, Unk] [] σ Q := by
  refine x_iload_n (pc' := 1) dX8_ring_0 rfl rfl rfl ?_
  refine x_callS (pc' := 4) (As := [.int x1]) dX8_ring_1 rfl lmX8_53 rfl rfl (Nat.le_of_ble_eq_true rfl) (Nat.le_of_ble_eq_true rfl) ?_
  show X none (d + 2) mX8_isPlace 0 [.int x1] [] σ _
  refine sp_isPlace ?_
  show X none (d + 3) mX8_ring 4 [.ref 94, .int x1, .int x2, .int x3, Unk] [.int (if (onA x1) then 1 else 0)] σ _
  refine x_if_eq (pc' := 7) (tgt := 26) dX8_ring_4 (by decide) rfl (fun hc => ?_) (fun hc => ?_)
  · replace h := h.1 (b01_ne hc)
    refine x_aload_n (pc' := 27) dX8_ring_26 rfl rfl rfl ?_
    refine x_callV (pc' := 30) (As := []) dX8_ring_27 rfl lmX8_81 kd_94 rfl rfl (Nat.le_of_ble_eq_true rfl) (Nat.le_of_ble_eq_true rfl) ?_
    show X none (d + 2) mX8_bad 0 [.ref 94] [] σ _
    refine x_aload_n (pc' := 1) dX8_bad_0 rfl rfl rfl ?_
    refine x_getr (pc' := 4) dX8_bad_1 rfl lfX8_30 kd_94 rfl rf_94_9 ?_
    refine x_iconst (pc' := 5) (v := 0) dX8_bad_4 rfl (by decide) ?_
    refine x_dup2 (pc' := 6) dX8_bad_5 rfl rfl rfl ?_
    refine x_iald (pc' := 7) dX8_bad_6 rfl kd_99 (by rw [ln_99]; unfold vp_in; decide) ?_
    show X none (d + 2) mX8_bad 7 [.ref 94] [.int (σ.1 99 0), .int 0, .ref 99] σ _
    refine x_iconst (pc' := 8) (v := 1) dX8_bad_7 rfl (by decide) ?_
    refine x_iadd (pc' := 9) dX8_bad_8 rfl ?_
    refine x_iast (pc' := 10) dX8_bad_9 rfl kd_99 (by rw [ln_99]; unfold vp_in; decide) ?_
    obtain ⟨τ1, eτ1⟩ : ∃ τ : Mem, τ = (w1 σ 99 0 ((σ.1 99 0) + 1)) := ⟨_, rfl⟩
    show X none (d + 2) mX8_bad 10 [.ref 94] [] (w1 σ 99 0 ((σ.1 99 0) + 1)) _
    rw [← eτ1]
    replace h := h τ1 eτ1
    refine x_ldc (pc' := 12) dX8_bad_10 rfl lcX8_42 ?_
    refine x_iret dX8_bad_12 rfl rfl ?_
    show X none (d + 3) mX8_ring 30 [.ref 94, .int x1, .int x2, .int x3, Unk] [.int (-2000000002)] τ1 _
    exact x_iret dX8_ring_30 rfl rfl h
  · replace h := h.2 (b01_eq hc)
    refine x_iload_n (pc' := 8) dX8_ring_7 rfl rfl rfl ?_
    refine x_callS (pc' := 11) (As := [.int x2]) dX8_ring_8 rfl lmX8_53 rfl rfl (Nat.le_of_ble_eq_true rfl) (Nat.le_of_ble_eq_true rfl) ?_
    show X none (d + 2) mX8_isPlace 0 [.int x2] [] σ _
    refine sp_isPlace ?_
    show X none (d + 3) mX8_ring 11 [.ref 94, .int x1, .int x2, .int x3, Unk] [.int (if (onA x2) then 1 else 0)] σ _
    refine x_if_eq (pc' := 14) (tgt := 26) dX8_ring_11 (by decide) rfl (fun hc => ?_) (fun hc => ?_)
    · replace h := h.1 (b01_ne hc)
      refine x_aload_n (pc' := 27) dX8_ring_26 rfl rfl rfl ?_
      refine x_callV (pc' := 30) (As := []) dX8_ring_27 rfl lmX8_81 kd_94 rfl rfl (Nat.le_of_ble_eq_true rfl) (Nat.le_of_ble_eq_true rfl) ?_
      show X none (d + 2) mX8_bad 0 [.ref 94] [] σ _
      refine x_aload_n (pc' := 1) dX8_bad_0 rfl rfl rfl ?_
      refine x_getr (pc' := 4) dX8_bad_1 rfl lfX8_30 kd_94 rfl rf_94_9 ?_
      refine x_iconst (pc' := 5) (v := 0) dX8_bad_4 rfl (by decide) ?_
      refine x_dup2 (pc' := 6) dX8_bad_5 rfl rfl rfl ?_
      refine x_iald (pc' := 7) dX8_bad_6 rfl kd_99 (by rw [ln_99]; unfold vp_in; decide) ?_
      show X none (d + 2) mX8_bad 7 [.ref 94] [.int (σ.1 99 0), .int 0, .ref 99] σ _
      refine x_iconst (pc' := 8) (v := 1) dX8_bad_7 rfl (by decide) ?_
      refine x_iadd (pc' := 9) dX8_bad_8 rfl ?_
      refine x_iast (pc' := 10) dX8_bad_9 rfl kd_99 (by rw [ln_99]; unfold vp_in; decide) ?_
      obtain ⟨τ2, eτ2⟩ : ∃ τ : Mem, τ = (w1 σ 99 0 ((σ.1 99 0) + 1)) := ⟨_, rfl⟩
      show X none (d + 2) mX8_bad 10 [.ref 94] [] (w1 σ 99 0 ((σ.1 99 0) + 1)) _
      rw [← eτ2]
      replace h := h τ2 eτ2
      refine x_ldc (pc' := 12) dX8_bad_10 rfl lcX8_42 ?_
      refine x_iret dX8_bad_12 rfl rfl ?_
      show X none (d + 3) mX8_ring 30 [.ref 94, .int x1, .int x2, .int x3, Unk] [.int (-2000000002)] τ2 _
      exact x_iret dX8_ring_30 rfl rfl h
    · replace h := h.2 (b01_eq hc)
      refine x_iload_n (pc' := 15) dX8_ring_14 rfl rfl rfl ?_
      refine x_i2l (pc' := 16) dX8_ring_15 rfl ?_
      refine x_lconst (pc' := 17) (v := 1) dX8_ring_16 rfl (by decide) ?_
      refine x_ldc2 (pc' := 20) dX8_ring_17 rfl llX8_163 ?_
      refine x_callS (pc' := 23) (As := [.long ((x3).toInt64), .long 1, .long 60]) dX8_ring_20 rfl lmX8_49 rfl rfl (Nat.le_of_ble_eq_true rfl) (Nat.le_of_ble_eq_true rfl) ?_
      show X none (d + 2) mX8_in 0 [.long ((x3).toInt64), Unk, .long 1, Unk, .long 60, Unk] [] σ _
      refine sp_in (x := x3) (lo := 1) (hi := 60) (by decide) (by decide) ?_
      show X none (d + 3) mX8_ring 23 [.ref 94, .int x1, .int x2, .int x3, Unk] [.int (if (1 ≤ x3 ∧ x3 ≤ 60) then 1 else 0)] σ _
      refine x_if_ne (pc' := 26) (tgt := 31) dX8_ring_23 (by decide) rfl (fun hc => ?_) (fun hc => ?_)
      · replace h := h.1 (b01_eq hc)
        refine x_aload_n (pc' := 32) dX8_ring_31 rfl rfl rfl ?_
        refine x_callV (pc' := 35) (As := []) dX8_ring_32 rfl lmX8_72 kd_94 rfl rfl (Nat.le_of_ble_eq_true rfl) (Nat.le_of_ble_eq_true rfl) ?_
        show X none (d + 2) mX8_points 0 [.ref 94] [] σ _
        refine x_aload_n (pc' := 1) dX8_points_0 rfl rfl rfl ?_
        refine x_getr (pc' := 4) dX8_points_1 rfl lfX8_7 kd_94 rfl rf_94_0 ?_
        refine x_iconst (pc' := 5) (v := 0) dX8_points_4 rfl (by decide) ?_
        refine x_iald (pc' := 6) dX8_points_5 rfl kd_95 (by rw [ln_95]; unfold vp_in; decide) ?_
        show X none (d + 2) mX8_points 6 [.ref 94] [.int (σ.1 95 0)] σ _
        refine x_aload_n (pc' := 7) dX8_points_6 rfl rfl rfl ?_
        refine x_getr (pc' := 10) dX8_points_7 rfl lfX8_7 kd_94 rfl rf_94_0 ?_
        refine x_iconst (pc' := 11) (v := 1) dX8_points_10 rfl (by decide) ?_
        refine x_iald (pc' := 12) dX8_points_11 rfl kd_95 (by rw [ln_95]; unfold vp_in; decide) ?_
        show X none (d + 2) mX8_points 12 [.ref 94] [.int (σ.1 95 1), .int (σ.1 95 0)] σ _
        refine x_isub (pc' := 13) dX8_points_12 rfl ?_
        refine x_iret dX8_points_13 rfl rfl ?_
        show X none (d + 3) mX8_ring 35 [.ref 94, .int x1, .int x2, .int x3, Unk] [.int ((σ.1 95 0) - (σ.1 95 1))] σ _
        refine x_iload_n (pc' := 36) dX8_ring_35 rfl rfl rfl ?_
        refine x_icmp_ge (pc' := 39) (tgt := 42) dX8_ring_36 (by decide) rfl (fun hc => ?_) (fun hc => ?_)
        · replace h := h.1 hc
          refine x_iconst (pc' := 43) (v := 0) dX8_ring_42 rfl (by decide) ?_
          refine x_istore (pc' := 45) dX8_ring_43 rfl (by decide) rfl (ls' := [.ref 94, .int x1, .int x2, .int x3, .int 0]) rfl ?_
          exact h
        · replace h := h.2 hc
          refine x_ldc (pc' := 41) dX8_ring_39 rfl lcX8_152 ?_
          exact x_iret dX8_ring_41 rfl rfl h
      · replace h := h.2 (b01_ne hc)
        refine x_aload_n (pc' := 27) dX8_ring_26 rfl rfl rfl ?_
        refine x_callV (pc' := 30) (As := []) dX8_ring_27 rfl lmX8_81 kd_94 rfl rfl (Nat.le_of_ble_eq_true rfl) (Nat.le_of_ble_eq_true rfl) ?_
        show X none (d + 2) mX8_bad 0 [.ref 94] [] σ _
        refine x_aload_n (pc' := 1) dX8_bad_0 rfl rfl rfl ?_
        refine x_getr (pc' := 4) dX8_bad_1 rfl lfX8_30 kd_94 rfl rf_94_9 ?_
        refine x_iconst (pc' := 5) (v := 0) dX8_bad_4 rfl (by decide) ?_
        refine x_dup2 (pc' := 6) dX8_bad_5 rfl rfl rfl ?_
        refine x_iald (pc' := 7) dX8_bad_6 rfl kd_99 (by rw [ln_99]; unfold vp_in; decide) ?_
        show X none (d + 2) mX8_bad 7 [.ref 94] [.int (σ.1 99 0), .int 0, .ref 99] σ _
        refine x_iconst (pc' := 8) (v := 1) dX8_bad_7 rfl (by decide) ?_
        refine x_iadd (pc' := 9) dX8_bad_8 rfl ?_
        refine x_iast (pc' := 10) dX8_bad_9 rfl kd_99 (by rw [ln_99]; unfold vp_in; decide) ?_
        obtain ⟨τ3, eτ3⟩ : ∃ τ : Mem, τ = (w1 σ 99 0 ((σ.1 99 0) + 1)) := ⟨_, rfl⟩
        show X none (d + 2) mX8_bad 10 [.ref 94] [] (w1 σ 99 0 ((σ.1 99 0) + 1)) _
        rw [← eτ3]
        replace h := h τ3 eτ3
        refine x_ldc (pc' := 12) dX8_bad_10 rfl lcX8_42 ?_
        refine x_iret dX8_bad_12 rfl rfl ?_
        show X none (d + 3) mX8_ring 30 [.ref 94, .int x1, .int x2, .int x3, Unk] [.int (-2000000002)] τ3 _
        exact x_iret dX8_ring_30 rfl rfl h
set_option maxRecDepth 100000 in
set_option maxHeartbeats 4000000 in
theorem vX8_ring_45 {d : Nat} {σ : Mem} {Q : Option Value → Mem → Prop} {x1 x2 x3 x4 : Int32} 
    (h : (X none (d + 2) mX8_manyIn 0 [.ref 94, .int (x1 - x4), .int (x1 + x4), .int (x2 - x4), .int (x2 + x4), Unk, Unk] [] σ (fun r τ1 => ∃ u2 : Int32, r = some (.int u2) ∧ ((x3 ≤ u2 → Q (some (.int x4)) τ1) ∧ (¬ x3 ≤ u2 → X none (d + 3) mX8_ring 45 [.ref 94, .int x1, .int x2, .int x3, .int (x4 + 1)] [] τ1 Q))))) :
    X none (d + 3) mX8_ring 45 [.ref 94, .int x1, .int x2, .int x3, .int x4] [] σ Q := by
  refine x_aload_n (pc' := 46) dX8_ring_45 rfl rfl rfl ?_
  refine x_iload_n (pc' := 47) dX8_ring_46 rfl rfl rfl ?_
  refine x_iload (pc' := 49) dX8_ring_47 rfl rfl ?_
  refine x_isub (pc' := 50) dX8_ring_49 rfl ?_
  refine x_iload_n (pc' := 51) dX8_ring_50 rfl rfl rfl ?_
  refine x_iload (pc' := 53) dX8_ring_51 rfl rfl ?_
  refine x_iadd (pc' := 54) dX8_ring_53 rfl ?_
  refine x_iload_n (pc' := 55) dX8_ring_54 rfl rfl rfl ?_
  refine x_iload (pc' := 57) dX8_ring_55 rfl rfl ?_
  refine x_isub (pc' := 58) dX8_ring_57 rfl ?_
  refine x_iload_n (pc' := 59) dX8_ring_58 rfl rfl rfl ?_
  refine x_iload (pc' := 61) dX8_ring_59 rfl rfl ?_
  refine x_iadd (pc' := 62) dX8_ring_61 rfl ?_
  refine x_callV (pc' := 65) (As := [.int (x1 - x4), .int (x1 + x4), .int (x2 - x4), .int (x2 + x4)]) dX8_ring_62 rfl lmX8_159 kd_94 rfl rfl (Nat.le_of_ble_eq_true rfl) (Nat.le_of_ble_eq_true rfl) ?_
  show X none (d + 2) mX8_manyIn 0 [.ref 94, .int (x1 - x4), .int (x1 + x4), .int (x2 - x4), .int (x2 + x4), Unk, Unk] [] σ _
  refine X.mono h ?_
  rintro r τ1 ⟨u2, rfl, h⟩
  show X none (d + 3) mX8_ring 65 [.ref 94, .int x1, .int x2, .int x3, .int x4] [.int u2] τ1 _
  refine x_iload_n (pc' := 66) dX8_ring_65 rfl rfl rfl ?_
  refine x_icmp_ge (pc' := 69) (tgt := 75) dX8_ring_66 (by decide) rfl (fun hc => ?_) (fun hc => ?_)
  · replace h := h.1 hc
    refine x_iload (pc' := 77) dX8_ring_75 rfl rfl ?_
    exact x_iret dX8_ring_77 rfl rfl h
  · replace h := h.2 hc
    refine x_iinc (pc' := 72) (v := 1) dX8_ring_69 rfl (by decide) rfl rfl (by decide) (ls' := [.ref 94, .int x1, .int x2, .int x3, .int (x4 + 1)]) rfl ?_
    refine x_goto (pc' := 45) dX8_ring_72 (by decide) ?_
    exact h
set_option maxRecDepth 100000 in
set_option maxHeartbeats 4000000 in
theorem vX8_apart_0 {d : Nat} {σ : Mem} {Q : Option Value → Mem → Prop} {x1 x2 x3 : Int32} 
    (h : (vp_in (128 + x1) 7458 ∧ ((0 ≤ ((σ.1 95 (128 + x1).toNatClampNeg) - x2) → (vp_in (250 + x1) 7458 ∧ ((0 ≤ ((σ.1 95 (250 + x1).toNatClampNeg) - x3) → ((((σ.1 95 (128 + x1).toNatClampNeg) - x2) ≤ ((σ.1 95 (250 + x1).toNatClampNeg) - x3) → Q (some (.int ((σ.1 95 (250 + x1).toNatClampNeg) - x3))) σ) ∧ (¬ ((σ.1 95 (128 + x1).toNatClampNeg) - x2) ≤ ((σ.1 95 (250 + x1).toNatClampNeg) - x3) → Q (some (.int ((σ.1 95 (128 + x1).toNatClampNeg) - x2))) σ))) ∧ (¬ 0 ≤ ((σ.1 95 (250 + x1).toNatClampNeg) - x3) → ((((σ.1 95 (128 + x1).toNatClampNeg) - x2) ≤ (-((σ.1 95 (250 + x1).toNatClampNeg) - x3)) → Q (some (.int (-((σ.1 95 (250 + x1).toNatClampNeg) - x3)))) σ) ∧ (¬ ((σ.1 95 (128 + x1).toNatClampNeg) - x2) ≤ (-((σ.1 95 (250 + x1).toNatClampNeg) - x3)) → Q (some (.int ((σ.1 95 (128 + x1).toNatClampNeg) - x2))) σ)))))) ∧ (¬ 0 ≤ ((σ.1 95 (128 + x1).toNatClampNeg) - x2) → (vp_in (250 + x1) 7458 ∧ ((0 ≤ ((σ.1 95 (250 + x1).toNatClampNeg) - x3) → (((-((σ.1 95 (128 + x1).toNatClampNeg) - x2)) ≤ ((σ.1 95 (250 + x1).toNatClampNeg) - x3) → Q (some (.int ((σ.1 95 (250 + x1).toNatClampNeg) - x3))) σ) ∧ (¬ (-((σ.1 95 (128 + x1).toNatClampNeg) - x2)) ≤ ((σ.1 95 (250 + x1).toNatClampNeg) - x3) → Q (some (.int (-((σ.1 95 (128 + x1).toNatClampNeg) - x2)))) σ))) ∧ (¬ 0 ≤ ((σ.1 95 (250 + x1).toNatClampNeg) - x3) → (((-((σ.1 95 (128 + x1).toNatClampNeg) - x2)) ≤ (-((σ.1 95 (250 + x1).toNatClampNeg) - x3)) → Q (some (.int (-((σ.1 95 (250 + x1).toNatClampNeg) - x3)))) σ) ∧ (¬ (-((σ.1 95 (128 + x1).toNatClampNeg) - x2)) ≤ (-((σ.1 95 (250 + x1).toNatClampNeg) - x3)) → Q (some (.int (-((σ.1 95 (128 + x1).toNatClampNeg) - x2)))) σ))))))))) :
    X none (d + 1) mX8_apart 0 [.ref 94, .int x1, .int x2, .int x3, Unk, Unk] [] σ Q := by
  refine x_aload_n (pc' := 1) dX8_apart_0 rfl rfl rfl ?_
  refine x_getr (pc' := 4) dX8_apart_1 rfl lfX8_7 kd_94 rfl rf_94_0 ?_
  refine x_sipush (pc' := 7) (v := 128) dX8_apart_4 rfl (by decide) ?_
  refine x_iload_n (pc' := 8) dX8_apart_7 rfl rfl rfl ?_
  refine x_iadd (pc' := 9) dX8_apart_8 rfl ?_
  obtain ⟨hb, h⟩ := h
  refine x_iald (pc' := 10) dX8_apart_9 rfl kd_95 (by rw [ln_95]; exact hb) ?_
  refine x_iload_n (pc' := 11) dX8_apart_10 rfl rfl rfl ?_
  refine x_isub (pc' := 12) dX8_apart_11 rfl ?_
  refine x_callS (pc' := 15) (As := [.int ((σ.1 95 (128 + x1).toNatClampNeg) - x2)]) dX8_apart_12 rfl lmX8_165 rfl rfl (Nat.le_of_ble_eq_true rfl) (Nat.le_of_ble_eq_true rfl) ?_
  show X none d mX8_abs 0 [.int ((σ.1 95 (128 + x1).toNatClampNeg) - x2)] [] σ _
  refine x_iload_n (pc' := 1) dX8_abs_0 rfl rfl rfl ?_
  refine x_if_ge (pc' := 4) (tgt := 9) dX8_abs_1 (by decide) rfl (fun hc => ?_) (fun hc => ?_)
  · replace h := h.1 hc
    refine x_iload_n (pc' := 10) dX8_abs_9 rfl rfl rfl ?_
    refine x_iret dX8_abs_10 rfl rfl ?_
    show X none (d + 1) mX8_apart 15 [.ref 94, .int x1, .int x2, .int x3, Unk, Unk] [.int ((σ.1 95 (128 + x1).toNatClampNeg) - x2)] σ _
    refine x_istore (pc' := 17) dX8_apart_15 rfl (by decide) rfl (ls' := [.ref 94, .int x1, .int x2, .int x3, .int ((σ.1 95 (128 + x1).toNatClampNeg) - x2), Unk]) rfl ?_
    refine x_aload_n (pc' := 18) dX8_apart_17 rfl rfl rfl ?_
    refine x_getr (pc' := 21) dX8_apart_18 rfl lfX8_7 kd_94 rfl rf_94_0 ?_
    refine x_sipush (pc' := 24) (v := 250) dX8_apart_21 rfl (by decide) ?_
    refine x_iload_n (pc' := 25) dX8_apart_24 rfl rfl rfl ?_
    refine x_iadd (pc' := 26) dX8_apart_25 rfl ?_
    obtain ⟨hb, h⟩ := h
    refine x_iald (pc' := 27) dX8_apart_26 rfl kd_95 (by rw [ln_95]; exact hb) ?_
    refine x_iload_n (pc' := 28) dX8_apart_27 rfl rfl rfl ?_
    refine x_isub (pc' := 29) dX8_apart_28 rfl ?_
    refine x_callS (pc' := 32) (As := [.int ((σ.1 95 (250 + x1).toNatClampNeg) - x3)]) dX8_apart_29 rfl lmX8_165 rfl rfl (Nat.le_of_ble_eq_true rfl) (Nat.le_of_ble_eq_true rfl) ?_
    show X none d mX8_abs 0 [.int ((σ.1 95 (250 + x1).toNatClampNeg) - x3)] [] σ _
    refine x_iload_n (pc' := 1) dX8_abs_0 rfl rfl rfl ?_
    refine x_if_ge (pc' := 4) (tgt := 9) dX8_abs_1 (by decide) rfl (fun hc => ?_) (fun hc => ?_)
    · replace h := h.1 hc
      refine x_iload_n (pc' := 10) dX8_abs_9 rfl rfl rfl ?_
      refine x_iret dX8_abs_10 rfl rfl ?_
      show X none (d + 1) mX8_apart 32 [.ref 94, .int x1, .int x2, .int x3, .int ((σ.1 95 (128 + x1).toNatClampNeg) - x2), Unk] [.int ((σ.1 95 (250 + x1).toNatClampNeg) - x3)] σ _
      refine x_istore (pc' := 34) dX8_apart_32 rfl (by decide) rfl (ls' := [.ref 94, .int x1, .int x2, .int x3, .int ((σ.1 95 (128 + x1).toNatClampNeg) - x2), .int ((σ.1 95 (250 + x1).toNatClampNeg) - x3)]) rfl ?_
      refine x_iload (pc' := 36) dX8_apart_34 rfl rfl ?_
      refine x_iload (pc' := 38) dX8_apart_36 rfl rfl ?_
      refine x_icmp_le (pc' := 41) (tgt := 46) dX8_apart_38 (by decide) rfl (fun hc => ?_) (fun hc => ?_)
      · replace h := h.1 hc
        refine x_iload (pc' := 48) dX8_apart_46 rfl rfl ?_
        exact x_iret dX8_apart_48 rfl rfl h
      · replace h := h.2 hc
        refine x_iload (pc' := 43) dX8_apart_41 rfl rfl ?_
        refine x_goto (pc' := 48) dX8_apart_43 (by decide) ?_
        exact x_iret dX8_apart_48 rfl rfl h
    · replace h := h.2 hc
      refine x_iload_n (pc' := 5) dX8_abs_4 rfl rfl rfl ?_
      refine x_ineg (pc' := 6) dX8_abs_5 rfl ?_
      refine x_goto (pc' := 10) dX8_abs_6 (by decide) ?_
      refine x_iret dX8_abs_10 rfl rfl ?_
      show X none (d + 1) mX8_apart 32 [.ref 94, .int x1, .int x2, .int x3, .int ((σ.1 95 (128 + x1).toNatClampNeg) - x2), Unk] [.int (-((σ.1 95 (250 + x1).toNatClampNeg) - x3))] σ _
      refine x_istore (pc' := 34) dX8_apart_32 rfl (by decide) rfl (ls' := [.ref 94, .int x1, .int x2, .int x3, .int ((σ.1 95 (128 + x1).toNatClampNeg) - x2), .int (-((σ.1 95 (250 + x1).toNatClampNeg) - x3))]) rfl ?_
      refine x_iload (pc' := 36) dX8_apart_34 rfl rfl ?_
      refine x_iload (pc' := 38) dX8_apart_36 rfl rfl ?_
      refine x_icmp_le (pc' := 41) (tgt := 46) dX8_apart_38 (by decide) rfl (fun hc => ?_) (fun hc => ?_)
      · replace h := h.1 hc
        refine x_iload (pc' := 48) dX8_apart_46 rfl rfl ?_
        exact x_iret dX8_apart_48 rfl rfl h
      · replace h := h.2 hc
        refine x_iload (pc' := 43) dX8_apart_41 rfl rfl ?_
        refine x_goto (pc' := 48) dX8_apart_43 (by decide) ?_
        exact x_iret dX8_apart_48 rfl rfl h
  · replace h := h.2 hc
    refine x_iload_n (pc' := 5) dX8_abs_4 rfl rfl rfl ?_
    refine x_ineg (pc' := 6) dX8_abs_5 rfl ?_
    refine x_goto (pc' := 10) dX8_abs_6 (by decide) ?_
    refine x_iret dX8_abs_10 rfl rfl ?_
    show X none (d + 1) mX8_apart 15 [.ref 94, .int x1, .int x2, .int x3, Unk, Unk] [.int (-((σ.1 95 (128 + x1).toNatClampNeg) - x2))] σ _
    refine x_istore (pc' := 17) dX8_apart_15 rfl (by decide) rfl (ls' := [.ref 94, .int x1, .int x2, .int x3, .int (-((σ.1 95 (128 + x1).toNatClampNeg) - x2)), Unk]) rfl ?_
    refine x_aload_n (pc' := 18) dX8_apart_17 rfl rfl rfl ?_
    refine x_getr (pc' := 21) dX8_apart_18 rfl lfX8_7 kd_94 rfl rf_94_0 ?_
    refine x_sipush (pc' := 24) (v := 250) dX8_apart_21 rfl (by decide) ?_
    refine x_iload_n (pc' := 25) dX8_apart_24 rfl rfl rfl ?_
    refine x_iadd (pc' := 26) dX8_apart_25 rfl ?_
    obtain ⟨hb, h⟩ := h
    refine x_iald (pc' := 27) dX8_apart_26 rfl kd_95 (by rw [ln_95]; exact hb) ?_
    refine x_iload_n (pc' := 28) dX8_apart_27 rfl rfl rfl ?_
    refine x_isub (pc' := 29) dX8_apart_28 rfl ?_
    refine x_callS (pc' := 32) (As := [.int ((σ.1 95 (250 + x1).toNatClampNeg) - x3)]) dX8_apart_29 rfl lmX8_165 rfl rfl (Nat.le_of_ble_eq_true rfl) (Nat.le_of_ble_eq_true rfl) ?_
    show X none d mX8_abs 0 [.int ((σ.1 95 (250 + x1).toNatClampNeg) - x3)] [] σ _
    refine x_iload_n (pc' := 1) dX8_abs_0 rfl rfl rfl ?_
    refine x_if_ge (pc' := 4) (tgt := 9) dX8_abs_1 (by decide) rfl (fun hc => ?_) (fun hc => ?_)
    · replace h := h.1 hc
      refine x_iload_n (pc' := 10) dX8_abs_9 rfl rfl rfl ?_
      refine x_iret dX8_abs_10 rfl rfl ?_
      show X none (d + 1) mX8_apart 32 [.ref 94, .int x1, .int x2, .int x3, .int (-((σ.1 95 (128 + x1).toNatClampNeg) - x2)), Unk] [.int ((σ.1 95 (250 + x1).toNatClampNeg) - x3)] σ _
      refine x_istore (pc' := 34) dX8_apart_32 rfl (by decide) rfl (ls' := [.ref 94, .int x1, .int x2, .int x3, .int (-((σ.1 95 (128 + x1).toNatClampNeg) - x2)), .int ((σ.1 95 (250 + x1).toNatClampNeg) - x3)]) rfl ?_
      refine x_iload (pc' := 36) dX8_apart_34 rfl rfl ?_
      refine x_iload (pc' := 38) dX8_apart_36 rfl rfl ?_
      refine x_icmp_le (pc' := 41) (tgt := 46) dX8_apart_38 (by decide) rfl (fun hc => ?_) (fun hc => ?_)
      · replace h := h.1 hc
        refine x_iload (pc' := 48) dX8_apart_46 rfl rfl ?_
        exact x_iret dX8_apart_48 rfl rfl h
      · replace h := h.2 hc
        refine x_iload (pc' := 43) dX8_apart_41 rfl rfl ?_
        refine x_goto (pc' := 48) dX8_apart_43 (by decide) ?_
        exact x_iret dX8_apart_48 rfl rfl h
    · replace h := h.2 hc
      refine x_iload_n (pc' := 5) dX8_abs_4 rfl rfl rfl ?_
      refine x_ineg (pc' := 6) dX8_abs_5 rfl ?_
      refine x_goto (pc' := 10) dX8_abs_6 (by decide) ?_
      refine x_iret dX8_abs_10 rfl rfl ?_
      show X none (d + 1) mX8_apart 32 [.ref 94, .int x1, .int x2, .int x3, .int (-((σ.1 95 (128 + x1).toNatClampNeg) - x2)), Unk] [.int (-((σ.1 95 (250 + x1).toNatClampNeg) - x3))] σ _
      refine x_istore (pc' := 34) dX8_apart_32 rfl (by decide) rfl (ls' := [.ref 94, .int x1, .int x2, .int x3, .int (-((σ.1 95 (128 + x1).toNatClampNeg) - x2)), .int (-((σ.1 95 (250 + x1).toNatClampNeg) - x3))]) rfl ?_
      refine x_iload (pc' := 36) dX8_apart_34 rfl rfl ?_
      refine x_iload (pc' := 38) dX8_apart_36 rfl rfl ?_
      refine x_icmp_le (pc' := 41) (tgt := 46) dX8_apart_38 (by decide) rfl (fun hc => ?_) (fun hc => ?_)
      · replace h := h.1 hc
        refine x_iload (pc' := 48) dX8_apart_46 rfl rfl ?_
        exact x_iret dX8_apart_48 rfl rfl h
      · replace h := h.2 hc
        refine x_iload (pc' := 43) dX8_apart_41 rfl rfl ?_
        refine x_goto (pc' := 48) dX8_apart_43 (by decide) ?_
        exact x_iret dX8_apart_48 rfl rfl h
set_option maxRecDepth 100000 in
set_option maxHeartbeats 4000000 in
theorem vX8_near_0 {d : Nat} {σ : Mem} {Q : Option Value → Mem → Prop} {x1 x2 : Int32} 
    (h : ((¬ (onA x1) → ((∀ τ1 : Mem, τ1 = (w1 σ 99 0 ((σ.1 99 0) + 1)) → Q (some (.int (-2000000002))) τ1))) ∧ ((onA x1) → (((onA x2) → X none (d + 2) mX8_near 30 [.ref 94, .int x1, .int x2, .int (-2000000001), .int 2000, .int 0, Unk] [] σ Q) ∧ (¬ (onA x2) → ((∀ τ2 : Mem, τ2 = (w1 σ 99 0 ((σ.1 99 0) + 1)) → Q (some (.int (-2000000002))) τ2))))))) :
    X none (d + 2) mX8_near 0 [.ref 94, .int x1, .int x2, Unk, Unk, Unk, Unk] [] σ Q := by
  refine x_iload_n (pc' := 1) dX8_near_0 rfl rfl rfl ?_
  refine x_callS (pc' := 4) (As := [.int x1]) dX8_near_1 rfl lmX8_53 rfl rfl (Nat.le_of_ble_eq_true rfl) (Nat.le_of_ble_eq_true rfl) ?_
  show X none (d + 1) mX8_isPlace 0 [.int x1] [] σ _
  refine sp_isPlace ?_
  show X none (d + 2) mX8_near 4 [.ref 94, .int x1, .int x2, Unk, Unk, Unk, Unk] [.int (if (onA x1) then 1 else 0)] σ _
  refine x_if_eq (pc' := 7) (tgt := 14) dX8_near_4 (by decide) rfl (fun hc => ?_) (fun hc => ?_)
  · replace h := h.1 (b01_ne hc)
    refine x_aload_n (pc' := 15) dX8_near_14 rfl rfl rfl ?_
    refine x_callV (pc' := 18) (As := []) dX8_near_15 rfl lmX8_81 kd_94 rfl rfl (Nat.le_of_ble_eq_true rfl) (Nat.le_of_ble_eq_true rfl) ?_
    show X none (d + 1) mX8_bad 0 [.ref 94] [] σ _
    refine x_aload_n (pc' := 1) dX8_bad_0 rfl rfl rfl ?_
    refine x_getr (pc' := 4) dX8_bad_1 rfl lfX8_30 kd_94 rfl rf_94_9 ?_
    refine x_iconst (pc' := 5) (v := 0) dX8_bad_4 rfl (by decide) ?_
    refine x_dup2 (pc' := 6) dX8_bad_5 rfl rfl rfl ?_
    refine x_iald (pc' := 7) dX8_bad_6 rfl kd_99 (by rw [ln_99]; unfold vp_in; decide) ?_
    show X none (d + 1) mX8_bad 7 [.ref 94] [.int (σ.1 99 0), .int 0, .ref 99] σ _
    refine x_iconst (pc' := 8) (v := 1) dX8_bad_7 rfl (by decide) ?_
    refine x_iadd (pc' := 9) dX8_bad_8 rfl ?_
    refine x_iast (pc' := 10) dX8_bad_9 rfl kd_99 (by rw [ln_99]; unfold vp_in; decide) ?_
    obtain ⟨τ1, eτ1⟩ : ∃ τ : Mem, τ = (w1 σ 99 0 ((σ.1 99 0) + 1)) := ⟨_, rfl⟩
    show X none (d + 1) mX8_bad 10 [.ref 94] [] (w1 σ 99 0 ((σ.1 99 0) + 1)) _
    rw [← eτ1]
    replace h := h τ1 eτ1
    refine x_ldc (pc' := 12) dX8_bad_10 rfl lcX8_42 ?_
    refine x_iret dX8_bad_12 rfl rfl ?_
    show X none (d + 2) mX8_near 18 [.ref 94, .int x1, .int x2, Unk, Unk, Unk, Unk] [.int (-2000000002)] τ1 _
    exact x_iret dX8_near_18 rfl rfl h
  · replace h := h.2 (b01_eq hc)
    refine x_iload_n (pc' := 8) dX8_near_7 rfl rfl rfl ?_
    refine x_callS (pc' := 11) (As := [.int x2]) dX8_near_8 rfl lmX8_53 rfl rfl (Nat.le_of_ble_eq_true rfl) (Nat.le_of_ble_eq_true rfl) ?_
    show X none (d + 1) mX8_isPlace 0 [.int x2] [] σ _
    refine sp_isPlace ?_
    show X none (d + 2) mX8_near 11 [.ref 94, .int x1, .int x2, Unk, Unk, Unk, Unk] [.int (if (onA x2) then 1 else 0)] σ _
    refine x_if_ne (pc' := 14) (tgt := 19) dX8_near_11 (by decide) rfl (fun hc => ?_) (fun hc => ?_)
    · replace h := h.1 (b01_eq hc)
      refine x_ldc (pc' := 21) dX8_near_19 rfl lcX8_152 ?_
      refine x_istore_n (pc' := 22) dX8_near_21 rfl rfl (by decide) rfl (ls' := [.ref 94, .int x1, .int x2, .int (-2000000001), Unk, Unk, Unk]) rfl ?_
      refine x_sipush (pc' := 25) (v := 2000) dX8_near_22 rfl (by decide) ?_
      refine x_istore (pc' := 27) dX8_near_25 rfl (by decide) rfl (ls' := [.ref 94, .int x1, .int x2, .int (-2000000001), .int 2000, Unk, Unk]) rfl ?_
      refine x_iconst (pc' := 28) (v := 0) dX8_near_27 rfl (by decide) ?_
      refine x_istore (pc' := 30) dX8_near_28 rfl (by decide) rfl (ls' := [.ref 94, .int x1, .int x2, .int (-2000000001), .int 2000, .int 0, Unk]) rfl ?_
      exact h
    · replace h := h.2 (b01_ne hc)
      refine x_aload_n (pc' := 15) dX8_near_14 rfl rfl rfl ?_
      refine x_callV (pc' := 18) (As := []) dX8_near_15 rfl lmX8_81 kd_94 rfl rfl (Nat.le_of_ble_eq_true rfl) (Nat.le_of_ble_eq_true rfl) ?_
      show X none (d + 1) mX8_bad 0 [.ref 94] [] σ _
      refine x_aload_n (pc' := 1) dX8_bad_0 rfl rfl rfl ?_
      refine x_getr (pc' := 4) dX8_bad_1 rfl lfX8_30 kd_94 rfl rf_94_9 ?_
      refine x_iconst (pc' := 5) (v := 0) dX8_bad_4 rfl (by decide) ?_
      refine x_dup2 (pc' := 6) dX8_bad_5 rfl rfl rfl ?_
      refine x_iald (pc' := 7) dX8_bad_6 rfl kd_99 (by rw [ln_99]; unfold vp_in; decide) ?_
      show X none (d + 1) mX8_bad 7 [.ref 94] [.int (σ.1 99 0), .int 0, .ref 99] σ _
      refine x_iconst (pc' := 8) (v := 1) dX8_bad_7 rfl (by decide) ?_
      refine x_iadd (pc' := 9) dX8_bad_8 rfl ?_
      refine x_iast (pc' := 10) dX8_bad_9 rfl kd_99 (by rw [ln_99]; unfold vp_in; decide) ?_
      obtain ⟨τ2, eτ2⟩ : ∃ τ : Mem, τ = (w1 σ 99 0 ((σ.1 99 0) + 1)) := ⟨_, rfl⟩
      show X none (d + 1) mX8_bad 10 [.ref 94] [] (w1 σ 99 0 ((σ.1 99 0) + 1)) _
      rw [← eτ2]
      replace h := h τ2 eτ2
      refine x_ldc (pc' := 12) dX8_bad_10 rfl lcX8_42 ?_
      refine x_iret dX8_bad_12 rfl rfl ?_
      show X none (d + 2) mX8_near 18 [.ref 94, .int x1, .int x2, Unk, Unk, Unk, Unk] [.int (-2000000002)] τ2 _
      exact x_iret dX8_near_18 rfl rfl h
set_option maxRecDepth 100000 in
set_option maxHeartbeats 4000000 in
theorem vX8_near_30 {d : Nat} {σ : Mem} {Q : Option Value → Mem → Prop} {x1 x2 x3 x4 x5 : Int32} 
    (h : (((σ.1 95 0) ≤ x5 → Q (some (.int x3)) σ) ∧ (¬ (σ.1 95 0) ≤ x5 → (vp_in (494 + x5) 7458 ∧ ((¬ (σ.1 95 (494 + x5).toNatClampNeg) = 0 → X none (d + 2) mX8_near 30 [.ref 94, .int x1, .int x2, .int x3, .int x4, .int (x5 + 1), Unk] [] σ Q) ∧ ((σ.1 95 (494 + x5).toNatClampNeg) = 0 → (X none (d + 1) mX8_apart 0 [.ref 94, .int x5, .int x1, .int x2, Unk, Unk] [] σ (fun r τ1 => ∃ u2 : Int32, r = some (.int u2) ∧ ((x4 ≤ u2 → X none (d + 2) mX8_near 30 [.ref 94, .int x1, .int x2, .int x3, .int x4, .int (x5 + 1), Unk] [] τ1 Q) ∧ (¬ x4 ≤ u2 → (vp_in (6 + x5) 7458 ∧ (X none (d + 1) mX8_apart 0 [.ref 94, .int x5, .int x1, .int x2, Unk, Unk] [] τ1 (fun r τ3 => ∃ u4 : Int32, r = some (.int u4) ∧ X none (d + 2) mX8_near 30 [.ref 94, .int x1, .int x2, .int (τ1.1 95 (6 + x5).toNatClampNeg), .int u4, .int (x5 + 1), Unk] [] τ3 Q))))))))))))) :
    X none (d + 2) mX8_near 30 [.ref 94, .int x1, .int x2, .int x3, .int x4, .int x5, Unk] [] σ Q := by
  refine x_iload (pc' := 32) dX8_near_30 rfl rfl ?_
  refine x_aload_n (pc' := 33) dX8_near_32 rfl rfl rfl ?_
  refine x_getr (pc' := 36) dX8_near_33 rfl lfX8_7 kd_94 rfl rf_94_0 ?_
  refine x_iconst (pc' := 37) (v := 0) dX8_near_36 rfl (by decide) ?_
  refine x_iald (pc' := 38) dX8_near_37 rfl kd_95 (by rw [ln_95]; unfold vp_in; decide) ?_
  show X none (d + 2) mX8_near 38 [.ref 94, .int x1, .int x2, .int x3, .int x4, .int x5, Unk] [.int (σ.1 95 0), .int x5] σ _
  refine x_icmp_ge (pc' := 41) (tgt := 116) dX8_near_38 (by decide) rfl (fun hc => ?_) (fun hc => ?_)
  · replace h := h.1 hc
    refine x_iload_n (pc' := 117) dX8_near_116 rfl rfl rfl ?_
    exact x_iret dX8_near_117 rfl rfl h
  · replace h := h.2 hc
    refine x_aload_n (pc' := 42) dX8_near_41 rfl rfl rfl ?_
    refine x_iload (pc' := 44) dX8_near_42 rfl rfl ?_
    refine x_callV (pc' := 47) (As := [.int x5]) dX8_near_44 rfl lmX8_57 kd_94 rfl rfl (Nat.le_of_ble_eq_true rfl) (Nat.le_of_ble_eq_true rfl) ?_
    show X none (d + 1) mX8_isThere 0 [.ref 94, .int x5] [] σ _
    refine x_aload_n (pc' := 1) dX8_isThere_0 rfl rfl rfl ?_
    refine x_getr (pc' := 4) dX8_isThere_1 rfl lfX8_7 kd_94 rfl rf_94_0 ?_
    refine x_sipush (pc' := 7) (v := 494) dX8_isThere_4 rfl (by decide) ?_
    refine x_iload_n (pc' := 8) dX8_isThere_7 rfl rfl rfl ?_
    refine x_iadd (pc' := 9) dX8_isThere_8 rfl ?_
    obtain ⟨hb, h⟩ := h
    refine x_iald (pc' := 10) dX8_isThere_9 rfl kd_95 (by rw [ln_95]; exact hb) ?_
    refine x_if_ne (pc' := 13) (tgt := 17) dX8_isThere_10 (by decide) rfl (fun hc => ?_) (fun hc => ?_)
    · replace h := h.1 hc
      refine x_iconst (pc' := 18) (v := 0) dX8_isThere_17 rfl (by decide) ?_
      refine x_iret dX8_isThere_18 rfl rfl ?_
      show X none (d + 2) mX8_near 47 [.ref 94, .int x1, .int x2, .int x3, .int x4, .int x5, Unk] [.int 0] σ _
      refine x_if_eq (pc' := 50) (tgt := 67) dX8_near_47 (by decide) rfl (fun _ => ?_) (fun hc => absurd hc (by decide))
      refine x_iconst (pc' := 68) (v := 0) dX8_near_67 rfl (by decide) ?_
      refine x_istore (pc' := 70) dX8_near_68 rfl (by decide) rfl (ls' := [.ref 94, .int x1, .int x2, .int x3, .int x4, .int x5, .int 0]) rfl ?_
      refine x_iload (pc' := 72) dX8_near_70 rfl rfl ?_
      refine x_if_eq (pc' := 75) (tgt := 88) dX8_near_72 (by decide) rfl (fun _ => ?_) (fun hc => absurd hc (by decide))
      refine x_iload_n (pc' := 89) dX8_near_88 rfl rfl rfl ?_
      refine x_istore_n (pc' := 90) dX8_near_89 rfl rfl (by decide) rfl (ls' := [.ref 94, .int x1, .int x2, .int x3, .int x4, .int x5, .int 0]) rfl ?_
      refine x_iload (pc' := 92) dX8_near_90 rfl rfl ?_
      refine x_if_eq (pc' := 95) (tgt := 106) dX8_near_92 (by decide) rfl (fun _ => ?_) (fun hc => absurd hc (by decide))
      refine x_iload (pc' := 108) dX8_near_106 rfl rfl ?_
      refine x_istore (pc' := 110) dX8_near_108 rfl (by decide) rfl (ls' := [.ref 94, .int x1, .int x2, .int x3, .int x4, .int x5, .int 0]) rfl ?_
      refine x_iinc (pc' := 113) (v := 1) dX8_near_110 rfl (by decide) rfl rfl (by decide) (ls' := [.ref 94, .int x1, .int x2, .int x3, .int x4, .int (x5 + 1), .int 0]) rfl ?_
      refine x_goto (pc' := 30) dX8_near_113 (by decide) ?_
      refine x_forget 6 (ls' := [.ref 94, .int x1, .int x2, .int x3, .int x4, .int (x5 + 1), Unk]) rfl ?_
      exact h
    · replace h := h.2 hc
      refine x_iconst (pc' := 14) (v := 1) dX8_isThere_13 rfl (by decide) ?_
      refine x_goto (pc' := 18) dX8_isThere_14 (by decide) ?_
      refine x_iret dX8_isThere_18 rfl rfl ?_
      show X none (d + 2) mX8_near 47 [.ref 94, .int x1, .int x2, .int x3, .int x4, .int x5, Unk] [.int 1] σ _
      refine x_if_eq (pc' := 50) (tgt := 67) dX8_near_47 (by decide) rfl (fun hc => absurd hc (by decide)) (fun _ => ?_)
      refine x_aload_n (pc' := 51) dX8_near_50 rfl rfl rfl ?_
      refine x_iload (pc' := 53) dX8_near_51 rfl rfl ?_
      refine x_iload_n (pc' := 54) dX8_near_53 rfl rfl rfl ?_
      refine x_iload_n (pc' := 55) dX8_near_54 rfl rfl rfl ?_
      refine x_callV (pc' := 58) (As := [.int x5, .int x1, .int x2]) dX8_near_55 rfl lmX8_168 kd_94 rfl rfl (Nat.le_of_ble_eq_true rfl) (Nat.le_of_ble_eq_true rfl) ?_
      show X none (d + 1) mX8_apart 0 [.ref 94, .int x5, .int x1, .int x2, Unk, Unk] [] σ _
      refine X.mono h ?_
      rintro r τ1 ⟨u2, rfl, h⟩
      show X none (d + 2) mX8_near 58 [.ref 94, .int x1, .int x2, .int x3, .int x4, .int x5, Unk] [.int u2] τ1 _
      refine x_iload (pc' := 60) dX8_near_58 rfl rfl ?_
      refine x_icmp_ge (pc' := 63) (tgt := 67) dX8_near_60 (by decide) rfl (fun hc => ?_) (fun hc => ?_)
      · replace h := h.1 hc
        refine x_iconst (pc' := 68) (v := 0) dX8_near_67 rfl (by decide) ?_
        refine x_istore (pc' := 70) dX8_near_68 rfl (by decide) rfl (ls' := [.ref 94, .int x1, .int x2, .int x3, .int x4, .int x5, .int 0]) rfl ?_
        refine x_iload (pc' := 72) dX8_near_70 rfl rfl ?_
        refine x_if_eq (pc' := 75) (tgt := 88) dX8_near_72 (by decide) rfl (fun _ => ?_) (fun hc => absurd hc (by decide))
        refine x_iload_n (pc' := 89) dX8_near_88 rfl rfl rfl ?_
        refine x_istore_n (pc' := 90) dX8_near_89 rfl rfl (by decide) rfl (ls' := [.ref 94, .int x1, .int x2, .int x3, .int x4, .int x5, .int 0]) rfl ?_
        refine x_iload (pc' := 92) dX8_near_90 rfl rfl ?_
        refine x_if_eq (pc' := 95) (tgt := 106) dX8_near_92 (by decide) rfl (fun _ => ?_) (fun hc => absurd hc (by decide))
        refine x_iload (pc' := 108) dX8_near_106 rfl rfl ?_
        refine x_istore (pc' := 110) dX8_near_108 rfl (by decide) rfl (ls' := [.ref 94, .int x1, .int x2, .int x3, .int x4, .int x5, .int 0]) rfl ?_
        refine x_iinc (pc' := 113) (v := 1) dX8_near_110 rfl (by decide) rfl rfl (by decide) (ls' := [.ref 94, .int x1, .int x2, .int x3, .int x4, .int (x5 + 1), .int 0]) rfl ?_
        refine x_goto (pc' := 30) dX8_near_113 (by decide) ?_
        refine x_forget 6 (ls' := [.ref 94, .int x1, .int x2, .int x3, .int x4, .int (x5 + 1), Unk]) rfl ?_
        exact h
      · replace h := h.2 hc
        refine x_iconst (pc' := 64) (v := 1) dX8_near_63 rfl (by decide) ?_
        refine x_goto (pc' := 68) dX8_near_64 (by decide) ?_
        refine x_istore (pc' := 70) dX8_near_68 rfl (by decide) rfl (ls' := [.ref 94, .int x1, .int x2, .int x3, .int x4, .int x5, .int 1]) rfl ?_
        refine x_iload (pc' := 72) dX8_near_70 rfl rfl ?_
        refine x_if_eq (pc' := 75) (tgt := 88) dX8_near_72 (by decide) rfl (fun hc => absurd hc (by decide)) (fun _ => ?_)
        refine x_aload_n (pc' := 76) dX8_near_75 rfl rfl rfl ?_
        refine x_getr (pc' := 79) dX8_near_76 rfl lfX8_7 kd_94 rfl rf_94_0 ?_
        refine x_bipush (pc' := 81) (v := 6) dX8_near_79 rfl (by decide) ?_
        refine x_iload (pc' := 83) dX8_near_81 rfl rfl ?_
        refine x_iadd (pc' := 84) dX8_near_83 rfl ?_
        obtain ⟨hb, h⟩ := h
        refine x_iald (pc' := 85) dX8_near_84 rfl kd_95 (by rw [ln_95]; exact hb) ?_
        refine x_goto (pc' := 89) dX8_near_85 (by decide) ?_
        refine x_istore_n (pc' := 90) dX8_near_89 rfl rfl (by decide) rfl (ls' := [.ref 94, .int x1, .int x2, .int (τ1.1 95 (6 + x5).toNatClampNeg), .int x4, .int x5, .int 1]) rfl ?_
        refine x_iload (pc' := 92) dX8_near_90 rfl rfl ?_
        refine x_if_eq (pc' := 95) (tgt := 106) dX8_near_92 (by decide) rfl (fun hc => absurd hc (by decide)) (fun _ => ?_)
        refine x_aload_n (pc' := 96) dX8_near_95 rfl rfl rfl ?_
        refine x_iload (pc' := 98) dX8_near_96 rfl rfl ?_
        refine x_iload_n (pc' := 99) dX8_near_98 rfl rfl rfl ?_
        refine x_iload_n (pc' := 100) dX8_near_99 rfl rfl rfl ?_
        refine x_callV (pc' := 103) (As := [.int x5, .int x1, .int x2]) dX8_near_100 rfl lmX8_168 kd_94 rfl rfl (Nat.le_of_ble_eq_true rfl) (Nat.le_of_ble_eq_true rfl) ?_
        show X none (d + 1) mX8_apart 0 [.ref 94, .int x5, .int x1, .int x2, Unk, Unk] [] τ1 _
        refine X.mono h ?_
        rintro r τ3 ⟨u4, rfl, h⟩
        show X none (d + 2) mX8_near 103 [.ref 94, .int x1, .int x2, .int (τ1.1 95 (6 + x5).toNatClampNeg), .int x4, .int x5, .int 1] [.int u4] τ3 _
        refine x_goto (pc' := 108) dX8_near_103 (by decide) ?_
        refine x_istore (pc' := 110) dX8_near_108 rfl (by decide) rfl (ls' := [.ref 94, .int x1, .int x2, .int (τ1.1 95 (6 + x5).toNatClampNeg), .int u4, .int x5, .int 1]) rfl ?_
        refine x_iinc (pc' := 113) (v := 1) dX8_near_110 rfl (by decide) rfl rfl (by decide) (ls' := [.ref 94, .int x1, .int x2, .int (τ1.1 95 (6 + x5).toNatClampNeg), .int u4, .int (x5 + 1), .int 1]) rfl ?_
        refine x_goto (pc' := 30) dX8_near_113 (by decide) ?_
        refine x_forget 6 (ls' := [.ref 94, .int x1, .int x2, .int (τ1.1 95 (6 + x5).toNatClampNeg), .int u4, .int (x5 + 1), Unk]) rfl ?_
        exact h
set_option maxRecDepth 100000 in
set_option maxHeartbeats 4000000 in
theorem vX8_strip_0 {d : Nat} {σ : Mem} {Q : Option Value → Mem → Prop} {x1 : Int32} 
    (h : (((0 ≤ x1 ∧ x1 ≤ 1) → (X none (d + 2) mX8_lines 0 [.ref 94, .int (-500), .int 500, .int (-500), .int 500, Unk] [] σ (fun r τ1 => r = none ∧ X none (d + 3) mX8_strip 38 [.ref 94, .int x1, .int 0, .int 0, .int 1, Unk] [] τ1 Q))) ∧ (¬ (0 ≤ x1 ∧ x1 ≤ 1) → ((∀ τ2 : Mem, τ2 = (w1 σ 99 0 ((σ.1 99 0) + 1)) → Q (some (.int (-2000000002))) τ2))))) :
    X none (d + 3) mX8_strip 0 [.ref 94, .int x1, Unk, Unk, Unk, Unk] [] σ Q := by
  refine x_iload_n (pc' := 1) dX8_strip_0 rfl rfl rfl ?_
  refine x_i2l (pc' := 2) dX8_strip_1 rfl ?_
  refine x_lconst (pc' := 3) (v := 0) dX8_strip_2 rfl (by decide) ?_
  refine x_lconst (pc' := 4) (v := 1) dX8_strip_3 rfl (by decide) ?_
  refine x_callS (pc' := 7) (As := [.long ((x1).toInt64), .long 0, .long 1]) dX8_strip_4 rfl lmX8_49 rfl rfl (Nat.le_of_ble_eq_true rfl) (Nat.le_of_ble_eq_true rfl) ?_
  show X none (d + 2) mX8_in 0 [.long ((x1).toInt64), Unk, .long 0, Unk, .long 1, Unk] [] σ _
  refine sp_in (x := x1) (lo := 0) (hi := 1) (by decide) (by decide) ?_
  show X none (d + 3) mX8_strip 7 [.ref 94, .int x1, Unk, Unk, Unk, Unk] [.int (if (0 ≤ x1 ∧ x1 ≤ 1) then 1 else 0)] σ _
  refine x_if_ne (pc' := 10) (tgt := 15) dX8_strip_7 (by decide) rfl (fun hc => ?_) (fun hc => ?_)
  · replace h := h.1 (b01_eq hc)
    refine x_aload_n (pc' := 16) dX8_strip_15 rfl rfl rfl ?_
    refine x_sipush (pc' := 19) (v := (-500)) dX8_strip_16 rfl (by decide) ?_
    refine x_sipush (pc' := 22) (v := 500) dX8_strip_19 rfl (by decide) ?_
    refine x_sipush (pc' := 25) (v := (-500)) dX8_strip_22 rfl (by decide) ?_
    refine x_sipush (pc' := 28) (v := 500) dX8_strip_25 rfl (by decide) ?_
    refine x_callV (pc' := 31) (As := [.int (-500), .int 500, .int (-500), .int 500]) dX8_strip_28 rfl lmX8_131 kd_94 rfl rfl (Nat.le_of_ble_eq_true rfl) (Nat.le_of_ble_eq_true rfl) ?_
    show X none (d + 2) mX8_lines 0 [.ref 94, .int (-500), .int 500, .int (-500), .int 500, Unk] [] σ _
    refine X.mono h ?_
    rintro r τ1 ⟨rfl, h⟩
    show X none (d + 3) mX8_strip 31 [.ref 94, .int x1, Unk, Unk, Unk, Unk] [] τ1 _
    refine x_iconst (pc' := 32) (v := 0) dX8_strip_31 rfl (by decide) ?_
    refine x_istore_n (pc' := 33) dX8_strip_32 rfl rfl (by decide) rfl (ls' := [.ref 94, .int x1, .int 0, Unk, Unk, Unk]) rfl ?_
    refine x_iconst (pc' := 34) (v := 0) dX8_strip_33 rfl (by decide) ?_
    refine x_istore_n (pc' := 35) dX8_strip_34 rfl rfl (by decide) rfl (ls' := [.ref 94, .int x1, .int 0, .int 0, Unk, Unk]) rfl ?_
    refine x_iconst (pc' := 36) (v := 1) dX8_strip_35 rfl (by decide) ?_
    refine x_istore (pc' := 38) dX8_strip_36 rfl (by decide) rfl (ls' := [.ref 94, .int x1, .int 0, .int 0, .int 1, Unk]) rfl ?_
    exact h
  · replace h := h.2 (b01_ne hc)
    refine x_aload_n (pc' := 11) dX8_strip_10 rfl rfl rfl ?_
    refine x_callV (pc' := 14) (As := []) dX8_strip_11 rfl lmX8_81 kd_94 rfl rfl (Nat.le_of_ble_eq_true rfl) (Nat.le_of_ble_eq_true rfl) ?_
    show X none (d + 2) mX8_bad 0 [.ref 94] [] σ _
    refine x_aload_n (pc' := 1) dX8_bad_0 rfl rfl rfl ?_
    refine x_getr (pc' := 4) dX8_bad_1 rfl lfX8_30 kd_94 rfl rf_94_9 ?_
    refine x_iconst (pc' := 5) (v := 0) dX8_bad_4 rfl (by decide) ?_
    refine x_dup2 (pc' := 6) dX8_bad_5 rfl rfl rfl ?_
    refine x_iald (pc' := 7) dX8_bad_6 rfl kd_99 (by rw [ln_99]; unfold vp_in; decide) ?_
    show X none (d + 2) mX8_bad 7 [.ref 94] [.int (σ.1 99 0), .int 0, .ref 99] σ _
    refine x_iconst (pc' := 8) (v := 1) dX8_bad_7 rfl (by decide) ?_
    refine x_iadd (pc' := 9) dX8_bad_8 rfl ?_
    refine x_iast (pc' := 10) dX8_bad_9 rfl kd_99 (by rw [ln_99]; unfold vp_in; decide) ?_
    obtain ⟨τ2, eτ2⟩ : ∃ τ : Mem, τ = (w1 σ 99 0 ((σ.1 99 0) + 1)) := ⟨_, rfl⟩
    show X none (d + 2) mX8_bad 10 [.ref 94] [] (w1 σ 99 0 ((σ.1 99 0) + 1)) _
    rw [← eτ2]
    replace h := h τ2 eτ2
    refine x_ldc (pc' := 12) dX8_bad_10 rfl lcX8_42 ?_
    refine x_iret dX8_bad_12 rfl rfl ?_
    show X none (d + 3) mX8_strip 14 [.ref 94, .int x1, Unk, Unk, Unk, Unk] [.int (-2000000002)] τ2 _
    exact x_iret dX8_strip_14 rfl rfl h
set_option maxRecDepth 100000 in
set_option maxHeartbeats 4000000 in
theorem vX8_strip_38 {d : Nat} {σ : Mem} {Q : Option Value → Mem → Prop} {x1 x2 x3 x4 : Int32} 
    (h : (((σ.1 94 12) ≤ x4 → ((¬ x2 = 0 → ((¬ x1 = 0 → Q (some (.int x3)) σ) ∧ (x1 = 0 → Q (some (.int x2)) σ))) ∧ (x2 = 0 → Q (some (.int (-2000000001))) σ))) ∧ (¬ (σ.1 94 12) ≤ x4 → (vp_in x4 60 ∧ (vp_in (128 + (σ.1 100 x4.toNatClampNeg)) 7458 ∧ (vp_in (x4 - 1) 60 ∧ (vp_in (128 + (σ.1 100 (x4 - 1).toNatClampNeg)) 7458 ∧ ((((σ.1 95 (128 + (σ.1 100 x4.toNatClampNeg)).toNatClampNeg) - (σ.1 95 (128 + (σ.1 100 (x4 - 1).toNatClampNeg)).toNatClampNeg)) ≤ x2 → ((((σ.1 95 (128 + (σ.1 100 x4.toNatClampNeg)).toNatClampNeg) - (σ.1 95 (128 + (σ.1 100 (x4 - 1).toNatClampNeg)).toNatClampNeg)) ≤ x2 → X none (d + 3) mX8_strip 38 [.ref 94, .int x1, .int x2, .int x3, .int (x4 + 1), Unk] [] σ Q) ∧ (¬ ((σ.1 95 (128 + (σ.1 100 x4.toNatClampNeg)).toNatClampNeg) - (σ.1 95 (128 + (σ.1 100 (x4 - 1).toNatClampNeg)).toNatClampNeg)) ≤ x2 → X none (d + 3) mX8_strip 38 [.ref 94, .int x1, .int ((σ.1 95 (128 + (σ.1 100 x4.toNatClampNeg)).toNatClampNeg) - (σ.1 95 (128 + (σ.1 100 (x4 - 1).toNatClampNeg)).toNatClampNeg)), .int x3, .int (x4 + 1), Unk] [] σ Q))) ∧ (¬ ((σ.1 95 (128 + (σ.1 100 x4.toNatClampNeg)).toNatClampNeg) - (σ.1 95 (128 + (σ.1 100 (x4 - 1).toNatClampNeg)).toNatClampNeg)) ≤ x2 → (vp_in (x4 - 1) 60 ∧ (vp_in (128 + (σ.1 100 (x4 - 1).toNatClampNeg)) 7458 ∧ ((((σ.1 95 (128 + (σ.1 100 x4.toNatClampNeg)).toNatClampNeg) - (σ.1 95 (128 + (σ.1 100 (x4 - 1).toNatClampNeg)).toNatClampNeg)) ≤ x2 → X none (d + 3) mX8_strip 38 [.ref 94, .int x1, .int x2, .int (σ.1 95 (128 + (σ.1 100 (x4 - 1).toNatClampNeg)).toNatClampNeg), .int (x4 + 1), Unk] [] σ Q) ∧ (¬ ((σ.1 95 (128 + (σ.1 100 x4.toNatClampNeg)).toNatClampNeg) - (σ.1 95 (128 + (σ.1 100 (x4 - 1).toNatClampNeg)).toNatClampNeg)) ≤ x2 → X none (d + 3) mX8_strip 38 [.ref 94, .int x1, .int ((σ.1 95 (128 + (σ.1 100 x4.toNatClampNeg)).toNatClampNeg) - (σ.1 95 (128 + (σ.1 100 (x4 - 1).toNatClampNeg)).toNatClampNeg)), .int (σ.1 95 (128 + (σ.1 100 (x4 - 1).toNatClampNeg)).toNatClampNeg), .int (x4 + 1), Unk] [] σ Q))))))))))))) :
    X none (d + 3) mX8_strip 38 [.ref 94, .int x1, .int x2, .int x3, .int x4, Unk] [] σ Q := by
  refine x_iload (pc' := 40) dX8_strip_38 rfl rfl ?_
  refine x_aload_n (pc' := 41) dX8_strip_40 rfl rfl rfl ?_
  refine x_geti (pc' := 44) dX8_strip_41 rfl lfX8_113 kd_94 rfl ?_
  refine x_icmp_ge (pc' := 47) (tgt := 132) dX8_strip_44 (by decide) rfl (fun hc => ?_) (fun hc => ?_)
  · replace h := h.1 hc
    refine x_iload_n (pc' := 133) dX8_strip_132 rfl rfl rfl ?_
    refine x_if_ne (pc' := 136) (tgt := 141) dX8_strip_133 (by decide) rfl (fun hc => ?_) (fun hc => ?_)
    · replace h := h.1 hc
      refine x_iload_n (pc' := 142) dX8_strip_141 rfl rfl rfl ?_
      refine x_if_ne (pc' := 145) (tgt := 149) dX8_strip_142 (by decide) rfl (fun hc => ?_) (fun hc => ?_)
      · replace h := h.1 hc
        refine x_iload_n (pc' := 150) dX8_strip_149 rfl rfl rfl ?_
        exact x_iret dX8_strip_150 rfl rfl h
      · replace h := h.2 hc
        refine x_iload_n (pc' := 146) dX8_strip_145 rfl rfl rfl ?_
        refine x_goto (pc' := 150) dX8_strip_146 (by decide) ?_
        exact x_iret dX8_strip_150 rfl rfl h
    · replace h := h.2 hc
      refine x_ldc (pc' := 138) dX8_strip_136 rfl lcX8_152 ?_
      refine x_goto (pc' := 150) dX8_strip_138 (by decide) ?_
      exact x_iret dX8_strip_150 rfl rfl h
  · replace h := h.2 hc
    refine x_aload_n (pc' := 48) dX8_strip_47 rfl rfl rfl ?_
    refine x_getr (pc' := 51) dX8_strip_48 rfl lfX8_7 kd_94 rfl rf_94_0 ?_
    refine x_sipush (pc' := 54) (v := 128) dX8_strip_51 rfl (by decide) ?_
    refine x_aload_n (pc' := 55) dX8_strip_54 rfl rfl rfl ?_
    refine x_getr (pc' := 58) dX8_strip_55 rfl lfX8_33 kd_94 rfl rf_94_11 ?_
    refine x_iload (pc' := 60) dX8_strip_58 rfl rfl ?_
    obtain ⟨hb, h⟩ := h
    refine x_iald (pc' := 61) dX8_strip_60 rfl kd_100 (by rw [ln_100]; exact hb) ?_
    refine x_iadd (pc' := 62) dX8_strip_61 rfl ?_
    obtain ⟨hb, h⟩ := h
    refine x_iald (pc' := 63) dX8_strip_62 rfl kd_95 (by rw [ln_95]; exact hb) ?_
    refine x_aload_n (pc' := 64) dX8_strip_63 rfl rfl rfl ?_
    refine x_getr (pc' := 67) dX8_strip_64 rfl lfX8_7 kd_94 rfl rf_94_0 ?_
    refine x_sipush (pc' := 70) (v := 128) dX8_strip_67 rfl (by decide) ?_
    refine x_aload_n (pc' := 71) dX8_strip_70 rfl rfl rfl ?_
    refine x_getr (pc' := 74) dX8_strip_71 rfl lfX8_33 kd_94 rfl rf_94_11 ?_
    refine x_iload (pc' := 76) dX8_strip_74 rfl rfl ?_
    refine x_iconst (pc' := 77) (v := 1) dX8_strip_76 rfl (by decide) ?_
    refine x_isub (pc' := 78) dX8_strip_77 rfl ?_
    obtain ⟨hb, h⟩ := h
    refine x_iald (pc' := 79) dX8_strip_78 rfl kd_100 (by rw [ln_100]; exact hb) ?_
    refine x_iadd (pc' := 80) dX8_strip_79 rfl ?_
    obtain ⟨hb, h⟩ := h
    refine x_iald (pc' := 81) dX8_strip_80 rfl kd_95 (by rw [ln_95]; exact hb) ?_
    refine x_isub (pc' := 82) dX8_strip_81 rfl ?_
    refine x_istore (pc' := 84) dX8_strip_82 rfl (by decide) rfl (ls' := [.ref 94, .int x1, .int x2, .int x3, .int x4, .int ((σ.1 95 (128 + (σ.1 100 x4.toNatClampNeg)).toNatClampNeg) - (σ.1 95 (128 + (σ.1 100 (x4 - 1).toNatClampNeg)).toNatClampNeg))]) rfl ?_
    refine x_iload (pc' := 86) dX8_strip_84 rfl rfl ?_
    refine x_iload_n (pc' := 87) dX8_strip_86 rfl rfl rfl ?_
    refine x_icmp_le (pc' := 90) (tgt := 111) dX8_strip_87 (by decide) rfl (fun hc => ?_) (fun hc => ?_)
    · replace h := h.1 hc
      refine x_iload_n (pc' := 112) dX8_strip_111 rfl rfl rfl ?_
      refine x_istore_n (pc' := 113) dX8_strip_112 rfl rfl (by decide) rfl (ls' := [.ref 94, .int x1, .int x2, .int x3, .int x4, .int ((σ.1 95 (128 + (σ.1 100 x4.toNatClampNeg)).toNatClampNeg) - (σ.1 95 (128 + (σ.1 100 (x4 - 1).toNatClampNeg)).toNatClampNeg))]) rfl ?_
      refine x_iload (pc' := 115) dX8_strip_113 rfl rfl ?_
      refine x_iload_n (pc' := 116) dX8_strip_115 rfl rfl rfl ?_
      refine x_icmp_le (pc' := 119) (tgt := 124) dX8_strip_116 (by decide) rfl (fun hc => ?_) (fun hc => ?_)
      · replace h := h.1 hc
        refine x_iload_n (pc' := 125) dX8_strip_124 rfl rfl rfl ?_
        refine x_istore_n (pc' := 126) dX8_strip_125 rfl rfl (by decide) rfl (ls' := [.ref 94, .int x1, .int x2, .int x3, .int x4, .int ((σ.1 95 (128 + (σ.1 100 x4.toNatClampNeg)).toNatClampNeg) - (σ.1 95 (128 + (σ.1 100 (x4 - 1).toNatClampNeg)).toNatClampNeg))]) rfl ?_
        refine x_iinc (pc' := 129) (v := 1) dX8_strip_126 rfl (by decide) rfl rfl (by decide) (ls' := [.ref 94, .int x1, .int x2, .int x3, .int (x4 + 1), .int ((σ.1 95 (128 + (σ.1 100 x4.toNatClampNeg)).toNatClampNeg) - (σ.1 95 (128 + (σ.1 100 (x4 - 1).toNatClampNeg)).toNatClampNeg))]) rfl ?_
        refine x_goto (pc' := 38) dX8_strip_129 (by decide) ?_
        refine x_forget 5 (ls' := [.ref 94, .int x1, .int x2, .int x3, .int (x4 + 1), Unk]) rfl ?_
        exact h
      · replace h := h.2 hc
        refine x_iload (pc' := 121) dX8_strip_119 rfl rfl ?_
        refine x_goto (pc' := 125) dX8_strip_121 (by decide) ?_
        refine x_istore_n (pc' := 126) dX8_strip_125 rfl rfl (by decide) rfl (ls' := [.ref 94, .int x1, .int ((σ.1 95 (128 + (σ.1 100 x4.toNatClampNeg)).toNatClampNeg) - (σ.1 95 (128 + (σ.1 100 (x4 - 1).toNatClampNeg)).toNatClampNeg)), .int x3, .int x4, .int ((σ.1 95 (128 + (σ.1 100 x4.toNatClampNeg)).toNatClampNeg) - (σ.1 95 (128 + (σ.1 100 (x4 - 1).toNatClampNeg)).toNatClampNeg))]) rfl ?_
        refine x_iinc (pc' := 129) (v := 1) dX8_strip_126 rfl (by decide) rfl rfl (by decide) (ls' := [.ref 94, .int x1, .int ((σ.1 95 (128 + (σ.1 100 x4.toNatClampNeg)).toNatClampNeg) - (σ.1 95 (128 + (σ.1 100 (x4 - 1).toNatClampNeg)).toNatClampNeg)), .int x3, .int (x4 + 1), .int ((σ.1 95 (128 + (σ.1 100 x4.toNatClampNeg)).toNatClampNeg) - (σ.1 95 (128 + (σ.1 100 (x4 - 1).toNatClampNeg)).toNatClampNeg))]) rfl ?_
        refine x_goto (pc' := 38) dX8_strip_129 (by decide) ?_
        refine x_forget 5 (ls' := [.ref 94, .int x1, .int ((σ.1 95 (128 + (σ.1 100 x4.toNatClampNeg)).toNatClampNeg) - (σ.1 95 (128 + (σ.1 100 (x4 - 1).toNatClampNeg)).toNatClampNeg)), .int x3, .int (x4 + 1), Unk]) rfl ?_
        exact h
    · replace h := h.2 hc
      refine x_aload_n (pc' := 91) dX8_strip_90 rfl rfl rfl ?_
      refine x_getr (pc' := 94) dX8_strip_91 rfl lfX8_7 kd_94 rfl rf_94_0 ?_
      refine x_sipush (pc' := 97) (v := 128) dX8_strip_94 rfl (by decide) ?_
      refine x_aload_n (pc' := 98) dX8_strip_97 rfl rfl rfl ?_
      refine x_getr (pc' := 101) dX8_strip_98 rfl lfX8_33 kd_94 rfl rf_94_11 ?_
      refine x_iload (pc' := 103) dX8_strip_101 rfl rfl ?_
      refine x_iconst (pc' := 104) (v := 1) dX8_strip_103 rfl (by decide) ?_
      refine x_isub (pc' := 105) dX8_strip_104 rfl ?_
      obtain ⟨hb, h⟩ := h
      refine x_iald (pc' := 106) dX8_strip_105 rfl kd_100 (by rw [ln_100]; exact hb) ?_
      refine x_iadd (pc' := 107) dX8_strip_106 rfl ?_
      obtain ⟨hb, h⟩ := h
      refine x_iald (pc' := 108) dX8_strip_107 rfl kd_95 (by rw [ln_95]; exact hb) ?_
      refine x_goto (pc' := 112) dX8_strip_108 (by decide) ?_
      refine x_istore_n (pc' := 113) dX8_strip_112 rfl rfl (by decide) rfl (ls' := [.ref 94, .int x1, .int x2, .int (σ.1 95 (128 + (σ.1 100 (x4 - 1).toNatClampNeg)).toNatClampNeg), .int x4, .int ((σ.1 95 (128 + (σ.1 100 x4.toNatClampNeg)).toNatClampNeg) - (σ.1 95 (128 + (σ.1 100 (x4 - 1).toNatClampNeg)).toNatClampNeg))]) rfl ?_
      refine x_iload (pc' := 115) dX8_strip_113 rfl rfl ?_
      refine x_iload_n (pc' := 116) dX8_strip_115 rfl rfl rfl ?_
      refine x_icmp_le (pc' := 119) (tgt := 124) dX8_strip_116 (by decide) rfl (fun hc => ?_) (fun hc => ?_)
      · replace h := h.1 hc
        refine x_iload_n (pc' := 125) dX8_strip_124 rfl rfl rfl ?_
        refine x_istore_n (pc' := 126) dX8_strip_125 rfl rfl (by decide) rfl (ls' := [.ref 94, .int x1, .int x2, .int (σ.1 95 (128 + (σ.1 100 (x4 - 1).toNatClampNeg)).toNatClampNeg), .int x4, .int ((σ.1 95 (128 + (σ.1 100 x4.toNatClampNeg)).toNatClampNeg) - (σ.1 95 (128 + (σ.1 100 (x4 - 1).toNatClampNeg)).toNatClampNeg))]) rfl ?_
        refine x_iinc (pc' := 129) (v := 1) dX8_strip_126 rfl (by decide) rfl rfl (by decide) (ls' := [.ref 94, .int x1, .int x2, .int (σ.1 95 (128 + (σ.1 100 (x4 - 1).toNatClampNeg)).toNatClampNeg), .int (x4 + 1), .int ((σ.1 95 (128 + (σ.1 100 x4.toNatClampNeg)).toNatClampNeg) - (σ.1 95 (128 + (σ.1 100 (x4 - 1).toNatClampNeg)).toNatClampNeg))]) rfl ?_
        refine x_goto (pc' := 38) dX8_strip_129 (by decide) ?_
        refine x_forget 5 (ls' := [.ref 94, .int x1, .int x2, .int (σ.1 95 (128 + (σ.1 100 (x4 - 1).toNatClampNeg)).toNatClampNeg), .int (x4 + 1), Unk]) rfl ?_
        exact h
      · replace h := h.2 hc
        refine x_iload (pc' := 121) dX8_strip_119 rfl rfl ?_
        refine x_goto (pc' := 125) dX8_strip_121 (by decide) ?_
        refine x_istore_n (pc' := 126) dX8_strip_125 rfl rfl (by decide) rfl (ls' := [.ref 94, .int x1, .int ((σ.1 95 (128 + (σ.1 100 x4.toNatClampNeg)).toNatClampNeg) - (σ.1 95 (128 + (σ.1 100 (x4 - 1).toNatClampNeg)).toNatClampNeg)), .int (σ.1 95 (128 + (σ.1 100 (x4 - 1).toNatClampNeg)).toNatClampNeg), .int x4, .int ((σ.1 95 (128 + (σ.1 100 x4.toNatClampNeg)).toNatClampNeg) - (σ.1 95 (128 + (σ.1 100 (x4 - 1).toNatClampNeg)).toNatClampNeg))]) rfl ?_
        refine x_iinc (pc' := 129) (v := 1) dX8_strip_126 rfl (by decide) rfl rfl (by decide) (ls' := [.ref 94, .int x1, .int ((σ.1 95 (128 + (σ.1 100 x4.toNatClampNeg)).toNatClampNeg) - (σ.1 95 (128 + (σ.1 100 (x4 - 1).toNatClampNeg)).toNatClampNeg)), .int (σ.1 95 (128 + (σ.1 100 (x4 - 1).toNatClampNeg)).toNatClampNeg), .int (x4 + 1), .int ((σ.1 95 (128 + (σ.1 100 x4.toNatClampNeg)).toNatClampNeg) - (σ.1 95 (128 + (σ.1 100 (x4 - 1).toNatClampNeg)).toNatClampNeg))]) rfl ?_
        refine x_goto (pc' := 38) dX8_strip_129 (by decide) ?_
        refine x_forget 5 (ls' := [.ref 94, .int x1, .int ((σ.1 95 (128 + (σ.1 100 x4.toNatClampNeg)).toNatClampNeg) - (σ.1 95 (128 + (σ.1 100 (x4 - 1).toNatClampNeg)).toNatClampNeg)), .int (σ.1 95 (128 + (σ.1 100 (x4 - 1).toNatClampNeg)).toNatClampNeg), .int (x4 + 1), Unk]) rfl ?_
        exact h
