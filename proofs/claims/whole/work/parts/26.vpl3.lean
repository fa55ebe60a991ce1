set_option maxRecDepth 100000 in
set_option maxHeartbeats 4000000 in
theorem vX7_pairs_0 {d : Nat} {σ : Mem} {Q : Option Value → Mem → Prop} 
    (h : (X none (d + 1) mX4_pickAll 0 [.ref 57, .ref 1, Unk] [] σ (fun r τ1 => r = none ∧ X none (d + 2) mX7_pairs 15 [.ref 0, .int 0, .int 0, Unk] [] τ1 Q))) :
    X none (d + 2) mX7_pairs 0 [.ref 0, Unk, Unk, Unk] [] σ Q := by
  refine x_aload_n (pc' := 1) dX7_pairs_0 rfl rfl rfl ?_
  refine x_getr (pc' := 4) dX7_pairs_1 rfl lfX7_26 kd_0 rfl rf_0_2 ?_
  refine x_aload_n (pc' := 5) dX7_pairs_4 rfl rfl rfl ?_
  refine x_getr (pc' := 8) dX7_pairs_5 rfl lfX7_10 kd_0 rfl rf_0_0 ?_
  refine x_callV (pc' := 11) (As := [.ref 1]) dX7_pairs_8 rfl lmX7_140 (OKP.k okP_57) rfl rfl (Nat.le_of_ble_eq_true rfl) (Nat.le_of_ble_eq_true rfl) ?_
  show X none (d + 1) mX4_pickAll 0 [.ref 57, .ref 1, Unk] [] σ _
  refine X.mono h ?_
  rintro r τ1 ⟨rfl, h⟩
  show X none (d + 2) mX7_pairs 11 [.ref 0, Unk, Unk, Unk] [] τ1 _
  refine x_iconst (pc' := 12) (v := 0) dX7_pairs_11 rfl (by decide) ?_
  refine x_istore_n (pc' := 13) dX7_pairs_12 rfl rfl (by decide) rfl (ls' := [.ref 0, .int 0, Unk, Unk]) rfl ?_
  refine x_iconst (pc' := 14) (v := 0) dX7_pairs_13 rfl (by decide) ?_
  refine x_istore_n (pc' := 15) dX7_pairs_14 rfl rfl (by decide) rfl (ls' := [.ref 0, .int 0, .int 0, Unk]) rfl ?_
  exact h
set_option maxRecDepth 100000 in
set_option maxHeartbeats 4000000 in
theorem vX7_pairs_15 {d : Nat} {σ : Mem} {Q : Option Value → Mem → Prop} {x1 x2 : Int32} 
    (h : (((σ.1 57 1) ≤ x2 → Q (some (.int x1)) σ) ∧ (¬ (σ.1 57 1) ≤ x2 → X none (d + 2) mX7_pairs 28 [.ref 0, .int x1, .int x2, .int 0] [] σ Q))) :
    X none (d + 2) mX7_pairs 15 [.ref 0, .int x1, .int x2, Unk] [] σ Q := by
  refine x_iload_n (pc' := 16) dX7_pairs_15 rfl rfl rfl ?_
  refine x_aload_n (pc' := 17) dX7_pairs_16 rfl rfl rfl ?_
  refine x_getr (pc' := 20) dX7_pairs_17 rfl lfX7_26 kd_0 rfl rf_0_2 ?_
  refine x_geti (pc' := 23) dX7_pairs_20 rfl lfX7_157 (OKP.k okP_57) rfl ?_
  refine x_icmp_ge (pc' := 26) (tgt := 82) dX7_pairs_23 (by decide) rfl (fun hc => ?_) (fun hc => ?_)
  · replace h := h.1 hc
    refine x_iload_n (pc' := 83) dX7_pairs_82 rfl rfl rfl ?_
    exact x_iret dX7_pairs_83 rfl rfl h
  · replace h := h.2 hc
    refine x_iconst (pc' := 27) (v := 0) dX7_pairs_26 rfl (by decide) ?_
    refine x_istore_n (pc' := 28) dX7_pairs_27 rfl rfl (by decide) rfl (ls' := [.ref 0, .int x1, .int x2, .int 0]) rfl ?_
    exact h
set_option maxRecDepth 100000 in
set_option maxHeartbeats 4000000 in
theorem vX7_pairs_28 {d : Nat} {σ : Mem} {Q : Option Value → Mem → Prop} {x1 x2 x3 : Int32} 
    (h : (((σ.1 57 1) ≤ x3 → X none (d + 2) mX7_pairs 15 [.ref 0, .int x1, .int (x2 + 1), Unk] [] σ Q) ∧ (¬ (σ.1 57 1) ≤ x3 → (vp_in x2 60 ∧ (vp_in x3 60 ∧ (X none (d + 1) mX0_isLess 0 [.ref 1, .int (σ.1 58 x2.toNatClampNeg), .int (σ.1 58 x3.toNatClampNeg)] [] σ (fun r τ1 => ∃ u2 : Int32, r = some (.int u2) ∧ ((u2 = 0 → X none (d + 2) mX7_pairs 28 [.ref 0, .int x1, .int x2, .int (x3 + 1)] [] τ1 Q) ∧ (¬ u2 = 0 → X none (d + 2) mX7_pairs 28 [.ref 0, .int (x1 + 1), .int x2, .int (x3 + 1)] [] τ1 Q))))))))) :
    X none (d + 2) mX7_pairs 28 [.ref 0, .int x1, .int x2, .int x3] [] σ Q := by
  refine x_iload_n (pc' := 29) dX7_pairs_28 rfl rfl rfl ?_
  refine x_aload_n (pc' := 30) dX7_pairs_29 rfl rfl rfl ?_
  refine x_getr (pc' := 33) dX7_pairs_30 rfl lfX7_26 kd_0 rfl rf_0_2 ?_
  refine x_geti (pc' := 36) dX7_pairs_33 rfl lfX7_157 (OKP.k okP_57) rfl ?_
  refine x_icmp_ge (pc' := 39) (tgt := 76) dX7_pairs_36 (by decide) rfl (fun hc => ?_) (fun hc => ?_)
  · replace h := h.1 hc
    refine x_iinc (pc' := 79) (v := 1) dX7_pairs_76 rfl (by decide) rfl rfl (by decide) (ls' := [.ref 0, .int x1, .int (x2 + 1), .int x3]) rfl ?_
    refine x_goto (pc' := 15) dX7_pairs_79 (by decide) ?_
    refine x_forget 3 (ls' := [.ref 0, .int x1, .int (x2 + 1), Unk]) rfl ?_
    exact h
  · replace h := h.2 hc
    refine x_aload_n (pc' := 40) dX7_pairs_39 rfl rfl rfl ?_
    refine x_getr (pc' := 43) dX7_pairs_40 rfl lfX7_10 kd_0 rfl rf_0_0 ?_
    refine x_aload_n (pc' := 44) dX7_pairs_43 rfl rfl rfl ?_
    refine x_getr (pc' := 47) dX7_pairs_44 rfl lfX7_26 kd_0 rfl rf_0_2 ?_
    refine x_getr (pc' := 50) dX7_pairs_47 rfl lfX7_164 (OKP.k okP_57) rfl (OKP.r0 okP_57) ?_
    refine x_iload_n (pc' := 51) dX7_pairs_50 rfl rfl rfl ?_
    obtain ⟨hb, h⟩ := h
    refine x_iald (pc' := 52) dX7_pairs_51 rfl (OKP.a0 okP_57) (by rw [(OKP.n0 okP_57)]; exact hb) ?_
    refine x_aload_n (pc' := 53) dX7_pairs_52 rfl rfl rfl ?_
    refine x_getr (pc' := 56) dX7_pairs_53 rfl lfX7_26 kd_0 rfl rf_0_2 ?_
    refine x_getr (pc' := 59) dX7_pairs_56 rfl lfX7_164 (OKP.k okP_57) rfl (OKP.r0 okP_57) ?_
    refine x_iload_n (pc' := 60) dX7_pairs_59 rfl rfl rfl ?_
    obtain ⟨hb, h⟩ := h
    refine x_iald (pc' := 61) dX7_pairs_60 rfl (OKP.a0 okP_57) (by rw [(OKP.n0 okP_57)]; exact hb) ?_
    refine x_callV (pc' := 64) (As := [.int (σ.1 58 x2.toNatClampNeg), .int (σ.1 58 x3.toNatClampNeg)]) dX7_pairs_61 rfl lmX7_187 (OKF.k okF_1) rfl rfl (Nat.le_of_ble_eq_true rfl) (Nat.le_of_ble_eq_true rfl) ?_
    show X none (d + 1) mX0_isLess 0 [.ref 1, .int (σ.1 58 x2.toNatClampNeg), .int (σ.1 58 x3.toNatClampNeg)] [] σ _
    refine X.mono h ?_
    rintro r τ1 ⟨u2, rfl, h⟩
    show X none (d + 2) mX7_pairs 64 [.ref 0, .int x1, .int x2, .int x3] [.int u2] τ1 _
    refine x_if_eq (pc' := 67) (tgt := 70) dX7_pairs_64 (by decide) rfl (fun hc => ?_) (fun hc => ?_)
    · replace h := h.1 hc
      refine x_iinc (pc' := 73) (v := 1) dX7_pairs_70 rfl (by decide) rfl rfl (by decide) (ls' := [.ref 0, .int x1, .int x2, .int (x3 + 1)]) rfl ?_
      refine x_goto (pc' := 28) dX7_pairs_73 (by decide) ?_
      exact h
    · replace h := h.2 hc
      refine x_iinc (pc' := 70) (v := 1) dX7_pairs_67 rfl (by decide) rfl rfl (by decide) (ls' := [.ref 0, .int (x1 + 1), .int x2, .int x3]) rfl ?_
      refine x_iinc (pc' := 73) (v := 1) dX7_pairs_70 rfl (by decide) rfl rfl (by decide) (ls' := [.ref 0, .int (x1 + 1), .int x2, .int (x3 + 1)]) rfl ?_
      refine x_goto (pc' := 28) dX7_pairs_73 (by decide) ?_
      exact h
set_option maxRecDepth 100000 in
set_option maxHeartbeats 4000000 in
theorem vX7_stair_0 {d : Nat} {σ : Mem} {Q : Option Value → Mem → Prop} {x1 : Int32} 
    (h : (((-1) ≤ x1 → (X none (d + 3) mX4_pickAll 0 [.ref 57, .ref 1, Unk] [] σ (fun r τ1 => r = none ∧ (X none (d + 3) mX4_pickStairs 0 [.ref 59, .ref 1, .ref 57, Unk] [] τ1 (fun r τ2 => r = none ∧ ((¬ x1 = (-1) → (X none (d + 3) mX4_sortByPlace 0 [.ref 59, .ref 1] [] τ2 (fun r τ3 => r = none ∧ (X none (d + 3) mX4_numberOf 0 [.ref 59, .ref 1, .int x1] [] τ3 (fun r τ4 => ∃ u5 : Int32, r = some (.int u5) ∧ Q (some (.int u5)) τ4))))) ∧ (x1 = (-1) → Q (some (.int (τ2.1 59 1))) τ2))))))) ∧ (¬ (-1) ≤ x1 → (∀ τ6 : Mem, τ6 = (w1 σ 0 10 ((σ.1 0 10) + 1)) → Q (some (.int (-2000000002))) τ6)))) :
    X none (d + 4) mX7_stair 0 [.ref 0, .int x1] [] σ Q := by
  refine x_iload_n (pc' := 1) dX7_stair_0 rfl rfl rfl ?_
  refine x_iconst (pc' := 2) (v := (-1)) dX7_stair_1 rfl (by decide) ?_
  refine x_icmp_ge (pc' := 5) (tgt := 12) dX7_stair_2 (by decide) rfl (fun hc => ?_) (fun hc => ?_)
  · replace h := h.1 hc
    refine x_aload_n (pc' := 13) dX7_stair_12 rfl rfl rfl ?_
    refine x_getr (pc' := 16) dX7_stair_13 rfl lfX7_26 kd_0 rfl rf_0_2 ?_
    refine x_aload_n (pc' := 17) dX7_stair_16 rfl rfl rfl ?_
    refine x_getr (pc' := 20) dX7_stair_17 rfl lfX7_10 kd_0 rfl rf_0_0 ?_
    refine x_callV (pc' := 23) (As := [.ref 1]) dX7_stair_20 rfl lmX7_140 (OKP.k okP_57) rfl rfl (Nat.le_of_ble_eq_true rfl) (Nat.le_of_ble_eq_true rfl) ?_
    show X none (d + 3) mX4_pickAll 0 [.ref 57, .ref 1, Unk] [] σ _
    refine X.mono h ?_
    rintro r τ1 ⟨rfl, h⟩
    show X none (d + 4) mX7_stair 23 [.ref 0, .int x1] [] τ1 _
    refine x_aload_n (pc' := 24) dX7_stair_23 rfl rfl rfl ?_
    refine x_getr (pc' := 27) dX7_stair_24 rfl lfX7_30 kd_0 rfl rf_0_3 ?_
    refine x_aload_n (pc' := 28) dX7_stair_27 rfl rfl rfl ?_
    refine x_getr (pc' := 31) dX7_stair_28 rfl lfX7_10 kd_0 rfl rf_0_0 ?_
    refine x_aload_n (pc' := 32) dX7_stair_31 rfl rfl rfl ?_
    refine x_getr (pc' := 35) dX7_stair_32 rfl lfX7_26 kd_0 rfl rf_0_2 ?_
    refine x_callV (pc' := 38) (As := [.ref 1, .ref 57]) dX7_stair_35 rfl lmX7_190 (OKP.k okP_59) rfl rfl (Nat.le_of_ble_eq_true rfl) (Nat.le_of_ble_eq_true rfl) ?_
    show X none (d + 3) mX4_pickStairs 0 [.ref 59, .ref 1, .ref 57, Unk] [] τ1 _
    refine X.mono h ?_
    rintro r τ2 ⟨rfl, h⟩
    show X none (d + 4) mX7_stair 38 [.ref 0, .int x1] [] τ2 _
    refine x_iload_n (pc' := 39) dX7_stair_38 rfl rfl rfl ?_
    refine x_iconst (pc' := 40) (v := (-1)) dX7_stair_39 rfl (by decide) ?_
    refine x_icmp_ne (pc' := 43) (tgt := 51) dX7_stair_40 (by decide) rfl (fun hc => ?_) (fun hc => ?_)
    · replace h := h.1 hc
      refine x_aload_n (pc' := 52) dX7_stair_51 rfl rfl rfl ?_
      refine x_getr (pc' := 55) dX7_stair_52 rfl lfX7_30 kd_0 rfl rf_0_3 ?_
      refine x_aload_n (pc' := 56) dX7_stair_55 rfl rfl rfl ?_
      refine x_getr (pc' := 59) dX7_stair_56 rfl lfX7_10 kd_0 rfl rf_0_0 ?_
      refine x_callV (pc' := 62) (As := [.ref 1]) dX7_stair_59 rfl lmX7_160 (OKP.k okP_59) rfl rfl (Nat.le_of_ble_eq_true rfl) (Nat.le_of_ble_eq_true rfl) ?_
      show X none (d + 3) mX4_sortByPlace 0 [.ref 59, .ref 1] [] τ2 _
      refine X.mono h ?_
      rintro r τ3 ⟨rfl, h⟩
      show X none (d + 4) mX7_stair 62 [.ref 0, .int x1] [] τ3 _
      refine x_aload_n (pc' := 63) dX7_stair_62 rfl rfl rfl ?_
      refine x_getr (pc' := 66) dX7_stair_63 rfl lfX7_30 kd_0 rfl rf_0_3 ?_
      refine x_aload_n (pc' := 67) dX7_stair_66 rfl rfl rfl ?_
      refine x_getr (pc' := 70) dX7_stair_67 rfl lfX7_10 kd_0 rfl rf_0_0 ?_
      refine x_iload_n (pc' := 71) dX7_stair_70 rfl rfl rfl ?_
      refine x_callV (pc' := 74) (As := [.ref 1, .int x1]) dX7_stair_71 rfl lmX7_143 (OKP.k okP_59) rfl rfl (Nat.le_of_ble_eq_true rfl) (Nat.le_of_ble_eq_true rfl) ?_
      show X none (d + 3) mX4_numberOf 0 [.ref 59, .ref 1, .int x1] [] τ3 _
      refine X.mono h ?_
      rintro r τ4 ⟨u5, rfl, h⟩
      show X none (d + 4) mX7_stair 74 [.ref 0, .int x1] [.int u5] τ4 _
      exact x_iret dX7_stair_74 rfl rfl h
    · replace h := h.2 hc
      refine x_aload_n (pc' := 44) dX7_stair_43 rfl rfl rfl ?_
      refine x_getr (pc' := 47) dX7_stair_44 rfl lfX7_30 kd_0 rfl rf_0_3 ?_
      refine x_geti (pc' := 50) dX7_stair_47 rfl lfX7_157 (OKP.k okP_59) rfl ?_
      exact x_iret dX7_stair_50 rfl rfl h
  · replace h := h.2 hc
    refine x_aload_n (pc' := 6) dX7_stair_5 rfl rfl rfl ?_
    refine x_ldc (pc' := 8) dX7_stair_6 rfl lcX7_68 ?_
    refine x_callV (pc' := 11) (As := [.int (-2000000002)]) dX7_stair_8 rfl lmX7_69 kd_0 rfl rfl (Nat.le_of_ble_eq_true rfl) (Nat.le_of_ble_eq_true rfl) ?_
    show X none (d + 3) mX7_refuse 0 [.ref 0, .int (-2000000002)] [] σ _
    refine x_iload_n (pc' := 1) dX7_refuse_0 rfl rfl rfl ?_
    refine x_ldc (pc' := 3) dX7_refuse_1 rfl lcX7_68 ?_
    refine x_icmp_ne (pc' := 6) (tgt := 19) dX7_refuse_3 (by decide) rfl (fun hc => absurd hc (by decide)) (fun _ => ?_)
    refine x_aload_n (pc' := 7) dX7_refuse_6 rfl rfl rfl ?_
    refine x_dup (pc' := 8) dX7_refuse_7 rfl rfl ?_
    refine x_geti (pc' := 11) dX7_refuse_8 rfl lfX7_267 kd_0 rfl ?_
    refine x_iconst (pc' := 12) (v := 1) dX7_refuse_11 rfl (by decide) ?_
    refine x_iadd (pc' := 13) dX7_refuse_12 rfl ?_
    refine x_puti (pc' := 16) dX7_refuse_13 rfl lfX7_267 kd_0 rfl rfl rfl ?_
    obtain ⟨τ6, eτ6⟩ : ∃ τ : Mem, τ = (w1 σ 0 10 ((σ.1 0 10) + 1)) := ⟨_, rfl⟩
    show X none (d + 3) mX7_refuse 16 [.ref 0, .int (-2000000002)] [] (w1 σ 0 10 ((σ.1 0 10) + 1)) _
    rw [← eτ6]
    replace h := h τ6 eτ6
    refine x_goto (pc' := 48) dX7_refuse_16 (by decide) ?_
    refine x_iload_n (pc' := 49) dX7_refuse_48 rfl rfl rfl ?_
    refine x_iret dX7_refuse_49 rfl rfl ?_
    show X none (d + 4) mX7_stair 11 [.ref 0, .int x1] [.int (-2000000002)] τ6 _
    exact x_iret dX7_stair_11 rfl rfl h
set_option maxRecDepth 100000 in
set_option maxHeartbeats 4000000 in
theorem vX7_layers_0 {d : Nat} {σ : Mem} {Q : Option Value → Mem → Prop} {x1 : Int32} 
    (h : ((x1.toInt < 0 ∨ 4 < x1.toInt → (∀ τ1 : Mem, τ1 = (w1 σ 0 10 ((σ.1 0 10) + 1)) → Q (some (.int (-2000000002))) τ1)) ∧ (x1.toInt = 0 → Q (some (.int (σ.1 1 5))) σ) ∧ (x1.toInt = 1 → Q (some (.int (σ.1 1 6))) σ) ∧ (x1.toInt = 2 → Q (some (.int (σ.1 1 7))) σ) ∧ (x1.toInt = 3 → Q (some (.int (σ.1 0 9))) σ) ∧ (x1.toInt = 4 → Q (some (.int (σ.1 1 8))) σ))) :
    X none (d + 1) mX7_layers 0 [.ref 0, .int x1] [] σ Q := by
  refine x_iload_n (pc' := 1) dX7_layers_0 rfl rfl rfl ?_
  by_cases hc : x1.toInt < 0 ∨ 4 < x1.toInt
  · refine x_tblOut (pc' := 73) dX7_layers_1 hc (by decide) ?_
    replace h := h.1 hc
    refine x_aload_n (pc' := 74) dX7_layers_73 rfl rfl rfl ?_
    refine x_ldc (pc' := 76) dX7_layers_74 rfl lcX7_68 ?_
    refine x_callV (pc' := 79) (As := [.int (-2000000002)]) dX7_layers_76 rfl lmX7_69 kd_0 rfl rfl (Nat.le_of_ble_eq_true rfl) (Nat.le_of_ble_eq_true rfl) ?_
    show X none d mX7_refuse 0 [.ref 0, .int (-2000000002)] [] σ _
    refine x_iload_n (pc' := 1) dX7_refuse_0 rfl rfl rfl ?_
    refine x_ldc (pc' := 3) dX7_refuse_1 rfl lcX7_68 ?_
    refine x_icmp_ne (pc' := 6) (tgt := 19) dX7_refuse_3 (by decide) rfl (fun hc => absurd hc (by decide)) (fun _ => ?_)
    refine x_aload_n (pc' := 7) dX7_refuse_6 rfl rfl rfl ?_
    refine x_dup (pc' := 8) dX7_refuse_7 rfl rfl ?_
    refine x_geti (pc' := 11) dX7_refuse_8 rfl lfX7_267 kd_0 rfl ?_
    refine x_iconst (pc' := 12) (v := 1) dX7_refuse_11 rfl (by decide) ?_
    refine x_iadd (pc' := 13) dX7_refuse_12 rfl ?_
    refine x_puti (pc' := 16) dX7_refuse_13 rfl lfX7_267 kd_0 rfl rfl rfl ?_
    obtain ⟨τ1, eτ1⟩ : ∃ τ : Mem, τ = (w1 σ 0 10 ((σ.1 0 10) + 1)) := ⟨_, rfl⟩
    show X none d mX7_refuse 16 [.ref 0, .int (-2000000002)] [] (w1 σ 0 10 ((σ.1 0 10) + 1)) _
    rw [← eτ1]
    replace h := h τ1 eτ1
    refine x_goto (pc' := 48) dX7_refuse_16 (by decide) ?_
    refine x_iload_n (pc' := 49) dX7_refuse_48 rfl rfl rfl ?_
    refine x_iret dX7_refuse_49 rfl rfl ?_
    show X none (d + 1) mX7_layers 79 [.ref 0, .int x1] [.int (-2000000002)] τ1 _
    exact x_iret dX7_layers_79 rfl rfl h
  · replace h := h.2
    have hr : x1.toInt = 0 ∨ x1.toInt = 1 ∨ x1.toInt = 2 ∨ x1.toInt = 3 ∨ x1.toInt = 4 := by omega
    rcases hr with hr | hr | hr | hr | hr
    · refine x_tblIn (pc' := 36) dX7_layers_1 (by omega) (by omega) (off := 35) (by rw [hr]; rfl) (by decide) ?_
      replace h := h.1 hr
      refine x_aload_n (pc' := 37) dX7_layers_36 rfl rfl rfl ?_
      refine x_getr (pc' := 40) dX7_layers_37 rfl lfX7_10 kd_0 rfl rf_0_0 ?_
      refine x_geti (pc' := 43) dX7_layers_40 rfl lfX7_194 (OKF.k okF_1) rfl ?_
      exact x_iret dX7_layers_43 rfl rfl h
    · refine x_tblIn (pc' := 44) dX7_layers_1 (by omega) (by omega) (off := 43) (by rw [hr]; rfl) (by decide) ?_
      replace h := h.2.1 hr
      refine x_aload_n (pc' := 45) dX7_layers_44 rfl rfl rfl ?_
      refine x_getr (pc' := 48) dX7_layers_45 rfl lfX7_10 kd_0 rfl rf_0_0 ?_
      refine x_geti (pc' := 51) dX7_layers_48 rfl lfX7_197 (OKF.k okF_1) rfl ?_
      exact x_iret dX7_layers_51 rfl rfl h
    · refine x_tblIn (pc' := 52) dX7_layers_1 (by omega) (by omega) (off := 51) (by rw [hr]; rfl) (by decide) ?_
      replace h := h.2.2.1 hr
      refine x_aload_n (pc' := 53) dX7_layers_52 rfl rfl rfl ?_
      refine x_getr (pc' := 56) dX7_layers_53 rfl lfX7_10 kd_0 rfl rf_0_0 ?_
      refine x_geti (pc' := 59) dX7_layers_56 rfl lfX7_200 (OKF.k okF_1) rfl ?_
      exact x_iret dX7_layers_59 rfl rfl h
    · refine x_tblIn (pc' := 60) dX7_layers_1 (by omega) (by omega) (off := 59) (by rw [hr]; rfl) (by decide) ?_
      replace h := h.2.2.2.1 hr
      refine x_aload_n (pc' := 61) dX7_layers_60 rfl rfl rfl ?_
      refine x_geti (pc' := 64) dX7_layers_61 rfl lfX7_147 kd_0 rfl ?_
      exact x_iret dX7_layers_64 rfl rfl h
    · refine x_tblIn (pc' := 65) dX7_layers_1 (by omega) (by omega) (off := 64) (by rw [hr]; rfl) (by decide) ?_
      replace h := h.2.2.2.2 hr
      refine x_aload_n (pc' := 66) dX7_layers_65 rfl rfl rfl ?_
      refine x_getr (pc' := 69) dX7_layers_66 rfl lfX7_10 kd_0 rfl rf_0_0 ?_
      refine x_geti (pc' := 72) dX7_layers_69 rfl lfX7_203 (OKF.k okF_1) rfl ?_
      exact x_iret dX7_layers_72 rfl rfl h
set_option maxRecDepth 100000 in
set_option maxHeartbeats 4000000 in
theorem vX7_inLayer_0 {d : Nat} {σ : Mem} {Q : Option Value → Mem → Prop} {x1 x2 x3 x4 x5 x6 : Int32} 
    (h : ((x1 < 1 → (∀ τ1 : Mem, τ1 = (w1 σ 0 10 ((σ.1 0 10) + 1)) → Q (some (.int (-2000000002))) τ1)) ∧ (¬ x1 < 1 → ((64 < x1 → (∀ τ2 : Mem, τ2 = (w1 σ 0 10 ((σ.1 0 10) + 1)) → Q (some (.int (-2000000002))) τ2)) ∧ (¬ 64 < x1 → (X none (d + 2) mJ6_bitCount_0f7a4 0 [.int x1] [] σ (fun r τ3 => ∃ u4 : Int32, r = some (.int u4) ∧ ((¬ u4 = 1 → (∀ τ5 : Mem, τ5 = (w1 τ3 0 10 ((τ3.1 0 10) + 1)) → Q (some (.int (-2000000002))) τ5)) ∧ (u4 = 1 → ((x2 < 0 → (∀ τ6 : Mem, τ6 = (w1 τ3 0 10 ((τ3.1 0 10) + 1)) → Q (some (.int (-2000000002))) τ6)) ∧ (¬ x2 < 0 → ((1 < x2 → (∀ τ7 : Mem, τ7 = (w1 τ3 0 10 ((τ3.1 0 10) + 1)) → Q (some (.int (-2000000002))) τ7)) ∧ (¬ 1 < x2 → (X none (d + 2) mX7_isRectangle 0 [.int x3, .int x4, .int x5, .int x6] [] τ3 (fun r τ8 => ∃ u9 : Int32, r = some (.int u9) ∧ ((¬ u9 = 0 → (X none (d + 2) mX6_becomeRectangle 0 [.ref 61, .int x3, .int x4, .int x5, .int x6] [] τ8 (fun r τ10 => r = none ∧ ((¬ x2 = 1 → (X none (d + 2) mX0_hasInLayer 0 [.ref 1, .int x1, .int 0, .ref 61, Unk, Unk, Unk, Unk, Unk] [] τ10 (fun r τ11 => ∃ u12 : Int32, r = some (.int u12) ∧ Q (some (.int u12)) τ11))) ∧ (x2 = 1 → (X none (d + 2) mX0_hasInLayer 0 [.ref 1, .int x1, .int 1, .ref 61, Unk, Unk, Unk, Unk, Unk] [] τ10 (fun r τ13 => ∃ u14 : Int32, r = some (.int u14) ∧ Q (some (.int u14)) τ13))))))) ∧ (u9 = 0 → (∀ τ15 : Mem, τ15 = (w1 τ8 0 10 ((τ8.1 0 10) + 1)) → Q (some (.int (-2000000002))) τ15)))))))))))))))))) :
    X none (d + 3) mX7_inLayer 0 [.ref 0, .int x1, .int x2, .int x3, .int x4, .int x5, .int x6, Unk] [] σ Q := by
  refine x_iload_n (pc' := 1) dX7_inLayer_0 rfl rfl rfl ?_
  refine x_iconst (pc' := 2) (v := 1) dX7_inLayer_1 rfl (by decide) ?_
  refine x_icmp_lt (pc' := 5) (tgt := 23) dX7_inLayer_2 (by decide) rfl (fun hc => ?_) (fun hc => ?_)
  · replace h := h.1 hc
    refine x_iconst (pc' := 24) (v := 0) dX7_inLayer_23 rfl (by decide) ?_
    refine x_istore (pc' := 26) dX7_inLayer_24 rfl (by decide) rfl (ls' := [.ref 0, .int x1, .int x2, .int x3, .int x4, .int x5, .int x6, .int 0]) rfl ?_
    refine x_iload (pc' := 28) dX7_inLayer_26 rfl rfl ?_
    refine x_if_eq (pc' := 31) (tgt := 53) dX7_inLayer_28 (by decide) rfl (fun _ => ?_) (fun hc => absurd hc (by decide))
    refine x_aload_n (pc' := 54) dX7_inLayer_53 rfl rfl rfl ?_
    refine x_ldc (pc' := 56) dX7_inLayer_54 rfl lcX7_68 ?_
    refine x_callV (pc' := 59) (As := [.int (-2000000002)]) dX7_inLayer_56 rfl lmX7_69 kd_0 rfl rfl (Nat.le_of_ble_eq_true rfl) (Nat.le_of_ble_eq_true rfl) ?_
    show X none (d + 2) mX7_refuse 0 [.ref 0, .int (-2000000002)] [] σ _
    refine x_iload_n (pc' := 1) dX7_refuse_0 rfl rfl rfl ?_
    refine x_ldc (pc' := 3) dX7_refuse_1 rfl lcX7_68 ?_
    refine x_icmp_ne (pc' := 6) (tgt := 19) dX7_refuse_3 (by decide) rfl (fun hc => absurd hc (by decide)) (fun _ => ?_)
    refine x_aload_n (pc' := 7) dX7_refuse_6 rfl rfl rfl ?_
    refine x_dup (pc' := 8) dX7_refuse_7 rfl rfl ?_
    refine x_geti (pc' := 11) dX7_refuse_8 rfl lfX7_267 kd_0 rfl ?_
    refine x_iconst (pc' := 12) (v := 1) dX7_refuse_11 rfl (by decide) ?_
    refine x_iadd (pc' := 13) dX7_refuse_12 rfl ?_
    refine x_puti (pc' := 16) dX7_refuse_13 rfl lfX7_267 kd_0 rfl rfl rfl ?_
    obtain ⟨τ1, eτ1⟩ : ∃ τ : Mem, τ = (w1 σ 0 10 ((σ.1 0 10) + 1)) := ⟨_, rfl⟩
    show X none (d + 2) mX7_refuse 16 [.ref 0, .int (-2000000002)] [] (w1 σ 0 10 ((σ.1 0 10) + 1)) _
    rw [← eτ1]
    replace h := h τ1 eτ1
    refine x_goto (pc' := 48) dX7_refuse_16 (by decide) ?_
    refine x_iload_n (pc' := 49) dX7_refuse_48 rfl rfl rfl ?_
    refine x_iret dX7_refuse_49 rfl rfl ?_
    show X none (d + 3) mX7_inLayer 59 [.ref 0, .int x1, .int x2, .int x3, .int x4, .int x5, .int x6, .int 0] [.int (-2000000002)] τ1 _
    exact x_iret dX7_inLayer_59 rfl rfl h
  · replace h := h.2 hc
    refine x_iload_n (pc' := 6) dX7_inLayer_5 rfl rfl rfl ?_
    refine x_bipush (pc' := 8) (v := 64) dX7_inLayer_6 rfl (by decide) ?_
    refine x_icmp_gt (pc' := 11) (tgt := 23) dX7_inLayer_8 (by decide) rfl (fun hc => ?_) (fun hc => ?_)
    · replace h := h.1 hc
      refine x_iconst (pc' := 24) (v := 0) dX7_inLayer_23 rfl (by decide) ?_
      refine x_istore (pc' := 26) dX7_inLayer_24 rfl (by decide) rfl (ls' := [.ref 0, .int x1, .int x2, .int x3, .int x4, .int x5, .int x6, .int 0]) rfl ?_
      refine x_iload (pc' := 28) dX7_inLayer_26 rfl rfl ?_
      refine x_if_eq (pc' := 31) (tgt := 53) dX7_inLayer_28 (by decide) rfl (fun _ => ?_) (fun hc => absurd hc (by decide))
      refine x_aload_n (pc' := 54) dX7_inLayer_53 rfl rfl rfl ?_
      refine x_ldc (pc' := 56) dX7_inLayer_54 rfl lcX7_68 ?_
      refine x_callV (pc' := 59) (As := [.int (-2000000002)]) dX7_inLayer_56 rfl lmX7_69 kd_0 rfl rfl (Nat.le_of_ble_eq_true rfl) (Nat.le_of_ble_eq_true rfl) ?_
      show X none (d + 2) mX7_refuse 0 [.ref 0, .int (-2000000002)] [] σ _
      refine x_iload_n (pc' := 1) dX7_refuse_0 rfl rfl rfl ?_
      refine x_ldc (pc' := 3) dX7_refuse_1 rfl lcX7_68 ?_
      refine x_icmp_ne (pc' := 6) (tgt := 19) dX7_refuse_3 (by decide) rfl (fun hc => absurd hc (by decide)) (fun _ => ?_)
      refine x_aload_n (pc' := 7) dX7_refuse_6 rfl rfl rfl ?_
      refine x_dup (pc' := 8) dX7_refuse_7 rfl rfl ?_
      refine x_geti (pc' := 11) dX7_refuse_8 rfl lfX7_267 kd_0 rfl ?_
      refine x_iconst (pc' := 12) (v := 1) dX7_refuse_11 rfl (by decide) ?_
      refine x_iadd (pc' := 13) dX7_refuse_12 rfl ?_
      refine x_puti (pc' := 16) dX7_refuse_13 rfl lfX7_267 kd_0 rfl rfl rfl ?_
      obtain ⟨τ2, eτ2⟩ : ∃ τ : Mem, τ = (w1 σ 0 10 ((σ.1 0 10) + 1)) := ⟨_, rfl⟩
      show X none (d + 2) mX7_refuse 16 [.ref 0, .int (-2000000002)] [] (w1 σ 0 10 ((σ.1 0 10) + 1)) _
      rw [← eτ2]
      replace h := h τ2 eτ2
      refine x_goto (pc' := 48) dX7_refuse_16 (by decide) ?_
      refine x_iload_n (pc' := 49) dX7_refuse_48 rfl rfl rfl ?_
      refine x_iret dX7_refuse_49 rfl rfl ?_
      show X none (d + 3) mX7_inLayer 59 [.ref 0, .int x1, .int x2, .int x3, .int x4, .int x5, .int x6, .int 0] [.int (-2000000002)] τ2 _
      exact x_iret dX7_inLayer_59 rfl rfl h
    · replace h := h.2 hc
      refine x_iload_n (pc' := 12) dX7_inLayer_11 rfl rfl rfl ?_
      refine x_callS (pc' := 15) (As := [.int x1]) dX7_inLayer_12 rfl lmX7_206 rfl rfl (Nat.le_of_ble_eq_true rfl) (Nat.le_of_ble_eq_true rfl) ?_
      show X none (d + 2) mJ6_bitCount_0f7a4 0 [.int x1] [] σ _
      refine X.mono h ?_
      rintro r τ3 ⟨u4, rfl, h⟩
      show X none (d + 3) mX7_inLayer 15 [.ref 0, .int x1, .int x2, .int x3, .int x4, .int x5, .int x6, Unk] [.int u4] τ3 _
      refine x_iconst (pc' := 16) (v := 1) dX7_inLayer_15 rfl (by decide) ?_
      refine x_icmp_ne (pc' := 19) (tgt := 23) dX7_inLayer_16 (by decide) rfl (fun hc => ?_) (fun hc => ?_)
      · replace h := h.1 hc
        refine x_iconst (pc' := 24) (v := 0) dX7_inLayer_23 rfl (by decide) ?_
        refine x_istore (pc' := 26) dX7_inLayer_24 rfl (by decide) rfl (ls' := [.ref 0, .int x1, .int x2, .int x3, .int x4, .int x5, .int x6, .int 0]) rfl ?_
        refine x_iload (pc' := 28) dX7_inLayer_26 rfl rfl ?_
        refine x_if_eq (pc' := 31) (tgt := 53) dX7_inLayer_28 (by decide) rfl (fun _ => ?_) (fun hc => absurd hc (by decide))
        refine x_aload_n (pc' := 54) dX7_inLayer_53 rfl rfl rfl ?_
        refine x_ldc (pc' := 56) dX7_inLayer_54 rfl lcX7_68 ?_
        refine x_callV (pc' := 59) (As := [.int (-2000000002)]) dX7_inLayer_56 rfl lmX7_69 kd_0 rfl rfl (Nat.le_of_ble_eq_true rfl) (Nat.le_of_ble_eq_true rfl) ?_
        show X none (d + 2) mX7_refuse 0 [.ref 0, .int (-2000000002)] [] τ3 _
        refine x_iload_n (pc' := 1) dX7_refuse_0 rfl rfl rfl ?_
        refine x_ldc (pc' := 3) dX7_refuse_1 rfl lcX7_68 ?_
        refine x_icmp_ne (pc' := 6) (tgt := 19) dX7_refuse_3 (by decide) rfl (fun hc => absurd hc (by decide)) (fun _ => ?_)
        refine x_aload_n (pc' := 7) dX7_refuse_6 rfl rfl rfl ?_
        refine x_dup (pc' := 8) dX7_refuse_7 rfl rfl ?_
        refine x_geti (pc' := 11) dX7_refuse_8 rfl lfX7_267 kd_0 rfl ?_
        refine x_iconst (pc' := 12) (v := 1) dX7_refuse_11 rfl (by decide) ?_
        refine x_iadd (pc' := 13) dX7_refuse_12 rfl ?_
        refine x_puti (pc' := 16) dX7_refuse_13 rfl lfX7_267 kd_0 rfl rfl rfl ?_
        obtain ⟨τ5, eτ5⟩ : ∃ τ : Mem, τ = (w1 τ3 0 10 ((τ3.1 0 10) + 1)) := ⟨_, rfl⟩
        show X none (d + 2) mX7_refuse 16 [.ref 0, .int (-2000000002)] [] (w1 τ3 0 10 ((τ3.1 0 10) + 1)) _
        rw [← eτ5]
        replace h := h τ5 eτ5
        refine x_goto (pc' := 48) dX7_refuse_16 (by decide) ?_
        refine x_iload_n (pc' := 49) dX7_refuse_48 rfl rfl rfl ?_
        refine x_iret dX7_refuse_49 rfl rfl ?_
        show X none (d + 3) mX7_inLayer 59 [.ref 0, .int x1, .int x2, .int x3, .int x4, .int x5, .int x6, .int 0] [.int (-2000000002)] τ5 _
        exact x_iret dX7_inLayer_59 rfl rfl h
      · replace h := h.2 hc
        refine x_iconst (pc' := 20) (v := 1) dX7_inLayer_19 rfl (by decide) ?_
        refine x_goto (pc' := 24) dX7_inLayer_20 (by decide) ?_
        refine x_istore (pc' := 26) dX7_inLayer_24 rfl (by decide) rfl (ls' := [.ref 0, .int x1, .int x2, .int x3, .int x4, .int x5, .int x6, .int 1]) rfl ?_
        refine x_iload (pc' := 28) dX7_inLayer_26 rfl rfl ?_
        refine x_if_eq (pc' := 31) (tgt := 53) dX7_inLayer_28 (by decide) rfl (fun hc => absurd hc (by decide)) (fun _ => ?_)
        refine x_iload_n (pc' := 32) dX7_inLayer_31 rfl rfl rfl ?_
        refine x_if_lt (pc' := 35) (tgt := 53) dX7_inLayer_32 (by decide) rfl (fun hc => ?_) (fun hc => ?_)
        · replace h := h.1 hc
          refine x_aload_n (pc' := 54) dX7_inLayer_53 rfl rfl rfl ?_
          refine x_ldc (pc' := 56) dX7_inLayer_54 rfl lcX7_68 ?_
          refine x_callV (pc' := 59) (As := [.int (-2000000002)]) dX7_inLayer_56 rfl lmX7_69 kd_0 rfl rfl (Nat.le_of_ble_eq_true rfl) (Nat.le_of_ble_eq_true rfl) ?_
          show X none (d + 2) mX7_refuse 0 [.ref 0, .int (-2000000002)] [] τ3 _
          refine x_iload_n (pc' := 1) dX7_refuse_0 rfl rfl rfl ?_
          refine x_ldc (pc' := 3) dX7_refuse_1 rfl lcX7_68 ?_
          refine x_icmp_ne (pc' := 6) (tgt := 19) dX7_refuse_3 (by decide) rfl (fun hc => absurd hc (by decide)) (fun _ => ?_)
          refine x_aload_n (pc' := 7) dX7_refuse_6 rfl rfl rfl ?_
          refine x_dup (pc' := 8) dX7_refuse_7 rfl rfl ?_
          refine x_geti (pc' := 11) dX7_refuse_8 rfl lfX7_267 kd_0 rfl ?_
          refine x_iconst (pc' := 12) (v := 1) dX7_refuse_11 rfl (by decide) ?_
          refine x_iadd (pc' := 13) dX7_refuse_12 rfl ?_
          refine x_puti (pc' := 16) dX7_refuse_13 rfl lfX7_267 kd_0 rfl rfl rfl ?_
          obtain ⟨τ6, eτ6⟩ : ∃ τ : Mem, τ = (w1 τ3 0 10 ((τ3.1 0 10) + 1)) := ⟨_, rfl⟩
          show X none (d + 2) mX7_refuse 16 [.ref 0, .int (-2000000002)] [] (w1 τ3 0 10 ((τ3.1 0 10) + 1)) _
          rw [← eτ6]
          replace h := h τ6 eτ6
          refine x_goto (pc' := 48) dX7_refuse_16 (by decide) ?_
          refine x_iload_n (pc' := 49) dX7_refuse_48 rfl rfl rfl ?_
          refine x_iret dX7_refuse_49 rfl rfl ?_
          show X none (d + 3) mX7_inLayer 59 [.ref 0, .int x1, .int x2, .int x3, .int x4, .int x5, .int x6, .int 1] [.int (-2000000002)] τ6 _
          exact x_iret dX7_inLayer_59 rfl rfl h
        · replace h := h.2 hc
          refine x_iload_n (pc' := 36) dX7_inLayer_35 rfl rfl rfl ?_
          refine x_iconst (pc' := 37) (v := 1) dX7_inLayer_36 rfl (by decide) ?_
          refine x_icmp_gt (pc' := 40) (tgt := 53) dX7_inLayer_37 (by decide) rfl (fun hc => ?_) (fun hc => ?_)
          · replace h := h.1 hc
            refine x_aload_n (pc' := 54) dX7_inLayer_53 rfl rfl rfl ?_
            refine x_ldc (pc' := 56) dX7_inLayer_54 rfl lcX7_68 ?_
            refine x_callV (pc' := 59) (As := [.int (-2000000002)]) dX7_inLayer_56 rfl lmX7_69 kd_0 rfl rfl (Nat.le_of_ble_eq_true rfl) (Nat.le_of_ble_eq_true rfl) ?_
            show X none (d + 2) mX7_refuse 0 [.ref 0, .int (-2000000002)] [] τ3 _
            refine x_iload_n (pc' := 1) dX7_refuse_0 rfl rfl rfl ?_
            refine x_ldc (pc' := 3) dX7_refuse_1 rfl lcX7_68 ?_
            refine x_icmp_ne (pc' := 6) (tgt := 19) dX7_refuse_3 (by decide) rfl (fun hc => absurd hc (by decide)) (fun _ => ?_)
            refine x_aload_n (pc' := 7) dX7_refuse_6 rfl rfl rfl ?_
            refine x_dup (pc' := 8) dX7_refuse_7 rfl rfl ?_
            refine x_geti (pc' := 11) dX7_refuse_8 rfl lfX7_267 kd_0 rfl ?_
            refine x_iconst (pc' := 12) (v := 1) dX7_refuse_11 rfl (by decide) ?_
            refine x_iadd (pc' := 13) dX7_refuse_12 rfl ?_
            refine x_puti (pc' := 16) dX7_refuse_13 rfl lfX7_267 kd_0 rfl rfl rfl ?_
            obtain ⟨τ7, eτ7⟩ : ∃ τ : Mem, τ = (w1 τ3 0 10 ((τ3.1 0 10) + 1)) := ⟨_, rfl⟩
            show X none (d + 2) mX7_refuse 16 [.ref 0, .int (-2000000002)] [] (w1 τ3 0 10 ((τ3.1 0 10) + 1)) _
            rw [← eτ7]
            replace h := h τ7 eτ7
            refine x_goto (pc' := 48) dX7_refuse_16 (by decide) ?_
            refine x_iload_n (pc' := 49) dX7_refuse_48 rfl rfl rfl ?_
            refine x_iret dX7_refuse_49 rfl rfl ?_
            show X none (d + 3) mX7_inLayer 59 [.ref 0, .int x1, .int x2, .int x3, .int x4, .int x5, .int x6, .int 1] [.int (-2000000002)] τ7 _
            exact x_iret dX7_inLayer_59 rfl rfl h
          · replace h := h.2 hc
            refine x_iload_n (pc' := 41) dX7_inLayer_40 rfl rfl rfl ?_
            refine x_iload (pc' := 43) dX7_inLayer_41 rfl rfl ?_
            refine x_iload (pc' := 45) dX7_inLayer_43 rfl rfl ?_
            refine x_iload (pc' := 47) dX7_inLayer_45 rfl rfl ?_
            refine x_callS (pc' := 50) (As := [.int x3, .int x4, .int x5, .int x6]) dX7_inLayer_47 rfl lmX7_105 rfl rfl (Nat.le_of_ble_eq_true rfl) (Nat.le_of_ble_eq_true rfl) ?_
            show X none (d + 2) mX7_isRectangle 0 [.int x3, .int x4, .int x5, .int x6] [] τ3 _
            refine X.mono h ?_
            rintro r τ8 ⟨u9, rfl, h⟩
            show X none (d + 3) mX7_inLayer 50 [.ref 0, .int x1, .int x2, .int x3, .int x4, .int x5, .int x6, .int 1] [.int u9] τ8 _
            refine x_if_ne (pc' := 53) (tgt := 60) dX7_inLayer_50 (by decide) rfl (fun hc => ?_) (fun hc => ?_)
            · replace h := h.1 hc
              refine x_aload_n (pc' := 61) dX7_inLayer_60 rfl rfl rfl ?_
              refine x_getr (pc' := 64) dX7_inLayer_61 rfl lfX7_36 kd_0 rfl rf_0_4 ?_
              refine x_iload_n (pc' := 65) dX7_inLayer_64 rfl rfl rfl ?_
              refine x_iload (pc' := 67) dX7_inLayer_65 rfl rfl ?_
              refine x_iload (pc' := 69) dX7_inLayer_67 rfl rfl ?_
              refine x_iload (pc' := 71) dX7_inLayer_69 rfl rfl ?_
              refine x_callV (pc' := 74) (As := [.int x3, .int x4, .int x5, .int x6]) dX7_inLayer_71 rfl lmX7_211 (OKS.k okS_61) rfl rfl (Nat.le_of_ble_eq_true rfl) (Nat.le_of_ble_eq_true rfl) ?_
              show X none (d + 2) mX6_becomeRectangle 0 [.ref 61, .int x3, .int x4, .int x5, .int x6] [] τ8 _
              refine X.mono h ?_
              rintro r τ10 ⟨rfl, h⟩
              show X none (d + 3) mX7_inLayer 74 [.ref 0, .int x1, .int x2, .int x3, .int x4, .int x5, .int x6, .int 1] [] τ10 _
              refine x_aload_n (pc' := 75) dX7_inLayer_74 rfl rfl rfl ?_
              refine x_getr (pc' := 78) dX7_inLayer_75 rfl lfX7_10 kd_0 rfl rf_0_0 ?_
              refine x_iload_n (pc' := 79) dX7_inLayer_78 rfl rfl rfl ?_
              refine x_iload_n (pc' := 80) dX7_inLayer_79 rfl rfl rfl ?_
              refine x_iconst (pc' := 81) (v := 1) dX7_inLayer_80 rfl (by decide) ?_
              refine x_icmp_ne (pc' := 84) (tgt := 88) dX7_inLayer_81 (by decide) rfl (fun hc => ?_) (fun hc => ?_)
              · replace h := h.1 hc
                refine x_iconst (pc' := 89) (v := 0) dX7_inLayer_88 rfl (by decide) ?_
                refine x_aload_n (pc' := 90) dX7_inLayer_89 rfl rfl rfl ?_
                refine x_getr (pc' := 93) dX7_inLayer_90 rfl lfX7_36 kd_0 rfl rf_0_4 ?_
                refine x_callV (pc' := 96) (As := [.int x1, .int 0, .ref 61]) dX7_inLayer_93 rfl lmX7_214 (OKF.k okF_1) rfl rfl (Nat.le_of_ble_eq_true rfl) (Nat.le_of_ble_eq_true rfl) ?_
                show X none (d + 2) mX0_hasInLayer 0 [.ref 1, .int x1, .int 0, .ref 61, Unk, Unk, Unk, Unk, Unk] [] τ10 _
                refine X.mono h ?_
                rintro r τ11 ⟨u12, rfl, h⟩
                show X none (d + 3) mX7_inLayer 96 [.ref 0, .int x1, .int x2, .int x3, .int x4, .int x5, .int x6, .int 1] [.int u12] τ11 _
                exact x_iret dX7_inLayer_96 rfl rfl h
              · replace h := h.2 hc
                refine x_iconst (pc' := 85) (v := 1) dX7_inLayer_84 rfl (by decide) ?_
                refine x_goto (pc' := 89) dX7_inLayer_85 (by decide) ?_
                refine x_aload_n (pc' := 90) dX7_inLayer_89 rfl rfl rfl ?_
                refine x_getr (pc' := 93) dX7_inLayer_90 rfl lfX7_36 kd_0 rfl rf_0_4 ?_
                refine x_callV (pc' := 96) (As := [.int x1, .int 1, .ref 61]) dX7_inLayer_93 rfl lmX7_214 (OKF.k okF_1) rfl rfl (Nat.le_of_ble_eq_true rfl) (Nat.le_of_ble_eq_true rfl) ?_
                show X none (d + 2) mX0_hasInLayer 0 [.ref 1, .int x1, .int 1, .ref 61, Unk, Unk, Unk, Unk, Unk] [] τ10 _
                refine X.mono h ?_
                rintro r τ13 ⟨u14, rfl, h⟩
                show X none (d + 3) mX7_inLayer 96 [.ref 0, .int x1, .int x2, .int x3, .int x4, .int x5, .int x6, .int 1] [.int u14] τ13 _
                exact x_iret dX7_inLayer_96 rfl rfl h
            · replace h := h.2 hc
              refine x_aload_n (pc' := 54) dX7_inLayer_53 rfl rfl rfl ?_
              refine x_ldc (pc' := 56) dX7_inLayer_54 rfl lcX7_68 ?_
              refine x_callV (pc' := 59) (As := [.int (-2000000002)]) dX7_inLayer_56 rfl lmX7_69 kd_0 rfl rfl (Nat.le_of_ble_eq_true rfl) (Nat.le_of_ble_eq_true rfl) ?_
              show X none (d + 2) mX7_refuse 0 [.ref 0, .int (-2000000002)] [] τ8 _
              refine x_iload_n (pc' := 1) dX7_refuse_0 rfl rfl rfl ?_
              refine x_ldc (pc' := 3) dX7_refuse_1 rfl lcX7_68 ?_
              refine x_icmp_ne (pc' := 6) (tgt := 19) dX7_refuse_3 (by decide) rfl (fun hc => absurd hc (by decide)) (fun _ => ?_)
              refine x_aload_n (pc' := 7) dX7_refuse_6 rfl rfl rfl ?_
              refine x_dup (pc' := 8) dX7_refuse_7 rfl rfl ?_
              refine x_geti (pc' := 11) dX7_refuse_8 rfl lfX7_267 kd_0 rfl ?_
              refine x_iconst (pc' := 12) (v := 1) dX7_refuse_11 rfl (by decide) ?_
              refine x_iadd (pc' := 13) dX7_refuse_12 rfl ?_
              refine x_puti (pc' := 16) dX7_refuse_13 rfl lfX7_267 kd_0 rfl rfl rfl ?_
              obtain ⟨τ15, eτ15⟩ : ∃ τ : Mem, τ = (w1 τ8 0 10 ((τ8.1 0 10) + 1)) := ⟨_, rfl⟩
              show X none (d + 2) mX7_refuse 16 [.ref 0, .int (-2000000002)] [] (w1 τ8 0 10 ((τ8.1 0 10) + 1)) _
              rw [← eτ15]
              replace h := h τ15 eτ15
              refine x_goto (pc' := 48) dX7_refuse_16 (by decide) ?_
              refine x_iload_n (pc' := 49) dX7_refuse_48 rfl rfl rfl ?_
              refine x_iret dX7_refuse_49 rfl rfl ?_
              show X none (d + 3) mX7_inLayer 59 [.ref 0, .int x1, .int x2, .int x3, .int x4, .int x5, .int x6, .int 1] [.int (-2000000002)] τ15 _
              exact x_iret dX7_inLayer_59 rfl rfl h
set_option maxRecDepth 100000 in
set_option maxHeartbeats 4000000 in
theorem vX7_type_0 {d : Nat} {σ : Mem} {Q : Option Value → Mem → Prop} {x1 : Int32} 
    (h : ((x1 < 0 → (∀ τ1 : Mem, τ1 = (w1 σ 0 10 ((σ.1 0 10) + 1)) → Q (some (.int (-2000000002))) τ1)) ∧ (¬ x1 < 0 → ((x1 ≤ 127 → (((σ.1 67 2) < 120 → ((120 ≤ (σ.1 67 2) → Q (some (.int (σ.1 67 2))) σ) ∧ (¬ 120 ≤ (σ.1 67 2) → (vp_in (σ.1 67 2) 120 ∧ (∀ τ2 : Mem, τ2 = (w1 σ 68 (σ.1 67 2).toNatClampNeg x1) → (∀ τ3 : Mem, τ3 = (w1 τ2 67 2 ((τ2.1 67 2) + 1)) → Q (some (.int (τ3.1 67 2))) τ3)))))) ∧ (¬ (σ.1 67 2) < 120 → (∀ τ4 : Mem, τ4 = (w1 σ 0 12 ((σ.1 0 12) + 1)) → Q (some (.int (-2000000004))) τ4)))) ∧ (¬ x1 ≤ 127 → (∀ τ5 : Mem, τ5 = (w1 σ 0 10 ((σ.1 0 10) + 1)) → Q (some (.int (-2000000002))) τ5)))))) :
    X none (d + 1) mX7_type 0 [.ref 0, .int x1] [] σ Q := by
  refine x_iload_n (pc' := 1) dX7_type_0 rfl rfl rfl ?_
  refine x_if_lt (pc' := 4) (tgt := 10) dX7_type_1 (by decide) rfl (fun hc => ?_) (fun hc => ?_)
  · replace h := h.1 hc
    refine x_aload_n (pc' := 11) dX7_type_10 rfl rfl rfl ?_
    refine x_ldc (pc' := 13) dX7_type_11 rfl lcX7_68 ?_
    refine x_callV (pc' := 16) (As := [.int (-2000000002)]) dX7_type_13 rfl lmX7_69 kd_0 rfl rfl (Nat.le_of_ble_eq_true rfl) (Nat.le_of_ble_eq_true rfl) ?_
    show X none d mX7_refuse 0 [.ref 0, .int (-2000000002)] [] σ _
    refine x_iload_n (pc' := 1) dX7_refuse_0 rfl rfl rfl ?_
    refine x_ldc (pc' := 3) dX7_refuse_1 rfl lcX7_68 ?_
    refine x_icmp_ne (pc' := 6) (tgt := 19) dX7_refuse_3 (by decide) rfl (fun hc => absurd hc (by decide)) (fun _ => ?_)
    refine x_aload_n (pc' := 7) dX7_refuse_6 rfl rfl rfl ?_
    refine x_dup (pc' := 8) dX7_refuse_7 rfl rfl ?_
    refine x_geti (pc' := 11) dX7_refuse_8 rfl lfX7_267 kd_0 rfl ?_
    refine x_iconst (pc' := 12) (v := 1) dX7_refuse_11 rfl (by decide) ?_
    refine x_iadd (pc' := 13) dX7_refuse_12 rfl ?_
    refine x_puti (pc' := 16) dX7_refuse_13 rfl lfX7_267 kd_0 rfl rfl rfl ?_
    obtain ⟨τ1, eτ1⟩ : ∃ τ : Mem, τ = (w1 σ 0 10 ((σ.1 0 10) + 1)) := ⟨_, rfl⟩
    show X none d mX7_refuse 16 [.ref 0, .int (-2000000002)] [] (w1 σ 0 10 ((σ.1 0 10) + 1)) _
    rw [← eτ1]
    replace h := h τ1 eτ1
    refine x_goto (pc' := 48) dX7_refuse_16 (by decide) ?_
    refine x_iload_n (pc' := 49) dX7_refuse_48 rfl rfl rfl ?_
    refine x_iret dX7_refuse_49 rfl rfl ?_
    show X none (d + 1) mX7_type 16 [.ref 0, .int x1] [.int (-2000000002)] τ1 _
    exact x_iret dX7_type_16 rfl rfl h
  · replace h := h.2 hc
    refine x_iload_n (pc' := 5) dX7_type_4 rfl rfl rfl ?_
    refine x_bipush (pc' := 7) (v := 127) dX7_type_5 rfl (by decide) ?_
    refine x_icmp_le (pc' := 10) (tgt := 17) dX7_type_7 (by decide) rfl (fun hc => ?_) (fun hc => ?_)
    · replace h := h.1 hc
      refine x_aload_n (pc' := 18) dX7_type_17 rfl rfl rfl ?_
      refine x_getr (pc' := 21) dX7_type_18 rfl lfX7_46 kd_0 rfl rf_0_6 ?_
      refine x_geti (pc' := 24) dX7_type_21 rfl lfX7_218 kd_67 rfl ?_
      refine x_bipush (pc' := 26) (v := 120) dX7_type_24 rfl (by decide) ?_
      refine x_icmp_lt (pc' := 29) (tgt := 36) dX7_type_26 (by decide) rfl (fun hc => ?_) (fun hc => ?_)
      · replace h := h.1 hc
        refine x_aload_n (pc' := 37) dX7_type_36 rfl rfl rfl ?_
        refine x_getr (pc' := 40) dX7_type_37 rfl lfX7_46 kd_0 rfl rf_0_6 ?_
        refine x_iload_n (pc' := 41) dX7_type_40 rfl rfl rfl ?_
        refine x_callV (pc' := 44) (As := [.int x1]) dX7_type_41 rfl lmX7_221 kd_67 rfl rfl (Nat.le_of_ble_eq_true rfl) (Nat.le_of_ble_eq_true rfl) ?_
        show X none d mX5_append 0 [.ref 67, .int x1] [] σ _
        refine x_aload_n (pc' := 1) dX5_append_0 rfl rfl rfl ?_
        refine x_geti (pc' := 4) dX5_append_1 rfl lfX5_22 kd_67 rfl ?_
        refine x_bipush (pc' := 6) (v := 120) dX5_append_4 rfl (by decide) ?_
        refine x_icmp_ge (pc' := 9) (tgt := 29) dX5_append_6 (by decide) rfl (fun hc => ?_) (fun hc => ?_)
        · replace h := h.1 hc
          refine x_vret dX5_append_29 rfl ?_
          show X none (d + 1) mX7_type 44 [.ref 0, .int x1] [] σ _
          refine x_aload_n (pc' := 45) dX7_type_44 rfl rfl rfl ?_
          refine x_getr (pc' := 48) dX7_type_45 rfl lfX7_46 kd_0 rfl rf_0_6 ?_
          refine x_geti (pc' := 51) dX7_type_48 rfl lfX7_218 kd_67 rfl ?_
          exact x_iret dX7_type_51 rfl rfl h
        · replace h := h.2 hc
          refine x_aload_n (pc' := 10) dX5_append_9 rfl rfl rfl ?_
          refine x_getr (pc' := 13) dX5_append_10 rfl lfX5_9 kd_67 rfl rf_67_0 ?_
          refine x_aload_n (pc' := 14) dX5_append_13 rfl rfl rfl ?_
          refine x_geti (pc' := 17) dX5_append_14 rfl lfX5_22 kd_67 rfl ?_
          refine x_iload_n (pc' := 18) dX5_append_17 rfl rfl rfl ?_
          obtain ⟨hb, h⟩ := h
          refine x_iast (pc' := 19) dX5_append_18 rfl kd_68 (by rw [ln_68]; exact hb) ?_
          obtain ⟨τ2, eτ2⟩ : ∃ τ : Mem, τ = (w1 σ 68 (σ.1 67 2).toNatClampNeg x1) := ⟨_, rfl⟩
          show X none d mX5_append 19 [.ref 67, .int x1] [] (w1 σ 68 (σ.1 67 2).toNatClampNeg x1) _
          rw [← eτ2]
          replace h := h τ2 eτ2
          refine x_aload_n (pc' := 20) dX5_append_19 rfl rfl rfl ?_
          refine x_dup (pc' := 21) dX5_append_20 rfl rfl ?_
          refine x_geti (pc' := 24) dX5_append_21 rfl lfX5_22 kd_67 rfl ?_
          refine x_iconst (pc' := 25) (v := 1) dX5_append_24 rfl (by decide) ?_
          refine x_iadd (pc' := 26) dX5_append_25 rfl ?_
          refine x_puti (pc' := 29) dX5_append_26 rfl lfX5_22 kd_67 rfl rfl rfl ?_
          obtain ⟨τ3, eτ3⟩ : ∃ τ : Mem, τ = (w1 τ2 67 2 ((τ2.1 67 2) + 1)) := ⟨_, rfl⟩
          show X none d mX5_append 29 [.ref 67, .int x1] [] (w1 τ2 67 2 ((τ2.1 67 2) + 1)) _
          rw [← eτ3]
          replace h := h τ3 eτ3
          refine x_vret dX5_append_29 rfl ?_
          show X none (d + 1) mX7_type 44 [.ref 0, .int x1] [] τ3 _
          refine x_aload_n (pc' := 45) dX7_type_44 rfl rfl rfl ?_
          refine x_getr (pc' := 48) dX7_type_45 rfl lfX7_46 kd_0 rfl rf_0_6 ?_
          refine x_geti (pc' := 51) dX7_type_48 rfl lfX7_218 kd_67 rfl ?_
          exact x_iret dX7_type_51 rfl rfl h
      · replace h := h.2 hc
        refine x_aload_n (pc' := 30) dX7_type_29 rfl rfl rfl ?_
        refine x_ldc (pc' := 32) dX7_type_30 rfl lcX7_81 ?_
        refine x_callV (pc' := 35) (As := [.int (-2000000004)]) dX7_type_32 rfl lmX7_69 kd_0 rfl rfl (Nat.le_of_ble_eq_true rfl) (Nat.le_of_ble_eq_true rfl) ?_
        show X none d mX7_refuse 0 [.ref 0, .int (-2000000004)] [] σ _
        refine x_iload_n (pc' := 1) dX7_refuse_0 rfl rfl rfl ?_
        refine x_ldc (pc' := 3) dX7_refuse_1 rfl lcX7_68 ?_
        refine x_icmp_ne (pc' := 6) (tgt := 19) dX7_refuse_3 (by decide) rfl (fun _ => ?_) (fun hc => absurd hc (by decide))
        refine x_iload_n (pc' := 20) dX7_refuse_19 rfl rfl rfl ?_
        refine x_ldc (pc' := 22) dX7_refuse_20 rfl lcX7_123 ?_
        refine x_icmp_ne (pc' := 25) (tgt := 38) dX7_refuse_22 (by decide) rfl (fun _ => ?_) (fun hc => absurd hc (by decide))
        refine x_aload_n (pc' := 39) dX7_refuse_38 rfl rfl rfl ?_
        refine x_dup (pc' := 40) dX7_refuse_39 rfl rfl ?_
        refine x_geti (pc' := 43) dX7_refuse_40 rfl lfX7_273 kd_0 rfl ?_
        refine x_iconst (pc' := 44) (v := 1) dX7_refuse_43 rfl (by decide) ?_
        refine x_iadd (pc' := 45) dX7_refuse_44 rfl ?_
        refine x_puti (pc' := 48) dX7_refuse_45 rfl lfX7_273 kd_0 rfl rfl rfl ?_
        obtain ⟨τ4, eτ4⟩ : ∃ τ : Mem, τ = (w1 σ 0 12 ((σ.1 0 12) + 1)) := ⟨_, rfl⟩
        show X none d mX7_refuse 48 [.ref 0, .int (-2000000004)] [] (w1 σ 0 12 ((σ.1 0 12) + 1)) _
        rw [← eτ4]
        replace h := h τ4 eτ4
        refine x_iload_n (pc' := 49) dX7_refuse_48 rfl rfl rfl ?_
        refine x_iret dX7_refuse_49 rfl rfl ?_
        show X none (d + 1) mX7_type 35 [.ref 0, .int x1] [.int (-2000000004)] τ4 _
        exact x_iret dX7_type_35 rfl rfl h
    · replace h := h.2 hc
      refine x_aload_n (pc' := 11) dX7_type_10 rfl rfl rfl ?_
      refine x_ldc (pc' := 13) dX7_type_11 rfl lcX7_68 ?_
      refine x_callV (pc' := 16) (As := [.int (-2000000002)]) dX7_type_13 rfl lmX7_69 kd_0 rfl rfl (Nat.le_of_ble_eq_true rfl) (Nat.le_of_ble_eq_true rfl) ?_
      show X none d mX7_refuse 0 [.ref 0, .int (-2000000002)] [] σ _
      refine x_iload_n (pc' := 1) dX7_refuse_0 rfl rfl rfl ?_
      refine x_ldc (pc' := 3) dX7_refuse_1 rfl lcX7_68 ?_
      refine x_icmp_ne (pc' := 6) (tgt := 19) dX7_refuse_3 (by decide) rfl (fun hc => absurd hc (by decide)) (fun _ => ?_)
      refine x_aload_n (pc' := 7) dX7_refuse_6 rfl rfl rfl ?_
      refine x_dup (pc' := 8) dX7_refuse_7 rfl rfl ?_
      refine x_geti (pc' := 11) dX7_refuse_8 rfl lfX7_267 kd_0 rfl ?_
      refine x_iconst (pc' := 12) (v := 1) dX7_refuse_11 rfl (by decide) ?_
      refine x_iadd (pc' := 13) dX7_refuse_12 rfl ?_
      refine x_puti (pc' := 16) dX7_refuse_13 rfl lfX7_267 kd_0 rfl rfl rfl ?_
      obtain ⟨τ5, eτ5⟩ : ∃ τ : Mem, τ = (w1 σ 0 10 ((σ.1 0 10) + 1)) := ⟨_, rfl⟩
      show X none d mX7_refuse 16 [.ref 0, .int (-2000000002)] [] (w1 σ 0 10 ((σ.1 0 10) + 1)) _
      rw [← eτ5]
      replace h := h τ5 eτ5
      refine x_goto (pc' := 48) dX7_refuse_16 (by decide) ?_
      refine x_iload_n (pc' := 49) dX7_refuse_48 rfl rfl rfl ?_
      refine x_iret dX7_refuse_49 rfl rfl ?_
      show X none (d + 1) mX7_type 16 [.ref 0, .int x1] [.int (-2000000002)] τ5 _
      exact x_iret dX7_type_16 rfl rfl h
set_option maxRecDepth 100000 in
set_option maxHeartbeats 4000000 in
theorem vX7_clear_0 {d : Nat} {σ : Mem} {Q : Option Value → Mem → Prop} 
    (h : (∀ τ1 : Mem, τ1 = (w1 σ 67 2 0) → Q (some (.int (σ.1 67 2))) τ1)) :
    X none d mX7_clear 0 [.ref 0, Unk] [] σ Q := by
  refine x_aload_n (pc' := 1) dX7_clear_0 rfl rfl rfl ?_
  refine x_getr (pc' := 4) dX7_clear_1 rfl lfX7_46 kd_0 rfl rf_0_6 ?_
  refine x_geti (pc' := 7) dX7_clear_4 rfl lfX7_218 kd_67 rfl ?_
  refine x_istore_n (pc' := 8) dX7_clear_7 rfl rfl (by decide) rfl (ls' := [.ref 0, .int (σ.1 67 2)]) rfl ?_
  refine x_aload_n (pc' := 9) dX7_clear_8 rfl rfl rfl ?_
  refine x_getr (pc' := 12) dX7_clear_9 rfl lfX7_46 kd_0 rfl rf_0_6 ?_
  refine x_iconst (pc' := 13) (v := 0) dX7_clear_12 rfl (by decide) ?_
  refine x_puti (pc' := 16) dX7_clear_13 rfl lfX7_218 kd_67 rfl rfl rfl ?_
  obtain ⟨τ1, eτ1⟩ : ∃ τ : Mem, τ = (w1 σ 67 2 0) := ⟨_, rfl⟩
  show X none d mX7_clear 16 [.ref 0, .int (σ.1 67 2)] [] (w1 σ 67 2 0) _
  rw [← eτ1]
  replace h := h τ1 eτ1
  refine x_iload_n (pc' := 17) dX7_clear_16 rfl rfl rfl ?_
  exact x_iret dX7_clear_17 rfl rfl h
set_option maxRecDepth 100000 in
set_option maxHeartbeats 4000000 in
theorem vX7_area_0 {d : Nat} {σ : Mem} {Q : Option Value → Mem → Prop} 
    (h : (X none (d + 2) mX5_read 0 [.ref 67] [] σ (fun r τ1 => ∃ u2 : Int32, r = some (.int u2) ∧ ((u2 < 0 → (X none (d + 2) mX6_copyFrom 0 [.ref 64, .ref 69] [] τ1 (fun r τ3 => r = none ∧ Q (some (.int (τ3.1 64 3))) τ3))) ∧ (¬ u2 < 0 → Q (some (.int ((-10) - u2))) τ1))))) :
    X none (d + 3) mX7_area 0 [.ref 0, Unk] [] σ Q := by
  refine x_aload_n (pc' := 1) dX7_area_0 rfl rfl rfl ?_
  refine x_getr (pc' := 4) dX7_area_1 rfl lfX7_46 kd_0 rfl rf_0_6 ?_
  refine x_callV (pc' := 7) (As := []) dX7_area_4 rfl lmX7_225 kd_67 rfl rfl (Nat.le_of_ble_eq_true rfl) (Nat.le_of_ble_eq_true rfl) ?_
  show X none (d + 2) mX5_read 0 [.ref 67] [] σ _
  refine X.mono h ?_
  rintro r τ1 ⟨u2, rfl, h⟩
  show X none (d + 3) mX7_area 7 [.ref 0, Unk] [.int u2] τ1 _
  refine x_istore_n (pc' := 8) dX7_area_7 rfl rfl (by decide) rfl (ls' := [.ref 0, .int u2]) rfl ?_
  refine x_iload_n (pc' := 9) dX7_area_8 rfl rfl rfl ?_
  refine x_if_lt (pc' := 12) (tgt := 17) dX7_area_9 (by decide) rfl (fun hc => ?_) (fun hc => ?_)
  · replace h := h.1 hc
    refine x_aload_n (pc' := 18) dX7_area_17 rfl rfl rfl ?_
    refine x_getr (pc' := 21) dX7_area_18 rfl lfX7_40 kd_0 rfl rf_0_5 ?_
    refine x_aload_n (pc' := 22) dX7_area_21 rfl rfl rfl ?_
    refine x_getr (pc' := 25) dX7_area_22 rfl lfX7_46 kd_0 rfl rf_0_6 ?_
    refine x_getr (pc' := 28) dX7_area_25 rfl lfX7_228 kd_67 rfl rf_67_1 ?_
    refine x_callV (pc' := 31) (As := [.ref 69]) dX7_area_28 rfl lmX7_231 (OKS.k okS_64) rfl rfl (Nat.le_of_ble_eq_true rfl) (Nat.le_of_ble_eq_true rfl) ?_
    show X none (d + 2) mX6_copyFrom 0 [.ref 64, .ref 69] [] τ1 _
    refine X.mono h ?_
    rintro r τ3 ⟨rfl, h⟩
    show X none (d + 3) mX7_area 31 [.ref 0, .int u2] [] τ3 _
    refine x_aload_n (pc' := 32) dX7_area_31 rfl rfl rfl ?_
    refine x_getr (pc' := 35) dX7_area_32 rfl lfX7_40 kd_0 rfl rf_0_5 ?_
    refine x_geti (pc' := 38) dX7_area_35 rfl lfX7_235 (OKS.k okS_64) rfl ?_
    exact x_iret dX7_area_38 rfl rfl h
  · replace h := h.2 hc
    refine x_bipush (pc' := 14) (v := (-10)) dX7_area_12 rfl (by decide) ?_
    refine x_iload_n (pc' := 15) dX7_area_14 rfl rfl rfl ?_
    refine x_isub (pc' := 16) dX7_area_15 rfl ?_
    exact x_iret dX7_area_16 rfl rfl h
set_option maxRecDepth 100000 in
set_option maxHeartbeats 4000000 in
theorem vX7_inside_0 {d : Nat} {σ : Mem} {Q : Option Value → Mem → Prop} 
    (h : (X none (d + 2) mX4_pickShape 0 [.ref 57, .ref 1, .ref 64, Unk] [] σ (fun r τ1 => r = none ∧ (X none (d + 2) mX4_worthOfAll 0 [.ref 57, .ref 1, Unk, Unk] [] τ1 (fun r τ2 => ∃ u3 : Int32, r = some (.int u3) ∧ Q (some (.int u3)) τ2))))) :
    X none (d + 3) mX7_inside 0 [.ref 0] [] σ Q := by
  refine x_aload_n (pc' := 1) dX7_inside_0 rfl rfl rfl ?_
  refine x_getr (pc' := 4) dX7_inside_1 rfl lfX7_26 kd_0 rfl rf_0_2 ?_
  refine x_aload_n (pc' := 5) dX7_inside_4 rfl rfl rfl ?_
  refine x_getr (pc' := 8) dX7_inside_5 rfl lfX7_10 kd_0 rfl rf_0_0 ?_
  refine x_aload_n (pc' := 9) dX7_inside_8 rfl rfl rfl ?_
  refine x_getr (pc' := 12) dX7_inside_9 rfl lfX7_40 kd_0 rfl rf_0_5 ?_
  refine x_callV (pc' := 15) (As := [.ref 1, .ref 64]) dX7_inside_12 rfl lmX7_238 (OKP.k okP_57) rfl rfl (Nat.le_of_ble_eq_true rfl) (Nat.le_of_ble_eq_true rfl) ?_
  show X none (d + 2) mX4_pickShape 0 [.ref 57, .ref 1, .ref 64, Unk] [] σ _
  refine X.mono h ?_
  rintro r τ1 ⟨rfl, h⟩
  show X none (d + 3) mX7_inside 15 [.ref 0] [] τ1 _
  refine x_aload_n (pc' := 16) dX7_inside_15 rfl rfl rfl ?_
  refine x_getr (pc' := 19) dX7_inside_16 rfl lfX7_26 kd_0 rfl rf_0_2 ?_
  refine x_aload_n (pc' := 20) dX7_inside_19 rfl rfl rfl ?_
  refine x_getr (pc' := 23) dX7_inside_20 rfl lfX7_10 kd_0 rfl rf_0_0 ?_
  refine x_callV (pc' := 26) (As := [.ref 1]) dX7_inside_23 rfl lmX7_153 (OKP.k okP_57) rfl rfl (Nat.le_of_ble_eq_true rfl) (Nat.le_of_ble_eq_true rfl) ?_
  show X none (d + 2) mX4_worthOfAll 0 [.ref 57, .ref 1, Unk, Unk] [] τ1 _
  refine X.mono h ?_
  rintro r τ2 ⟨u3, rfl, h⟩
  show X none (d + 3) mX7_inside 26 [.ref 0] [.int u3] τ2 _
  exact x_iret dX7_inside_26 rfl rfl h
set_option maxRecDepth 100000 in
set_option maxHeartbeats 4000000 in
theorem vX7_covers_0 {d : Nat} {σ : Mem} {Q : Option Value → Mem → Prop} {x1 x2 : Int32} 
    (h : (X none (d + 1) mX7_isPlace 0 [.int x1, .int x2] [] σ (fun r τ1 => ∃ u2 : Int32, r = some (.int u2) ∧ ((¬ u2 = 0 → (X none (d + 1) mX6_holds 0 [.ref 64, .int x1, .int x2, Unk, Unk, Unk] [] τ1 (fun r τ3 => ∃ u4 : Int32, r = some (.int u4) ∧ ((u4 = 0 → Q (some (.int 0)) τ3) ∧ (¬ u4 = 0 → Q (some (.int 1)) τ3))))) ∧ (u2 = 0 → (∀ τ5 : Mem, τ5 = (w1 τ1 0 10 ((τ1.1 0 10) + 1)) → Q (some (.int (-2000000002))) τ5)))))) :
    X none (d + 2) mX7_covers 0 [.ref 0, .int x1, .int x2] [] σ Q := by
  refine x_iload_n (pc' := 1) dX7_covers_0 rfl rfl rfl ?_
  refine x_iload_n (pc' := 2) dX7_covers_1 rfl rfl rfl ?_
  refine x_callS (pc' := 5) (As := [.int x1, .int x2]) dX7_covers_2 rfl lmX7_64 rfl rfl (Nat.le_of_ble_eq_true rfl) (Nat.le_of_ble_eq_true rfl) ?_
  show X none (d + 1) mX7_isPlace 0 [.int x1, .int x2] [] σ _
  refine X.mono h ?_
  rintro r τ1 ⟨u2, rfl, h⟩
  show X none (d + 2) mX7_covers 5 [.ref 0, .int x1, .int x2] [.int u2] τ1 _
  refine x_if_ne (pc' := 8) (tgt := 15) dX7_covers_5 (by decide) rfl (fun hc => ?_) (fun hc => ?_)
  · replace h := h.1 hc
    refine x_aload_n (pc' := 16) dX7_covers_15 rfl rfl rfl ?_
    refine x_getr (pc' := 19) dX7_covers_16 rfl lfX7_40 kd_0 rfl rf_0_5 ?_
    refine x_iload_n (pc' := 20) dX7_covers_19 rfl rfl rfl ?_
    refine x_iload_n (pc' := 21) dX7_covers_20 rfl rfl rfl ?_
    refine x_callV (pc' := 24) (As := [.int x1, .int x2]) dX7_covers_21 rfl lmX7_242 (OKS.k okS_64) rfl rfl (Nat.le_of_ble_eq_true rfl) (Nat.le_of_ble_eq_true rfl) ?_
    show X none (d + 1) mX6_holds 0 [.ref 64, .int x1, .int x2, Unk, Unk, Unk] [] τ1 _
    refine X.mono h ?_
    rintro r τ3 ⟨u4, rfl, h⟩
    show X none (d + 2) mX7_covers 24 [.ref 0, .int x1, .int x2] [.int u4] τ3 _
    refine x_if_eq (pc' := 27) (tgt := 31) dX7_covers_24 (by decide) rfl (fun hc => ?_) (fun hc => ?_)
    · replace h := h.1 hc
      refine x_iconst (pc' := 32) (v := 0) dX7_covers_31 rfl (by decide) ?_
      exact x_iret dX7_covers_32 rfl rfl h
    · replace h := h.2 hc
      refine x_iconst (pc' := 28) (v := 1) dX7_covers_27 rfl (by decide) ?_
      refine x_goto (pc' := 32) dX7_covers_28 (by decide) ?_
      exact x_iret dX7_covers_32 rfl rfl h
  · replace h := h.2 hc
    refine x_aload_n (pc' := 9) dX7_covers_8 rfl rfl rfl ?_
    refine x_ldc (pc' := 11) dX7_covers_9 rfl lcX7_68 ?_
    refine x_callV (pc' := 14) (As := [.int (-2000000002)]) dX7_covers_11 rfl lmX7_69 kd_0 rfl rfl (Nat.le_of_ble_eq_true rfl) (Nat.le_of_ble_eq_true rfl) ?_
    show X none (d + 1) mX7_refuse 0 [.ref 0, .int (-2000000002)] [] τ1 _
    refine x_iload_n (pc' := 1) dX7_refuse_0 rfl rfl rfl ?_
    refine x_ldc (pc' := 3) dX7_refuse_1 rfl lcX7_68 ?_
    refine x_icmp_ne (pc' := 6) (tgt := 19) dX7_refuse_3 (by decide) rfl (fun hc => absurd hc (by decide)) (fun _ => ?_)
    refine x_aload_n (pc' := 7) dX7_refuse_6 rfl rfl rfl ?_
    refine x_dup (pc' := 8) dX7_refuse_7 rfl rfl ?_
    refine x_geti (pc' := 11) dX7_refuse_8 rfl lfX7_267 kd_0 rfl ?_
    refine x_iconst (pc' := 12) (v := 1) dX7_refuse_11 rfl (by decide) ?_
    refine x_iadd (pc' := 13) dX7_refuse_12 rfl ?_
    refine x_puti (pc' := 16) dX7_refuse_13 rfl lfX7_267 kd_0 rfl rfl rfl ?_
    obtain ⟨τ5, eτ5⟩ : ∃ τ : Mem, τ = (w1 τ1 0 10 ((τ1.1 0 10) + 1)) := ⟨_, rfl⟩
    show X none (d + 1) mX7_refuse 16 [.ref 0, .int (-2000000002)] [] (w1 τ1 0 10 ((τ1.1 0 10) + 1)) _
    rw [← eτ5]
    replace h := h τ5 eτ5
    refine x_goto (pc' := 48) dX7_refuse_16 (by decide) ?_
    refine x_iload_n (pc' := 49) dX7_refuse_48 rfl rfl rfl ?_
    refine x_iret dX7_refuse_49 rfl rfl ?_
    show X none (d + 2) mX7_covers 14 [.ref 0, .int x1, .int x2] [.int (-2000000002)] τ5 _
    exact x_iret dX7_covers_14 rfl rfl h
set_option maxRecDepth 100000 in
set_option maxHeartbeats 4000000 in
theorem vX7_found_0 {d : Nat} {σ : Mem} {Q : Option Value → Mem → Prop} {x1 : Int32} 
    (h : ((0 ≤ x1 → (X none (d + 3) mX4_pickShape 0 [.ref 57, .ref 1, .ref 64, Unk] [] σ (fun r τ1 => r = none ∧ (X none (d + 3) mX4_sortByPlace 0 [.ref 57, .ref 1] [] τ1 (fun r τ2 => r = none ∧ (X none (d + 3) mX4_numberOf 0 [.ref 57, .ref 1, .int x1] [] τ2 (fun r τ3 => ∃ u4 : Int32, r = some (.int u4) ∧ Q (some (.int u4)) τ3))))))) ∧ (¬ 0 ≤ x1 → (∀ τ5 : Mem, τ5 = (w1 σ 0 10 ((σ.1 0 10) + 1)) → Q (some (.int (-2000000002))) τ5)))) :
    X none (d + 4) mX7_found 0 [.ref 0, .int x1] [] σ Q := by
  refine x_iload_n (pc' := 1) dX7_found_0 rfl rfl rfl ?_
  refine x_if_ge (pc' := 4) (tgt := 11) dX7_found_1 (by decide) rfl (fun hc => ?_) (fun hc => ?_)
  · replace h := h.1 hc
    refine x_aload_n (pc' := 12) dX7_found_11 rfl rfl rfl ?_
    refine x_getr (pc' := 15) dX7_found_12 rfl lfX7_26 kd_0 rfl rf_0_2 ?_
    refine x_aload_n (pc' := 16) dX7_found_15 rfl rfl rfl ?_
    refine x_getr (pc' := 19) dX7_found_16 rfl lfX7_10 kd_0 rfl rf_0_0 ?_
    refine x_aload_n (pc' := 20) dX7_found_19 rfl rfl rfl ?_
    refine x_getr (pc' := 23) dX7_found_20 rfl lfX7_40 kd_0 rfl rf_0_5 ?_
    refine x_callV (pc' := 26) (As := [.ref 1, .ref 64]) dX7_found_23 rfl lmX7_238 (OKP.k okP_57) rfl rfl (Nat.le_of_ble_eq_true rfl) (Nat.le_of_ble_eq_true rfl) ?_
    show X none (d + 3) mX4_pickShape 0 [.ref 57, .ref 1, .ref 64, Unk] [] σ _
    refine X.mono h ?_
    rintro r τ1 ⟨rfl, h⟩
    show X none (d + 4) mX7_found 26 [.ref 0, .int x1] [] τ1 _
    refine x_aload_n (pc' := 27) dX7_found_26 rfl rfl rfl ?_
    refine x_getr (pc' := 30) dX7_found_27 rfl lfX7_26 kd_0 rfl rf_0_2 ?_
    refine x_aload_n (pc' := 31) dX7_found_30 rfl rfl rfl ?_
    refine x_getr (pc' := 34) dX7_found_31 rfl lfX7_10 kd_0 rfl rf_0_0 ?_
    refine x_callV (pc' := 37) (As := [.ref 1]) dX7_found_34 rfl lmX7_160 (OKP.k okP_57) rfl rfl (Nat.le_of_ble_eq_true rfl) (Nat.le_of_ble_eq_true rfl) ?_
    show X none (d + 3) mX4_sortByPlace 0 [.ref 57, .ref 1] [] τ1 _
    refine X.mono h ?_
    rintro r τ2 ⟨rfl, h⟩
    show X none (d + 4) mX7_found 37 [.ref 0, .int x1] [] τ2 _
    refine x_aload_n (pc' := 38) dX7_found_37 rfl rfl rfl ?_
    refine x_getr (pc' := 41) dX7_found_38 rfl lfX7_26 kd_0 rfl rf_0_2 ?_
    refine x_aload_n (pc' := 42) dX7_found_41 rfl rfl rfl ?_
    refine x_getr (pc' := 45) dX7_found_42 rfl lfX7_10 kd_0 rfl rf_0_0 ?_
    refine x_iload_n (pc' := 46) dX7_found_45 rfl rfl rfl ?_
    refine x_callV (pc' := 49) (As := [.ref 1, .int x1]) dX7_found_46 rfl lmX7_143 (OKP.k okP_57) rfl rfl (Nat.le_of_ble_eq_true rfl) (Nat.le_of_ble_eq_true rfl) ?_
    show X none (d + 3) mX4_numberOf 0 [.ref 57, .ref 1, .int x1] [] τ2 _
    refine X.mono h ?_
    rintro r τ3 ⟨u4, rfl, h⟩
    show X none (d + 4) mX7_found 49 [.ref 0, .int x1] [.int u4] τ3 _
    exact x_iret dX7_found_49 rfl rfl h
  · replace h := h.2 hc
    refine x_aload_n (pc' := 5) dX7_found_4 rfl rfl rfl ?_
    refine x_ldc (pc' := 7) dX7_found_5 rfl lcX7_68 ?_
    refine x_callV (pc' := 10) (As := [.int (-2000000002)]) dX7_found_7 rfl lmX7_69 kd_0 rfl rfl (Nat.le_of_ble_eq_true rfl) (Nat.le_of_ble_eq_true rfl) ?_
    show X none (d + 3) mX7_refuse 0 [.ref 0, .int (-2000000002)] [] σ _
    refine x_iload_n (pc' := 1) dX7_refuse_0 rfl rfl rfl ?_
    refine x_ldc (pc' := 3) dX7_refuse_1 rfl lcX7_68 ?_
    refine x_icmp_ne (pc' := 6) (tgt := 19) dX7_refuse_3 (by decide) rfl (fun hc => absurd hc (by decide)) (fun _ => ?_)
    refine x_aload_n (pc' := 7) dX7_refuse_6 rfl rfl rfl ?_
    refine x_dup (pc' := 8) dX7_refuse_7 rfl rfl ?_
    refine x_geti (pc' := 11) dX7_refuse_8 rfl lfX7_267 kd_0 rfl ?_
    refine x_iconst (pc' := 12) (v := 1) dX7_refuse_11 rfl (by decide) ?_
    refine x_iadd (pc' := 13) dX7_refuse_12 rfl ?_
    refine x_puti (pc' := 16) dX7_refuse_13 rfl lfX7_267 kd_0 rfl rfl rfl ?_
    obtain ⟨τ5, eτ5⟩ : ∃ τ : Mem, τ = (w1 σ 0 10 ((σ.1 0 10) + 1)) := ⟨_, rfl⟩
    show X none (d + 3) mX7_refuse 16 [.ref 0, .int (-2000000002)] [] (w1 σ 0 10 ((σ.1 0 10) + 1)) _
    rw [← eτ5]
    replace h := h τ5 eτ5
    refine x_goto (pc' := 48) dX7_refuse_16 (by decide) ?_
    refine x_iload_n (pc' := 49) dX7_refuse_48 rfl rfl rfl ?_
    refine x_iret dX7_refuse_49 rfl rfl ?_
    show X none (d + 4) mX7_found 10 [.ref 0, .int x1] [.int (-2000000002)] τ5 _
    exact x_iret dX7_found_10 rfl rfl h
set_option maxRecDepth 100000 in
set_option maxHeartbeats 4000000 in
theorem vX7_mow_0 {d : Nat} {σ : Mem} {Q : Option Value → Mem → Prop} 
    (h : (X none (d + 4) mX4_pickShape 0 [.ref 57, .ref 1, .ref 64, Unk] [] σ (fun r τ1 => r = none ∧ (X none (d + 4) mX7_takePicked 0 [.ref 0, Unk, Unk] [] τ1 (fun r τ2 => ∃ u3 : Int32, r = some (.int u3) ∧ Q (some (.int u3)) τ2))))) :
    X none (d + 5) mX7_mow 0 [.ref 0] [] σ Q := by
  refine x_aload_n (pc' := 1) dX7_mow_0 rfl rfl rfl ?_
  refine x_getr (pc' := 4) dX7_mow_1 rfl lfX7_26 kd_0 rfl rf_0_2 ?_
  refine x_aload_n (pc' := 5) dX7_mow_4 rfl rfl rfl ?_
  refine x_getr (pc' := 8) dX7_mow_5 rfl lfX7_10 kd_0 rfl rf_0_0 ?_
  refine x_aload_n (pc' := 9) dX7_mow_8 rfl rfl rfl ?_
  refine x_getr (pc' := 12) dX7_mow_9 rfl lfX7_40 kd_0 rfl rf_0_5 ?_
  refine x_callV (pc' := 15) (As := [.ref 1, .ref 64]) dX7_mow_12 rfl lmX7_238 (OKP.k okP_57) rfl rfl (Nat.le_of_ble_eq_true rfl) (Nat.le_of_ble_eq_true rfl) ?_
  show X none (d + 4) mX4_pickShape 0 [.ref 57, .ref 1, .ref 64, Unk] [] σ _
  refine X.mono h ?_
  rintro r τ1 ⟨rfl, h⟩
  show X none (d + 5) mX7_mow 15 [.ref 0] [] τ1 _
  refine x_aload_n (pc' := 16) dX7_mow_15 rfl rfl rfl ?_
  refine x_callV (pc' := 19) (As := []) dX7_mow_16 rfl lmX7_113 kd_0 rfl rfl (Nat.le_of_ble_eq_true rfl) (Nat.le_of_ble_eq_true rfl) ?_
  show X none (d + 4) mX7_takePicked 0 [.ref 0, Unk, Unk] [] τ1 _
  refine X.mono h ?_
  rintro r τ2 ⟨u3, rfl, h⟩
  show X none (d + 5) mX7_mow 19 [.ref 0] [.int u3] τ2 _
  exact x_iret dX7_mow_19 rfl rfl h
