set_option maxRecDepth 100000 in
set_option maxHeartbeats 4000000 in
theorem vX7_scatter_0 {d : Nat} {σ : Mem} {Q : Option Value → Mem → Prop} {x1 x2 : Int32} 
    (h : ((x1 < 0 → (∀ τ1 : Mem, τ1 = (w1 σ 0 10 ((σ.1 0 10) + 1)) → Q (some (.int (-2000000002))) τ1)) ∧ (¬ x1 < 0 → ((999999 < x1 → (∀ τ2 : Mem, τ2 = (w1 σ 0 10 ((σ.1 0 10) + 1)) → Q (some (.int (-2000000002))) τ2)) ∧ (¬ 999999 < x1 → ((x2 < 1 → (∀ τ3 : Mem, τ3 = (w1 σ 0 10 ((σ.1 0 10) + 1)) → Q (some (.int (-2000000002))) τ3)) ∧ (¬ x2 < 1 → ((x2 ≤ 30 → ((60 < (((σ.1 1 5) - (σ.1 1 6)) + x2) → (∀ τ4 : Mem, τ4 = (w1 σ 0 12 ((σ.1 0 12) + 1)) → Q (some (.int (-2000000004))) τ4)) ∧ (¬ 60 < (((σ.1 1 5) - (σ.1 1 6)) + x2) → ((9999 < (((σ.1 1 10) + x2) - 1) → (∀ τ5 : Mem, τ5 = (w1 σ 0 12 ((σ.1 0 12) + 1)) → Q (some (.int (-2000000004))) τ5)) ∧ (¬ 9999 < (((σ.1 1 10) + x2) - 1) → (X none (d + 2) mX2_keep 0 [.ref 7, .ref 1] [] σ (fun r τ6 => r = none ∧ X none (d + 3) mX7_scatter 77 [.ref 0, .int x1, .int x2, .long ((x1).toInt64), Unk, .int 0, Unk, Unk] [] τ6 Q))))))) ∧ (¬ x2 ≤ 30 → (∀ τ7 : Mem, τ7 = (w1 σ 0 10 ((σ.1 0 10) + 1)) → Q (some (.int (-2000000002))) τ7)))))))))) :
    X none (d + 3) mX7_scatter 0 [.ref 0, .int x1, .int x2, Unk, Unk, Unk, Unk, Unk] [] σ Q := by
  refine x_iload_n (pc' := 1) dX7_scatter_0 rfl rfl rfl ?_
  refine x_if_lt (pc' := 4) (tgt := 21) dX7_scatter_1 (by decide) rfl (fun hc => ?_) (fun hc => ?_)
  · replace h := h.1 hc
    refine x_aload_n (pc' := 22) dX7_scatter_21 rfl rfl rfl ?_
    refine x_ldc (pc' := 24) dX7_scatter_22 rfl lcX7_68 ?_
    refine x_callV (pc' := 27) (As := [.int (-2000000002)]) dX7_scatter_24 rfl lmX7_69 kd_0 rfl rfl (Nat.le_of_ble_eq_true rfl) (Nat.le_of_ble_eq_true rfl) ?_
    show X none (d + 2) mX7_refuse 0 [.ref 0, .int (-2000000002)] [] σ _
    refine x_iload_n (pc' := 1) dX7_refuse_0 rfl rfl rfl ?_
    refine x_ldc (pc' := 3) dX7_refuse_1 rfl lcX7_68 ?_
    refine x_icmp_ne (pc' := 6) (tgt := 19) dX7_refuse_3 (by decide) rfl (fun hc => absurd hc (by decide)) (fun _ => ?_)
    refine x_aload_n (pc' := 7) dX7_refuse_6 rfl rfl rfl ?_
    refine x_dup (pc' := 8) dX7_refuse_7 rfl rfl ?_
    refine x_geti (pc' := 11) dX7_refuse_8 rfl lfX7_267 kd_0 rfl ?_
    refine x_iconst (pc' := 12) (v := 1) dX7_refuse_11 rfl (by decide) ?_
    refine x_iadd (pc' := 13) dX7_refuse_12 rfl ?_
    refine x_puti (pc' := 16) dX7_refuse_13 rfl lfX7_267 kd_0 rfl rfl rfl ?_
    obtain ⟨τ1, eτ1⟩ : ∃ τ : Mem, τ = (w1 σ 0 10 ((σ.1 0 10) + 1)) := ⟨_, rfl⟩
    show X none (d + 2) mX7_refuse 16 [.ref 0, .int (-2000000002)] [] (w1 σ 0 10 ((σ.1 0 10) + 1)) _
    rw [← eτ1]
    replace h := h τ1 eτ1
    refine x_goto (pc' := 48) dX7_refuse_16 (by decide) ?_
    refine x_iload_n (pc' := 49) dX7_refuse_48 rfl rfl rfl ?_
    refine x_iret dX7_refuse_49 rfl rfl ?_
    show X none (d + 3) mX7_scatter 27 [.ref 0, .int x1, .int x2, Unk, Unk, Unk, Unk, Unk] [.int (-2000000002)] τ1 _
    exact x_iret dX7_scatter_27 rfl rfl h
  · replace h := h.2 hc
    refine x_iload_n (pc' := 5) dX7_scatter_4 rfl rfl rfl ?_
    refine x_ldc (pc' := 7) dX7_scatter_5 rfl lcX7_96 ?_
    refine x_icmp_gt (pc' := 10) (tgt := 21) dX7_scatter_7 (by decide) rfl (fun hc => ?_) (fun hc => ?_)
    · replace h := h.1 hc
      refine x_aload_n (pc' := 22) dX7_scatter_21 rfl rfl rfl ?_
      refine x_ldc (pc' := 24) dX7_scatter_22 rfl lcX7_68 ?_
      refine x_callV (pc' := 27) (As := [.int (-2000000002)]) dX7_scatter_24 rfl lmX7_69 kd_0 rfl rfl (Nat.le_of_ble_eq_true rfl) (Nat.le_of_ble_eq_true rfl) ?_
      show X none (d + 2) mX7_refuse 0 [.ref 0, .int (-2000000002)] [] σ _
      refine x_iload_n (pc' := 1) dX7_refuse_0 rfl rfl rfl ?_
      refine x_ldc (pc' := 3) dX7_refuse_1 rfl lcX7_68 ?_
      refine x_icmp_ne (pc' := 6) (tgt := 19) dX7_refuse_3 (by decide) rfl (fun hc => absurd hc (by decide)) (fun _ => ?_)
      refine x_aload_n (pc' := 7) dX7_refuse_6 rfl rfl rfl ?_
      refine x_dup (pc' := 8) dX7_refuse_7 rfl rfl ?_
      refine x_geti (pc' := 11) dX7_refuse_8 rfl lfX7_267 kd_0 rfl ?_
      refine x_iconst (pc' := 12) (v := 1) dX7_refuse_11 rfl (by decide) ?_
      refine x_iadd (pc' := 13) dX7_refuse_12 rfl ?_
      refine x_puti (pc' := 16) dX7_refuse_13 rfl lfX7_267 kd_0 rfl rfl rfl ?_
      obtain ⟨τ2, eτ2⟩ : ∃ τ : Mem, τ = (w1 σ 0 10 ((σ.1 0 10) + 1)) := ⟨_, rfl⟩
      show X none (d + 2) mX7_refuse 16 [.ref 0, .int (-2000000002)] [] (w1 σ 0 10 ((σ.1 0 10) + 1)) _
      rw [← eτ2]
      replace h := h τ2 eτ2
      refine x_goto (pc' := 48) dX7_refuse_16 (by decide) ?_
      refine x_iload_n (pc' := 49) dX7_refuse_48 rfl rfl rfl ?_
      refine x_iret dX7_refuse_49 rfl rfl ?_
      show X none (d + 3) mX7_scatter 27 [.ref 0, .int x1, .int x2, Unk, Unk, Unk, Unk, Unk] [.int (-2000000002)] τ2 _
      exact x_iret dX7_scatter_27 rfl rfl h
    · replace h := h.2 hc
      refine x_iload_n (pc' := 11) dX7_scatter_10 rfl rfl rfl ?_
      refine x_iconst (pc' := 12) (v := 1) dX7_scatter_11 rfl (by decide) ?_
      refine x_icmp_lt (pc' := 15) (tgt := 21) dX7_scatter_12 (by decide) rfl (fun hc => ?_) (fun hc => ?_)
      · replace h := h.1 hc
        refine x_aload_n (pc' := 22) dX7_scatter_21 rfl rfl rfl ?_
        refine x_ldc (pc' := 24) dX7_scatter_22 rfl lcX7_68 ?_
        refine x_callV (pc' := 27) (As := [.int (-2000000002)]) dX7_scatter_24 rfl lmX7_69 kd_0 rfl rfl (Nat.le_of_ble_eq_true rfl) (Nat.le_of_ble_eq_true rfl) ?_
        show X none (d + 2) mX7_refuse 0 [.ref 0, .int (-2000000002)] [] σ _
        refine x_iload_n (pc' := 1) dX7_refuse_0 rfl rfl rfl ?_
        refine x_ldc (pc' := 3) dX7_refuse_1 rfl lcX7_68 ?_
        refine x_icmp_ne (pc' := 6) (tgt := 19) dX7_refuse_3 (by decide) rfl (fun hc => absurd hc (by decide)) (fun _ => ?_)
        refine x_aload_n (pc' := 7) dX7_refuse_6 rfl rfl rfl ?_
        refine x_dup (pc' := 8) dX7_refuse_7 rfl rfl ?_
        refine x_geti (pc' := 11) dX7_refuse_8 rfl lfX7_267 kd_0 rfl ?_
        refine x_iconst (pc' := 12) (v := 1) dX7_refuse_11 rfl (by decide) ?_
        refine x_iadd (pc' := 13) dX7_refuse_12 rfl ?_
        refine x_puti (pc' := 16) dX7_refuse_13 rfl lfX7_267 kd_0 rfl rfl rfl ?_
        obtain ⟨τ3, eτ3⟩ : ∃ τ : Mem, τ = (w1 σ 0 10 ((σ.1 0 10) + 1)) := ⟨_, rfl⟩
        show X none (d + 2) mX7_refuse 16 [.ref 0, .int (-2000000002)] [] (w1 σ 0 10 ((σ.1 0 10) + 1)) _
        rw [← eτ3]
        replace h := h τ3 eτ3
        refine x_goto (pc' := 48) dX7_refuse_16 (by decide) ?_
        refine x_iload_n (pc' := 49) dX7_refuse_48 rfl rfl rfl ?_
        refine x_iret dX7_refuse_49 rfl rfl ?_
        show X none (d + 3) mX7_scatter 27 [.ref 0, .int x1, .int x2, Unk, Unk, Unk, Unk, Unk] [.int (-2000000002)] τ3 _
        exact x_iret dX7_scatter_27 rfl rfl h
      · replace h := h.2 hc
        refine x_iload_n (pc' := 16) dX7_scatter_15 rfl rfl rfl ?_
        refine x_bipush (pc' := 18) (v := 30) dX7_scatter_16 rfl (by decide) ?_
        refine x_icmp_le (pc' := 21) (tgt := 28) dX7_scatter_18 (by decide) rfl (fun hc => ?_) (fun hc => ?_)
        · replace h := h.1 hc
          refine x_aload_n (pc' := 29) dX7_scatter_28 rfl rfl rfl ?_
          refine x_getr (pc' := 32) dX7_scatter_29 rfl lfX7_10 kd_0 rfl rf_0_0 ?_
          refine x_callV (pc' := 35) (As := []) dX7_scatter_32 rfl lmX7_73 (OKF.k okF_1) rfl rfl (Nat.le_of_ble_eq_true rfl) (Nat.le_of_ble_eq_true rfl) ?_
          show X none (d + 2) mX0_there 0 [.ref 1] [] σ _
          refine x_aload_n (pc' := 1) dX0_there_0 rfl rfl rfl ?_
          refine x_geti (pc' := 4) dX0_there_1 rfl lfX0_27 (OKF.k okF_1) rfl ?_
          refine x_aload_n (pc' := 5) dX0_there_4 rfl rfl rfl ?_
          refine x_geti (pc' := 8) dX0_there_5 rfl lfX0_31 (OKF.k okF_1) rfl ?_
          refine x_isub (pc' := 9) dX0_there_8 rfl ?_
          refine x_iret dX0_there_9 rfl rfl ?_
          show X none (d + 3) mX7_scatter 35 [.ref 0, .int x1, .int x2, Unk, Unk, Unk, Unk, Unk] [.int ((σ.1 1 5) - (σ.1 1 6))] σ _
          refine x_iload_n (pc' := 36) dX7_scatter_35 rfl rfl rfl ?_
          refine x_iadd (pc' := 37) dX7_scatter_36 rfl ?_
          refine x_bipush (pc' := 39) (v := 60) dX7_scatter_37 rfl (by decide) ?_
          refine x_icmp_gt (pc' := 42) (tgt := 53) dX7_scatter_39 (by decide) rfl (fun hc => ?_) (fun hc => ?_)
          · replace h := h.1 hc
            refine x_aload_n (pc' := 54) dX7_scatter_53 rfl rfl rfl ?_
            refine x_ldc (pc' := 56) dX7_scatter_54 rfl lcX7_81 ?_
            refine x_callV (pc' := 59) (As := [.int (-2000000004)]) dX7_scatter_56 rfl lmX7_69 kd_0 rfl rfl (Nat.le_of_ble_eq_true rfl) (Nat.le_of_ble_eq_true rfl) ?_
            show X none (d + 2) mX7_refuse 0 [.ref 0, .int (-2000000004)] [] σ _
            refine x_iload_n (pc' := 1) dX7_refuse_0 rfl rfl rfl ?_
            refine x_ldc (pc' := 3) dX7_refuse_1 rfl lcX7_68 ?_
            refine x_icmp_ne (pc' := 6) (tgt := 19) dX7_refuse_3 (by decide) rfl (fun _ => ?_) (fun hc => absurd hc (by decide))
            refine x_iload_n (pc' := 20) dX7_refuse_19 rfl rfl rfl ?_
            refine x_ldc (pc' := 22) dX7_refuse_20 rfl lcX7_123 ?_
            refine x_icmp_ne (pc' := 25) (tgt := 38) dX7_refuse_22 (by decide) rfl (fun _ => ?_) (fun hc => absurd hc (by decide))
            refine x_aload_n (pc' := 39) dX7_refuse_38 rfl rfl rfl ?_
            refine x_dup (pc' := 40) dX7_refuse_39 rfl rfl ?_
            refine x_geti (pc' := 43) dX7_refuse_40 rfl lfX7_273 kd_0 rfl ?_
            refine x_iconst (pc' := 44) (v := 1) dX7_refuse_43 rfl (by decide) ?_
            refine x_iadd (pc' := 45) dX7_refuse_44 rfl ?_
            refine x_puti (pc' := 48) dX7_refuse_45 rfl lfX7_273 kd_0 rfl rfl rfl ?_
            obtain ⟨τ4, eτ4⟩ : ∃ τ : Mem, τ = (w1 σ 0 12 ((σ.1 0 12) + 1)) := ⟨_, rfl⟩
            show X none (d + 2) mX7_refuse 48 [.ref 0, .int (-2000000004)] [] (w1 σ 0 12 ((σ.1 0 12) + 1)) _
            rw [← eτ4]
            replace h := h τ4 eτ4
            refine x_iload_n (pc' := 49) dX7_refuse_48 rfl rfl rfl ?_
            refine x_iret dX7_refuse_49 rfl rfl ?_
            show X none (d + 3) mX7_scatter 59 [.ref 0, .int x1, .int x2, Unk, Unk, Unk, Unk, Unk] [.int (-2000000004)] τ4 _
            exact x_iret dX7_scatter_59 rfl rfl h
          · replace h := h.2 hc
            refine x_aload_n (pc' := 43) dX7_scatter_42 rfl rfl rfl ?_
            refine x_getr (pc' := 46) dX7_scatter_43 rfl lfX7_10 kd_0 rfl rf_0_0 ?_
            refine x_iload_n (pc' := 47) dX7_scatter_46 rfl rfl rfl ?_
            refine x_callV (pc' := 50) (As := [.int x2]) dX7_scatter_47 rfl lmX7_77 (OKF.k okF_1) rfl rfl (Nat.le_of_ble_eq_true rfl) (Nat.le_of_ble_eq_true rfl) ?_
            show X none (d + 2) mX0_hasNumbers 0 [.ref 1, .int x2] [] σ _
            refine x_aload_n (pc' := 1) dX0_hasNumbers_0 rfl rfl rfl ?_
            refine x_geti (pc' := 4) dX0_hasNumbers_1 rfl lfX0_34 (OKF.k okF_1) rfl ?_
            refine x_iload_n (pc' := 5) dX0_hasNumbers_4 rfl rfl rfl ?_
            refine x_iadd (pc' := 6) dX0_hasNumbers_5 rfl ?_
            refine x_iconst (pc' := 7) (v := 1) dX0_hasNumbers_6 rfl (by decide) ?_
            refine x_isub (pc' := 8) dX0_hasNumbers_7 rfl ?_
            refine x_sipush (pc' := 11) (v := 9999) dX0_hasNumbers_8 rfl (by decide) ?_
            refine x_icmp_gt (pc' := 14) (tgt := 18) dX0_hasNumbers_11 (by decide) rfl (fun hc => ?_) (fun hc => ?_)
            · replace h := h.1 hc
              refine x_iconst (pc' := 19) (v := 0) dX0_hasNumbers_18 rfl (by decide) ?_
              refine x_iret dX0_hasNumbers_19 rfl rfl ?_
              show X none (d + 3) mX7_scatter 50 [.ref 0, .int x1, .int x2, Unk, Unk, Unk, Unk, Unk] [.int 0] σ _
              refine x_if_ne (pc' := 53) (tgt := 60) dX7_scatter_50 (by decide) rfl (fun hc => absurd hc (by decide)) (fun _ => ?_)
              refine x_aload_n (pc' := 54) dX7_scatter_53 rfl rfl rfl ?_
              refine x_ldc (pc' := 56) dX7_scatter_54 rfl lcX7_81 ?_
              refine x_callV (pc' := 59) (As := [.int (-2000000004)]) dX7_scatter_56 rfl lmX7_69 kd_0 rfl rfl (Nat.le_of_ble_eq_true rfl) (Nat.le_of_ble_eq_true rfl) ?_
              show X none (d + 2) mX7_refuse 0 [.ref 0, .int (-2000000004)] [] σ _
              refine x_iload_n (pc' := 1) dX7_refuse_0 rfl rfl rfl ?_
              refine x_ldc (pc' := 3) dX7_refuse_1 rfl lcX7_68 ?_
              refine x_icmp_ne (pc' := 6) (tgt := 19) dX7_refuse_3 (by decide) rfl (fun _ => ?_) (fun hc => absurd hc (by decide))
              refine x_iload_n (pc' := 20) dX7_refuse_19 rfl rfl rfl ?_
              refine x_ldc (pc' := 22) dX7_refuse_20 rfl lcX7_123 ?_
              refine x_icmp_ne (pc' := 25) (tgt := 38) dX7_refuse_22 (by decide) rfl (fun _ => ?_) (fun hc => absurd hc (by decide))
              refine x_aload_n (pc' := 39) dX7_refuse_38 rfl rfl rfl ?_
              refine x_dup (pc' := 40) dX7_refuse_39 rfl rfl ?_
              refine x_geti (pc' := 43) dX7_refuse_40 rfl lfX7_273 kd_0 rfl ?_
              refine x_iconst (pc' := 44) (v := 1) dX7_refuse_43 rfl (by decide) ?_
              refine x_iadd (pc' := 45) dX7_refuse_44 rfl ?_
              refine x_puti (pc' := 48) dX7_refuse_45 rfl lfX7_273 kd_0 rfl rfl rfl ?_
              obtain ⟨τ5, eτ5⟩ : ∃ τ : Mem, τ = (w1 σ 0 12 ((σ.1 0 12) + 1)) := ⟨_, rfl⟩
              show X none (d + 2) mX7_refuse 48 [.ref 0, .int (-2000000004)] [] (w1 σ 0 12 ((σ.1 0 12) + 1)) _
              rw [← eτ5]
              replace h := h τ5 eτ5
              refine x_iload_n (pc' := 49) dX7_refuse_48 rfl rfl rfl ?_
              refine x_iret dX7_refuse_49 rfl rfl ?_
              show X none (d + 3) mX7_scatter 59 [.ref 0, .int x1, .int x2, Unk, Unk, Unk, Unk, Unk] [.int (-2000000004)] τ5 _
              exact x_iret dX7_scatter_59 rfl rfl h
            · replace h := h.2 hc
              refine x_iconst (pc' := 15) (v := 1) dX0_hasNumbers_14 rfl (by decide) ?_
              refine x_goto (pc' := 19) dX0_hasNumbers_15 (by decide) ?_
              refine x_iret dX0_hasNumbers_19 rfl rfl ?_
              show X none (d + 3) mX7_scatter 50 [.ref 0, .int x1, .int x2, Unk, Unk, Unk, Unk, Unk] [.int 1] σ _
              refine x_if_ne (pc' := 53) (tgt := 60) dX7_scatter_50 (by decide) rfl (fun _ => ?_) (fun hc => absurd hc (by decide))
              refine x_aload_n (pc' := 61) dX7_scatter_60 rfl rfl rfl ?_
              refine x_getr (pc' := 64) dX7_scatter_61 rfl lfX7_19 kd_0 rfl rf_0_1 ?_
              refine x_aload_n (pc' := 65) dX7_scatter_64 rfl rfl rfl ?_
              refine x_getr (pc' := 68) dX7_scatter_65 rfl lfX7_10 kd_0 rfl rf_0_0 ?_
              refine x_callV (pc' := 71) (As := [.ref 1]) dX7_scatter_68 rfl lmX7_82 kd_7 rfl rfl (Nat.le_of_ble_eq_true rfl) (Nat.le_of_ble_eq_true rfl) ?_
              show X none (d + 2) mX2_keep 0 [.ref 7, .ref 1] [] σ _
              refine X.mono h ?_
              rintro r τ6 ⟨rfl, h⟩
              show X none (d + 3) mX7_scatter 71 [.ref 0, .int x1, .int x2, Unk, Unk, Unk, Unk, Unk] [] τ6 _
              refine x_iload_n (pc' := 72) dX7_scatter_71 rfl rfl rfl ?_
              refine x_i2l (pc' := 73) dX7_scatter_72 rfl ?_
              refine x_lstore_n (pc' := 74) dX7_scatter_73 rfl rfl (by decide) rfl (ls' := [.ref 0, .int x1, .int x2, .long ((x1).toInt64), Unk, Unk, Unk, Unk]) rfl ?_
              refine x_iconst (pc' := 75) (v := 0) dX7_scatter_74 rfl (by decide) ?_
              refine x_istore (pc' := 77) dX7_scatter_75 rfl (by decide) rfl (ls' := [.ref 0, .int x1, .int x2, .long ((x1).toInt64), Unk, .int 0, Unk, Unk]) rfl ?_
              exact h
        · replace h := h.2 hc
          refine x_aload_n (pc' := 22) dX7_scatter_21 rfl rfl rfl ?_
          refine x_ldc (pc' := 24) dX7_scatter_22 rfl lcX7_68 ?_
          refine x_callV (pc' := 27) (As := [.int (-2000000002)]) dX7_scatter_24 rfl lmX7_69 kd_0 rfl rfl (Nat.le_of_ble_eq_true rfl) (Nat.le_of_ble_eq_true rfl) ?_
          show X none (d + 2) mX7_refuse 0 [.ref 0, .int (-2000000002)] [] σ _
          refine x_iload_n (pc' := 1) dX7_refuse_0 rfl rfl rfl ?_
          refine x_ldc (pc' := 3) dX7_refuse_1 rfl lcX7_68 ?_
          refine x_icmp_ne (pc' := 6) (tgt := 19) dX7_refuse_3 (by decide) rfl (fun hc => absurd hc (by decide)) (fun _ => ?_)
          refine x_aload_n (pc' := 7) dX7_refuse_6 rfl rfl rfl ?_
          refine x_dup (pc' := 8) dX7_refuse_7 rfl rfl ?_
          refine x_geti (pc' := 11) dX7_refuse_8 rfl lfX7_267 kd_0 rfl ?_
          refine x_iconst (pc' := 12) (v := 1) dX7_refuse_11 rfl (by decide) ?_
          refine x_iadd (pc' := 13) dX7_refuse_12 rfl ?_
          refine x_puti (pc' := 16) dX7_refuse_13 rfl lfX7_267 kd_0 rfl rfl rfl ?_
          obtain ⟨τ7, eτ7⟩ : ∃ τ : Mem, τ = (w1 σ 0 10 ((σ.1 0 10) + 1)) := ⟨_, rfl⟩
          show X none (d + 2) mX7_refuse 16 [.ref 0, .int (-2000000002)] [] (w1 σ 0 10 ((σ.1 0 10) + 1)) _
          rw [← eτ7]
          replace h := h τ7 eτ7
          refine x_goto (pc' := 48) dX7_refuse_16 (by decide) ?_
          refine x_iload_n (pc' := 49) dX7_refuse_48 rfl rfl rfl ?_
          refine x_iret dX7_refuse_49 rfl rfl ?_
          show X none (d + 3) mX7_scatter 27 [.ref 0, .int x1, .int x2, Unk, Unk, Unk, Unk, Unk] [.int (-2000000002)] τ7 _
          exact x_iret dX7_scatter_27 rfl rfl h
set_option maxRecDepth 100000 in
set_option maxHeartbeats 4000000 in
theorem vX7_scatter_77 {d : Nat} {σ : Mem} {Q : Option Value → Mem → Prop} {x1 x2 x5 : Int32} {y3 : Int64} 
    (h : ((x2 ≤ x5 → Q (some (.int ((σ.1 1 5) - (σ.1 1 6)))) σ) ∧ (¬ x2 ≤ x5 → (¬ ((1001 : Int32).toInt64) = 0 ∧ (¬ ((1001 : Int32).toInt64) = 0 ∧ (¬ ((100 : Int32).toInt64) = 0 ∧ (X none (d + 2) mX0_come 0 [.ref 1, .int (((((((y3 * 1103515245) + 12345) - ((y3 * 1103515245) + 12345) / 2147483648 * 2147483648) / 65536) - ((((y3 * 1103515245) + 12345) - ((y3 * 1103515245) + 12345) / 2147483648 * 2147483648) / 65536) / ((1001 : Int32).toInt64) * ((1001 : Int32).toInt64)).toInt32) - 500), .int ((((((((((y3 * 1103515245) + 12345) - ((y3 * 1103515245) + 12345) / 2147483648 * 2147483648) * 1103515245) + 12345) - (((((y3 * 1103515245) + 12345) - ((y3 * 1103515245) + 12345) / 2147483648 * 2147483648) * 1103515245) + 12345) / 2147483648 * 2147483648) / 65536) - (((((((y3 * 1103515245) + 12345) - ((y3 * 1103515245) + 12345) / 2147483648 * 2147483648) * 1103515245) + 12345) - (((((y3 * 1103515245) + 12345) - ((y3 * 1103515245) + 12345) / 2147483648 * 2147483648) * 1103515245) + 12345) / 2147483648 * 2147483648) / 65536) / ((1001 : Int32).toInt64) * ((1001 : Int32).toInt64)).toInt32) - 500), .int (1 + ((((((((((((y3 * 1103515245) + 12345) - ((y3 * 1103515245) + 12345) / 2147483648 * 2147483648) * 1103515245) + 12345) - (((((y3 * 1103515245) + 12345) - ((y3 * 1103515245) + 12345) / 2147483648 * 2147483648) * 1103515245) + 12345) / 2147483648 * 2147483648) * 1103515245) + 12345) - ((((((((y3 * 1103515245) + 12345) - ((y3 * 1103515245) + 12345) / 2147483648 * 2147483648) * 1103515245) + 12345) - (((((y3 * 1103515245) + 12345) - ((y3 * 1103515245) + 12345) / 2147483648 * 2147483648) * 1103515245) + 12345) / 2147483648 * 2147483648) * 1103515245) + 12345) / 2147483648 * 2147483648) / 65536) - ((((((((((y3 * 1103515245) + 12345) - ((y3 * 1103515245) + 12345) / 2147483648 * 2147483648) * 1103515245) + 12345) - (((((y3 * 1103515245) + 12345) - ((y3 * 1103515245) + 12345) / 2147483648 * 2147483648) * 1103515245) + 12345) / 2147483648 * 2147483648) * 1103515245) + 12345) - ((((((((y3 * 1103515245) + 12345) - ((y3 * 1103515245) + 12345) / 2147483648 * 2147483648) * 1103515245) + 12345) - (((((y3 * 1103515245) + 12345) - ((y3 * 1103515245) + 12345) / 2147483648 * 2147483648) * 1103515245) + 12345) / 2147483648 * 2147483648) * 1103515245) + 12345) / 2147483648 * 2147483648) / 65536) / ((100 : Int32).toInt64) * ((100 : Int32).toInt64)).toInt32))] [] σ (fun r τ1 => ∃ u2 : Int32, r = some (.int u2) ∧ X none (d + 3) mX7_scatter 77 [.ref 0, .int x1, .int x2, .long (((((((((y3 * 1103515245) + 12345) - ((y3 * 1103515245) + 12345) / 2147483648 * 2147483648) * 1103515245) + 12345) - (((((y3 * 1103515245) + 12345) - ((y3 * 1103515245) + 12345) / 2147483648 * 2147483648) * 1103515245) + 12345) / 2147483648 * 2147483648) * 1103515245) + 12345) - ((((((((y3 * 1103515245) + 12345) - ((y3 * 1103515245) + 12345) / 2147483648 * 2147483648) * 1103515245) + 12345) - (((((y3 * 1103515245) + 12345) - ((y3 * 1103515245) + 12345) / 2147483648 * 2147483648) * 1103515245) + 12345) / 2147483648 * 2147483648) * 1103515245) + 12345) / 2147483648 * 2147483648), Unk, .int (x5 + 1), Unk, Unk] [] τ1 Q)))))))) :
    X none (d + 3) mX7_scatter 77 [.ref 0, .int x1, .int x2, .long y3, Unk, .int x5, Unk, Unk] [] σ Q := by
  refine x_iload (pc' := 79) dX7_scatter_77 rfl rfl ?_
  refine x_iload_n (pc' := 80) dX7_scatter_79 rfl rfl rfl ?_
  refine x_icmp_ge (pc' := 83) (tgt := 150) dX7_scatter_80 (by decide) rfl (fun hc => ?_) (fun hc => ?_)
  · replace h := h.1 hc
    refine x_aload_n (pc' := 151) dX7_scatter_150 rfl rfl rfl ?_
    refine x_getr (pc' := 154) dX7_scatter_151 rfl lfX7_10 kd_0 rfl rf_0_0 ?_
    refine x_callV (pc' := 157) (As := []) dX7_scatter_154 rfl lmX7_73 (OKF.k okF_1) rfl rfl (Nat.le_of_ble_eq_true rfl) (Nat.le_of_ble_eq_true rfl) ?_
    show X none (d + 2) mX0_there 0 [.ref 1] [] σ _
    refine x_aload_n (pc' := 1) dX0_there_0 rfl rfl rfl ?_
    refine x_geti (pc' := 4) dX0_there_1 rfl lfX0_27 (OKF.k okF_1) rfl ?_
    refine x_aload_n (pc' := 5) dX0_there_4 rfl rfl rfl ?_
    refine x_geti (pc' := 8) dX0_there_5 rfl lfX0_31 (OKF.k okF_1) rfl ?_
    refine x_isub (pc' := 9) dX0_there_8 rfl ?_
    refine x_iret dX0_there_9 rfl rfl ?_
    show X none (d + 3) mX7_scatter 157 [.ref 0, .int x1, .int x2, .long y3, Unk, .int x5, Unk, Unk] [.int ((σ.1 1 5) - (σ.1 1 6))] σ _
    exact x_iret dX7_scatter_157 rfl rfl h
  · replace h := h.2 hc
    refine x_lload_n (pc' := 84) dX7_scatter_83 rfl rfl rfl ?_
    refine x_callS (pc' := 87) (As := [.long y3]) dX7_scatter_84 rfl lmX7_97 rfl rfl (Nat.le_of_ble_eq_true rfl) (Nat.le_of_ble_eq_true rfl) ?_
    show X none (d + 2) mX7_draw 0 [.long y3, Unk] [] σ _
    refine x_lload_n (pc' := 1) dX7_draw_0 rfl rfl rfl ?_
    refine x_ldc2 (pc' := 4) dX7_draw_1 rfl llX7_301 ?_
    refine x_lmul (pc' := 5) dX7_draw_4 rfl ?_
    refine x_ldc2 (pc' := 8) dX7_draw_5 rfl llX7_303 ?_
    refine x_ladd (pc' := 9) dX7_draw_8 rfl ?_
    refine x_ldc2 (pc' := 12) dX7_draw_9 rfl llX7_305 ?_
    refine x_lrem (pc' := 13) dX7_draw_12 rfl (by decide) ?_
    refine x_lret dX7_draw_13 rfl ?_
    show X none (d + 3) mX7_scatter 87 [.ref 0, .int x1, .int x2, .long y3, Unk, .int x5, Unk, Unk] [.long (((y3 * 1103515245) + 12345) - ((y3 * 1103515245) + 12345) / 2147483648 * 2147483648)] σ _
    refine x_lstore_n (pc' := 88) dX7_scatter_87 rfl rfl (by decide) rfl (ls' := [.ref 0, .int x1, .int x2, .long (((y3 * 1103515245) + 12345) - ((y3 * 1103515245) + 12345) / 2147483648 * 2147483648), Unk, .int x5, Unk, Unk]) rfl ?_
    refine x_lload_n (pc' := 89) dX7_scatter_88 rfl rfl rfl ?_
    refine x_sipush (pc' := 92) (v := 1001) dX7_scatter_89 rfl (by decide) ?_
    refine x_callS (pc' := 95) (As := [.long (((y3 * 1103515245) + 12345) - ((y3 * 1103515245) + 12345) / 2147483648 * 2147483648), .int 1001]) dX7_scatter_92 rfl lmX7_101 rfl rfl (Nat.le_of_ble_eq_true rfl) (Nat.le_of_ble_eq_true rfl) ?_
    show X none (d + 2) mX7_leftOver 0 [.long (((y3 * 1103515245) + 12345) - ((y3 * 1103515245) + 12345) / 2147483648 * 2147483648), Unk, .int 1001] [] σ _
    refine x_iload_n (pc' := 1) dX7_leftOver_0 rfl rfl rfl ?_
    refine x_iconst (pc' := 2) (v := 1) dX7_leftOver_1 rfl (by decide) ?_
    refine x_icmp_ge (pc' := 5) (tgt := 9) dX7_leftOver_2 (by decide) rfl (fun _ => ?_) (fun hc => absurd hc (by decide))
    refine x_lload_n (pc' := 10) dX7_leftOver_9 rfl rfl rfl ?_
    refine x_ldc2 (pc' := 13) dX7_leftOver_10 rfl llX7_307 ?_
    refine x_ldiv (pc' := 14) dX7_leftOver_13 rfl (by decide) ?_
    refine x_iload_n (pc' := 15) dX7_leftOver_14 rfl rfl rfl ?_
    refine x_i2l (pc' := 16) dX7_leftOver_15 rfl ?_
    obtain ⟨hz, h⟩ := h
    refine x_lrem (pc' := 17) dX7_leftOver_16 rfl hz ?_
    refine x_l2i (pc' := 18) dX7_leftOver_17 rfl ?_
    refine x_iret dX7_leftOver_18 rfl rfl ?_
    show X none (d + 3) mX7_scatter 95 [.ref 0, .int x1, .int x2, .long (((y3 * 1103515245) + 12345) - ((y3 * 1103515245) + 12345) / 2147483648 * 2147483648), Unk, .int x5, Unk, Unk] [.int ((((((y3 * 1103515245) + 12345) - ((y3 * 1103515245) + 12345) / 2147483648 * 2147483648) / 65536) - ((((y3 * 1103515245) + 12345) - ((y3 * 1103515245) + 12345) / 2147483648 * 2147483648) / 65536) / ((1001 : Int32).toInt64) * ((1001 : Int32).toInt64)).toInt32)] σ _
    refine x_sipush (pc' := 98) (v := 500) dX7_scatter_95 rfl (by decide) ?_
    refine x_isub (pc' := 99) dX7_scatter_98 rfl ?_
    refine x_istore (pc' := 101) dX7_scatter_99 rfl (by decide) rfl (ls' := [.ref 0, .int x1, .int x2, .long (((y3 * 1103515245) + 12345) - ((y3 * 1103515245) + 12345) / 2147483648 * 2147483648), Unk, .int x5, .int (((((((y3 * 1103515245) + 12345) - ((y3 * 1103515245) + 12345) / 2147483648 * 2147483648) / 65536) - ((((y3 * 1103515245) + 12345) - ((y3 * 1103515245) + 12345) / 2147483648 * 2147483648) / 65536) / ((1001 : Int32).toInt64) * ((1001 : Int32).toInt64)).toInt32) - 500), Unk]) rfl ?_
    refine x_lload_n (pc' := 102) dX7_scatter_101 rfl rfl rfl ?_
    refine x_callS (pc' := 105) (As := [.long (((y3 * 1103515245) + 12345) - ((y3 * 1103515245) + 12345) / 2147483648 * 2147483648)]) dX7_scatter_102 rfl lmX7_97 rfl rfl (Nat.le_of_ble_eq_true rfl) (Nat.le_of_ble_eq_true rfl) ?_
    show X none (d + 2) mX7_draw 0 [.long (((y3 * 1103515245) + 12345) - ((y3 * 1103515245) + 12345) / 2147483648 * 2147483648), Unk] [] σ _
    refine x_lload_n (pc' := 1) dX7_draw_0 rfl rfl rfl ?_
    refine x_ldc2 (pc' := 4) dX7_draw_1 rfl llX7_301 ?_
    refine x_lmul (pc' := 5) dX7_draw_4 rfl ?_
    refine x_ldc2 (pc' := 8) dX7_draw_5 rfl llX7_303 ?_
    refine x_ladd (pc' := 9) dX7_draw_8 rfl ?_
    refine x_ldc2 (pc' := 12) dX7_draw_9 rfl llX7_305 ?_
    refine x_lrem (pc' := 13) dX7_draw_12 rfl (by decide) ?_
    refine x_lret dX7_draw_13 rfl ?_
    show X none (d + 3) mX7_scatter 105 [.ref 0, .int x1, .int x2, .long (((y3 * 1103515245) + 12345) - ((y3 * 1103515245) + 12345) / 2147483648 * 2147483648), Unk, .int x5, .int (((((((y3 * 1103515245) + 12345) - ((y3 * 1103515245) + 12345) / 2147483648 * 2147483648) / 65536) - ((((y3 * 1103515245) + 12345) - ((y3 * 1103515245) + 12345) / 2147483648 * 2147483648) / 65536) / ((1001 : Int32).toInt64) * ((1001 : Int32).toInt64)).toInt32) - 500), Unk] [.long ((((((y3 * 1103515245) + 12345) - ((y3 * 1103515245) + 12345) / 2147483648 * 2147483648) * 1103515245) + 12345) - (((((y3 * 1103515245) + 12345) - ((y3 * 1103515245) + 12345) / 2147483648 * 2147483648) * 1103515245) + 12345) / 2147483648 * 2147483648)] σ _
    refine x_lstore_n (pc' := 106) dX7_scatter_105 rfl rfl (by decide) rfl (ls' := [.ref 0, .int x1, .int x2, .long ((((((y3 * 1103515245) + 12345) - ((y3 * 1103515245) + 12345) / 2147483648 * 2147483648) * 1103515245) + 12345) - (((((y3 * 1103515245) + 12345) - ((y3 * 1103515245) + 12345) / 2147483648 * 2147483648) * 1103515245) + 12345) / 2147483648 * 2147483648), Unk, .int x5, .int (((((((y3 * 1103515245) + 12345) - ((y3 * 1103515245) + 12345) / 2147483648 * 2147483648) / 65536) - ((((y3 * 1103515245) + 12345) - ((y3 * 1103515245) + 12345) / 2147483648 * 2147483648) / 65536) / ((1001 : Int32).toInt64) * ((1001 : Int32).toInt64)).toInt32) - 500), Unk]) rfl ?_
    refine x_lload_n (pc' := 107) dX7_scatter_106 rfl rfl rfl ?_
    refine x_sipush (pc' := 110) (v := 1001) dX7_scatter_107 rfl (by decide) ?_
    refine x_callS (pc' := 113) (As := [.long ((((((y3 * 1103515245) + 12345) - ((y3 * 1103515245) + 12345) / 2147483648 * 2147483648) * 1103515245) + 12345) - (((((y3 * 1103515245) + 12345) - ((y3 * 1103515245) + 12345) / 2147483648 * 2147483648) * 1103515245) + 12345) / 2147483648 * 2147483648), .int 1001]) dX7_scatter_110 rfl lmX7_101 rfl rfl (Nat.le_of_ble_eq_true rfl) (Nat.le_of_ble_eq_true rfl) ?_
    show X none (d + 2) mX7_leftOver 0 [.long ((((((y3 * 1103515245) + 12345) - ((y3 * 1103515245) + 12345) / 2147483648 * 2147483648) * 1103515245) + 12345) - (((((y3 * 1103515245) + 12345) - ((y3 * 1103515245) + 12345) / 2147483648 * 2147483648) * 1103515245) + 12345) / 2147483648 * 2147483648), Unk, .int 1001] [] σ _
    refine x_iload_n (pc' := 1) dX7_leftOver_0 rfl rfl rfl ?_
    refine x_iconst (pc' := 2) (v := 1) dX7_leftOver_1 rfl (by decide) ?_
    refine x_icmp_ge (pc' := 5) (tgt := 9) dX7_leftOver_2 (by decide) rfl (fun _ => ?_) (fun hc => absurd hc (by decide))
    refine x_lload_n (pc' := 10) dX7_leftOver_9 rfl rfl rfl ?_
    refine x_ldc2 (pc' := 13) dX7_leftOver_10 rfl llX7_307 ?_
    refine x_ldiv (pc' := 14) dX7_leftOver_13 rfl (by decide) ?_
    refine x_iload_n (pc' := 15) dX7_leftOver_14 rfl rfl rfl ?_
    refine x_i2l (pc' := 16) dX7_leftOver_15 rfl ?_
    obtain ⟨hz, h⟩ := h
    refine x_lrem (pc' := 17) dX7_leftOver_16 rfl hz ?_
    refine x_l2i (pc' := 18) dX7_leftOver_17 rfl ?_
    refine x_iret dX7_leftOver_18 rfl rfl ?_
    show X none (d + 3) mX7_scatter 113 [.ref 0, .int x1, .int x2, .long ((((((y3 * 1103515245) + 12345) - ((y3 * 1103515245) + 12345) / 2147483648 * 2147483648) * 1103515245) + 12345) - (((((y3 * 1103515245) + 12345) - ((y3 * 1103515245) + 12345) / 2147483648 * 2147483648) * 1103515245) + 12345) / 2147483648 * 2147483648), Unk, .int x5, .int (((((((y3 * 1103515245) + 12345) - ((y3 * 1103515245) + 12345) / 2147483648 * 2147483648) / 65536) - ((((y3 * 1103515245) + 12345) - ((y3 * 1103515245) + 12345) / 2147483648 * 2147483648) / 65536) / ((1001 : Int32).toInt64) * ((1001 : Int32).toInt64)).toInt32) - 500), Unk] [.int (((((((((y3 * 1103515245) + 12345) - ((y3 * 1103515245) + 12345) / 2147483648 * 2147483648) * 1103515245) + 12345) - (((((y3 * 1103515245) + 12345) - ((y3 * 1103515245) + 12345) / 2147483648 * 2147483648) * 1103515245) + 12345) / 2147483648 * 2147483648) / 65536) - (((((((y3 * 1103515245) + 12345) - ((y3 * 1103515245) + 12345) / 2147483648 * 2147483648) * 1103515245) + 12345) - (((((y3 * 1103515245) + 12345) - ((y3 * 1103515245) + 12345) / 2147483648 * 2147483648) * 1103515245) + 12345) / 2147483648 * 2147483648) / 65536) / ((1001 : Int32).toInt64) * ((1001 : Int32).toInt64)).toInt32)] σ _
    refine x_sipush (pc' := 116) (v := 500) dX7_scatter_113 rfl (by decide) ?_
    refine x_isub (pc' := 117) dX7_scatter_116 rfl ?_
    refine x_istore (pc' := 119) dX7_scatter_117 rfl (by decide) rfl (ls' := [.ref 0, .int x1, .int x2, .long ((((((y3 * 1103515245) + 12345) - ((y3 * 1103515245) + 12345) / 2147483648 * 2147483648) * 1103515245) + 12345) - (((((y3 * 1103515245) + 12345) - ((y3 * 1103515245) + 12345) / 2147483648 * 2147483648) * 1103515245) + 12345) / 2147483648 * 2147483648), Unk, .int x5, .int (((((((y3 * 1103515245) + 12345) - ((y3 * 1103515245) + 12345) / 2147483648 * 2147483648) / 65536) - ((((y3 * 1103515245) + 12345) - ((y3 * 1103515245) + 12345) / 2147483648 * 2147483648) / 65536) / ((1001 : Int32).toInt64) * ((1001 : Int32).toInt64)).toInt32) - 500), .int ((((((((((y3 * 1103515245) + 12345) - ((y3 * 1103515245) + 12345) / 2147483648 * 2147483648) * 1103515245) + 12345) - (((((y3 * 1103515245) + 12345) - ((y3 * 1103515245) + 12345) / 2147483648 * 2147483648) * 1103515245) + 12345) / 2147483648 * 2147483648) / 65536) - (((((((y3 * 1103515245) + 12345) - ((y3 * 1103515245) + 12345) / 2147483648 * 2147483648) * 1103515245) + 12345) - (((((y3 * 1103515245) + 12345) - ((y3 * 1103515245) + 12345) / 2147483648 * 2147483648) * 1103515245) + 12345) / 2147483648 * 2147483648) / 65536) / ((1001 : Int32).toInt64) * ((1001 : Int32).toInt64)).toInt32) - 500)]) rfl ?_
    refine x_lload_n (pc' := 120) dX7_scatter_119 rfl rfl rfl ?_
    refine x_callS (pc' := 123) (As := [.long ((((((y3 * 1103515245) + 12345) - ((y3 * 1103515245) + 12345) / 2147483648 * 2147483648) * 1103515245) + 12345) - (((((y3 * 1103515245) + 12345) - ((y3 * 1103515245) + 12345) / 2147483648 * 2147483648) * 1103515245) + 12345) / 2147483648 * 2147483648)]) dX7_scatter_120 rfl lmX7_97 rfl rfl (Nat.le_of_ble_eq_true rfl) (Nat.le_of_ble_eq_true rfl) ?_
    show X none (d + 2) mX7_draw 0 [.long ((((((y3 * 1103515245) + 12345) - ((y3 * 1103515245) + 12345) / 2147483648 * 2147483648) * 1103515245) + 12345) - (((((y3 * 1103515245) + 12345) - ((y3 * 1103515245) + 12345) / 2147483648 * 2147483648) * 1103515245) + 12345) / 2147483648 * 2147483648), Unk] [] σ _
    refine x_lload_n (pc' := 1) dX7_draw_0 rfl rfl rfl ?_
    refine x_ldc2 (pc' := 4) dX7_draw_1 rfl llX7_301 ?_
    refine x_lmul (pc' := 5) dX7_draw_4 rfl ?_
    refine x_ldc2 (pc' := 8) dX7_draw_5 rfl llX7_303 ?_
    refine x_ladd (pc' := 9) dX7_draw_8 rfl ?_
    refine x_ldc2 (pc' := 12) dX7_draw_9 rfl llX7_305 ?_
    refine x_lrem (pc' := 13) dX7_draw_12 rfl (by decide) ?_
    refine x_lret dX7_draw_13 rfl ?_
    show X none (d + 3) mX7_scatter 123 [.ref 0, .int x1, .int x2, .long ((((((y3 * 1103515245) + 12345) - ((y3 * 1103515245) + 12345) / 2147483648 * 2147483648) * 1103515245) + 12345) - (((((y3 * 1103515245) + 12345) - ((y3 * 1103515245) + 12345) / 2147483648 * 2147483648) * 1103515245) + 12345) / 2147483648 * 2147483648), Unk, .int x5, .int (((((((y3 * 1103515245) + 12345) - ((y3 * 1103515245) + 12345) / 2147483648 * 2147483648) / 65536) - ((((y3 * 1103515245) + 12345) - ((y3 * 1103515245) + 12345) / 2147483648 * 2147483648) / 65536) / ((1001 : Int32).toInt64) * ((1001 : Int32).toInt64)).toInt32) - 500), .int ((((((((((y3 * 1103515245) + 12345) - ((y3 * 1103515245) + 12345) / 2147483648 * 2147483648) * 1103515245) + 12345) - (((((y3 * 1103515245) + 12345) - ((y3 * 1103515245) + 12345) / 2147483648 * 2147483648) * 1103515245) + 12345) / 2147483648 * 2147483648) / 65536) - (((((((y3 * 1103515245) + 12345) - ((y3 * 1103515245) + 12345) / 2147483648 * 2147483648) * 1103515245) + 12345) - (((((y3 * 1103515245) + 12345) - ((y3 * 1103515245) + 12345) / 2147483648 * 2147483648) * 1103515245) + 12345) / 2147483648 * 2147483648) / 65536) / ((1001 : Int32).toInt64) * ((1001 : Int32).toInt64)).toInt32) - 500)] [.long (((((((((y3 * 1103515245) + 12345) - ((y3 * 1103515245) + 12345) / 2147483648 * 2147483648) * 1103515245) + 12345) - (((((y3 * 1103515245) + 12345) - ((y3 * 1103515245) + 12345) / 2147483648 * 2147483648) * 1103515245) + 12345) / 2147483648 * 2147483648) * 1103515245) + 12345) - ((((((((y3 * 1103515245) + 12345) - ((y3 * 1103515245) + 12345) / 2147483648 * 2147483648) * 1103515245) + 12345) - (((((y3 * 1103515245) + 12345) - ((y3 * 1103515245) + 12345) / 2147483648 * 2147483648) * 1103515245) + 12345) / 2147483648 * 2147483648) * 1103515245) + 12345) / 2147483648 * 2147483648)] σ _
    refine x_lstore_n (pc' := 124) dX7_scatter_123 rfl rfl (by decide) rfl (ls' := [.ref 0, .int x1, .int x2, .long (((((((((y3 * 1103515245) + 12345) - ((y3 * 1103515245) + 12345) / 2147483648 * 2147483648) * 1103515245) + 12345) - (((((y3 * 1103515245) + 12345) - ((y3 * 1103515245) + 12345) / 2147483648 * 2147483648) * 1103515245) + 12345) / 2147483648 * 2147483648) * 1103515245) + 12345) - ((((((((y3 * 1103515245) + 12345) - ((y3 * 1103515245) + 12345) / 2147483648 * 2147483648) * 1103515245) + 12345) - (((((y3 * 1103515245) + 12345) - ((y3 * 1103515245) + 12345) / 2147483648 * 2147483648) * 1103515245) + 12345) / 2147483648 * 2147483648) * 1103515245) + 12345) / 2147483648 * 2147483648), Unk, .int x5, .int (((((((y3 * 1103515245) + 12345) - ((y3 * 1103515245) + 12345) / 2147483648 * 2147483648) / 65536) - ((((y3 * 1103515245) + 12345) - ((y3 * 1103515245) + 12345) / 2147483648 * 2147483648) / 65536) / ((1001 : Int32).toInt64) * ((1001 : Int32).toInt64)).toInt32) - 500), .int ((((((((((y3 * 1103515245) + 12345) - ((y3 * 1103515245) + 12345) / 2147483648 * 2147483648) * 1103515245) + 12345) - (((((y3 * 1103515245) + 12345) - ((y3 * 1103515245) + 12345) / 2147483648 * 2147483648) * 1103515245) + 12345) / 2147483648 * 2147483648) / 65536) - (((((((y3 * 1103515245) + 12345) - ((y3 * 1103515245) + 12345) / 2147483648 * 2147483648) * 1103515245) + 12345) - (((((y3 * 1103515245) + 12345) - ((y3 * 1103515245) + 12345) / 2147483648 * 2147483648) * 1103515245) + 12345) / 2147483648 * 2147483648) / 65536) / ((1001 : Int32).toInt64) * ((1001 : Int32).toInt64)).toInt32) - 500)]) rfl ?_
    refine x_aload_n (pc' := 125) dX7_scatter_124 rfl rfl rfl ?_
    refine x_getr (pc' := 128) dX7_scatter_125 rfl lfX7_10 kd_0 rfl rf_0_0 ?_
    refine x_iload (pc' := 130) dX7_scatter_128 rfl rfl ?_
    refine x_iload (pc' := 132) dX7_scatter_130 rfl rfl ?_
    refine x_iconst (pc' := 133) (v := 1) dX7_scatter_132 rfl (by decide) ?_
    refine x_lload_n (pc' := 134) dX7_scatter_133 rfl rfl rfl ?_
    refine x_bipush (pc' := 136) (v := 100) dX7_scatter_134 rfl (by decide) ?_
    refine x_callS (pc' := 139) (As := [.long (((((((((y3 * 1103515245) + 12345) - ((y3 * 1103515245) + 12345) / 2147483648 * 2147483648) * 1103515245) + 12345) - (((((y3 * 1103515245) + 12345) - ((y3 * 1103515245) + 12345) / 2147483648 * 2147483648) * 1103515245) + 12345) / 2147483648 * 2147483648) * 1103515245) + 12345) - ((((((((y3 * 1103515245) + 12345) - ((y3 * 1103515245) + 12345) / 2147483648 * 2147483648) * 1103515245) + 12345) - (((((y3 * 1103515245) + 12345) - ((y3 * 1103515245) + 12345) / 2147483648 * 2147483648) * 1103515245) + 12345) / 2147483648 * 2147483648) * 1103515245) + 12345) / 2147483648 * 2147483648), .int 100]) dX7_scatter_136 rfl lmX7_101 rfl rfl (Nat.le_of_ble_eq_true rfl) (Nat.le_of_ble_eq_true rfl) ?_
    show X none (d + 2) mX7_leftOver 0 [.long (((((((((y3 * 1103515245) + 12345) - ((y3 * 1103515245) + 12345) / 2147483648 * 2147483648) * 1103515245) + 12345) - (((((y3 * 1103515245) + 12345) - ((y3 * 1103515245) + 12345) / 2147483648 * 2147483648) * 1103515245) + 12345) / 2147483648 * 2147483648) * 1103515245) + 12345) - ((((((((y3 * 1103515245) + 12345) - ((y3 * 1103515245) + 12345) / 2147483648 * 2147483648) * 1103515245) + 12345) - (((((y3 * 1103515245) + 12345) - ((y3 * 1103515245) + 12345) / 2147483648 * 2147483648) * 1103515245) + 12345) / 2147483648 * 2147483648) * 1103515245) + 12345) / 2147483648 * 2147483648), Unk, .int 100] [] σ _
    refine x_iload_n (pc' := 1) dX7_leftOver_0 rfl rfl rfl ?_
    refine x_iconst (pc' := 2) (v := 1) dX7_leftOver_1 rfl (by decide) ?_
    refine x_icmp_ge (pc' := 5) (tgt := 9) dX7_leftOver_2 (by decide) rfl (fun _ => ?_) (fun hc => absurd hc (by decide))
    refine x_lload_n (pc' := 10) dX7_leftOver_9 rfl rfl rfl ?_
    refine x_ldc2 (pc' := 13) dX7_leftOver_10 rfl llX7_307 ?_
    refine x_ldiv (pc' := 14) dX7_leftOver_13 rfl (by decide) ?_
    refine x_iload_n (pc' := 15) dX7_leftOver_14 rfl rfl rfl ?_
    refine x_i2l (pc' := 16) dX7_leftOver_15 rfl ?_
    obtain ⟨hz, h⟩ := h
    refine x_lrem (pc' := 17) dX7_leftOver_16 rfl hz ?_
    refine x_l2i (pc' := 18) dX7_leftOver_17 rfl ?_
    refine x_iret dX7_leftOver_18 rfl rfl ?_
    show X none (d + 3) mX7_scatter 139 [.ref 0, .int x1, .int x2, .long (((((((((y3 * 1103515245) + 12345) - ((y3 * 1103515245) + 12345) / 2147483648 * 2147483648) * 1103515245) + 12345) - (((((y3 * 1103515245) + 12345) - ((y3 * 1103515245) + 12345) / 2147483648 * 2147483648) * 1103515245) + 12345) / 2147483648 * 2147483648) * 1103515245) + 12345) - ((((((((y3 * 1103515245) + 12345) - ((y3 * 1103515245) + 12345) / 2147483648 * 2147483648) * 1103515245) + 12345) - (((((y3 * 1103515245) + 12345) - ((y3 * 1103515245) + 12345) / 2147483648 * 2147483648) * 1103515245) + 12345) / 2147483648 * 2147483648) * 1103515245) + 12345) / 2147483648 * 2147483648), Unk, .int x5, .int (((((((y3 * 1103515245) + 12345) - ((y3 * 1103515245) + 12345) / 2147483648 * 2147483648) / 65536) - ((((y3 * 1103515245) + 12345) - ((y3 * 1103515245) + 12345) / 2147483648 * 2147483648) / 65536) / ((1001 : Int32).toInt64) * ((1001 : Int32).toInt64)).toInt32) - 500), .int ((((((((((y3 * 1103515245) + 12345) - ((y3 * 1103515245) + 12345) / 2147483648 * 2147483648) * 1103515245) + 12345) - (((((y3 * 1103515245) + 12345) - ((y3 * 1103515245) + 12345) / 2147483648 * 2147483648) * 1103515245) + 12345) / 2147483648 * 2147483648) / 65536) - (((((((y3 * 1103515245) + 12345) - ((y3 * 1103515245) + 12345) / 2147483648 * 2147483648) * 1103515245) + 12345) - (((((y3 * 1103515245) + 12345) - ((y3 * 1103515245) + 12345) / 2147483648 * 2147483648) * 1103515245) + 12345) / 2147483648 * 2147483648) / 65536) / ((1001 : Int32).toInt64) * ((1001 : Int32).toInt64)).toInt32) - 500)] [.int ((((((((((((y3 * 1103515245) + 12345) - ((y3 * 1103515245) + 12345) / 2147483648 * 2147483648) * 1103515245) + 12345) - (((((y3 * 1103515245) + 12345) - ((y3 * 1103515245) + 12345) / 2147483648 * 2147483648) * 1103515245) + 12345) / 2147483648 * 2147483648) * 1103515245) + 12345) - ((((((((y3 * 1103515245) + 12345) - ((y3 * 1103515245) + 12345) / 2147483648 * 2147483648) * 1103515245) + 12345) - (((((y3 * 1103515245) + 12345) - ((y3 * 1103515245) + 12345) / 2147483648 * 2147483648) * 1103515245) + 12345) / 2147483648 * 2147483648) * 1103515245) + 12345) / 2147483648 * 2147483648) / 65536) - ((((((((((y3 * 1103515245) + 12345) - ((y3 * 1103515245) + 12345) / 2147483648 * 2147483648) * 1103515245) + 12345) - (((((y3 * 1103515245) + 12345) - ((y3 * 1103515245) + 12345) / 2147483648 * 2147483648) * 1103515245) + 12345) / 2147483648 * 2147483648) * 1103515245) + 12345) - ((((((((y3 * 1103515245) + 12345) - ((y3 * 1103515245) + 12345) / 2147483648 * 2147483648) * 1103515245) + 12345) - (((((y3 * 1103515245) + 12345) - ((y3 * 1103515245) + 12345) / 2147483648 * 2147483648) * 1103515245) + 12345) / 2147483648 * 2147483648) * 1103515245) + 12345) / 2147483648 * 2147483648) / 65536) / ((100 : Int32).toInt64) * ((100 : Int32).toInt64)).toInt32), .int 1, .int ((((((((((y3 * 1103515245) + 12345) - ((y3 * 1103515245) + 12345) / 2147483648 * 2147483648) * 1103515245) + 12345) - (((((y3 * 1103515245) + 12345) - ((y3 * 1103515245) + 12345) / 2147483648 * 2147483648) * 1103515245) + 12345) / 2147483648 * 2147483648) / 65536) - (((((((y3 * 1103515245) + 12345) - ((y3 * 1103515245) + 12345) / 2147483648 * 2147483648) * 1103515245) + 12345) - (((((y3 * 1103515245) + 12345) - ((y3 * 1103515245) + 12345) / 2147483648 * 2147483648) * 1103515245) + 12345) / 2147483648 * 2147483648) / 65536) / ((1001 : Int32).toInt64) * ((1001 : Int32).toInt64)).toInt32) - 500), .int (((((((y3 * 1103515245) + 12345) - ((y3 * 1103515245) + 12345) / 2147483648 * 2147483648) / 65536) - ((((y3 * 1103515245) + 12345) - ((y3 * 1103515245) + 12345) / 2147483648 * 2147483648) / 65536) / ((1001 : Int32).toInt64) * ((1001 : Int32).toInt64)).toInt32) - 500), .ref 1] σ _
    refine x_iadd (pc' := 140) dX7_scatter_139 rfl ?_
    refine x_callV (pc' := 143) (As := [.int (((((((y3 * 1103515245) + 12345) - ((y3 * 1103515245) + 12345) / 2147483648 * 2147483648) / 65536) - ((((y3 * 1103515245) + 12345) - ((y3 * 1103515245) + 12345) / 2147483648 * 2147483648) / 65536) / ((1001 : Int32).toInt64) * ((1001 : Int32).toInt64)).toInt32) - 500), .int ((((((((((y3 * 1103515245) + 12345) - ((y3 * 1103515245) + 12345) / 2147483648 * 2147483648) * 1103515245) + 12345) - (((((y3 * 1103515245) + 12345) - ((y3 * 1103515245) + 12345) / 2147483648 * 2147483648) * 1103515245) + 12345) / 2147483648 * 2147483648) / 65536) - (((((((y3 * 1103515245) + 12345) - ((y3 * 1103515245) + 12345) / 2147483648 * 2147483648) * 1103515245) + 12345) - (((((y3 * 1103515245) + 12345) - ((y3 * 1103515245) + 12345) / 2147483648 * 2147483648) * 1103515245) + 12345) / 2147483648 * 2147483648) / 65536) / ((1001 : Int32).toInt64) * ((1001 : Int32).toInt64)).toInt32) - 500), .int (1 + ((((((((((((y3 * 1103515245) + 12345) - ((y3 * 1103515245) + 12345) / 2147483648 * 2147483648) * 1103515245) + 12345) - (((((y3 * 1103515245) + 12345) - ((y3 * 1103515245) + 12345) / 2147483648 * 2147483648) * 1103515245) + 12345) / 2147483648 * 2147483648) * 1103515245) + 12345) - ((((((((y3 * 1103515245) + 12345) - ((y3 * 1103515245) + 12345) / 2147483648 * 2147483648) * 1103515245) + 12345) - (((((y3 * 1103515245) + 12345) - ((y3 * 1103515245) + 12345) / 2147483648 * 2147483648) * 1103515245) + 12345) / 2147483648 * 2147483648) * 1103515245) + 12345) / 2147483648 * 2147483648) / 65536) - ((((((((((y3 * 1103515245) + 12345) - ((y3 * 1103515245) + 12345) / 2147483648 * 2147483648) * 1103515245) + 12345) - (((((y3 * 1103515245) + 12345) - ((y3 * 1103515245) + 12345) / 2147483648 * 2147483648) * 1103515245) + 12345) / 2147483648 * 2147483648) * 1103515245) + 12345) - ((((((((y3 * 1103515245) + 12345) - ((y3 * 1103515245) + 12345) / 2147483648 * 2147483648) * 1103515245) + 12345) - (((((y3 * 1103515245) + 12345) - ((y3 * 1103515245) + 12345) / 2147483648 * 2147483648) * 1103515245) + 12345) / 2147483648 * 2147483648) * 1103515245) + 12345) / 2147483648 * 2147483648) / 65536) / ((100 : Int32).toInt64) * ((100 : Int32).toInt64)).toInt32))]) dX7_scatter_140 rfl lmX7_86 (OKF.k okF_1) rfl rfl (Nat.le_of_ble_eq_true rfl) (Nat.le_of_ble_eq_true rfl) ?_
    show X none (d + 2) mX0_come 0 [.ref 1, .int (((((((y3 * 1103515245) + 12345) - ((y3 * 1103515245) + 12345) / 2147483648 * 2147483648) / 65536) - ((((y3 * 1103515245) + 12345) - ((y3 * 1103515245) + 12345) / 2147483648 * 2147483648) / 65536) / ((1001 : Int32).toInt64) * ((1001 : Int32).toInt64)).toInt32) - 500), .int ((((((((((y3 * 1103515245) + 12345) - ((y3 * 1103515245) + 12345) / 2147483648 * 2147483648) * 1103515245) + 12345) - (((((y3 * 1103515245) + 12345) - ((y3 * 1103515245) + 12345) / 2147483648 * 2147483648) * 1103515245) + 12345) / 2147483648 * 2147483648) / 65536) - (((((((y3 * 1103515245) + 12345) - ((y3 * 1103515245) + 12345) / 2147483648 * 2147483648) * 1103515245) + 12345) - (((((y3 * 1103515245) + 12345) - ((y3 * 1103515245) + 12345) / 2147483648 * 2147483648) * 1103515245) + 12345) / 2147483648 * 2147483648) / 65536) / ((1001 : Int32).toInt64) * ((1001 : Int32).toInt64)).toInt32) - 500), .int (1 + ((((((((((((y3 * 1103515245) + 12345) - ((y3 * 1103515245) + 12345) / 2147483648 * 2147483648) * 1103515245) + 12345) - (((((y3 * 1103515245) + 12345) - ((y3 * 1103515245) + 12345) / 2147483648 * 2147483648) * 1103515245) + 12345) / 2147483648 * 2147483648) * 1103515245) + 12345) - ((((((((y3 * 1103515245) + 12345) - ((y3 * 1103515245) + 12345) / 2147483648 * 2147483648) * 1103515245) + 12345) - (((((y3 * 1103515245) + 12345) - ((y3 * 1103515245) + 12345) / 2147483648 * 2147483648) * 1103515245) + 12345) / 2147483648 * 2147483648) * 1103515245) + 12345) / 2147483648 * 2147483648) / 65536) - ((((((((((y3 * 1103515245) + 12345) - ((y3 * 1103515245) + 12345) / 2147483648 * 2147483648) * 1103515245) + 12345) - (((((y3 * 1103515245) + 12345) - ((y3 * 1103515245) + 12345) / 2147483648 * 2147483648) * 1103515245) + 12345) / 2147483648 * 2147483648) * 1103515245) + 12345) - ((((((((y3 * 1103515245) + 12345) - ((y3 * 1103515245) + 12345) / 2147483648 * 2147483648) * 1103515245) + 12345) - (((((y3 * 1103515245) + 12345) - ((y3 * 1103515245) + 12345) / 2147483648 * 2147483648) * 1103515245) + 12345) / 2147483648 * 2147483648) * 1103515245) + 12345) / 2147483648 * 2147483648) / 65536) / ((100 : Int32).toInt64) * ((100 : Int32).toInt64)).toInt32))] [] σ _
    refine X.mono h ?_
    rintro r τ1 ⟨u2, rfl, h⟩
    show X none (d + 3) mX7_scatter 143 [.ref 0, .int x1, .int x2, .long (((((((((y3 * 1103515245) + 12345) - ((y3 * 1103515245) + 12345) / 2147483648 * 2147483648) * 1103515245) + 12345) - (((((y3 * 1103515245) + 12345) - ((y3 * 1103515245) + 12345) / 2147483648 * 2147483648) * 1103515245) + 12345) / 2147483648 * 2147483648) * 1103515245) + 12345) - ((((((((y3 * 1103515245) + 12345) - ((y3 * 1103515245) + 12345) / 2147483648 * 2147483648) * 1103515245) + 12345) - (((((y3 * 1103515245) + 12345) - ((y3 * 1103515245) + 12345) / 2147483648 * 2147483648) * 1103515245) + 12345) / 2147483648 * 2147483648) * 1103515245) + 12345) / 2147483648 * 2147483648), Unk, .int x5, .int (((((((y3 * 1103515245) + 12345) - ((y3 * 1103515245) + 12345) / 2147483648 * 2147483648) / 65536) - ((((y3 * 1103515245) + 12345) - ((y3 * 1103515245) + 12345) / 2147483648 * 2147483648) / 65536) / ((1001 : Int32).toInt64) * ((1001 : Int32).toInt64)).toInt32) - 500), .int ((((((((((y3 * 1103515245) + 12345) - ((y3 * 1103515245) + 12345) / 2147483648 * 2147483648) * 1103515245) + 12345) - (((((y3 * 1103515245) + 12345) - ((y3 * 1103515245) + 12345) / 2147483648 * 2147483648) * 1103515245) + 12345) / 2147483648 * 2147483648) / 65536) - (((((((y3 * 1103515245) + 12345) - ((y3 * 1103515245) + 12345) / 2147483648 * 2147483648) * 1103515245) + 12345) - (((((y3 * 1103515245) + 12345) - ((y3 * 1103515245) + 12345) / 2147483648 * 2147483648) * 1103515245) + 12345) / 2147483648 * 2147483648) / 65536) / ((1001 : Int32).toInt64) * ((1001 : Int32).toInt64)).toInt32) - 500)] [.int u2] τ1 _
    refine x_pop (pc' := 144) dX7_scatter_143 rfl rfl ?_
    refine x_iinc (pc' := 147) (v := 1) dX7_scatter_144 rfl (by decide) rfl rfl (by decide) (ls' := [.ref 0, .int x1, .int x2, .long (((((((((y3 * 1103515245) + 12345) - ((y3 * 1103515245) + 12345) / 2147483648 * 2147483648) * 1103515245) + 12345) - (((((y3 * 1103515245) + 12345) - ((y3 * 1103515245) + 12345) / 2147483648 * 2147483648) * 1103515245) + 12345) / 2147483648 * 2147483648) * 1103515245) + 12345) - ((((((((y3 * 1103515245) + 12345) - ((y3 * 1103515245) + 12345) / 2147483648 * 2147483648) * 1103515245) + 12345) - (((((y3 * 1103515245) + 12345) - ((y3 * 1103515245) + 12345) / 2147483648 * 2147483648) * 1103515245) + 12345) / 2147483648 * 2147483648) * 1103515245) + 12345) / 2147483648 * 2147483648), Unk, .int (x5 + 1), .int (((((((y3 * 1103515245) + 12345) - ((y3 * 1103515245) + 12345) / 2147483648 * 2147483648) / 65536) - ((((y3 * 1103515245) + 12345) - ((y3 * 1103515245) + 12345) / 2147483648 * 2147483648) / 65536) / ((1001 : Int32).toInt64) * ((1001 : Int32).toInt64)).toInt32) - 500), .int ((((((((((y3 * 1103515245) + 12345) - ((y3 * 1103515245) + 12345) / 2147483648 * 2147483648) * 1103515245) + 12345) - (((((y3 * 1103515245) + 12345) - ((y3 * 1103515245) + 12345) / 2147483648 * 2147483648) * 1103515245) + 12345) / 2147483648 * 2147483648) / 65536) - (((((((y3 * 1103515245) + 12345) - ((y3 * 1103515245) + 12345) / 2147483648 * 2147483648) * 1103515245) + 12345) - (((((y3 * 1103515245) + 12345) - ((y3 * 1103515245) + 12345) / 2147483648 * 2147483648) * 1103515245) + 12345) / 2147483648 * 2147483648) / 65536) / ((1001 : Int32).toInt64) * ((1001 : Int32).toInt64)).toInt32) - 500)]) rfl ?_
    refine x_goto (pc' := 77) dX7_scatter_147 (by decide) ?_
    refine x_forget 6 (ls' := [.ref 0, .int x1, .int x2, .long (((((((((y3 * 1103515245) + 12345) - ((y3 * 1103515245) + 12345) / 2147483648 * 2147483648) * 1103515245) + 12345) - (((((y3 * 1103515245) + 12345) - ((y3 * 1103515245) + 12345) / 2147483648 * 2147483648) * 1103515245) + 12345) / 2147483648 * 2147483648) * 1103515245) + 12345) - ((((((((y3 * 1103515245) + 12345) - ((y3 * 1103515245) + 12345) / 2147483648 * 2147483648) * 1103515245) + 12345) - (((((y3 * 1103515245) + 12345) - ((y3 * 1103515245) + 12345) / 2147483648 * 2147483648) * 1103515245) + 12345) / 2147483648 * 2147483648) * 1103515245) + 12345) / 2147483648 * 2147483648), Unk, .int (x5 + 1), Unk, .int ((((((((((y3 * 1103515245) + 12345) - ((y3 * 1103515245) + 12345) / 2147483648 * 2147483648) * 1103515245) + 12345) - (((((y3 * 1103515245) + 12345) - ((y3 * 1103515245) + 12345) / 2147483648 * 2147483648) * 1103515245) + 12345) / 2147483648 * 2147483648) / 65536) - (((((((y3 * 1103515245) + 12345) - ((y3 * 1103515245) + 12345) / 2147483648 * 2147483648) * 1103515245) + 12345) - (((((y3 * 1103515245) + 12345) - ((y3 * 1103515245) + 12345) / 2147483648 * 2147483648) * 1103515245) + 12345) / 2147483648 * 2147483648) / 65536) / ((1001 : Int32).toInt64) * ((1001 : Int32).toInt64)).toInt32) - 500)]) rfl ?_
    refine x_forget 7 (ls' := [.ref 0, .int x1, .int x2, .long (((((((((y3 * 1103515245) + 12345) - ((y3 * 1103515245) + 12345) / 2147483648 * 2147483648) * 1103515245) + 12345) - (((((y3 * 1103515245) + 12345) - ((y3 * 1103515245) + 12345) / 2147483648 * 2147483648) * 1103515245) + 12345) / 2147483648 * 2147483648) * 1103515245) + 12345) - ((((((((y3 * 1103515245) + 12345) - ((y3 * 1103515245) + 12345) / 2147483648 * 2147483648) * 1103515245) + 12345) - (((((y3 * 1103515245) + 12345) - ((y3 * 1103515245) + 12345) / 2147483648 * 2147483648) * 1103515245) + 12345) / 2147483648 * 2147483648) * 1103515245) + 12345) / 2147483648 * 2147483648), Unk, .int (x5 + 1), Unk, Unk]) rfl ?_
    exact h
