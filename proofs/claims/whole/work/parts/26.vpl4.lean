set_option maxRecDepth 100000 in
set_option maxHeartbeats 4000000 in
theorem vX7_odds_0 {d : Nat} {σ : Mem} {Q : Option Value → Mem → Prop} {x1 x2 x3 x4 x5 x6 : Int32} 
    (h : (X none (d + 3) mX7_isRectangle 0 [.int x1, .int x2, .int x3, .int x4] [] σ (fun r τ1 => ∃ u2 : Int32, r = some (.int u2) ∧ ((u2 = 0 → (∀ τ3 : Mem, τ3 = (w1 τ1 0 10 ((τ1.1 0 10) + 1)) → Q (some (.int (-2000000002))) τ3)) ∧ (¬ u2 = 0 → ((x5 < 0 → (∀ τ4 : Mem, τ4 = (w1 τ1 0 10 ((τ1.1 0 10) + 1)) → Q (some (.int (-2000000002))) τ4)) ∧ (¬ x5 < 0 → ((15 < x5 → (∀ τ5 : Mem, τ5 = (w1 τ1 0 10 ((τ1.1 0 10) + 1)) → Q (some (.int (-2000000002))) τ5)) ∧ (¬ 15 < x5 → ((x6 < 0 → (∀ τ6 : Mem, τ6 = (w1 τ1 0 10 ((τ1.1 0 10) + 1)) → Q (some (.int (-2000000002))) τ6)) ∧ (¬ x6 < 0 → ((x6 ≤ 10 → (X none (d + 3) mX7_pickRectangle 0 [.ref 0, .int x1, .int x2, .int x3, .int x4] [] τ1 (fun r τ7 => r = none ∧ (((τ7.1 57 1) ≤ 15 → (X none (d + 3) mX1_becomeOdds 0 [.ref 72, .int (τ7.1 57 1), .int x5, .int x6, Unk, Unk, Unk, Unk, Unk, Unk, Unk, Unk] [] τ7 (fun r τ8 => r = none ∧ Q (some (.int 1)) τ8))) ∧ (¬ (τ7.1 57 1) ≤ 15 → (∀ τ9 : Mem, τ9 = (w1 τ7 0 11 ((τ7.1 0 11) + 1)) → Q (some (.int (-2000000003))) τ9)))))) ∧ (¬ x6 ≤ 10 → (∀ τ10 : Mem, τ10 = (w1 τ1 0 10 ((τ1.1 0 10) + 1)) → Q (some (.int (-2000000002))) τ10)))))))))))))) :
    X none (d + 4) mX7_odds 0 [.ref 0, .int x1, .int x2, .int x3, .int x4, .int x5, .int x6] [] σ Q := by
  refine x_iload_n (pc' := 1) dX7_odds_0 rfl rfl rfl ?_
  refine x_iload_n (pc' := 2) dX7_odds_1 rfl rfl rfl ?_
  refine x_iload_n (pc' := 3) dX7_odds_2 rfl rfl rfl ?_
  refine x_iload (pc' := 5) dX7_odds_3 rfl rfl ?_
  refine x_callS (pc' := 8) (As := [.int x1, .int x2, .int x3, .int x4]) dX7_odds_5 rfl lmX7_105 rfl rfl (Nat.le_of_ble_eq_true rfl) (Nat.le_of_ble_eq_true rfl) ?_
  show X none (d + 3) mX7_isRectangle 0 [.int x1, .int x2, .int x3, .int x4] [] σ _
  refine X.mono h ?_
  rintro r τ1 ⟨u2, rfl, h⟩
  show X none (d + 4) mX7_odds 8 [.ref 0, .int x1, .int x2, .int x3, .int x4, .int x5, .int x6] [.int u2] τ1 _
  refine x_if_eq (pc' := 11) (tgt := 35) dX7_odds_8 (by decide) rfl (fun hc => ?_) (fun hc => ?_)
  · replace h := h.1 hc
    refine x_aload_n (pc' := 36) dX7_odds_35 rfl rfl rfl ?_
    refine x_ldc (pc' := 38) dX7_odds_36 rfl lcX7_68 ?_
    refine x_callV (pc' := 41) (As := [.int (-2000000002)]) dX7_odds_38 rfl lmX7_69 kd_0 rfl rfl (Nat.le_of_ble_eq_true rfl) (Nat.le_of_ble_eq_true rfl) ?_
    show X none (d + 3) mX7_refuse 0 [.ref 0, .int (-2000000002)] [] τ1 _
    refine x_iload_n (pc' := 1) dX7_refuse_0 rfl rfl rfl ?_
    refine x_ldc (pc' := 3) dX7_refuse_1 rfl lcX7_68 ?_
    refine x_icmp_ne (pc' := 6) (tgt := 19) dX7_refuse_3 (by decide) rfl (fun hc => absurd hc (by decide)) (fun _ => ?_)
    refine x_aload_n (pc' := 7) dX7_refuse_6 rfl rfl rfl ?_
    refine x_dup (pc' := 8) dX7_refuse_7 rfl rfl ?_
    refine x_geti (pc' := 11) dX7_refuse_8 rfl lfX7_267 kd_0 rfl ?_
    refine x_iconst (pc' := 12) (v := 1) dX7_refuse_11 rfl (by decide) ?_
    refine x_iadd (pc' := 13) dX7_refuse_12 rfl ?_
    refine x_puti (pc' := 16) dX7_refuse_13 rfl lfX7_267 kd_0 rfl rfl rfl ?_
    obtain ⟨τ3, eτ3⟩ : ∃ τ : Mem, τ = (w1 τ1 0 10 ((τ1.1 0 10) + 1)) := ⟨_, rfl⟩
    show X none (d + 3) mX7_refuse 16 [.ref 0, .int (-2000000002)] [] (w1 τ1 0 10 ((τ1.1 0 10) + 1)) _
    rw [← eτ3]
    replace h := h τ3 eτ3
    refine x_goto (pc' := 48) dX7_refuse_16 (by decide) ?_
    refine x_iload_n (pc' := 49) dX7_refuse_48 rfl rfl rfl ?_
    refine x_iret dX7_refuse_49 rfl rfl ?_
    show X none (d + 4) mX7_odds 41 [.ref 0, .int x1, .int x2, .int x3, .int x4, .int x5, .int x6] [.int (-2000000002)] τ3 _
    exact x_iret dX7_odds_41 rfl rfl h
  · replace h := h.2 hc
    refine x_iload (pc' := 13) dX7_odds_11 rfl rfl ?_
    refine x_if_lt (pc' := 16) (tgt := 35) dX7_odds_13 (by decide) rfl (fun hc => ?_) (fun hc => ?_)
    · replace h := h.1 hc
      refine x_aload_n (pc' := 36) dX7_odds_35 rfl rfl rfl ?_
      refine x_ldc (pc' := 38) dX7_odds_36 rfl lcX7_68 ?_
      refine x_callV (pc' := 41) (As := [.int (-2000000002)]) dX7_odds_38 rfl lmX7_69 kd_0 rfl rfl (Nat.le_of_ble_eq_true rfl) (Nat.le_of_ble_eq_true rfl) ?_
      show X none (d + 3) mX7_refuse 0 [.ref 0, .int (-2000000002)] [] τ1 _
      refine x_iload_n (pc' := 1) dX7_refuse_0 rfl rfl rfl ?_
      refine x_ldc (pc' := 3) dX7_refuse_1 rfl lcX7_68 ?_
      refine x_icmp_ne (pc' := 6) (tgt := 19) dX7_refuse_3 (by decide) rfl (fun hc => absurd hc (by decide)) (fun _ => ?_)
      refine x_aload_n (pc' := 7) dX7_refuse_6 rfl rfl rfl ?_
      refine x_dup (pc' := 8) dX7_refuse_7 rfl rfl ?_
      refine x_geti (pc' := 11) dX7_refuse_8 rfl lfX7_267 kd_0 rfl ?_
      refine x_iconst (pc' := 12) (v := 1) dX7_refuse_11 rfl (by decide) ?_
      refine x_iadd (pc' := 13) dX7_refuse_12 rfl ?_
      refine x_puti (pc' := 16) dX7_refuse_13 rfl lfX7_267 kd_0 rfl rfl rfl ?_
      obtain ⟨τ4, eτ4⟩ : ∃ τ : Mem, τ = (w1 τ1 0 10 ((τ1.1 0 10) + 1)) := ⟨_, rfl⟩
      show X none (d + 3) mX7_refuse 16 [.ref 0, .int (-2000000002)] [] (w1 τ1 0 10 ((τ1.1 0 10) + 1)) _
      rw [← eτ4]
      replace h := h τ4 eτ4
      refine x_goto (pc' := 48) dX7_refuse_16 (by decide) ?_
      refine x_iload_n (pc' := 49) dX7_refuse_48 rfl rfl rfl ?_
      refine x_iret dX7_refuse_49 rfl rfl ?_
      show X none (d + 4) mX7_odds 41 [.ref 0, .int x1, .int x2, .int x3, .int x4, .int x5, .int x6] [.int (-2000000002)] τ4 _
      exact x_iret dX7_odds_41 rfl rfl h
    · replace h := h.2 hc
      refine x_iload (pc' := 18) dX7_odds_16 rfl rfl ?_
      refine x_bipush (pc' := 20) (v := 15) dX7_odds_18 rfl (by decide) ?_
      refine x_icmp_gt (pc' := 23) (tgt := 35) dX7_odds_20 (by decide) rfl (fun hc => ?_) (fun hc => ?_)
      · replace h := h.1 hc
        refine x_aload_n (pc' := 36) dX7_odds_35 rfl rfl rfl ?_
        refine x_ldc (pc' := 38) dX7_odds_36 rfl lcX7_68 ?_
        refine x_callV (pc' := 41) (As := [.int (-2000000002)]) dX7_odds_38 rfl lmX7_69 kd_0 rfl rfl (Nat.le_of_ble_eq_true rfl) (Nat.le_of_ble_eq_true rfl) ?_
        show X none (d + 3) mX7_refuse 0 [.ref 0, .int (-2000000002)] [] τ1 _
        refine x_iload_n (pc' := 1) dX7_refuse_0 rfl rfl rfl ?_
        refine x_ldc (pc' := 3) dX7_refuse_1 rfl lcX7_68 ?_
        refine x_icmp_ne (pc' := 6) (tgt := 19) dX7_refuse_3 (by decide) rfl (fun hc => absurd hc (by decide)) (fun _ => ?_)
        refine x_aload_n (pc' := 7) dX7_refuse_6 rfl rfl rfl ?_
        refine x_dup (pc' := 8) dX7_refuse_7 rfl rfl ?_
        refine x_geti (pc' := 11) dX7_refuse_8 rfl lfX7_267 kd_0 rfl ?_
        refine x_iconst (pc' := 12) (v := 1) dX7_refuse_11 rfl (by decide) ?_
        refine x_iadd (pc' := 13) dX7_refuse_12 rfl ?_
        refine x_puti (pc' := 16) dX7_refuse_13 rfl lfX7_267 kd_0 rfl rfl rfl ?_
        obtain ⟨τ5, eτ5⟩ : ∃ τ : Mem, τ = (w1 τ1 0 10 ((τ1.1 0 10) + 1)) := ⟨_, rfl⟩
        show X none (d + 3) mX7_refuse 16 [.ref 0, .int (-2000000002)] [] (w1 τ1 0 10 ((τ1.1 0 10) + 1)) _
        rw [← eτ5]
        replace h := h τ5 eτ5
        refine x_goto (pc' := 48) dX7_refuse_16 (by decide) ?_
        refine x_iload_n (pc' := 49) dX7_refuse_48 rfl rfl rfl ?_
        refine x_iret dX7_refuse_49 rfl rfl ?_
        show X none (d + 4) mX7_odds 41 [.ref 0, .int x1, .int x2, .int x3, .int x4, .int x5, .int x6] [.int (-2000000002)] τ5 _
        exact x_iret dX7_odds_41 rfl rfl h
      · replace h := h.2 hc
        refine x_iload (pc' := 25) dX7_odds_23 rfl rfl ?_
        refine x_if_lt (pc' := 28) (tgt := 35) dX7_odds_25 (by decide) rfl (fun hc => ?_) (fun hc => ?_)
        · replace h := h.1 hc
          refine x_aload_n (pc' := 36) dX7_odds_35 rfl rfl rfl ?_
          refine x_ldc (pc' := 38) dX7_odds_36 rfl lcX7_68 ?_
          refine x_callV (pc' := 41) (As := [.int (-2000000002)]) dX7_odds_38 rfl lmX7_69 kd_0 rfl rfl (Nat.le_of_ble_eq_true rfl) (Nat.le_of_ble_eq_true rfl) ?_
          show X none (d + 3) mX7_refuse 0 [.ref 0, .int (-2000000002)] [] τ1 _
          refine x_iload_n (pc' := 1) dX7_refuse_0 rfl rfl rfl ?_
          refine x_ldc (pc' := 3) dX7_refuse_1 rfl lcX7_68 ?_
          refine x_icmp_ne (pc' := 6) (tgt := 19) dX7_refuse_3 (by decide) rfl (fun hc => absurd hc (by decide)) (fun _ => ?_)
          refine x_aload_n (pc' := 7) dX7_refuse_6 rfl rfl rfl ?_
          refine x_dup (pc' := 8) dX7_refuse_7 rfl rfl ?_
          refine x_geti (pc' := 11) dX7_refuse_8 rfl lfX7_267 kd_0 rfl ?_
          refine x_iconst (pc' := 12) (v := 1) dX7_refuse_11 rfl (by decide) ?_
          refine x_iadd (pc' := 13) dX7_refuse_12 rfl ?_
          refine x_puti (pc' := 16) dX7_refuse_13 rfl lfX7_267 kd_0 rfl rfl rfl ?_
          obtain ⟨τ6, eτ6⟩ : ∃ τ : Mem, τ = (w1 τ1 0 10 ((τ1.1 0 10) + 1)) := ⟨_, rfl⟩
          show X none (d + 3) mX7_refuse 16 [.ref 0, .int (-2000000002)] [] (w1 τ1 0 10 ((τ1.1 0 10) + 1)) _
          rw [← eτ6]
          replace h := h τ6 eτ6
          refine x_goto (pc' := 48) dX7_refuse_16 (by decide) ?_
          refine x_iload_n (pc' := 49) dX7_refuse_48 rfl rfl rfl ?_
          refine x_iret dX7_refuse_49 rfl rfl ?_
          show X none (d + 4) mX7_odds 41 [.ref 0, .int x1, .int x2, .int x3, .int x4, .int x5, .int x6] [.int (-2000000002)] τ6 _
          exact x_iret dX7_odds_41 rfl rfl h
        · replace h := h.2 hc
          refine x_iload (pc' := 30) dX7_odds_28 rfl rfl ?_
          refine x_bipush (pc' := 32) (v := 10) dX7_odds_30 rfl (by decide) ?_
          refine x_icmp_le (pc' := 35) (tgt := 42) dX7_odds_32 (by decide) rfl (fun hc => ?_) (fun hc => ?_)
          · replace h := h.1 hc
            refine x_aload_n (pc' := 43) dX7_odds_42 rfl rfl rfl ?_
            refine x_iload_n (pc' := 44) dX7_odds_43 rfl rfl rfl ?_
            refine x_iload_n (pc' := 45) dX7_odds_44 rfl rfl rfl ?_
            refine x_iload_n (pc' := 46) dX7_odds_45 rfl rfl rfl ?_
            refine x_iload (pc' := 48) dX7_odds_46 rfl rfl ?_
            refine x_callV (pc' := 51) (As := [.int x1, .int x2, .int x3, .int x4]) dX7_odds_48 rfl lmX7_109 kd_0 rfl rfl (Nat.le_of_ble_eq_true rfl) (Nat.le_of_ble_eq_true rfl) ?_
            show X none (d + 3) mX7_pickRectangle 0 [.ref 0, .int x1, .int x2, .int x3, .int x4] [] τ1 _
            refine X.mono h ?_
            rintro r τ7 ⟨rfl, h⟩
            show X none (d + 4) mX7_odds 51 [.ref 0, .int x1, .int x2, .int x3, .int x4, .int x5, .int x6] [] τ7 _
            refine x_aload_n (pc' := 52) dX7_odds_51 rfl rfl rfl ?_
            refine x_getr (pc' := 55) dX7_odds_52 rfl lfX7_26 kd_0 rfl rf_0_2 ?_
            refine x_geti (pc' := 58) dX7_odds_55 rfl lfX7_157 (OKP.k okP_57) rfl ?_
            refine x_bipush (pc' := 60) (v := 15) dX7_odds_58 rfl (by decide) ?_
            refine x_icmp_le (pc' := 63) (tgt := 70) dX7_odds_60 (by decide) rfl (fun hc => ?_) (fun hc => ?_)
            · replace h := h.1 hc
              refine x_aload_n (pc' := 71) dX7_odds_70 rfl rfl rfl ?_
              refine x_getr (pc' := 74) dX7_odds_71 rfl lfX7_53 kd_0 rfl rf_0_7 ?_
              refine x_aload_n (pc' := 75) dX7_odds_74 rfl rfl rfl ?_
              refine x_getr (pc' := 78) dX7_odds_75 rfl lfX7_26 kd_0 rfl rf_0_2 ?_
              refine x_geti (pc' := 81) dX7_odds_78 rfl lfX7_157 (OKP.k okP_57) rfl ?_
              refine x_iload (pc' := 83) dX7_odds_81 rfl rfl ?_
              refine x_iload (pc' := 85) dX7_odds_83 rfl rfl ?_
              refine x_callV (pc' := 88) (As := [.int (τ7.1 57 1), .int x5, .int x6]) dX7_odds_85 rfl lmX7_245 kd_72 rfl rfl (Nat.le_of_ble_eq_true rfl) (Nat.le_of_ble_eq_true rfl) ?_
              show X none (d + 3) mX1_becomeOdds 0 [.ref 72, .int (τ7.1 57 1), .int x5, .int x6, Unk, Unk, Unk, Unk, Unk, Unk, Unk, Unk] [] τ7 _
              refine X.mono h ?_
              rintro r τ8 ⟨rfl, h⟩
              show X none (d + 4) mX7_odds 88 [.ref 0, .int x1, .int x2, .int x3, .int x4, .int x5, .int x6] [] τ8 _
              refine x_iconst (pc' := 89) (v := 1) dX7_odds_88 rfl (by decide) ?_
              exact x_iret dX7_odds_89 rfl rfl h
            · replace h := h.2 hc
              refine x_aload_n (pc' := 64) dX7_odds_63 rfl rfl rfl ?_
              refine x_ldc (pc' := 66) dX7_odds_64 rfl lcX7_123 ?_
              refine x_callV (pc' := 69) (As := [.int (-2000000003)]) dX7_odds_66 rfl lmX7_69 kd_0 rfl rfl (Nat.le_of_ble_eq_true rfl) (Nat.le_of_ble_eq_true rfl) ?_
              show X none (d + 3) mX7_refuse 0 [.ref 0, .int (-2000000003)] [] τ7 _
              refine x_iload_n (pc' := 1) dX7_refuse_0 rfl rfl rfl ?_
              refine x_ldc (pc' := 3) dX7_refuse_1 rfl lcX7_68 ?_
              refine x_icmp_ne (pc' := 6) (tgt := 19) dX7_refuse_3 (by decide) rfl (fun _ => ?_) (fun hc => absurd hc (by decide))
              refine x_iload_n (pc' := 20) dX7_refuse_19 rfl rfl rfl ?_
              refine x_ldc (pc' := 22) dX7_refuse_20 rfl lcX7_123 ?_
              refine x_icmp_ne (pc' := 25) (tgt := 38) dX7_refuse_22 (by decide) rfl (fun hc => absurd hc (by decide)) (fun _ => ?_)
              refine x_aload_n (pc' := 26) dX7_refuse_25 rfl rfl rfl ?_
              refine x_dup (pc' := 27) dX7_refuse_26 rfl rfl ?_
              refine x_geti (pc' := 30) dX7_refuse_27 rfl lfX7_270 kd_0 rfl ?_
              refine x_iconst (pc' := 31) (v := 1) dX7_refuse_30 rfl (by decide) ?_
              refine x_iadd (pc' := 32) dX7_refuse_31 rfl ?_
              refine x_puti (pc' := 35) dX7_refuse_32 rfl lfX7_270 kd_0 rfl rfl rfl ?_
              obtain ⟨τ9, eτ9⟩ : ∃ τ : Mem, τ = (w1 τ7 0 11 ((τ7.1 0 11) + 1)) := ⟨_, rfl⟩
              show X none (d + 3) mX7_refuse 35 [.ref 0, .int (-2000000003)] [] (w1 τ7 0 11 ((τ7.1 0 11) + 1)) _
              rw [← eτ9]
              replace h := h τ9 eτ9
              refine x_goto (pc' := 48) dX7_refuse_35 (by decide) ?_
              refine x_iload_n (pc' := 49) dX7_refuse_48 rfl rfl rfl ?_
              refine x_iret dX7_refuse_49 rfl rfl ?_
              show X none (d + 4) mX7_odds 69 [.ref 0, .int x1, .int x2, .int x3, .int x4, .int x5, .int x6] [.int (-2000000003)] τ9 _
              exact x_iret dX7_odds_69 rfl rfl h
          · replace h := h.2 hc
            refine x_aload_n (pc' := 36) dX7_odds_35 rfl rfl rfl ?_
            refine x_ldc (pc' := 38) dX7_odds_36 rfl lcX7_68 ?_
            refine x_callV (pc' := 41) (As := [.int (-2000000002)]) dX7_odds_38 rfl lmX7_69 kd_0 rfl rfl (Nat.le_of_ble_eq_true rfl) (Nat.le_of_ble_eq_true rfl) ?_
            show X none (d + 3) mX7_refuse 0 [.ref 0, .int (-2000000002)] [] τ1 _
            refine x_iload_n (pc' := 1) dX7_refuse_0 rfl rfl rfl ?_
            refine x_ldc (pc' := 3) dX7_refuse_1 rfl lcX7_68 ?_
            refine x_icmp_ne (pc' := 6) (tgt := 19) dX7_refuse_3 (by decide) rfl (fun hc => absurd hc (by decide)) (fun _ => ?_)
            refine x_aload_n (pc' := 7) dX7_refuse_6 rfl rfl rfl ?_
            refine x_dup (pc' := 8) dX7_refuse_7 rfl rfl ?_
            refine x_geti (pc' := 11) dX7_refuse_8 rfl lfX7_267 kd_0 rfl ?_
            refine x_iconst (pc' := 12) (v := 1) dX7_refuse_11 rfl (by decide) ?_
            refine x_iadd (pc' := 13) dX7_refuse_12 rfl ?_
            refine x_puti (pc' := 16) dX7_refuse_13 rfl lfX7_267 kd_0 rfl rfl rfl ?_
            obtain ⟨τ10, eτ10⟩ : ∃ τ : Mem, τ = (w1 τ1 0 10 ((τ1.1 0 10) + 1)) := ⟨_, rfl⟩
            show X none (d + 3) mX7_refuse 16 [.ref 0, .int (-2000000002)] [] (w1 τ1 0 10 ((τ1.1 0 10) + 1)) _
            rw [← eτ10]
            replace h := h τ10 eτ10
            refine x_goto (pc' := 48) dX7_refuse_16 (by decide) ?_
            refine x_iload_n (pc' := 49) dX7_refuse_48 rfl rfl rfl ?_
            refine x_iret dX7_refuse_49 rfl rfl ?_
            show X none (d + 4) mX7_odds 41 [.ref 0, .int x1, .int x2, .int x3, .int x4, .int x5, .int x6] [.int (-2000000002)] τ10 _
            exact x_iret dX7_odds_41 rfl rfl h
set_option maxRecDepth 100000 in
set_option maxHeartbeats 4000000 in
theorem vX7_part_0 {d : Nat} {σ : Mem} {Q : Option Value → Mem → Prop} {x1 : Int32} 
    (h : ((x1.toInt = 0 → Q (some (.long (σ.2 72 0))) σ) ∧ (x1.toInt = 1 → Q (some (.long (σ.2 72 1))) σ) ∧ (¬ (x1.toInt = 0 ∨ x1.toInt = 1) → (∀ τ1 : Mem, τ1 = (w1 σ 0 10 ((σ.1 0 10) + 1)) → Q (some (.long (((-2000000002) : Int32).toInt64))) τ1)))) :
    X none (d + 1) mX7_part 0 [.ref 0, .int x1] [] σ Q := by
  refine x_iload_n (pc' := 1) dX7_part_0 rfl rfl rfl ?_
  by_cases hc : x1.toInt = 0 ∨ x1.toInt = 1
  · rcases hc with hr | hr
    · refine x_lookup (pc' := 28) dX7_part_1 (by decide) (off := 27) (by rw [hr]; decide) (by decide) ?_
      replace h := h.1 hr
      refine x_aload_n (pc' := 29) dX7_part_28 rfl rfl rfl ?_
      refine x_getr (pc' := 32) dX7_part_29 rfl lfX7_53 kd_0 rfl rf_0_7 ?_
      refine x_getl (pc' := 35) dX7_part_32 rfl lfX7_249 kd_72 rfl ?_
      exact x_lret dX7_part_35 rfl h
    · refine x_lookup (pc' := 36) dX7_part_1 (by decide) (off := 35) (by rw [hr]; decide) (by decide) ?_
      replace h := h.2.1 hr
      refine x_aload_n (pc' := 37) dX7_part_36 rfl rfl rfl ?_
      refine x_getr (pc' := 40) dX7_part_37 rfl lfX7_53 kd_0 rfl rf_0_7 ?_
      refine x_getl (pc' := 43) dX7_part_40 rfl lfX7_253 kd_72 rfl ?_
      exact x_lret dX7_part_43 rfl h
  · refine x_lookup (pc' := 44) dX7_part_1 (by decide) (off := 43) (by simp only [not_or] at hc; simp [Op.lookupswitch.offset, hc, Ne.symm, eq_comm]) (by decide) ?_
    replace h := h.2.2 hc
    refine x_aload_n (pc' := 45) dX7_part_44 rfl rfl rfl ?_
    refine x_ldc (pc' := 47) dX7_part_45 rfl lcX7_68 ?_
    refine x_callV (pc' := 50) (As := [.int (-2000000002)]) dX7_part_47 rfl lmX7_69 kd_0 rfl rfl (Nat.le_of_ble_eq_true rfl) (Nat.le_of_ble_eq_true rfl) ?_
    show X none d mX7_refuse 0 [.ref 0, .int (-2000000002)] [] σ _
    refine x_iload_n (pc' := 1) dX7_refuse_0 rfl rfl rfl ?_
    refine x_ldc (pc' := 3) dX7_refuse_1 rfl lcX7_68 ?_
    refine x_icmp_ne (pc' := 6) (tgt := 19) dX7_refuse_3 (by decide) rfl (fun hc => absurd hc (by decide)) (fun _ => ?_)
    refine x_aload_n (pc' := 7) dX7_refuse_6 rfl rfl rfl ?_
    refine x_dup (pc' := 8) dX7_refuse_7 rfl rfl ?_
    refine x_geti (pc' := 11) dX7_refuse_8 rfl lfX7_267 kd_0 rfl ?_
    refine x_iconst (pc' := 12) (v := 1) dX7_refuse_11 rfl (by decide) ?_
    refine x_iadd (pc' := 13) dX7_refuse_12 rfl ?_
    refine x_puti (pc' := 16) dX7_refuse_13 rfl lfX7_267 kd_0 rfl rfl rfl ?_
    obtain ⟨τ1, eτ1⟩ : ∃ τ : Mem, τ = (w1 σ 0 10 ((σ.1 0 10) + 1)) := ⟨_, rfl⟩
    show X none d mX7_refuse 16 [.ref 0, .int (-2000000002)] [] (w1 σ 0 10 ((σ.1 0 10) + 1)) _
    rw [← eτ1]
    replace h := h τ1 eτ1
    refine x_goto (pc' := 48) dX7_refuse_16 (by decide) ?_
    refine x_iload_n (pc' := 49) dX7_refuse_48 rfl rfl rfl ?_
    refine x_iret dX7_refuse_49 rfl rfl ?_
    show X none (d + 1) mX7_part 50 [.ref 0, .int x1] [.int (-2000000002)] τ1 _
    refine x_i2l (pc' := 51) dX7_part_50 rfl ?_
    exact x_lret dX7_part_51 rfl h
set_option maxRecDepth 100000 in
set_option maxHeartbeats 4000000 in
theorem vX7_image_0 {d : Nat} {σ : Mem} {Q : Option Value → Mem → Prop} {x1 : Int32} 
    (h : ((x1 < 0 → (∀ τ1 : Mem, τ1 = (w1 σ 0 10 ((σ.1 0 10) + 1)) → Q (some (.int (-2000000002))) τ1)) ∧ (¬ x1 < 0 → ((x1 < 2 → (vp_in x1 2 ∧ (X none (d + 2) mX3_keep 0 [.ref (74 + 10 * x1.toNatClampNeg), .ref 1, .ref 64] [] σ (fun r τ3 => r = none ∧ Q (some (.int 1)) τ3)))) ∧ (¬ x1 < 2 → (∀ τ4 : Mem, τ4 = (w1 σ 0 10 ((σ.1 0 10) + 1)) → Q (some (.int (-2000000002))) τ4)))))) :
    X none (d + 3) mX7_image 0 [.ref 0, .int x1] [] σ Q := by
  refine x_iload_n (pc' := 1) dX7_image_0 rfl rfl rfl ?_
  refine x_if_lt (pc' := 4) (tgt := 9) dX7_image_1 (by decide) rfl (fun hc => ?_) (fun hc => ?_)
  · replace h := h.1 hc
    refine x_aload_n (pc' := 10) dX7_image_9 rfl rfl rfl ?_
    refine x_ldc (pc' := 12) dX7_image_10 rfl lcX7_68 ?_
    refine x_callV (pc' := 15) (As := [.int (-2000000002)]) dX7_image_12 rfl lmX7_69 kd_0 rfl rfl (Nat.le_of_ble_eq_true rfl) (Nat.le_of_ble_eq_true rfl) ?_
    show X none (d + 2) mX7_refuse 0 [.ref 0, .int (-2000000002)] [] σ _
    refine x_iload_n (pc' := 1) dX7_refuse_0 rfl rfl rfl ?_
    refine x_ldc (pc' := 3) dX7_refuse_1 rfl lcX7_68 ?_
    refine x_icmp_ne (pc' := 6) (tgt := 19) dX7_refuse_3 (by decide) rfl (fun hc => absurd hc (by decide)) (fun _ => ?_)
    refine x_aload_n (pc' := 7) dX7_refuse_6 rfl rfl rfl ?_
    refine x_dup (pc' := 8) dX7_refuse_7 rfl rfl ?_
    refine x_geti (pc' := 11) dX7_refuse_8 rfl lfX7_267 kd_0 rfl ?_
    refine x_iconst (pc' := 12) (v := 1) dX7_refuse_11 rfl (by decide) ?_
    refine x_iadd (pc' := 13) dX7_refuse_12 rfl ?_
    refine x_puti (pc' := 16) dX7_refuse_13 rfl lfX7_267 kd_0 rfl rfl rfl ?_
    obtain ⟨τ1, eτ1⟩ : ∃ τ : Mem, τ = (w1 σ 0 10 ((σ.1 0 10) + 1)) := ⟨_, rfl⟩
    show X none (d + 2) mX7_refuse 16 [.ref 0, .int (-2000000002)] [] (w1 σ 0 10 ((σ.1 0 10) + 1)) _
    rw [← eτ1]
    replace h := h τ1 eτ1
    refine x_goto (pc' := 48) dX7_refuse_16 (by decide) ?_
    refine x_iload_n (pc' := 49) dX7_refuse_48 rfl rfl rfl ?_
    refine x_iret dX7_refuse_49 rfl rfl ?_
    show X none (d + 3) mX7_image 15 [.ref 0, .int x1] [.int (-2000000002)] τ1 _
    exact x_iret dX7_image_15 rfl rfl h
  · replace h := h.2 hc
    refine x_iload_n (pc' := 5) dX7_image_4 rfl rfl rfl ?_
    refine x_iconst (pc' := 6) (v := 2) dX7_image_5 rfl (by decide) ?_
    refine x_icmp_lt (pc' := 9) (tgt := 16) dX7_image_6 (by decide) rfl (fun hc => ?_) (fun hc => ?_)
    · replace h := h.1 hc
      refine x_aload_n (pc' := 17) dX7_image_16 rfl rfl rfl ?_
      refine x_getr (pc' := 20) dX7_image_17 rfl lfX7_59 kd_0 rfl rf_0_8 ?_
      refine x_iload_n (pc' := 21) dX7_image_20 rfl rfl rfl ?_
      obtain ⟨hb2, h⟩ := h
      refine x_aald (pc' := 22) dX7_image_21 rfl (Or.inr kd_73) (by rw [ln_73]; exact hb2) (kpt_rf hb2) ?_
      refine x_aload_n (pc' := 23) dX7_image_22 rfl rfl rfl ?_
      refine x_getr (pc' := 26) dX7_image_23 rfl lfX7_10 kd_0 rfl rf_0_0 ?_
      refine x_aload_n (pc' := 27) dX7_image_26 rfl rfl rfl ?_
      refine x_getr (pc' := 30) dX7_image_27 rfl lfX7_40 kd_0 rfl rf_0_5 ?_
      refine x_callV (pc' := 33) (As := [.ref 1, .ref 64]) dX7_image_30 rfl lmX7_256 (OKI.k (kpt_ok hb2)) rfl rfl (Nat.le_of_ble_eq_true rfl) (Nat.le_of_ble_eq_true rfl) ?_
      show X none (d + 2) mX3_keep 0 [.ref (74 + 10 * x1.toNatClampNeg), .ref 1, .ref 64] [] σ _
      refine X.mono h ?_
      rintro r τ3 ⟨rfl, h⟩
      show X none (d + 3) mX7_image 33 [.ref 0, .int x1] [] τ3 _
      refine x_iconst (pc' := 34) (v := 1) dX7_image_33 rfl (by decide) ?_
      exact x_iret dX7_image_34 rfl rfl h
    · replace h := h.2 hc
      refine x_aload_n (pc' := 10) dX7_image_9 rfl rfl rfl ?_
      refine x_ldc (pc' := 12) dX7_image_10 rfl lcX7_68 ?_
      refine x_callV (pc' := 15) (As := [.int (-2000000002)]) dX7_image_12 rfl lmX7_69 kd_0 rfl rfl (Nat.le_of_ble_eq_true rfl) (Nat.le_of_ble_eq_true rfl) ?_
      show X none (d + 2) mX7_refuse 0 [.ref 0, .int (-2000000002)] [] σ _
      refine x_iload_n (pc' := 1) dX7_refuse_0 rfl rfl rfl ?_
      refine x_ldc (pc' := 3) dX7_refuse_1 rfl lcX7_68 ?_
      refine x_icmp_ne (pc' := 6) (tgt := 19) dX7_refuse_3 (by decide) rfl (fun hc => absurd hc (by decide)) (fun _ => ?_)
      refine x_aload_n (pc' := 7) dX7_refuse_6 rfl rfl rfl ?_
      refine x_dup (pc' := 8) dX7_refuse_7 rfl rfl ?_
      refine x_geti (pc' := 11) dX7_refuse_8 rfl lfX7_267 kd_0 rfl ?_
      refine x_iconst (pc' := 12) (v := 1) dX7_refuse_11 rfl (by decide) ?_
      refine x_iadd (pc' := 13) dX7_refuse_12 rfl ?_
      refine x_puti (pc' := 16) dX7_refuse_13 rfl lfX7_267 kd_0 rfl rfl rfl ?_
      obtain ⟨τ4, eτ4⟩ : ∃ τ : Mem, τ = (w1 σ 0 10 ((σ.1 0 10) + 1)) := ⟨_, rfl⟩
      show X none (d + 2) mX7_refuse 16 [.ref 0, .int (-2000000002)] [] (w1 σ 0 10 ((σ.1 0 10) + 1)) _
      rw [← eτ4]
      replace h := h τ4 eτ4
      refine x_goto (pc' := 48) dX7_refuse_16 (by decide) ?_
      refine x_iload_n (pc' := 49) dX7_refuse_48 rfl rfl rfl ?_
      refine x_iret dX7_refuse_49 rfl rfl ?_
      show X none (d + 3) mX7_image 15 [.ref 0, .int x1] [.int (-2000000002)] τ4 _
      exact x_iret dX7_image_15 rfl rfl h
set_option maxRecDepth 100000 in
set_option maxHeartbeats 4000000 in
theorem vX7_from_0 {d : Nat} {σ : Mem} {Q : Option Value → Mem → Prop} {x1 : Int32} 
    (h : ((x1 < 0 → (∀ τ1 : Mem, τ1 = (w1 σ 0 10 ((σ.1 0 10) + 1)) → Q (some (.int (-2000000002))) τ1)) ∧ (¬ x1 < 0 → ((x1 < 2 → (vp_in x1 2 ∧ ((¬ (σ.1 (74 + 10 * x1.toNatClampNeg) 2) = 0 → (vp_in x1 2 ∧ (X none (d + 2) mX3_bringBack 0 [.ref (74 + 10 * x1.toNatClampNeg), .ref 1, .ref 64] [] σ (fun r τ4 => r = none ∧ (∀ τ5 : Mem, τ5 = (w1 τ4 7 2 0) → Q (some (.int 1)) τ5))))) ∧ ((σ.1 (74 + 10 * x1.toNatClampNeg) 2) = 0 → (∀ τ6 : Mem, τ6 = (w1 σ 0 11 ((σ.1 0 11) + 1)) → Q (some (.int (-2000000003))) τ6))))) ∧ (¬ x1 < 2 → (∀ τ7 : Mem, τ7 = (w1 σ 0 10 ((σ.1 0 10) + 1)) → Q (some (.int (-2000000002))) τ7)))))) :
    X none (d + 3) mX7_from 0 [.ref 0, .int x1] [] σ Q := by
  refine x_iload_n (pc' := 1) dX7_from_0 rfl rfl rfl ?_
  refine x_if_lt (pc' := 4) (tgt := 9) dX7_from_1 (by decide) rfl (fun hc => ?_) (fun hc => ?_)
  · replace h := h.1 hc
    refine x_aload_n (pc' := 10) dX7_from_9 rfl rfl rfl ?_
    refine x_ldc (pc' := 12) dX7_from_10 rfl lcX7_68 ?_
    refine x_callV (pc' := 15) (As := [.int (-2000000002)]) dX7_from_12 rfl lmX7_69 kd_0 rfl rfl (Nat.le_of_ble_eq_true rfl) (Nat.le_of_ble_eq_true rfl) ?_
    show X none (d + 2) mX7_refuse 0 [.ref 0, .int (-2000000002)] [] σ _
    refine x_iload_n (pc' := 1) dX7_refuse_0 rfl rfl rfl ?_
    refine x_ldc (pc' := 3) dX7_refuse_1 rfl lcX7_68 ?_
    refine x_icmp_ne (pc' := 6) (tgt := 19) dX7_refuse_3 (by decide) rfl (fun hc => absurd hc (by decide)) (fun _ => ?_)
    refine x_aload_n (pc' := 7) dX7_refuse_6 rfl rfl rfl ?_
    refine x_dup (pc' := 8) dX7_refuse_7 rfl rfl ?_
    refine x_geti (pc' := 11) dX7_refuse_8 rfl lfX7_267 kd_0 rfl ?_
    refine x_iconst (pc' := 12) (v := 1) dX7_refuse_11 rfl (by decide) ?_
    refine x_iadd (pc' := 13) dX7_refuse_12 rfl ?_
    refine x_puti (pc' := 16) dX7_refuse_13 rfl lfX7_267 kd_0 rfl rfl rfl ?_
    obtain ⟨τ1, eτ1⟩ : ∃ τ : Mem, τ = (w1 σ 0 10 ((σ.1 0 10) + 1)) := ⟨_, rfl⟩
    show X none (d + 2) mX7_refuse 16 [.ref 0, .int (-2000000002)] [] (w1 σ 0 10 ((σ.1 0 10) + 1)) _
    rw [← eτ1]
    replace h := h τ1 eτ1
    refine x_goto (pc' := 48) dX7_refuse_16 (by decide) ?_
    refine x_iload_n (pc' := 49) dX7_refuse_48 rfl rfl rfl ?_
    refine x_iret dX7_refuse_49 rfl rfl ?_
    show X none (d + 3) mX7_from 15 [.ref 0, .int x1] [.int (-2000000002)] τ1 _
    exact x_iret dX7_from_15 rfl rfl h
  · replace h := h.2 hc
    refine x_iload_n (pc' := 5) dX7_from_4 rfl rfl rfl ?_
    refine x_iconst (pc' := 6) (v := 2) dX7_from_5 rfl (by decide) ?_
    refine x_icmp_lt (pc' := 9) (tgt := 16) dX7_from_6 (by decide) rfl (fun hc => ?_) (fun hc => ?_)
    · replace h := h.1 hc
      refine x_aload_n (pc' := 17) dX7_from_16 rfl rfl rfl ?_
      refine x_getr (pc' := 20) dX7_from_17 rfl lfX7_59 kd_0 rfl rf_0_8 ?_
      refine x_iload_n (pc' := 21) dX7_from_20 rfl rfl rfl ?_
      obtain ⟨hb2, h⟩ := h
      refine x_aald (pc' := 22) dX7_from_21 rfl (Or.inr kd_73) (by rw [ln_73]; exact hb2) (kpt_rf hb2) ?_
      refine x_geti (pc' := 25) dX7_from_22 rfl lfX7_258 (OKI.k (kpt_ok hb2)) rfl ?_
      refine x_if_ne (pc' := 28) (tgt := 35) dX7_from_25 (by decide) rfl (fun hc => ?_) (fun hc => ?_)
      · replace h := h.1 hc
        refine x_aload_n (pc' := 36) dX7_from_35 rfl rfl rfl ?_
        refine x_getr (pc' := 39) dX7_from_36 rfl lfX7_59 kd_0 rfl rf_0_8 ?_
        refine x_iload_n (pc' := 40) dX7_from_39 rfl rfl rfl ?_
        obtain ⟨hb3, h⟩ := h
        refine x_aald (pc' := 41) dX7_from_40 rfl (Or.inr kd_73) (by rw [ln_73]; exact hb3) (kpt_rf hb3) ?_
        refine x_aload_n (pc' := 42) dX7_from_41 rfl rfl rfl ?_
        refine x_getr (pc' := 45) dX7_from_42 rfl lfX7_10 kd_0 rfl rf_0_0 ?_
        refine x_aload_n (pc' := 46) dX7_from_45 rfl rfl rfl ?_
        refine x_getr (pc' := 49) dX7_from_46 rfl lfX7_40 kd_0 rfl rf_0_5 ?_
        refine x_callV (pc' := 52) (As := [.ref 1, .ref 64]) dX7_from_49 rfl lmX7_262 (OKI.k (kpt_ok hb3)) rfl rfl (Nat.le_of_ble_eq_true rfl) (Nat.le_of_ble_eq_true rfl) ?_
        show X none (d + 2) mX3_bringBack 0 [.ref (74 + 10 * x1.toNatClampNeg), .ref 1, .ref 64] [] σ _
        refine X.mono h ?_
        rintro r τ4 ⟨rfl, h⟩
        show X none (d + 3) mX7_from 52 [.ref 0, .int x1] [] τ4 _
        refine x_aload_n (pc' := 53) dX7_from_52 rfl rfl rfl ?_
        refine x_getr (pc' := 56) dX7_from_53 rfl lfX7_19 kd_0 rfl rf_0_1 ?_
        refine x_callV (pc' := 59) (As := []) dX7_from_56 rfl lmX7_264 kd_7 rfl rfl (Nat.le_of_ble_eq_true rfl) (Nat.le_of_ble_eq_true rfl) ?_
        show X none (d + 2) mX2_forget 0 [.ref 7] [] τ4 _
        refine x_aload_n (pc' := 1) dX2_forget_0 rfl rfl rfl ?_
        refine x_iconst (pc' := 2) (v := 0) dX2_forget_1 rfl (by decide) ?_
        refine x_puti (pc' := 5) dX2_forget_2 rfl lfX2_22 kd_7 rfl rfl rfl ?_
        obtain ⟨τ5, eτ5⟩ : ∃ τ : Mem, τ = (w1 τ4 7 2 0) := ⟨_, rfl⟩
        show X none (d + 2) mX2_forget 5 [.ref 7] [] (w1 τ4 7 2 0) _
        rw [← eτ5]
        replace h := h τ5 eτ5
        refine x_vret dX2_forget_5 rfl ?_
        show X none (d + 3) mX7_from 59 [.ref 0, .int x1] [] τ5 _
        refine x_iconst (pc' := 60) (v := 1) dX7_from_59 rfl (by decide) ?_
        exact x_iret dX7_from_60 rfl rfl h
      · replace h := h.2 hc
        refine x_aload_n (pc' := 29) dX7_from_28 rfl rfl rfl ?_
        refine x_ldc (pc' := 31) dX7_from_29 rfl lcX7_123 ?_
        refine x_callV (pc' := 34) (As := [.int (-2000000003)]) dX7_from_31 rfl lmX7_69 kd_0 rfl rfl (Nat.le_of_ble_eq_true rfl) (Nat.le_of_ble_eq_true rfl) ?_
        show X none (d + 2) mX7_refuse 0 [.ref 0, .int (-2000000003)] [] σ _
        refine x_iload_n (pc' := 1) dX7_refuse_0 rfl rfl rfl ?_
        refine x_ldc (pc' := 3) dX7_refuse_1 rfl lcX7_68 ?_
        refine x_icmp_ne (pc' := 6) (tgt := 19) dX7_refuse_3 (by decide) rfl (fun _ => ?_) (fun hc => absurd hc (by decide))
        refine x_iload_n (pc' := 20) dX7_refuse_19 rfl rfl rfl ?_
        refine x_ldc (pc' := 22) dX7_refuse_20 rfl lcX7_123 ?_
        refine x_icmp_ne (pc' := 25) (tgt := 38) dX7_refuse_22 (by decide) rfl (fun hc => absurd hc (by decide)) (fun _ => ?_)
        refine x_aload_n (pc' := 26) dX7_refuse_25 rfl rfl rfl ?_
        refine x_dup (pc' := 27) dX7_refuse_26 rfl rfl ?_
        refine x_geti (pc' := 30) dX7_refuse_27 rfl lfX7_270 kd_0 rfl ?_
        refine x_iconst (pc' := 31) (v := 1) dX7_refuse_30 rfl (by decide) ?_
        refine x_iadd (pc' := 32) dX7_refuse_31 rfl ?_
        refine x_puti (pc' := 35) dX7_refuse_32 rfl lfX7_270 kd_0 rfl rfl rfl ?_
        obtain ⟨τ6, eτ6⟩ : ∃ τ : Mem, τ = (w1 σ 0 11 ((σ.1 0 11) + 1)) := ⟨_, rfl⟩
        show X none (d + 2) mX7_refuse 35 [.ref 0, .int (-2000000003)] [] (w1 σ 0 11 ((σ.1 0 11) + 1)) _
        rw [← eτ6]
        replace h := h τ6 eτ6
        refine x_goto (pc' := 48) dX7_refuse_35 (by decide) ?_
        refine x_iload_n (pc' := 49) dX7_refuse_48 rfl rfl rfl ?_
        refine x_iret dX7_refuse_49 rfl rfl ?_
        show X none (d + 3) mX7_from 34 [.ref 0, .int x1] [.int (-2000000003)] τ6 _
        exact x_iret dX7_from_34 rfl rfl h
    · replace h := h.2 hc
      refine x_aload_n (pc' := 10) dX7_from_9 rfl rfl rfl ?_
      refine x_ldc (pc' := 12) dX7_from_10 rfl lcX7_68 ?_
      refine x_callV (pc' := 15) (As := [.int (-2000000002)]) dX7_from_12 rfl lmX7_69 kd_0 rfl rfl (Nat.le_of_ble_eq_true rfl) (Nat.le_of_ble_eq_true rfl) ?_
      show X none (d + 2) mX7_refuse 0 [.ref 0, .int (-2000000002)] [] σ _
      refine x_iload_n (pc' := 1) dX7_refuse_0 rfl rfl rfl ?_
      refine x_ldc (pc' := 3) dX7_refuse_1 rfl lcX7_68 ?_
      refine x_icmp_ne (pc' := 6) (tgt := 19) dX7_refuse_3 (by decide) rfl (fun hc => absurd hc (by decide)) (fun _ => ?_)
      refine x_aload_n (pc' := 7) dX7_refuse_6 rfl rfl rfl ?_
      refine x_dup (pc' := 8) dX7_refuse_7 rfl rfl ?_
      refine x_geti (pc' := 11) dX7_refuse_8 rfl lfX7_267 kd_0 rfl ?_
      refine x_iconst (pc' := 12) (v := 1) dX7_refuse_11 rfl (by decide) ?_
      refine x_iadd (pc' := 13) dX7_refuse_12 rfl ?_
      refine x_puti (pc' := 16) dX7_refuse_13 rfl lfX7_267 kd_0 rfl rfl rfl ?_
      obtain ⟨τ7, eτ7⟩ : ∃ τ : Mem, τ = (w1 σ 0 10 ((σ.1 0 10) + 1)) := ⟨_, rfl⟩
      show X none (d + 2) mX7_refuse 16 [.ref 0, .int (-2000000002)] [] (w1 σ 0 10 ((σ.1 0 10) + 1)) _
      rw [← eτ7]
      replace h := h τ7 eτ7
      refine x_goto (pc' := 48) dX7_refuse_16 (by decide) ?_
      refine x_iload_n (pc' := 49) dX7_refuse_48 rfl rfl rfl ?_
      refine x_iret dX7_refuse_49 rfl rfl ?_
      show X none (d + 3) mX7_from 15 [.ref 0, .int x1] [.int (-2000000002)] τ7 _
      exact x_iret dX7_from_15 rfl rfl h
set_option maxRecDepth 100000 in
set_option maxHeartbeats 4000000 in
theorem vX7_status_0 {d : Nat} {σ : Mem} {Q : Option Value → Mem → Prop} {x1 : Int32} 
    (h : ((x1.toInt < 0 ∨ 2 < x1.toInt → (∀ τ1 : Mem, τ1 = (w1 σ 0 10 ((σ.1 0 10) + 1)) → Q (some (.int (-1))) τ1)) ∧ (x1.toInt = 0 → Q (some (.int (σ.1 0 10))) σ) ∧ (x1.toInt = 1 → Q (some (.int (σ.1 0 11))) σ) ∧ (x1.toInt = 2 → Q (some (.int (σ.1 0 12))) σ))) :
    X none (d + 1) mX7_status 0 [.ref 0, .int x1] [] σ Q := by
  refine x_iload_n (pc' := 1) dX7_status_0 rfl rfl rfl ?_
  by_cases hc : x1.toInt < 0 ∨ 2 < x1.toInt
  · refine x_tblOut (pc' := 43) dX7_status_1 hc (by decide) ?_
    replace h := h.1 hc
    refine x_aload_n (pc' := 44) dX7_status_43 rfl rfl rfl ?_
    refine x_ldc (pc' := 46) dX7_status_44 rfl lcX7_68 ?_
    refine x_callV (pc' := 49) (As := [.int (-2000000002)]) dX7_status_46 rfl lmX7_69 kd_0 rfl rfl (Nat.le_of_ble_eq_true rfl) (Nat.le_of_ble_eq_true rfl) ?_
    show X none d mX7_refuse 0 [.ref 0, .int (-2000000002)] [] σ _
    refine x_iload_n (pc' := 1) dX7_refuse_0 rfl rfl rfl ?_
    refine x_ldc (pc' := 3) dX7_refuse_1 rfl lcX7_68 ?_
    refine x_icmp_ne (pc' := 6) (tgt := 19) dX7_refuse_3 (by decide) rfl (fun hc => absurd hc (by decide)) (fun _ => ?_)
    refine x_aload_n (pc' := 7) dX7_refuse_6 rfl rfl rfl ?_
    refine x_dup (pc' := 8) dX7_refuse_7 rfl rfl ?_
    refine x_geti (pc' := 11) dX7_refuse_8 rfl lfX7_267 kd_0 rfl ?_
    refine x_iconst (pc' := 12) (v := 1) dX7_refuse_11 rfl (by decide) ?_
    refine x_iadd (pc' := 13) dX7_refuse_12 rfl ?_
    refine x_puti (pc' := 16) dX7_refuse_13 rfl lfX7_267 kd_0 rfl rfl rfl ?_
    obtain ⟨τ1, eτ1⟩ : ∃ τ : Mem, τ = (w1 σ 0 10 ((σ.1 0 10) + 1)) := ⟨_, rfl⟩
    show X none d mX7_refuse 16 [.ref 0, .int (-2000000002)] [] (w1 σ 0 10 ((σ.1 0 10) + 1)) _
    rw [← eτ1]
    replace h := h τ1 eτ1
    refine x_goto (pc' := 48) dX7_refuse_16 (by decide) ?_
    refine x_iload_n (pc' := 49) dX7_refuse_48 rfl rfl rfl ?_
    refine x_iret dX7_refuse_49 rfl rfl ?_
    show X none (d + 1) mX7_status 49 [.ref 0, .int x1] [.int (-2000000002)] τ1 _
    refine x_pop (pc' := 50) dX7_status_49 rfl rfl ?_
    refine x_iconst (pc' := 51) (v := (-1)) dX7_status_50 rfl (by decide) ?_
    exact x_iret dX7_status_51 rfl rfl h
  · replace h := h.2
    have hr : x1.toInt = 0 ∨ x1.toInt = 1 ∨ x1.toInt = 2 := by omega
    rcases hr with hr | hr | hr
    · refine x_tblIn (pc' := 28) dX7_status_1 (by omega) (by omega) (off := 27) (by rw [hr]; rfl) (by decide) ?_
      replace h := h.1 hr
      refine x_aload_n (pc' := 29) dX7_status_28 rfl rfl rfl ?_
      refine x_geti (pc' := 32) dX7_status_29 rfl lfX7_267 kd_0 rfl ?_
      exact x_iret dX7_status_32 rfl rfl h
    · refine x_tblIn (pc' := 33) dX7_status_1 (by omega) (by omega) (off := 32) (by rw [hr]; rfl) (by decide) ?_
      replace h := h.2.1 hr
      refine x_aload_n (pc' := 34) dX7_status_33 rfl rfl rfl ?_
      refine x_geti (pc' := 37) dX7_status_34 rfl lfX7_270 kd_0 rfl ?_
      exact x_iret dX7_status_37 rfl rfl h
    · refine x_tblIn (pc' := 38) dX7_status_1 (by omega) (by omega) (off := 37) (by rw [hr]; rfl) (by decide) ?_
      replace h := h.2.2 hr
      refine x_aload_n (pc' := 39) dX7_status_38 rfl rfl rfl ?_
      refine x_geti (pc' := 42) dX7_status_39 rfl lfX7_273 kd_0 rfl ?_
      exact x_iret dX7_status_42 rfl rfl h
set_option maxRecDepth 100000 in
set_option maxHeartbeats 4000000 in
theorem vX7_size_0 {d : Nat} {σ : Mem} {Q : Option Value → Mem → Prop} {x1 : Int32} 
    (h : ((x1.toInt < 0 ∨ 7 < x1.toInt → (∀ τ1 : Mem, τ1 = (w1 σ 0 10 ((σ.1 0 10) + 1)) → Q (some (.int (-2000000002))) τ1)) ∧ (x1.toInt = 0 → Q (some (.int ((σ.1 1 5) - (σ.1 1 6)))) σ) ∧ (x1.toInt = 1 → Q (some (.int (σ.1 1 6))) σ) ∧ (x1.toInt = 2 → Q (some (.int (σ.1 1 10))) σ) ∧ (x1.toInt = 3 → Q (some (.int (σ.1 1 9))) σ) ∧ (x1.toInt = 4 → (X none (d + 1) mX0_weightOfAll 0 [.ref 1, Unk, Unk] [] σ (fun r τ2 => ∃ u3 : Int32, r = some (.int u3) ∧ Q (some (.int u3)) τ2))) ∧ (x1.toInt = 5 → Q (some (.int (σ.1 7 2))) σ) ∧ (x1.toInt = 6 → Q (some (.int (σ.1 67 2))) σ) ∧ (x1.toInt = 7 → Q (some (.int (σ.1 64 3))) σ))) :
    X none (d + 2) mX7_size 0 [.ref 0, .int x1] [] σ Q := by
  refine x_iload_n (pc' := 1) dX7_size_0 rfl rfl rfl ?_
  by_cases hc : x1.toInt < 0 ∨ 7 < x1.toInt
  · refine x_tblOut (pc' := 112) dX7_size_1 hc (by decide) ?_
    replace h := h.1 hc
    refine x_aload_n (pc' := 113) dX7_size_112 rfl rfl rfl ?_
    refine x_ldc (pc' := 115) dX7_size_113 rfl lcX7_68 ?_
    refine x_callV (pc' := 118) (As := [.int (-2000000002)]) dX7_size_115 rfl lmX7_69 kd_0 rfl rfl (Nat.le_of_ble_eq_true rfl) (Nat.le_of_ble_eq_true rfl) ?_
    show X none (d + 1) mX7_refuse 0 [.ref 0, .int (-2000000002)] [] σ _
    refine x_iload_n (pc' := 1) dX7_refuse_0 rfl rfl rfl ?_
    refine x_ldc (pc' := 3) dX7_refuse_1 rfl lcX7_68 ?_
    refine x_icmp_ne (pc' := 6) (tgt := 19) dX7_refuse_3 (by decide) rfl (fun hc => absurd hc (by decide)) (fun _ => ?_)
    refine x_aload_n (pc' := 7) dX7_refuse_6 rfl rfl rfl ?_
    refine x_dup (pc' := 8) dX7_refuse_7 rfl rfl ?_
    refine x_geti (pc' := 11) dX7_refuse_8 rfl lfX7_267 kd_0 rfl ?_
    refine x_iconst (pc' := 12) (v := 1) dX7_refuse_11 rfl (by decide) ?_
    refine x_iadd (pc' := 13) dX7_refuse_12 rfl ?_
    refine x_puti (pc' := 16) dX7_refuse_13 rfl lfX7_267 kd_0 rfl rfl rfl ?_
    obtain ⟨τ1, eτ1⟩ : ∃ τ : Mem, τ = (w1 σ 0 10 ((σ.1 0 10) + 1)) := ⟨_, rfl⟩
    show X none (d + 1) mX7_refuse 16 [.ref 0, .int (-2000000002)] [] (w1 σ 0 10 ((σ.1 0 10) + 1)) _
    rw [← eτ1]
    replace h := h τ1 eτ1
    refine x_goto (pc' := 48) dX7_refuse_16 (by decide) ?_
    refine x_iload_n (pc' := 49) dX7_refuse_48 rfl rfl rfl ?_
    refine x_iret dX7_refuse_49 rfl rfl ?_
    show X none (d + 2) mX7_size 118 [.ref 0, .int x1] [.int (-2000000002)] τ1 _
    exact x_iret dX7_size_118 rfl rfl h
  · replace h := h.2
    have hr : x1.toInt = 0 ∨ x1.toInt = 1 ∨ x1.toInt = 2 ∨ x1.toInt = 3 ∨ x1.toInt = 4 ∨ x1.toInt = 5 ∨ x1.toInt = 6 ∨ x1.toInt = 7 := by omega
    rcases hr with hr | hr | hr | hr | hr | hr | hr | hr
    · refine x_tblIn (pc' := 48) dX7_size_1 (by omega) (by omega) (off := 47) (by rw [hr]; rfl) (by decide) ?_
      replace h := h.1 hr
      refine x_aload_n (pc' := 49) dX7_size_48 rfl rfl rfl ?_
      refine x_getr (pc' := 52) dX7_size_49 rfl lfX7_10 kd_0 rfl rf_0_0 ?_
      refine x_callV (pc' := 55) (As := []) dX7_size_52 rfl lmX7_73 (OKF.k okF_1) rfl rfl (Nat.le_of_ble_eq_true rfl) (Nat.le_of_ble_eq_true rfl) ?_
      show X none (d + 1) mX0_there 0 [.ref 1] [] σ _
      refine x_aload_n (pc' := 1) dX0_there_0 rfl rfl rfl ?_
      refine x_geti (pc' := 4) dX0_there_1 rfl lfX0_27 (OKF.k okF_1) rfl ?_
      refine x_aload_n (pc' := 5) dX0_there_4 rfl rfl rfl ?_
      refine x_geti (pc' := 8) dX0_there_5 rfl lfX0_31 (OKF.k okF_1) rfl ?_
      refine x_isub (pc' := 9) dX0_there_8 rfl ?_
      refine x_iret dX0_there_9 rfl rfl ?_
      show X none (d + 2) mX7_size 55 [.ref 0, .int x1] [.int ((σ.1 1 5) - (σ.1 1 6))] σ _
      exact x_iret dX7_size_55 rfl rfl h
    · refine x_tblIn (pc' := 56) dX7_size_1 (by omega) (by omega) (off := 55) (by rw [hr]; rfl) (by decide) ?_
      replace h := h.2.1 hr
      refine x_aload_n (pc' := 57) dX7_size_56 rfl rfl rfl ?_
      refine x_getr (pc' := 60) dX7_size_57 rfl lfX7_10 kd_0 rfl rf_0_0 ?_
      refine x_geti (pc' := 63) dX7_size_60 rfl lfX7_197 (OKF.k okF_1) rfl ?_
      exact x_iret dX7_size_63 rfl rfl h
    · refine x_tblIn (pc' := 64) dX7_size_1 (by omega) (by omega) (off := 63) (by rw [hr]; rfl) (by decide) ?_
      replace h := h.2.2.1 hr
      refine x_aload_n (pc' := 65) dX7_size_64 rfl rfl rfl ?_
      refine x_getr (pc' := 68) dX7_size_65 rfl lfX7_10 kd_0 rfl rf_0_0 ?_
      refine x_geti (pc' := 71) dX7_size_68 rfl lfX7_276 (OKF.k okF_1) rfl ?_
      exact x_iret dX7_size_71 rfl rfl h
    · refine x_tblIn (pc' := 72) dX7_size_1 (by omega) (by omega) (off := 71) (by rw [hr]; rfl) (by decide) ?_
      replace h := h.2.2.2.1 hr
      refine x_aload_n (pc' := 73) dX7_size_72 rfl rfl rfl ?_
      refine x_getr (pc' := 76) dX7_size_73 rfl lfX7_10 kd_0 rfl rf_0_0 ?_
      refine x_geti (pc' := 79) dX7_size_76 rfl lfX7_116 (OKF.k okF_1) rfl ?_
      exact x_iret dX7_size_79 rfl rfl h
    · refine x_tblIn (pc' := 80) dX7_size_1 (by omega) (by omega) (off := 79) (by rw [hr]; rfl) (by decide) ?_
      replace h := h.2.2.2.2.1 hr
      refine x_aload_n (pc' := 81) dX7_size_80 rfl rfl rfl ?_
      refine x_getr (pc' := 84) dX7_size_81 rfl lfX7_10 kd_0 rfl rf_0_0 ?_
      refine x_callV (pc' := 87) (As := []) dX7_size_84 rfl lmX7_279 (OKF.k okF_1) rfl rfl (Nat.le_of_ble_eq_true rfl) (Nat.le_of_ble_eq_true rfl) ?_
      show X none (d + 1) mX0_weightOfAll 0 [.ref 1, Unk, Unk] [] σ _
      refine X.mono h ?_
      rintro r τ2 ⟨u3, rfl, h⟩
      show X none (d + 2) mX7_size 87 [.ref 0, .int x1] [.int u3] τ2 _
      exact x_iret dX7_size_87 rfl rfl h
    · refine x_tblIn (pc' := 88) dX7_size_1 (by omega) (by omega) (off := 87) (by rw [hr]; rfl) (by decide) ?_
      replace h := h.2.2.2.2.2.1 hr
      refine x_aload_n (pc' := 89) dX7_size_88 rfl rfl rfl ?_
      refine x_getr (pc' := 92) dX7_size_89 rfl lfX7_19 kd_0 rfl rf_0_1 ?_
      refine x_geti (pc' := 95) dX7_size_92 rfl lfX7_120 kd_7 rfl ?_
      exact x_iret dX7_size_95 rfl rfl h
    · refine x_tblIn (pc' := 96) dX7_size_1 (by omega) (by omega) (off := 95) (by rw [hr]; rfl) (by decide) ?_
      replace h := h.2.2.2.2.2.2.1 hr
      refine x_aload_n (pc' := 97) dX7_size_96 rfl rfl rfl ?_
      refine x_getr (pc' := 100) dX7_size_97 rfl lfX7_46 kd_0 rfl rf_0_6 ?_
      refine x_geti (pc' := 103) dX7_size_100 rfl lfX7_218 kd_67 rfl ?_
      exact x_iret dX7_size_103 rfl rfl h
    · refine x_tblIn (pc' := 104) dX7_size_1 (by omega) (by omega) (off := 103) (by rw [hr]; rfl) (by decide) ?_
      replace h := h.2.2.2.2.2.2.2 hr
      refine x_aload_n (pc' := 105) dX7_size_104 rfl rfl rfl ?_
      refine x_getr (pc' := 108) dX7_size_105 rfl lfX7_40 kd_0 rfl rf_0_5 ?_
      refine x_geti (pc' := 111) dX7_size_108 rfl lfX7_235 (OKS.k okS_64) rfl ?_
      exact x_iret dX7_size_111 rfl rfl h
set_option maxRecDepth 100000 in
set_option maxHeartbeats 4000000 in
theorem vX0_layersThere_0 {d : Nat} {σ : Mem} {Q : Option Value → Mem → Prop} {f : Nat} (hf : OKF f)
    (h : (X none d mJ6_bitCount_0f7a4 0 [.int (σ.1 f 5)] [] σ (fun r τ1 => ∃ u2 : Int32, r = some (.int u2) ∧ (X none d mJ6_bitCount_0f7a4 0 [.int (τ1.1 f 6)] [] τ1 (fun r τ3 => ∃ u4 : Int32, r = some (.int u4) ∧ Q (some (.int (u2 + u4))) τ3))))) :
    X none (d + 1) mX0_layersThere 0 [.ref f] [] σ Q := by
  refine x_aload_n (pc' := 1) dX0_layersThere_0 rfl rfl rfl ?_
  refine x_geti (pc' := 4) dX0_layersThere_1 rfl lfX0_27 (OKF.k hf) rfl ?_
  refine x_callS (pc' := 7) (As := [.int (σ.1 f 5)]) dX0_layersThere_4 rfl lmX0_37 rfl rfl (Nat.le_of_ble_eq_true rfl) (Nat.le_of_ble_eq_true rfl) ?_
  show X none d mJ6_bitCount_0f7a4 0 [.int (σ.1 f 5)] [] σ _
  refine X.mono h ?_
  rintro r τ1 ⟨u2, rfl, h⟩
  show X none (d + 1) mX0_layersThere 7 [.ref f] [.int u2] τ1 _
  refine x_aload_n (pc' := 8) dX0_layersThere_7 rfl rfl rfl ?_
  refine x_geti (pc' := 11) dX0_layersThere_8 rfl lfX0_31 (OKF.k hf) rfl ?_
  refine x_callS (pc' := 14) (As := [.int (τ1.1 f 6)]) dX0_layersThere_11 rfl lmX0_37 rfl rfl (Nat.le_of_ble_eq_true rfl) (Nat.le_of_ble_eq_true rfl) ?_
  show X none d mJ6_bitCount_0f7a4 0 [.int (τ1.1 f 6)] [] τ1 _
  refine X.mono h ?_
  rintro r τ3 ⟨u4, rfl, h⟩
  show X none (d + 1) mX0_layersThere 14 [.ref f] [.int u4, .int u2] τ3 _
  refine x_iadd (pc' := 15) dX0_layersThere_14 rfl ?_
  exact x_iret dX0_layersThere_15 rfl rfl h
