set_option maxRecDepth 100000 in
set_option maxHeartbeats 4000000 in
theorem vX1_power_0 {d : Nat} {σ : Mem} {Q : Option Value → Mem → Prop} {x2 : Int32} {y0 : Int64} 
    (h : X none d mX1_power 5 [.long y0, Unk, .int x2, .long 1, Unk, .int 0] [] σ Q) :
    X none d mX1_power 0 [.long y0, Unk, .int x2, Unk, Unk, Unk] [] σ Q := by
  refine x_lconst (pc' := 1) (v := 1) dX1_power_0 rfl (by decide) ?_
  refine x_lstore_n (pc' := 2) dX1_power_1 rfl rfl (by decide) rfl (ls' := [.long y0, Unk, .int x2, .long 1, Unk, Unk]) rfl ?_
  refine x_iconst (pc' := 3) (v := 0) dX1_power_2 rfl (by decide) ?_
  refine x_istore (pc' := 5) dX1_power_3 rfl (by decide) rfl (ls' := [.long y0, Unk, .int x2, .long 1, Unk, .int 0]) rfl ?_
  exact h
set_option maxRecDepth 100000 in
set_option maxHeartbeats 4000000 in
theorem vX1_power_5 {d : Nat} {σ : Mem} {Q : Option Value → Mem → Prop} {x2 x5 : Int32} {y0 y3 : Int64} 
    (h : ((x2 ≤ x5 → Q (some (.long y3)) σ) ∧ (¬ x2 ≤ x5 → X none d mX1_power 5 [.long y0, Unk, .int x2, .long (y3 * y0), Unk, .int (x5 + 1)] [] σ Q))) :
    X none d mX1_power 5 [.long y0, Unk, .int x2, .long y3, Unk, .int x5] [] σ Q := by
  refine x_iload (pc' := 7) dX1_power_5 rfl rfl ?_
  refine x_iload_n (pc' := 8) dX1_power_7 rfl rfl rfl ?_
  refine x_icmp_ge (pc' := 11) (tgt := 21) dX1_power_8 (by decide) rfl (fun hc => ?_) (fun hc => ?_)
  · replace h := h.1 hc
    refine x_lload_n (pc' := 22) dX1_power_21 rfl rfl rfl ?_
    exact x_lret dX1_power_22 rfl h
  · replace h := h.2 hc
    refine x_lload_n (pc' := 12) dX1_power_11 rfl rfl rfl ?_
    refine x_lload_n (pc' := 13) dX1_power_12 rfl rfl rfl ?_
    refine x_lmul (pc' := 14) dX1_power_13 rfl ?_
    refine x_lstore_n (pc' := 15) dX1_power_14 rfl rfl (by decide) rfl (ls' := [.long y0, Unk, .int x2, .long (y3 * y0), Unk, .int x5]) rfl ?_
    refine x_iinc (pc' := 18) (v := 1) dX1_power_15 rfl (by decide) rfl rfl (by decide) (ls' := [.long y0, Unk, .int x2, .long (y3 * y0), Unk, .int (x5 + 1)]) rfl ?_
    refine x_goto (pc' := 5) dX1_power_18 (by decide) ?_
    exact h
set_option maxRecDepth 100000 in
set_option maxHeartbeats 4000000 in
theorem vX1_divisorOf_0 {d : Nat} {σ : Mem} {Q : Option Value → Mem → Prop} {y0 y2 : Int64} 
    (h : X none d mX1_divisorOf 9 [.long y0, Unk, .long y2, Unk, .long y0, Unk, .long y2, Unk, .int 0, Unk, Unk] [] σ Q) :
    X none d mX1_divisorOf 0 [.long y0, Unk, .long y2, Unk, Unk, Unk, Unk, Unk, Unk, Unk, Unk] [] σ Q := by
  refine x_lload_n (pc' := 1) dX1_divisorOf_0 rfl rfl rfl ?_
  refine x_lstore (pc' := 3) dX1_divisorOf_1 rfl (by decide) rfl (ls' := [.long y0, Unk, .long y2, Unk, .long y0, Unk, Unk, Unk, Unk, Unk, Unk]) rfl ?_
  refine x_lload_n (pc' := 4) dX1_divisorOf_3 rfl rfl rfl ?_
  refine x_lstore (pc' := 6) dX1_divisorOf_4 rfl (by decide) rfl (ls' := [.long y0, Unk, .long y2, Unk, .long y0, Unk, .long y2, Unk, Unk, Unk, Unk]) rfl ?_
  refine x_iconst (pc' := 7) (v := 0) dX1_divisorOf_6 rfl (by decide) ?_
  refine x_istore (pc' := 9) dX1_divisorOf_7 rfl (by decide) rfl (ls' := [.long y0, Unk, .long y2, Unk, .long y0, Unk, .long y2, Unk, .int 0, Unk, Unk]) rfl ?_
  exact h
set_option maxRecDepth 100000 in
set_option maxHeartbeats 4000000 in
theorem vX1_divisorOf_9 {d : Nat} {σ : Mem} {Q : Option Value → Mem → Prop} {x8 : Int32} {y0 y2 y4 y6 : Int64} 
    (h : ((200 ≤ x8 → Q (some (.long y4)) σ) ∧ (¬ 200 ≤ x8 → (((lg_cmp y6 0) = 0 → Q (some (.long y4)) σ) ∧ (¬ (lg_cmp y6 0) = 0 → (¬ y6 = 0 ∧ X none d mX1_divisorOf 9 [.long y0, Unk, .long y2, Unk, .long y6, Unk, .long (y4 - y4 / y6 * y6), Unk, .int (x8 + 1), Unk, Unk] [] σ Q)))))) :
    X none d mX1_divisorOf 9 [.long y0, Unk, .long y2, Unk, .long y4, Unk, .long y6, Unk, .int x8, Unk, Unk] [] σ Q := by
  refine x_iload (pc' := 11) dX1_divisorOf_9 rfl rfl ?_
  refine x_sipush (pc' := 14) (v := 200) dX1_divisorOf_11 rfl (by decide) ?_
  refine x_icmp_ge (pc' := 17) (tgt := 45) dX1_divisorOf_14 (by decide) rfl (fun hc => ?_) (fun hc => ?_)
  · replace h := h.1 hc
    refine x_lload (pc' := 47) dX1_divisorOf_45 rfl rfl ?_
    exact x_lret dX1_divisorOf_47 rfl h
  · replace h := h.2 hc
    refine x_lload (pc' := 19) dX1_divisorOf_17 rfl rfl ?_
    refine x_lconst (pc' := 20) (v := 0) dX1_divisorOf_19 rfl (by decide) ?_
    refine x_lcmp (pc' := 21) dX1_divisorOf_20 rfl ?_
    refine x_if_eq (pc' := 24) (tgt := 45) dX1_divisorOf_21 (by decide) rfl (fun hc => ?_) (fun hc => ?_)
    · replace h := h.1 hc
      refine x_lload (pc' := 47) dX1_divisorOf_45 rfl rfl ?_
      exact x_lret dX1_divisorOf_47 rfl h
    · replace h := h.2 hc
      refine x_lload (pc' := 26) dX1_divisorOf_24 rfl rfl ?_
      refine x_lload (pc' := 28) dX1_divisorOf_26 rfl rfl ?_
      obtain ⟨hz, h⟩ := h
      refine x_lrem (pc' := 29) dX1_divisorOf_28 rfl hz ?_
      refine x_lstore (pc' := 31) dX1_divisorOf_29 rfl (by decide) rfl (ls' := [.long y0, Unk, .long y2, Unk, .long y4, Unk, .long y6, Unk, .int x8, .long (y4 - y4 / y6 * y6), Unk]) rfl ?_
      refine x_lload (pc' := 33) dX1_divisorOf_31 rfl rfl ?_
      refine x_lstore (pc' := 35) dX1_divisorOf_33 rfl (by decide) rfl (ls' := [.long y0, Unk, .long y2, Unk, .long y6, Unk, .long y6, Unk, .int x8, .long (y4 - y4 / y6 * y6), Unk]) rfl ?_
      refine x_lload (pc' := 37) dX1_divisorOf_35 rfl rfl ?_
      refine x_lstore (pc' := 39) dX1_divisorOf_37 rfl (by decide) rfl (ls' := [.long y0, Unk, .long y2, Unk, .long y6, Unk, .long (y4 - y4 / y6 * y6), Unk, .int x8, .long (y4 - y4 / y6 * y6), Unk]) rfl ?_
      refine x_iinc (pc' := 42) (v := 1) dX1_divisorOf_39 rfl (by decide) rfl rfl (by decide) (ls' := [.long y0, Unk, .long y2, Unk, .long y6, Unk, .long (y4 - y4 / y6 * y6), Unk, .int (x8 + 1), .long (y4 - y4 / y6 * y6), Unk]) rfl ?_
      refine x_goto (pc' := 9) dX1_divisorOf_42 (by decide) ?_
      refine x_forget 9 (ls' := [.long y0, Unk, .long y2, Unk, .long y6, Unk, .long (y4 - y4 / y6 * y6), Unk, .int (x8 + 1), Unk, Unk]) rfl ?_
      exact h
set_option maxRecDepth 100000 in
set_option maxHeartbeats 4000000 in
theorem vX1_becomeOdds_0 {d : Nat} {σ : Mem} {Q : Option Value → Mem → Prop} {x1 x2 x3 : Int32} 
    (h : X none (d + 1) mX1_becomeOdds 9 [.ref 72, .int x1, .int x2, .int x3, .long 1, Unk, .long 0, Unk, .int 0, Unk, Unk, Unk] [] σ Q) :
    X none (d + 1) mX1_becomeOdds 0 [.ref 72, .int x1, .int x2, .int x3, Unk, Unk, Unk, Unk, Unk, Unk, Unk, Unk] [] σ Q := by
  refine x_lconst (pc' := 1) (v := 1) dX1_becomeOdds_0 rfl (by decide) ?_
  refine x_lstore (pc' := 3) dX1_becomeOdds_1 rfl (by decide) rfl (ls' := [.ref 72, .int x1, .int x2, .int x3, .long 1, Unk, Unk, Unk, Unk, Unk, Unk, Unk]) rfl ?_
  refine x_lconst (pc' := 4) (v := 0) dX1_becomeOdds_3 rfl (by decide) ?_
  refine x_lstore (pc' := 6) dX1_becomeOdds_4 rfl (by decide) rfl (ls' := [.ref 72, .int x1, .int x2, .int x3, .long 1, Unk, .long 0, Unk, Unk, Unk, Unk, Unk]) rfl ?_
  refine x_iconst (pc' := 7) (v := 0) dX1_becomeOdds_6 rfl (by decide) ?_
  refine x_istore (pc' := 9) dX1_becomeOdds_7 rfl (by decide) rfl (ls' := [.ref 72, .int x1, .int x2, .int x3, .long 1, Unk, .long 0, Unk, .int 0, Unk, Unk, Unk]) rfl ?_
  exact h
set_option maxRecDepth 100000 in
set_option maxHeartbeats 4000000 in
theorem vX1_becomeOdds_9 {d : Nat} {σ : Mem} {Q : Option Value → Mem → Prop} {x1 x2 x3 x8 : Int32} {y4 y6 : Int64} 
    (h : ((x1 < x8 → (X none d mX1_power 0 [.long 10, Unk, .int x1, Unk, Unk, Unk] [] σ (fun r τ1 => ∃ u2 : Int64, r = some (.long u2) ∧ (X none d mX1_divisorOf 0 [.long y6, Unk, .long u2, Unk, Unk, Unk, Unk, Unk, Unk, Unk, Unk] [] τ1 (fun r τ3 => ∃ u4 : Int64, r = some (.long u4) ∧ (((lg_cmp u4 0) ≤ 0 → Q (none) τ3) ∧ (¬ (lg_cmp u4 0) ≤ 0 → (¬ u4 = 0 ∧ (∀ τ5 : Mem, τ5 = (w2 τ3 72 0 (y6 / u4)) → (¬ u4 = 0 ∧ (∀ τ6 : Mem, τ6 = (w2 τ5 72 1 (u2 / u4)) → Q (none) τ6))))))))))) ∧ (¬ x1 < x8 → ((x8 < x2 → (¬ (((x8 + 1)).toInt64) = 0 ∧ X none (d + 1) mX1_becomeOdds 9 [.ref 72, .int x1, .int x2, .int x3, .long ((y4 * (((x1 - x8)).toInt64)) / (((x8 + 1)).toInt64)), Unk, .long y6, Unk, .int (x8 + 1), Unk, Unk, Unk] [] σ Q)) ∧ (¬ x8 < x2 → (X none d mX1_power 0 [.long ((x3).toInt64), Unk, .int x8, Unk, Unk, Unk] [] σ (fun r τ7 => ∃ u8 : Int64, r = some (.long u8) ∧ (X none d mX1_power 0 [.long (((10 - x3)).toInt64), Unk, .int (x1 - x8), Unk, Unk, Unk] [] τ7 (fun r τ9 => ∃ u10 : Int64, r = some (.long u10) ∧ (¬ (((x8 + 1)).toInt64) = 0 ∧ X none (d + 1) mX1_becomeOdds 9 [.ref 72, .int x1, .int x2, .int x3, .long ((y4 * (((x1 - x8)).toInt64)) / (((x8 + 1)).toInt64)), Unk, .long (y6 + ((y4 * u8) * u10)), Unk, .int (x8 + 1), Unk, Unk, Unk] [] τ9 Q)))))))))) :
    X none (d + 1) mX1_becomeOdds 9 [.ref 72, .int x1, .int x2, .int x3, .long y4, Unk, .long y6, Unk, .int x8, Unk, Unk, Unk] [] σ Q := by
  refine x_iload (pc' := 11) dX1_becomeOdds_9 rfl rfl ?_
  refine x_iload_n (pc' := 12) dX1_becomeOdds_11 rfl rfl rfl ?_
  refine x_icmp_gt (pc' := 15) (tgt := 71) dX1_becomeOdds_12 (by decide) rfl (fun hc => ?_) (fun hc => ?_)
  · replace h := h.1 hc
    refine x_ldc2 (pc' := 74) dX1_becomeOdds_71 rfl llX1_22 ?_
    refine x_iload_n (pc' := 75) dX1_becomeOdds_74 rfl rfl rfl ?_
    refine x_callS (pc' := 78) (As := [.long 10, .int x1]) dX1_becomeOdds_75 rfl lmX1_18 rfl rfl (Nat.le_of_ble_eq_true rfl) (Nat.le_of_ble_eq_true rfl) ?_
    show X none d mX1_power 0 [.long 10, Unk, .int x1, Unk, Unk, Unk] [] σ _
    refine X.mono h ?_
    rintro r τ1 ⟨u2, rfl, h⟩
    show X none (d + 1) mX1_becomeOdds 78 [.ref 72, .int x1, .int x2, .int x3, .long y4, Unk, .long y6, Unk, .int x8, Unk, Unk, Unk] [.long u2] τ1 _
    refine x_lstore (pc' := 80) dX1_becomeOdds_78 rfl (by decide) rfl (ls' := [.ref 72, .int x1, .int x2, .int x3, .long y4, Unk, .long y6, Unk, .long u2, Unk, Unk, Unk]) rfl ?_
    refine x_lload (pc' := 82) dX1_becomeOdds_80 rfl rfl ?_
    refine x_lload (pc' := 84) dX1_becomeOdds_82 rfl rfl ?_
    refine x_callS (pc' := 87) (As := [.long y6, .long u2]) dX1_becomeOdds_84 rfl lmX1_24 rfl rfl (Nat.le_of_ble_eq_true rfl) (Nat.le_of_ble_eq_true rfl) ?_
    show X none d mX1_divisorOf 0 [.long y6, Unk, .long u2, Unk, Unk, Unk, Unk, Unk, Unk, Unk, Unk] [] τ1 _
    refine X.mono h ?_
    rintro r τ3 ⟨u4, rfl, h⟩
    show X none (d + 1) mX1_becomeOdds 87 [.ref 72, .int x1, .int x2, .int x3, .long y4, Unk, .long y6, Unk, .long u2, Unk, Unk, Unk] [.long u4] τ3 _
    refine x_lstore (pc' := 89) dX1_becomeOdds_87 rfl (by decide) rfl (ls' := [.ref 72, .int x1, .int x2, .int x3, .long y4, Unk, .long y6, Unk, .long u2, Unk, .long u4, Unk]) rfl ?_
    refine x_lload (pc' := 91) dX1_becomeOdds_89 rfl rfl ?_
    refine x_lconst (pc' := 92) (v := 0) dX1_becomeOdds_91 rfl (by decide) ?_
    refine x_lcmp (pc' := 93) dX1_becomeOdds_92 rfl ?_
    refine x_if_le (pc' := 96) (tgt := 114) dX1_becomeOdds_93 (by decide) rfl (fun hc => ?_) (fun hc => ?_)
    · replace h := h.1 hc
      exact x_vret dX1_becomeOdds_114 rfl h
    · replace h := h.2 hc
      refine x_aload_n (pc' := 97) dX1_becomeOdds_96 rfl rfl rfl ?_
      refine x_lload (pc' := 99) dX1_becomeOdds_97 rfl rfl ?_
      refine x_lload (pc' := 101) dX1_becomeOdds_99 rfl rfl ?_
      obtain ⟨hz, h⟩ := h
      refine x_ldiv (pc' := 102) dX1_becomeOdds_101 rfl hz ?_
      refine x_putl (pc' := 105) dX1_becomeOdds_102 rfl lfX1_9 kd_72 rfl ?_
      obtain ⟨τ5, eτ5⟩ : ∃ τ : Mem, τ = (w2 τ3 72 0 (y6 / u4)) := ⟨_, rfl⟩
      show X none (d + 1) mX1_becomeOdds 105 [.ref 72, .int x1, .int x2, .int x3, .long y4, Unk, .long y6, Unk, .long u2, Unk, .long u4, Unk] [] (w2 τ3 72 0 (y6 / u4)) _
      rw [← eτ5]
      replace h := h τ5 eτ5
      refine x_aload_n (pc' := 106) dX1_becomeOdds_105 rfl rfl rfl ?_
      refine x_lload (pc' := 108) dX1_becomeOdds_106 rfl rfl ?_
      refine x_lload (pc' := 110) dX1_becomeOdds_108 rfl rfl ?_
      obtain ⟨hz, h⟩ := h
      refine x_ldiv (pc' := 111) dX1_becomeOdds_110 rfl hz ?_
      refine x_putl (pc' := 114) dX1_becomeOdds_111 rfl lfX1_15 kd_72 rfl ?_
      obtain ⟨τ6, eτ6⟩ : ∃ τ : Mem, τ = (w2 τ5 72 1 (u2 / u4)) := ⟨_, rfl⟩
      show X none (d + 1) mX1_becomeOdds 114 [.ref 72, .int x1, .int x2, .int x3, .long y4, Unk, .long y6, Unk, .long u2, Unk, .long u4, Unk] [] (w2 τ5 72 1 (u2 / u4)) _
      rw [← eτ6]
      replace h := h τ6 eτ6
      exact x_vret dX1_becomeOdds_114 rfl h
  · replace h := h.2 hc
    refine x_iload (pc' := 17) dX1_becomeOdds_15 rfl rfl ?_
    refine x_iload_n (pc' := 18) dX1_becomeOdds_17 rfl rfl rfl ?_
    refine x_icmp_lt (pc' := 21) (tgt := 49) dX1_becomeOdds_18 (by decide) rfl (fun hc => ?_) (fun hc => ?_)
    · replace h := h.1 hc
      refine x_lload (pc' := 51) dX1_becomeOdds_49 rfl rfl ?_
      refine x_iload_n (pc' := 52) dX1_becomeOdds_51 rfl rfl rfl ?_
      refine x_iload (pc' := 54) dX1_becomeOdds_52 rfl rfl ?_
      refine x_isub (pc' := 55) dX1_becomeOdds_54 rfl ?_
      refine x_i2l (pc' := 56) dX1_becomeOdds_55 rfl ?_
      refine x_lmul (pc' := 57) dX1_becomeOdds_56 rfl ?_
      refine x_iload (pc' := 59) dX1_becomeOdds_57 rfl rfl ?_
      refine x_iconst (pc' := 60) (v := 1) dX1_becomeOdds_59 rfl (by decide) ?_
      refine x_iadd (pc' := 61) dX1_becomeOdds_60 rfl ?_
      refine x_i2l (pc' := 62) dX1_becomeOdds_61 rfl ?_
      obtain ⟨hz, h⟩ := h
      refine x_ldiv (pc' := 63) dX1_becomeOdds_62 rfl hz ?_
      refine x_lstore (pc' := 65) dX1_becomeOdds_63 rfl (by decide) rfl (ls' := [.ref 72, .int x1, .int x2, .int x3, .long ((y4 * (((x1 - x8)).toInt64)) / (((x8 + 1)).toInt64)), Unk, .long y6, Unk, .int x8, Unk, Unk, Unk]) rfl ?_
      refine x_iinc (pc' := 68) (v := 1) dX1_becomeOdds_65 rfl (by decide) rfl rfl (by decide) (ls' := [.ref 72, .int x1, .int x2, .int x3, .long ((y4 * (((x1 - x8)).toInt64)) / (((x8 + 1)).toInt64)), Unk, .long y6, Unk, .int (x8 + 1), Unk, Unk, Unk]) rfl ?_
      refine x_goto (pc' := 9) dX1_becomeOdds_68 (by decide) ?_
      exact h
    · replace h := h.2 hc
      refine x_lload (pc' := 23) dX1_becomeOdds_21 rfl rfl ?_
      refine x_lload (pc' := 25) dX1_becomeOdds_23 rfl rfl ?_
      refine x_iload_n (pc' := 26) dX1_becomeOdds_25 rfl rfl rfl ?_
      refine x_i2l (pc' := 27) dX1_becomeOdds_26 rfl ?_
      refine x_iload (pc' := 29) dX1_becomeOdds_27 rfl rfl ?_
      refine x_callS (pc' := 32) (As := [.long ((x3).toInt64), .int x8]) dX1_becomeOdds_29 rfl lmX1_18 rfl rfl (Nat.le_of_ble_eq_true rfl) (Nat.le_of_ble_eq_true rfl) ?_
      show X none d mX1_power 0 [.long ((x3).toInt64), Unk, .int x8, Unk, Unk, Unk] [] σ _
      refine X.mono h ?_
      rintro r τ7 ⟨u8, rfl, h⟩
      show X none (d + 1) mX1_becomeOdds 32 [.ref 72, .int x1, .int x2, .int x3, .long y4, Unk, .long y6, Unk, .int x8, Unk, Unk, Unk] [.long u8, .long y4, .long y6] τ7 _
      refine x_lmul (pc' := 33) dX1_becomeOdds_32 rfl ?_
      refine x_bipush (pc' := 35) (v := 10) dX1_becomeOdds_33 rfl (by decide) ?_
      refine x_iload_n (pc' := 36) dX1_becomeOdds_35 rfl rfl rfl ?_
      refine x_isub (pc' := 37) dX1_becomeOdds_36 rfl ?_
      refine x_i2l (pc' := 38) dX1_becomeOdds_37 rfl ?_
      refine x_iload_n (pc' := 39) dX1_becomeOdds_38 rfl rfl rfl ?_
      refine x_iload (pc' := 41) dX1_becomeOdds_39 rfl rfl ?_
      refine x_isub (pc' := 42) dX1_becomeOdds_41 rfl ?_
      refine x_callS (pc' := 45) (As := [.long (((10 - x3)).toInt64), .int (x1 - x8)]) dX1_becomeOdds_42 rfl lmX1_18 rfl rfl (Nat.le_of_ble_eq_true rfl) (Nat.le_of_ble_eq_true rfl) ?_
      show X none d mX1_power 0 [.long (((10 - x3)).toInt64), Unk, .int (x1 - x8), Unk, Unk, Unk] [] τ7 _
      refine X.mono h ?_
      rintro r τ9 ⟨u10, rfl, h⟩
      show X none (d + 1) mX1_becomeOdds 45 [.ref 72, .int x1, .int x2, .int x3, .long y4, Unk, .long y6, Unk, .int x8, Unk, Unk, Unk] [.long u10, .long (y4 * u8), .long y6] τ9 _
      refine x_lmul (pc' := 46) dX1_becomeOdds_45 rfl ?_
      refine x_ladd (pc' := 47) dX1_becomeOdds_46 rfl ?_
      refine x_lstore (pc' := 49) dX1_becomeOdds_47 rfl (by decide) rfl (ls' := [.ref 72, .int x1, .int x2, .int x3, .long y4, Unk, .long (y6 + ((y4 * u8) * u10)), Unk, .int x8, Unk, Unk, Unk]) rfl ?_
      refine x_lload (pc' := 51) dX1_becomeOdds_49 rfl rfl ?_
      refine x_iload_n (pc' := 52) dX1_becomeOdds_51 rfl rfl rfl ?_
      refine x_iload (pc' := 54) dX1_becomeOdds_52 rfl rfl ?_
      refine x_isub (pc' := 55) dX1_becomeOdds_54 rfl ?_
      refine x_i2l (pc' := 56) dX1_becomeOdds_55 rfl ?_
      refine x_lmul (pc' := 57) dX1_becomeOdds_56 rfl ?_
      refine x_iload (pc' := 59) dX1_becomeOdds_57 rfl rfl ?_
      refine x_iconst (pc' := 60) (v := 1) dX1_becomeOdds_59 rfl (by decide) ?_
      refine x_iadd (pc' := 61) dX1_becomeOdds_60 rfl ?_
      refine x_i2l (pc' := 62) dX1_becomeOdds_61 rfl ?_
      obtain ⟨hz, h⟩ := h
      refine x_ldiv (pc' := 63) dX1_becomeOdds_62 rfl hz ?_
      refine x_lstore (pc' := 65) dX1_becomeOdds_63 rfl (by decide) rfl (ls' := [.ref 72, .int x1, .int x2, .int x3, .long ((y4 * (((x1 - x8)).toInt64)) / (((x8 + 1)).toInt64)), Unk, .long (y6 + ((y4 * u8) * u10)), Unk, .int x8, Unk, Unk, Unk]) rfl ?_
      refine x_iinc (pc' := 68) (v := 1) dX1_becomeOdds_65 rfl (by decide) rfl rfl (by decide) (ls' := [.ref 72, .int x1, .int x2, .int x3, .long ((y4 * (((x1 - x8)).toInt64)) / (((x8 + 1)).toInt64)), Unk, .long (y6 + ((y4 * u8) * u10)), Unk, .int (x8 + 1), Unk, Unk, Unk]) rfl ?_
      refine x_goto (pc' := 9) dX1_becomeOdds_68 (by decide) ?_
      exact h
set_option maxRecDepth 100000 in
set_option maxHeartbeats 4000000 in
theorem vX7_ring_0 {d : Nat} {σ : Mem} {Q : Option Value → Mem → Prop} {x1 x2 x3 : Int32} 
    (h : (X none (d + 2) mX7_isPlace 0 [.int x1, .int x2] [] σ (fun r τ1 => ∃ u2 : Int32, r = some (.int u2) ∧ ((u2 = 0 → (∀ τ3 : Mem, τ3 = (w1 τ1 0 10 ((τ1.1 0 10) + 1)) → Q (some (.int (-2000000002))) τ3)) ∧ (¬ u2 = 0 → ((x3 < 1 → (∀ τ4 : Mem, τ4 = (w1 τ1 0 10 ((τ1.1 0 10) + 1)) → Q (some (.int (-2000000002))) τ4)) ∧ (¬ x3 < 1 → ((x3 ≤ 60 → (X none (d + 2) mX4_pickAll 0 [.ref 57, .ref 1, Unk] [] τ1 (fun r τ5 => r = none ∧ X none (d + 3) mX7_ring 44 [.ref 0, .int x1, .int x2, .int x3, .int (-2000000001), .int 0, Unk] [] τ5 Q))) ∧ (¬ x3 ≤ 60 → (∀ τ6 : Mem, τ6 = (w1 τ1 0 10 ((τ1.1 0 10) + 1)) → Q (some (.int (-2000000002))) τ6)))))))))) :
    X none (d + 3) mX7_ring 0 [.ref 0, .int x1, .int x2, .int x3, Unk, Unk, Unk] [] σ Q := by
  refine x_iload_n (pc' := 1) dX7_ring_0 rfl rfl rfl ?_
  refine x_iload_n (pc' := 2) dX7_ring_1 rfl rfl rfl ?_
  refine x_callS (pc' := 5) (As := [.int x1, .int x2]) dX7_ring_2 rfl lmX7_64 rfl rfl (Nat.le_of_ble_eq_true rfl) (Nat.le_of_ble_eq_true rfl) ?_
  show X none (d + 2) mX7_isPlace 0 [.int x1, .int x2] [] σ _
  refine X.mono h ?_
  rintro r τ1 ⟨u2, rfl, h⟩
  show X none (d + 3) mX7_ring 5 [.ref 0, .int x1, .int x2, .int x3, Unk, Unk, Unk] [.int u2] τ1 _
  refine x_if_eq (pc' := 8) (tgt := 19) dX7_ring_5 (by decide) rfl (fun hc => ?_) (fun hc => ?_)
  · replace h := h.1 hc
    refine x_aload_n (pc' := 20) dX7_ring_19 rfl rfl rfl ?_
    refine x_ldc (pc' := 22) dX7_ring_20 rfl lcX7_68 ?_
    refine x_callV (pc' := 25) (As := [.int (-2000000002)]) dX7_ring_22 rfl lmX7_69 kd_0 rfl rfl (Nat.le_of_ble_eq_true rfl) (Nat.le_of_ble_eq_true rfl) ?_
    show X none (d + 2) mX7_refuse 0 [.ref 0, .int (-2000000002)] [] τ1 _
    refine x_iload_n (pc' := 1) dX7_refuse_0 rfl rfl rfl ?_
    refine x_ldc (pc' := 3) dX7_refuse_1 rfl lcX7_68 ?_
    refine x_icmp_ne (pc' := 6) (tgt := 19) dX7_refuse_3 (by decide) rfl (fun hc => absurd hc (by decide)) (fun _ => ?_)
    refine x_aload_n (pc' := 7) dX7_refuse_6 rfl rfl rfl ?_
    refine x_dup (pc' := 8) dX7_refuse_7 rfl rfl ?_
    refine x_geti (pc' := 11) dX7_refuse_8 rfl lfX7_267 kd_0 rfl ?_
    refine x_iconst (pc' := 12) (v := 1) dX7_refuse_11 rfl (by decide) ?_
    refine x_iadd (pc' := 13) dX7_refuse_12 rfl ?_
    refine x_puti (pc' := 16) dX7_refuse_13 rfl lfX7_267 kd_0 rfl rfl rfl ?_
    obtain ⟨τ3, eτ3⟩ : ∃ τ : Mem, τ = (w1 τ1 0 10 ((τ1.1 0 10) + 1)) := ⟨_, rfl⟩
    show X none (d + 2) mX7_refuse 16 [.ref 0, .int (-2000000002)] [] (w1 τ1 0 10 ((τ1.1 0 10) + 1)) _
    rw [← eτ3]
    replace h := h τ3 eτ3
    refine x_goto (pc' := 48) dX7_refuse_16 (by decide) ?_
    refine x_iload_n (pc' := 49) dX7_refuse_48 rfl rfl rfl ?_
    refine x_iret dX7_refuse_49 rfl rfl ?_
    show X none (d + 3) mX7_ring 25 [.ref 0, .int x1, .int x2, .int x3, Unk, Unk, Unk] [.int (-2000000002)] τ3 _
    exact x_iret dX7_ring_25 rfl rfl h
  · replace h := h.2 hc
    refine x_iload_n (pc' := 9) dX7_ring_8 rfl rfl rfl ?_
    refine x_iconst (pc' := 10) (v := 1) dX7_ring_9 rfl (by decide) ?_
    refine x_icmp_lt (pc' := 13) (tgt := 19) dX7_ring_10 (by decide) rfl (fun hc => ?_) (fun hc => ?_)
    · replace h := h.1 hc
      refine x_aload_n (pc' := 20) dX7_ring_19 rfl rfl rfl ?_
      refine x_ldc (pc' := 22) dX7_ring_20 rfl lcX7_68 ?_
      refine x_callV (pc' := 25) (As := [.int (-2000000002)]) dX7_ring_22 rfl lmX7_69 kd_0 rfl rfl (Nat.le_of_ble_eq_true rfl) (Nat.le_of_ble_eq_true rfl) ?_
      show X none (d + 2) mX7_refuse 0 [.ref 0, .int (-2000000002)] [] τ1 _
      refine x_iload_n (pc' := 1) dX7_refuse_0 rfl rfl rfl ?_
      refine x_ldc (pc' := 3) dX7_refuse_1 rfl lcX7_68 ?_
      refine x_icmp_ne (pc' := 6) (tgt := 19) dX7_refuse_3 (by decide) rfl (fun hc => absurd hc (by decide)) (fun _ => ?_)
      refine x_aload_n (pc' := 7) dX7_refuse_6 rfl rfl rfl ?_
      refine x_dup (pc' := 8) dX7_refuse_7 rfl rfl ?_
      refine x_geti (pc' := 11) dX7_refuse_8 rfl lfX7_267 kd_0 rfl ?_
      refine x_iconst (pc' := 12) (v := 1) dX7_refuse_11 rfl (by decide) ?_
      refine x_iadd (pc' := 13) dX7_refuse_12 rfl ?_
      refine x_puti (pc' := 16) dX7_refuse_13 rfl lfX7_267 kd_0 rfl rfl rfl ?_
      obtain ⟨τ4, eτ4⟩ : ∃ τ : Mem, τ = (w1 τ1 0 10 ((τ1.1 0 10) + 1)) := ⟨_, rfl⟩
      show X none (d + 2) mX7_refuse 16 [.ref 0, .int (-2000000002)] [] (w1 τ1 0 10 ((τ1.1 0 10) + 1)) _
      rw [← eτ4]
      replace h := h τ4 eτ4
      refine x_goto (pc' := 48) dX7_refuse_16 (by decide) ?_
      refine x_iload_n (pc' := 49) dX7_refuse_48 rfl rfl rfl ?_
      refine x_iret dX7_refuse_49 rfl rfl ?_
      show X none (d + 3) mX7_ring 25 [.ref 0, .int x1, .int x2, .int x3, Unk, Unk, Unk] [.int (-2000000002)] τ4 _
      exact x_iret dX7_ring_25 rfl rfl h
    · replace h := h.2 hc
      refine x_iload_n (pc' := 14) dX7_ring_13 rfl rfl rfl ?_
      refine x_bipush (pc' := 16) (v := 60) dX7_ring_14 rfl (by decide) ?_
      refine x_icmp_le (pc' := 19) (tgt := 26) dX7_ring_16 (by decide) rfl (fun hc => ?_) (fun hc => ?_)
      · replace h := h.1 hc
        refine x_aload_n (pc' := 27) dX7_ring_26 rfl rfl rfl ?_
        refine x_getr (pc' := 30) dX7_ring_27 rfl lfX7_26 kd_0 rfl rf_0_2 ?_
        refine x_aload_n (pc' := 31) dX7_ring_30 rfl rfl rfl ?_
        refine x_getr (pc' := 34) dX7_ring_31 rfl lfX7_10 kd_0 rfl rf_0_0 ?_
        refine x_callV (pc' := 37) (As := [.ref 1]) dX7_ring_34 rfl lmX7_140 (OKP.k okP_57) rfl rfl (Nat.le_of_ble_eq_true rfl) (Nat.le_of_ble_eq_true rfl) ?_
        show X none (d + 2) mX4_pickAll 0 [.ref 57, .ref 1, Unk] [] τ1 _
        refine X.mono h ?_
        rintro r τ5 ⟨rfl, h⟩
        show X none (d + 3) mX7_ring 37 [.ref 0, .int x1, .int x2, .int x3, Unk, Unk, Unk] [] τ5 _
        refine x_ldc (pc' := 39) dX7_ring_37 rfl lcX7_163 ?_
        refine x_istore (pc' := 41) dX7_ring_39 rfl (by decide) rfl (ls' := [.ref 0, .int x1, .int x2, .int x3, .int (-2000000001), Unk, Unk]) rfl ?_
        refine x_iconst (pc' := 42) (v := 0) dX7_ring_41 rfl (by decide) ?_
        refine x_istore (pc' := 44) dX7_ring_42 rfl (by decide) rfl (ls' := [.ref 0, .int x1, .int x2, .int x3, .int (-2000000001), .int 0, Unk]) rfl ?_
        exact h
      · replace h := h.2 hc
        refine x_aload_n (pc' := 20) dX7_ring_19 rfl rfl rfl ?_
        refine x_ldc (pc' := 22) dX7_ring_20 rfl lcX7_68 ?_
        refine x_callV (pc' := 25) (As := [.int (-2000000002)]) dX7_ring_22 rfl lmX7_69 kd_0 rfl rfl (Nat.le_of_ble_eq_true rfl) (Nat.le_of_ble_eq_true rfl) ?_
        show X none (d + 2) mX7_refuse 0 [.ref 0, .int (-2000000002)] [] τ1 _
        refine x_iload_n (pc' := 1) dX7_refuse_0 rfl rfl rfl ?_
        refine x_ldc (pc' := 3) dX7_refuse_1 rfl lcX7_68 ?_
        refine x_icmp_ne (pc' := 6) (tgt := 19) dX7_refuse_3 (by decide) rfl (fun hc => absurd hc (by decide)) (fun _ => ?_)
        refine x_aload_n (pc' := 7) dX7_refuse_6 rfl rfl rfl ?_
        refine x_dup (pc' := 8) dX7_refuse_7 rfl rfl ?_
        refine x_geti (pc' := 11) dX7_refuse_8 rfl lfX7_267 kd_0 rfl ?_
        refine x_iconst (pc' := 12) (v := 1) dX7_refuse_11 rfl (by decide) ?_
        refine x_iadd (pc' := 13) dX7_refuse_12 rfl ?_
        refine x_puti (pc' := 16) dX7_refuse_13 rfl lfX7_267 kd_0 rfl rfl rfl ?_
        obtain ⟨τ6, eτ6⟩ : ∃ τ : Mem, τ = (w1 τ1 0 10 ((τ1.1 0 10) + 1)) := ⟨_, rfl⟩
        show X none (d + 2) mX7_refuse 16 [.ref 0, .int (-2000000002)] [] (w1 τ1 0 10 ((τ1.1 0 10) + 1)) _
        rw [← eτ6]
        replace h := h τ6 eτ6
        refine x_goto (pc' := 48) dX7_refuse_16 (by decide) ?_
        refine x_iload_n (pc' := 49) dX7_refuse_48 rfl rfl rfl ?_
        refine x_iret dX7_refuse_49 rfl rfl ?_
        show X none (d + 3) mX7_ring 25 [.ref 0, .int x1, .int x2, .int x3, Unk, Unk, Unk] [.int (-2000000002)] τ6 _
        exact x_iret dX7_ring_25 rfl rfl h
set_option maxRecDepth 100000 in
set_option maxHeartbeats 4000000 in
theorem vX7_ring_44 {d : Nat} {σ : Mem} {Q : Option Value → Mem → Prop} {x1 x2 x3 x4 x5 : Int32} 
    (h : (((σ.1 57 1) ≤ x5 → Q (some (.int x4)) σ) ∧ (¬ (σ.1 57 1) ≤ x5 → (vp_in x5 60 ∧ (X none (d + 2) mX0_distance 0 [.ref 1, .int (σ.1 58 x5.toNatClampNeg), .int x1, .int x2] [] σ (fun r τ1 => ∃ u2 : Int32, r = some (.int u2) ∧ ((x4 = (-2000000001) → (X none (d + 2) mX4_within 0 [.ref 57, .ref 1, .int x1, .int x2, .int u2, Unk, Unk] [] τ1 (fun r τ3 => ∃ u4 : Int32, r = some (.int u4) ∧ ((u4 < x3 → X none (d + 3) mX7_ring 44 [.ref 0, .int x1, .int x2, .int x3, .int x4, .int (x5 + 1), Unk] [] τ3 Q) ∧ (¬ u4 < x3 → X none (d + 3) mX7_ring 44 [.ref 0, .int x1, .int x2, .int x3, .int u2, .int (x5 + 1), Unk] [] τ3 Q))))) ∧ (¬ x4 = (-2000000001) → ((x4 ≤ u2 → X none (d + 3) mX7_ring 44 [.ref 0, .int x1, .int x2, .int x3, .int x4, .int (x5 + 1), Unk] [] τ1 Q) ∧ (¬ x4 ≤ u2 → (X none (d + 2) mX4_within 0 [.ref 57, .ref 1, .int x1, .int x2, .int u2, Unk, Unk] [] τ1 (fun r τ5 => ∃ u6 : Int32, r = some (.int u6) ∧ ((u6 < x3 → X none (d + 3) mX7_ring 44 [.ref 0, .int x1, .int x2, .int x3, .int x4, .int (x5 + 1), Unk] [] τ5 Q) ∧ (¬ u6 < x3 → X none (d + 3) mX7_ring 44 [.ref 0, .int x1, .int x2, .int x3, .int u2, .int (x5 + 1), Unk] [] τ5 Q)))))))))))))) :
    X none (d + 3) mX7_ring 44 [.ref 0, .int x1, .int x2, .int x3, .int x4, .int x5, Unk] [] σ Q := by
  refine x_iload (pc' := 46) dX7_ring_44 rfl rfl ?_
  refine x_aload_n (pc' := 47) dX7_ring_46 rfl rfl rfl ?_
  refine x_getr (pc' := 50) dX7_ring_47 rfl lfX7_26 kd_0 rfl rf_0_2 ?_
  refine x_geti (pc' := 53) dX7_ring_50 rfl lfX7_157 (OKP.k okP_57) rfl ?_
  refine x_icmp_ge (pc' := 56) (tgt := 120) dX7_ring_53 (by decide) rfl (fun hc => ?_) (fun hc => ?_)
  · replace h := h.1 hc
    refine x_iload (pc' := 122) dX7_ring_120 rfl rfl ?_
    exact x_iret dX7_ring_122 rfl rfl h
  · replace h := h.2 hc
    refine x_aload_n (pc' := 57) dX7_ring_56 rfl rfl rfl ?_
    refine x_getr (pc' := 60) dX7_ring_57 rfl lfX7_10 kd_0 rfl rf_0_0 ?_
    refine x_aload_n (pc' := 61) dX7_ring_60 rfl rfl rfl ?_
    refine x_getr (pc' := 64) dX7_ring_61 rfl lfX7_26 kd_0 rfl rf_0_2 ?_
    refine x_getr (pc' := 67) dX7_ring_64 rfl lfX7_164 (OKP.k okP_57) rfl (OKP.r0 okP_57) ?_
    refine x_iload (pc' := 69) dX7_ring_67 rfl rfl ?_
    obtain ⟨hb, h⟩ := h
    refine x_iald (pc' := 70) dX7_ring_69 rfl (OKP.a0 okP_57) (by rw [(OKP.n0 okP_57)]; exact hb) ?_
    refine x_iload_n (pc' := 71) dX7_ring_70 rfl rfl rfl ?_
    refine x_iload_n (pc' := 72) dX7_ring_71 rfl rfl rfl ?_
    refine x_callV (pc' := 75) (As := [.int (σ.1 58 x5.toNatClampNeg), .int x1, .int x2]) dX7_ring_72 rfl lmX7_167 (OKF.k okF_1) rfl rfl (Nat.le_of_ble_eq_true rfl) (Nat.le_of_ble_eq_true rfl) ?_
    show X none (d + 2) mX0_distance 0 [.ref 1, .int (σ.1 58 x5.toNatClampNeg), .int x1, .int x2] [] σ _
    refine X.mono h ?_
    rintro r τ1 ⟨u2, rfl, h⟩
    show X none (d + 3) mX7_ring 75 [.ref 0, .int x1, .int x2, .int x3, .int x4, .int x5, Unk] [.int u2] τ1 _
    refine x_istore (pc' := 77) dX7_ring_75 rfl (by decide) rfl (ls' := [.ref 0, .int x1, .int x2, .int x3, .int x4, .int x5, .int u2]) rfl ?_
    refine x_iload (pc' := 79) dX7_ring_77 rfl rfl ?_
    refine x_ldc (pc' := 81) dX7_ring_79 rfl lcX7_163 ?_
    refine x_icmp_eq (pc' := 84) (tgt := 91) dX7_ring_81 (by decide) rfl (fun hc => ?_) (fun hc => ?_)
    · replace h := h.1 hc
      refine x_aload_n (pc' := 92) dX7_ring_91 rfl rfl rfl ?_
      refine x_getr (pc' := 95) dX7_ring_92 rfl lfX7_26 kd_0 rfl rf_0_2 ?_
      refine x_aload_n (pc' := 96) dX7_ring_95 rfl rfl rfl ?_
      refine x_getr (pc' := 99) dX7_ring_96 rfl lfX7_10 kd_0 rfl rf_0_0 ?_
      refine x_iload_n (pc' := 100) dX7_ring_99 rfl rfl rfl ?_
      refine x_iload_n (pc' := 101) dX7_ring_100 rfl rfl rfl ?_
      refine x_iload (pc' := 103) dX7_ring_101 rfl rfl ?_
      refine x_callV (pc' := 106) (As := [.ref 1, .int x1, .int x2, .int u2]) dX7_ring_103 rfl lmX7_170 (OKP.k okP_57) rfl rfl (Nat.le_of_ble_eq_true rfl) (Nat.le_of_ble_eq_true rfl) ?_
      show X none (d + 2) mX4_within 0 [.ref 57, .ref 1, .int x1, .int x2, .int u2, Unk, Unk] [] τ1 _
      refine X.mono h ?_
      rintro r τ3 ⟨u4, rfl, h⟩
      show X none (d + 3) mX7_ring 106 [.ref 0, .int x1, .int x2, .int x3, .int x4, .int x5, .int u2] [.int u4] τ3 _
      refine x_iload_n (pc' := 107) dX7_ring_106 rfl rfl rfl ?_
      refine x_icmp_lt (pc' := 110) (tgt := 114) dX7_ring_107 (by decide) rfl (fun hc => ?_) (fun hc => ?_)
      · replace h := h.1 hc
        refine x_iinc (pc' := 117) (v := 1) dX7_ring_114 rfl (by decide) rfl rfl (by decide) (ls' := [.ref 0, .int x1, .int x2, .int x3, .int x4, .int (x5 + 1), .int u2]) rfl ?_
        refine x_goto (pc' := 44) dX7_ring_117 (by decide) ?_
        refine x_forget 6 (ls' := [.ref 0, .int x1, .int x2, .int x3, .int x4, .int (x5 + 1), Unk]) rfl ?_
        exact h
      · replace h := h.2 hc
        refine x_iload (pc' := 112) dX7_ring_110 rfl rfl ?_
        refine x_istore (pc' := 114) dX7_ring_112 rfl (by decide) rfl (ls' := [.ref 0, .int x1, .int x2, .int x3, .int u2, .int x5, .int u2]) rfl ?_
        refine x_iinc (pc' := 117) (v := 1) dX7_ring_114 rfl (by decide) rfl rfl (by decide) (ls' := [.ref 0, .int x1, .int x2, .int x3, .int u2, .int (x5 + 1), .int u2]) rfl ?_
        refine x_goto (pc' := 44) dX7_ring_117 (by decide) ?_
        refine x_forget 6 (ls' := [.ref 0, .int x1, .int x2, .int x3, .int u2, .int (x5 + 1), Unk]) rfl ?_
        exact h
    · replace h := h.2 hc
      refine x_iload (pc' := 86) dX7_ring_84 rfl rfl ?_
      refine x_iload (pc' := 88) dX7_ring_86 rfl rfl ?_
      refine x_icmp_ge (pc' := 91) (tgt := 114) dX7_ring_88 (by decide) rfl (fun hc => ?_) (fun hc => ?_)
      · replace h := h.1 hc
        refine x_iinc (pc' := 117) (v := 1) dX7_ring_114 rfl (by decide) rfl rfl (by decide) (ls' := [.ref 0, .int x1, .int x2, .int x3, .int x4, .int (x5 + 1), .int u2]) rfl ?_
        refine x_goto (pc' := 44) dX7_ring_117 (by decide) ?_
        refine x_forget 6 (ls' := [.ref 0, .int x1, .int x2, .int x3, .int x4, .int (x5 + 1), Unk]) rfl ?_
        exact h
      · replace h := h.2 hc
        refine x_aload_n (pc' := 92) dX7_ring_91 rfl rfl rfl ?_
        refine x_getr (pc' := 95) dX7_ring_92 rfl lfX7_26 kd_0 rfl rf_0_2 ?_
        refine x_aload_n (pc' := 96) dX7_ring_95 rfl rfl rfl ?_
        refine x_getr (pc' := 99) dX7_ring_96 rfl lfX7_10 kd_0 rfl rf_0_0 ?_
        refine x_iload_n (pc' := 100) dX7_ring_99 rfl rfl rfl ?_
        refine x_iload_n (pc' := 101) dX7_ring_100 rfl rfl rfl ?_
        refine x_iload (pc' := 103) dX7_ring_101 rfl rfl ?_
        refine x_callV (pc' := 106) (As := [.ref 1, .int x1, .int x2, .int u2]) dX7_ring_103 rfl lmX7_170 (OKP.k okP_57) rfl rfl (Nat.le_of_ble_eq_true rfl) (Nat.le_of_ble_eq_true rfl) ?_
        show X none (d + 2) mX4_within 0 [.ref 57, .ref 1, .int x1, .int x2, .int u2, Unk, Unk] [] τ1 _
        refine X.mono h ?_
        rintro r τ5 ⟨u6, rfl, h⟩
        show X none (d + 3) mX7_ring 106 [.ref 0, .int x1, .int x2, .int x3, .int x4, .int x5, .int u2] [.int u6] τ5 _
        refine x_iload_n (pc' := 107) dX7_ring_106 rfl rfl rfl ?_
        refine x_icmp_lt (pc' := 110) (tgt := 114) dX7_ring_107 (by decide) rfl (fun hc => ?_) (fun hc => ?_)
        · replace h := h.1 hc
          refine x_iinc (pc' := 117) (v := 1) dX7_ring_114 rfl (by decide) rfl rfl (by decide) (ls' := [.ref 0, .int x1, .int x2, .int x3, .int x4, .int (x5 + 1), .int u2]) rfl ?_
          refine x_goto (pc' := 44) dX7_ring_117 (by decide) ?_
          refine x_forget 6 (ls' := [.ref 0, .int x1, .int x2, .int x3, .int x4, .int (x5 + 1), Unk]) rfl ?_
          exact h
        · replace h := h.2 hc
          refine x_iload (pc' := 112) dX7_ring_110 rfl rfl ?_
          refine x_istore (pc' := 114) dX7_ring_112 rfl (by decide) rfl (ls' := [.ref 0, .int x1, .int x2, .int x3, .int u2, .int x5, .int u2]) rfl ?_
          refine x_iinc (pc' := 117) (v := 1) dX7_ring_114 rfl (by decide) rfl rfl (by decide) (ls' := [.ref 0, .int x1, .int x2, .int x3, .int u2, .int (x5 + 1), .int u2]) rfl ?_
          refine x_goto (pc' := 44) dX7_ring_117 (by decide) ?_
          refine x_forget 6 (ls' := [.ref 0, .int x1, .int x2, .int x3, .int u2, .int (x5 + 1), Unk]) rfl ?_
          exact h
set_option maxRecDepth 100000 in
set_option maxHeartbeats 4000000 in
theorem vX7_square_0 {d : Nat} {σ : Mem} {Q : Option Value → Mem → Prop} {x1 x2 : Int32} 
    (h : ((x1 < 0 → (∀ τ1 : Mem, τ1 = (w1 σ 0 10 ((σ.1 0 10) + 1)) → Q (some (.int (-2000000002))) τ1)) ∧ (¬ x1 < 0 → ((300 < x1 → (∀ τ2 : Mem, τ2 = (w1 σ 0 10 ((σ.1 0 10) + 1)) → Q (some (.int (-2000000002))) τ2)) ∧ (¬ 300 < x1 → ((x2 < 0 → (∀ τ3 : Mem, τ3 = (w1 σ 0 10 ((σ.1 0 10) + 1)) → Q (some (.int (-2000000002))) τ3)) ∧ (¬ x2 < 0 → ((x2 ≤ 2 → (X none (d + 3) mX4_pickAll 0 [.ref 57, .ref 1, Unk] [] σ (fun r τ4 => r = none ∧ (X none (d + 3) mX4_sortByPlace 0 [.ref 57, .ref 1] [] τ4 (fun r τ5 => r = none ∧ (X none (d + 3) mX4_pickAll 0 [.ref 59, .ref 1, Unk] [] τ5 (fun r τ6 => r = none ∧ (X none (d + 3) mX4_sortByHeight 0 [.ref 59, .ref 1] [] τ6 (fun r τ7 => r = none ∧ X none (d + 4) mX7_square 82 [.ref 0, .int x1, .int x2, .int 0, .int 0, .int 0, .int 0, Unk, Unk, Unk] [] τ7 Q))))))))) ∧ (¬ x2 ≤ 2 → (∀ τ8 : Mem, τ8 = (w1 σ 0 10 ((σ.1 0 10) + 1)) → Q (some (.int (-2000000002))) τ8)))))))))) :
    X none (d + 4) mX7_square 0 [.ref 0, .int x1, .int x2, Unk, Unk, Unk, Unk, Unk, Unk, Unk] [] σ Q := by
  refine x_iload_n (pc' := 1) dX7_square_0 rfl rfl rfl ?_
  refine x_if_lt (pc' := 4) (tgt := 20) dX7_square_1 (by decide) rfl (fun hc => ?_) (fun hc => ?_)
  · replace h := h.1 hc
    refine x_aload_n (pc' := 21) dX7_square_20 rfl rfl rfl ?_
    refine x_ldc (pc' := 23) dX7_square_21 rfl lcX7_68 ?_
    refine x_callV (pc' := 26) (As := [.int (-2000000002)]) dX7_square_23 rfl lmX7_69 kd_0 rfl rfl (Nat.le_of_ble_eq_true rfl) (Nat.le_of_ble_eq_true rfl) ?_
    show X none (d + 3) mX7_refuse 0 [.ref 0, .int (-2000000002)] [] σ _
    refine x_iload_n (pc' := 1) dX7_refuse_0 rfl rfl rfl ?_
    refine x_ldc (pc' := 3) dX7_refuse_1 rfl lcX7_68 ?_
    refine x_icmp_ne (pc' := 6) (tgt := 19) dX7_refuse_3 (by decide) rfl (fun hc => absurd hc (by decide)) (fun _ => ?_)
    refine x_aload_n (pc' := 7) dX7_refuse_6 rfl rfl rfl ?_
    refine x_dup (pc' := 8) dX7_refuse_7 rfl rfl ?_
    refine x_geti (pc' := 11) dX7_refuse_8 rfl lfX7_267 kd_0 rfl ?_
    refine x_iconst (pc' := 12) (v := 1) dX7_refuse_11 rfl (by decide) ?_
    refine x_iadd (pc' := 13) dX7_refuse_12 rfl ?_
    refine x_puti (pc' := 16) dX7_refuse_13 rfl lfX7_267 kd_0 rfl rfl rfl ?_
    obtain ⟨τ1, eτ1⟩ : ∃ τ : Mem, τ = (w1 σ 0 10 ((σ.1 0 10) + 1)) := ⟨_, rfl⟩
    show X none (d + 3) mX7_refuse 16 [.ref 0, .int (-2000000002)] [] (w1 σ 0 10 ((σ.1 0 10) + 1)) _
    rw [← eτ1]
    replace h := h τ1 eτ1
    refine x_goto (pc' := 48) dX7_refuse_16 (by decide) ?_
    refine x_iload_n (pc' := 49) dX7_refuse_48 rfl rfl rfl ?_
    refine x_iret dX7_refuse_49 rfl rfl ?_
    show X none (d + 4) mX7_square 26 [.ref 0, .int x1, .int x2, Unk, Unk, Unk, Unk, Unk, Unk, Unk] [.int (-2000000002)] τ1 _
    exact x_iret dX7_square_26 rfl rfl h
  · replace h := h.2 hc
    refine x_iload_n (pc' := 5) dX7_square_4 rfl rfl rfl ?_
    refine x_sipush (pc' := 8) (v := 300) dX7_square_5 rfl (by decide) ?_
    refine x_icmp_gt (pc' := 11) (tgt := 20) dX7_square_8 (by decide) rfl (fun hc => ?_) (fun hc => ?_)
    · replace h := h.1 hc
      refine x_aload_n (pc' := 21) dX7_square_20 rfl rfl rfl ?_
      refine x_ldc (pc' := 23) dX7_square_21 rfl lcX7_68 ?_
      refine x_callV (pc' := 26) (As := [.int (-2000000002)]) dX7_square_23 rfl lmX7_69 kd_0 rfl rfl (Nat.le_of_ble_eq_true rfl) (Nat.le_of_ble_eq_true rfl) ?_
      show X none (d + 3) mX7_refuse 0 [.ref 0, .int (-2000000002)] [] σ _
      refine x_iload_n (pc' := 1) dX7_refuse_0 rfl rfl rfl ?_
      refine x_ldc (pc' := 3) dX7_refuse_1 rfl lcX7_68 ?_
      refine x_icmp_ne (pc' := 6) (tgt := 19) dX7_refuse_3 (by decide) rfl (fun hc => absurd hc (by decide)) (fun _ => ?_)
      refine x_aload_n (pc' := 7) dX7_refuse_6 rfl rfl rfl ?_
      refine x_dup (pc' := 8) dX7_refuse_7 rfl rfl ?_
      refine x_geti (pc' := 11) dX7_refuse_8 rfl lfX7_267 kd_0 rfl ?_
      refine x_iconst (pc' := 12) (v := 1) dX7_refuse_11 rfl (by decide) ?_
      refine x_iadd (pc' := 13) dX7_refuse_12 rfl ?_
      refine x_puti (pc' := 16) dX7_refuse_13 rfl lfX7_267 kd_0 rfl rfl rfl ?_
      obtain ⟨τ2, eτ2⟩ : ∃ τ : Mem, τ = (w1 σ 0 10 ((σ.1 0 10) + 1)) := ⟨_, rfl⟩
      show X none (d + 3) mX7_refuse 16 [.ref 0, .int (-2000000002)] [] (w1 σ 0 10 ((σ.1 0 10) + 1)) _
      rw [← eτ2]
      replace h := h τ2 eτ2
      refine x_goto (pc' := 48) dX7_refuse_16 (by decide) ?_
      refine x_iload_n (pc' := 49) dX7_refuse_48 rfl rfl rfl ?_
      refine x_iret dX7_refuse_49 rfl rfl ?_
      show X none (d + 4) mX7_square 26 [.ref 0, .int x1, .int x2, Unk, Unk, Unk, Unk, Unk, Unk, Unk] [.int (-2000000002)] τ2 _
      exact x_iret dX7_square_26 rfl rfl h
    · replace h := h.2 hc
      refine x_iload_n (pc' := 12) dX7_square_11 rfl rfl rfl ?_
      refine x_if_lt (pc' := 15) (tgt := 20) dX7_square_12 (by decide) rfl (fun hc => ?_) (fun hc => ?_)
      · replace h := h.1 hc
        refine x_aload_n (pc' := 21) dX7_square_20 rfl rfl rfl ?_
        refine x_ldc (pc' := 23) dX7_square_21 rfl lcX7_68 ?_
        refine x_callV (pc' := 26) (As := [.int (-2000000002)]) dX7_square_23 rfl lmX7_69 kd_0 rfl rfl (Nat.le_of_ble_eq_true rfl) (Nat.le_of_ble_eq_true rfl) ?_
        show X none (d + 3) mX7_refuse 0 [.ref 0, .int (-2000000002)] [] σ _
        refine x_iload_n (pc' := 1) dX7_refuse_0 rfl rfl rfl ?_
        refine x_ldc (pc' := 3) dX7_refuse_1 rfl lcX7_68 ?_
        refine x_icmp_ne (pc' := 6) (tgt := 19) dX7_refuse_3 (by decide) rfl (fun hc => absurd hc (by decide)) (fun _ => ?_)
        refine x_aload_n (pc' := 7) dX7_refuse_6 rfl rfl rfl ?_
        refine x_dup (pc' := 8) dX7_refuse_7 rfl rfl ?_
        refine x_geti (pc' := 11) dX7_refuse_8 rfl lfX7_267 kd_0 rfl ?_
        refine x_iconst (pc' := 12) (v := 1) dX7_refuse_11 rfl (by decide) ?_
        refine x_iadd (pc' := 13) dX7_refuse_12 rfl ?_
        refine x_puti (pc' := 16) dX7_refuse_13 rfl lfX7_267 kd_0 rfl rfl rfl ?_
        obtain ⟨τ3, eτ3⟩ : ∃ τ : Mem, τ = (w1 σ 0 10 ((σ.1 0 10) + 1)) := ⟨_, rfl⟩
        show X none (d + 3) mX7_refuse 16 [.ref 0, .int (-2000000002)] [] (w1 σ 0 10 ((σ.1 0 10) + 1)) _
        rw [← eτ3]
        replace h := h τ3 eτ3
        refine x_goto (pc' := 48) dX7_refuse_16 (by decide) ?_
        refine x_iload_n (pc' := 49) dX7_refuse_48 rfl rfl rfl ?_
        refine x_iret dX7_refuse_49 rfl rfl ?_
        show X none (d + 4) mX7_square 26 [.ref 0, .int x1, .int x2, Unk, Unk, Unk, Unk, Unk, Unk, Unk] [.int (-2000000002)] τ3 _
        exact x_iret dX7_square_26 rfl rfl h
      · replace h := h.2 hc
        refine x_iload_n (pc' := 16) dX7_square_15 rfl rfl rfl ?_
        refine x_iconst (pc' := 17) (v := 2) dX7_square_16 rfl (by decide) ?_
        refine x_icmp_le (pc' := 20) (tgt := 27) dX7_square_17 (by decide) rfl (fun hc => ?_) (fun hc => ?_)
        · replace h := h.1 hc
          refine x_aload_n (pc' := 28) dX7_square_27 rfl rfl rfl ?_
          refine x_getr (pc' := 31) dX7_square_28 rfl lfX7_26 kd_0 rfl rf_0_2 ?_
          refine x_aload_n (pc' := 32) dX7_square_31 rfl rfl rfl ?_
          refine x_getr (pc' := 35) dX7_square_32 rfl lfX7_10 kd_0 rfl rf_0_0 ?_
          refine x_callV (pc' := 38) (As := [.ref 1]) dX7_square_35 rfl lmX7_140 (OKP.k okP_57) rfl rfl (Nat.le_of_ble_eq_true rfl) (Nat.le_of_ble_eq_true rfl) ?_
          show X none (d + 3) mX4_pickAll 0 [.ref 57, .ref 1, Unk] [] σ _
          refine X.mono h ?_
          rintro r τ4 ⟨rfl, h⟩
          show X none (d + 4) mX7_square 38 [.ref 0, .int x1, .int x2, Unk, Unk, Unk, Unk, Unk, Unk, Unk] [] τ4 _
          refine x_aload_n (pc' := 39) dX7_square_38 rfl rfl rfl ?_
          refine x_getr (pc' := 42) dX7_square_39 rfl lfX7_26 kd_0 rfl rf_0_2 ?_
          refine x_aload_n (pc' := 43) dX7_square_42 rfl rfl rfl ?_
          refine x_getr (pc' := 46) dX7_square_43 rfl lfX7_10 kd_0 rfl rf_0_0 ?_
          refine x_callV (pc' := 49) (As := [.ref 1]) dX7_square_46 rfl lmX7_160 (OKP.k okP_57) rfl rfl (Nat.le_of_ble_eq_true rfl) (Nat.le_of_ble_eq_true rfl) ?_
          show X none (d + 3) mX4_sortByPlace 0 [.ref 57, .ref 1] [] τ4 _
          refine X.mono h ?_
          rintro r τ5 ⟨rfl, h⟩
          show X none (d + 4) mX7_square 49 [.ref 0, .int x1, .int x2, Unk, Unk, Unk, Unk, Unk, Unk, Unk] [] τ5 _
          refine x_aload_n (pc' := 50) dX7_square_49 rfl rfl rfl ?_
          refine x_getr (pc' := 53) dX7_square_50 rfl lfX7_30 kd_0 rfl rf_0_3 ?_
          refine x_aload_n (pc' := 54) dX7_square_53 rfl rfl rfl ?_
          refine x_getr (pc' := 57) dX7_square_54 rfl lfX7_10 kd_0 rfl rf_0_0 ?_
          refine x_callV (pc' := 60) (As := [.ref 1]) dX7_square_57 rfl lmX7_140 (OKP.k okP_59) rfl rfl (Nat.le_of_ble_eq_true rfl) (Nat.le_of_ble_eq_true rfl) ?_
          show X none (d + 3) mX4_pickAll 0 [.ref 59, .ref 1, Unk] [] τ5 _
          refine X.mono h ?_
          rintro r τ6 ⟨rfl, h⟩
          show X none (d + 4) mX7_square 60 [.ref 0, .int x1, .int x2, Unk, Unk, Unk, Unk, Unk, Unk, Unk] [] τ6 _
          refine x_aload_n (pc' := 61) dX7_square_60 rfl rfl rfl ?_
          refine x_getr (pc' := 64) dX7_square_61 rfl lfX7_30 kd_0 rfl rf_0_3 ?_
          refine x_aload_n (pc' := 65) dX7_square_64 rfl rfl rfl ?_
          refine x_getr (pc' := 68) dX7_square_65 rfl lfX7_10 kd_0 rfl rf_0_0 ?_
          refine x_callV (pc' := 71) (As := [.ref 1]) dX7_square_68 rfl lmX7_177 (OKP.k okP_59) rfl rfl (Nat.le_of_ble_eq_true rfl) (Nat.le_of_ble_eq_true rfl) ?_
          show X none (d + 3) mX4_sortByHeight 0 [.ref 59, .ref 1] [] τ6 _
          refine X.mono h ?_
          rintro r τ7 ⟨rfl, h⟩
          show X none (d + 4) mX7_square 71 [.ref 0, .int x1, .int x2, Unk, Unk, Unk, Unk, Unk, Unk, Unk] [] τ7 _
          refine x_iconst (pc' := 72) (v := 0) dX7_square_71 rfl (by decide) ?_
          refine x_istore_n (pc' := 73) dX7_square_72 rfl rfl (by decide) rfl (ls' := [.ref 0, .int x1, .int x2, .int 0, Unk, Unk, Unk, Unk, Unk, Unk]) rfl ?_
          refine x_iconst (pc' := 74) (v := 0) dX7_square_73 rfl (by decide) ?_
          refine x_istore (pc' := 76) dX7_square_74 rfl (by decide) rfl (ls' := [.ref 0, .int x1, .int x2, .int 0, .int 0, Unk, Unk, Unk, Unk, Unk]) rfl ?_
          refine x_iconst (pc' := 77) (v := 0) dX7_square_76 rfl (by decide) ?_
          refine x_istore (pc' := 79) dX7_square_77 rfl (by decide) rfl (ls' := [.ref 0, .int x1, .int x2, .int 0, .int 0, .int 0, Unk, Unk, Unk, Unk]) rfl ?_
          refine x_iconst (pc' := 80) (v := 0) dX7_square_79 rfl (by decide) ?_
          refine x_istore (pc' := 82) dX7_square_80 rfl (by decide) rfl (ls' := [.ref 0, .int x1, .int x2, .int 0, .int 0, .int 0, .int 0, Unk, Unk, Unk]) rfl ?_
          exact h
        · replace h := h.2 hc
          refine x_aload_n (pc' := 21) dX7_square_20 rfl rfl rfl ?_
          refine x_ldc (pc' := 23) dX7_square_21 rfl lcX7_68 ?_
          refine x_callV (pc' := 26) (As := [.int (-2000000002)]) dX7_square_23 rfl lmX7_69 kd_0 rfl rfl (Nat.le_of_ble_eq_true rfl) (Nat.le_of_ble_eq_true rfl) ?_
          show X none (d + 3) mX7_refuse 0 [.ref 0, .int (-2000000002)] [] σ _
          refine x_iload_n (pc' := 1) dX7_refuse_0 rfl rfl rfl ?_
          refine x_ldc (pc' := 3) dX7_refuse_1 rfl lcX7_68 ?_
          refine x_icmp_ne (pc' := 6) (tgt := 19) dX7_refuse_3 (by decide) rfl (fun hc => absurd hc (by decide)) (fun _ => ?_)
          refine x_aload_n (pc' := 7) dX7_refuse_6 rfl rfl rfl ?_
          refine x_dup (pc' := 8) dX7_refuse_7 rfl rfl ?_
          refine x_geti (pc' := 11) dX7_refuse_8 rfl lfX7_267 kd_0 rfl ?_
          refine x_iconst (pc' := 12) (v := 1) dX7_refuse_11 rfl (by decide) ?_
          refine x_iadd (pc' := 13) dX7_refuse_12 rfl ?_
          refine x_puti (pc' := 16) dX7_refuse_13 rfl lfX7_267 kd_0 rfl rfl rfl ?_
          obtain ⟨τ8, eτ8⟩ : ∃ τ : Mem, τ = (w1 σ 0 10 ((σ.1 0 10) + 1)) := ⟨_, rfl⟩
          show X none (d + 3) mX7_refuse 16 [.ref 0, .int (-2000000002)] [] (w1 σ 0 10 ((σ.1 0 10) + 1)) _
          rw [← eτ8]
          replace h := h τ8 eτ8
          refine x_goto (pc' := 48) dX7_refuse_16 (by decide) ?_
          refine x_iload_n (pc' := 49) dX7_refuse_48 rfl rfl rfl ?_
          refine x_iret dX7_refuse_49 rfl rfl ?_
          show X none (d + 4) mX7_square 26 [.ref 0, .int x1, .int x2, Unk, Unk, Unk, Unk, Unk, Unk, Unk] [.int (-2000000002)] τ8 _
          exact x_iret dX7_square_26 rfl rfl h
set_option maxRecDepth 100000 in
set_option maxHeartbeats 4000000 in
theorem vX7_square_82 {d : Nat} {σ : Mem} {Q : Option Value → Mem → Prop} {x1 x2 x3 x4 x5 x6 : Int32} 
    (h : (((σ.1 57 1) ≤ x6 → ((¬ x3 = 0 → ((¬ x2 = 0 → ((¬ x2 = 1 → Q (some (.int x5)) σ) ∧ (x2 = 1 → Q (some (.int x4)) σ))) ∧ (x2 = 0 → Q (some (.int x3)) σ))) ∧ (x3 = 0 → Q (some (.int (-2000000001))) σ))) ∧ (¬ (σ.1 57 1) ≤ x6 → (vp_in x6 60 ∧ (vp_in (σ.1 58 x6.toNatClampNeg) 121 ∧ (X none (d + 3) mX4_fullestFrom 0 [.ref 59, .ref 1, .int (σ.1 3 (σ.1 58 x6.toNatClampNeg).toNatClampNeg), .int x1, Unk, Unk, Unk, Unk, Unk, Unk, Unk] [] σ (fun r τ1 => ∃ u2 : Int32, r = some (.int u2) ∧ (X none (d + 3) mX4_inSquare 0 [.ref 59, .ref 1, .int (σ.1 3 (σ.1 58 x6.toNatClampNeg).toNatClampNeg), .int u2, .int x1, Unk, Unk, Unk, Unk] [] τ1 (fun r τ3 => ∃ u4 : Int32, r = some (.int u4) ∧ ((u4 ≤ x3 → X none (d + 4) mX7_square 82 [.ref 0, .int x1, .int x2, .int x3, .int x4, .int x5, .int (x6 + 1), Unk, Unk, Unk] [] τ3 Q) ∧ (¬ u4 ≤ x3 → X none (d + 4) mX7_square 82 [.ref 0, .int x1, .int x2, .int u4, .int (σ.1 3 (σ.1 58 x6.toNatClampNeg).toNatClampNeg), .int u2, .int (x6 + 1), Unk, Unk, Unk] [] τ3 Q))))))))))) :
    X none (d + 4) mX7_square 82 [.ref 0, .int x1, .int x2, .int x3, .int x4, .int x5, .int x6, Unk, Unk, Unk] [] σ Q := by
  refine x_iload (pc' := 84) dX7_square_82 rfl rfl ?_
  refine x_aload_n (pc' := 85) dX7_square_84 rfl rfl rfl ?_
  refine x_getr (pc' := 88) dX7_square_85 rfl lfX7_26 kd_0 rfl rf_0_2 ?_
  refine x_geti (pc' := 91) dX7_square_88 rfl lfX7_157 (OKP.k okP_57) rfl ?_
  refine x_icmp_ge (pc' := 94) (tgt := 171) dX7_square_91 (by decide) rfl (fun hc => ?_) (fun hc => ?_)
  · replace h := h.1 hc
    refine x_iload_n (pc' := 172) dX7_square_171 rfl rfl rfl ?_
    refine x_if_ne (pc' := 175) (tgt := 178) dX7_square_172 (by decide) rfl (fun hc => ?_) (fun hc => ?_)
    · replace h := h.1 hc
      refine x_iload_n (pc' := 179) dX7_square_178 rfl rfl rfl ?_
      refine x_if_ne (pc' := 182) (tgt := 186) dX7_square_179 (by decide) rfl (fun hc => ?_) (fun hc => ?_)
      · replace h := h.1 hc
        refine x_iload_n (pc' := 187) dX7_square_186 rfl rfl rfl ?_
        refine x_iconst (pc' := 188) (v := 1) dX7_square_187 rfl (by decide) ?_
        refine x_icmp_ne (pc' := 191) (tgt := 196) dX7_square_188 (by decide) rfl (fun hc => ?_) (fun hc => ?_)
        · replace h := h.1 hc
          refine x_iload (pc' := 198) dX7_square_196 rfl rfl ?_
          exact x_iret dX7_square_198 rfl rfl h
        · replace h := h.2 hc
          refine x_iload (pc' := 193) dX7_square_191 rfl rfl ?_
          refine x_goto (pc' := 198) dX7_square_193 (by decide) ?_
          exact x_iret dX7_square_198 rfl rfl h
      · replace h := h.2 hc
        refine x_iload_n (pc' := 183) dX7_square_182 rfl rfl rfl ?_
        refine x_goto (pc' := 198) dX7_square_183 (by decide) ?_
        exact x_iret dX7_square_198 rfl rfl h
    · replace h := h.2 hc
      refine x_ldc (pc' := 177) dX7_square_175 rfl lcX7_163 ?_
      exact x_iret dX7_square_177 rfl rfl h
  · replace h := h.2 hc
    refine x_aload_n (pc' := 95) dX7_square_94 rfl rfl rfl ?_
    refine x_getr (pc' := 98) dX7_square_95 rfl lfX7_10 kd_0 rfl rf_0_0 ?_
    refine x_getr (pc' := 101) dX7_square_98 rfl lfX7_127 (OKF.k okF_1) rfl (OKF.r1 okF_1) ?_
    refine x_aload_n (pc' := 102) dX7_square_101 rfl rfl rfl ?_
    refine x_getr (pc' := 105) dX7_square_102 rfl lfX7_26 kd_0 rfl rf_0_2 ?_
    refine x_getr (pc' := 108) dX7_square_105 rfl lfX7_164 (OKP.k okP_57) rfl (OKP.r0 okP_57) ?_
    refine x_iload (pc' := 110) dX7_square_108 rfl rfl ?_
    obtain ⟨hb, h⟩ := h
    refine x_iald (pc' := 111) dX7_square_110 rfl (OKP.a0 okP_57) (by rw [(OKP.n0 okP_57)]; exact hb) ?_
    obtain ⟨hb, h⟩ := h
    refine x_iald (pc' := 112) dX7_square_111 rfl (OKF.a1 okF_1) (by rw [(OKF.n1 okF_1)]; exact hb) ?_
    refine x_istore (pc' := 114) dX7_square_112 rfl (by decide) rfl (ls' := [.ref 0, .int x1, .int x2, .int x3, .int x4, .int x5, .int x6, .int (σ.1 3 (σ.1 58 x6.toNatClampNeg).toNatClampNeg), Unk, Unk]) rfl ?_
    refine x_aload_n (pc' := 115) dX7_square_114 rfl rfl rfl ?_
    refine x_getr (pc' := 118) dX7_square_115 rfl lfX7_30 kd_0 rfl rf_0_3 ?_
    refine x_aload_n (pc' := 119) dX7_square_118 rfl rfl rfl ?_
    refine x_getr (pc' := 122) dX7_square_119 rfl lfX7_10 kd_0 rfl rf_0_0 ?_
    refine x_iload (pc' := 124) dX7_square_122 rfl rfl ?_
    refine x_iload_n (pc' := 125) dX7_square_124 rfl rfl rfl ?_
    refine x_callV (pc' := 128) (As := [.ref 1, .int (σ.1 3 (σ.1 58 x6.toNatClampNeg).toNatClampNeg), .int x1]) dX7_square_125 rfl lmX7_180 (OKP.k okP_59) rfl rfl (Nat.le_of_ble_eq_true rfl) (Nat.le_of_ble_eq_true rfl) ?_
    show X none (d + 3) mX4_fullestFrom 0 [.ref 59, .ref 1, .int (σ.1 3 (σ.1 58 x6.toNatClampNeg).toNatClampNeg), .int x1, Unk, Unk, Unk, Unk, Unk, Unk, Unk] [] σ _
    refine X.mono h ?_
    rintro r τ1 ⟨u2, rfl, h⟩
    show X none (d + 4) mX7_square 128 [.ref 0, .int x1, .int x2, .int x3, .int x4, .int x5, .int x6, .int (σ.1 3 (σ.1 58 x6.toNatClampNeg).toNatClampNeg), Unk, Unk] [.int u2] τ1 _
    refine x_istore (pc' := 130) dX7_square_128 rfl (by decide) rfl (ls' := [.ref 0, .int x1, .int x2, .int x3, .int x4, .int x5, .int x6, .int (σ.1 3 (σ.1 58 x6.toNatClampNeg).toNatClampNeg), .int u2, Unk]) rfl ?_
    refine x_aload_n (pc' := 131) dX7_square_130 rfl rfl rfl ?_
    refine x_getr (pc' := 134) dX7_square_131 rfl lfX7_30 kd_0 rfl rf_0_3 ?_
    refine x_aload_n (pc' := 135) dX7_square_134 rfl rfl rfl ?_
    refine x_getr (pc' := 138) dX7_square_135 rfl lfX7_10 kd_0 rfl rf_0_0 ?_
    refine x_iload (pc' := 140) dX7_square_138 rfl rfl ?_
    refine x_iload (pc' := 142) dX7_square_140 rfl rfl ?_
    refine x_iload_n (pc' := 143) dX7_square_142 rfl rfl rfl ?_
    refine x_callV (pc' := 146) (As := [.ref 1, .int (σ.1 3 (σ.1 58 x6.toNatClampNeg).toNatClampNeg), .int u2, .int x1]) dX7_square_143 rfl lmX7_184 (OKP.k okP_59) rfl rfl (Nat.le_of_ble_eq_true rfl) (Nat.le_of_ble_eq_true rfl) ?_
    show X none (d + 3) mX4_inSquare 0 [.ref 59, .ref 1, .int (σ.1 3 (σ.1 58 x6.toNatClampNeg).toNatClampNeg), .int u2, .int x1, Unk, Unk, Unk, Unk] [] τ1 _
    refine X.mono h ?_
    rintro r τ3 ⟨u4, rfl, h⟩
    show X none (d + 4) mX7_square 146 [.ref 0, .int x1, .int x2, .int x3, .int x4, .int x5, .int x6, .int (σ.1 3 (σ.1 58 x6.toNatClampNeg).toNatClampNeg), .int u2, Unk] [.int u4] τ3 _
    refine x_istore (pc' := 148) dX7_square_146 rfl (by decide) rfl (ls' := [.ref 0, .int x1, .int x2, .int x3, .int x4, .int x5, .int x6, .int (σ.1 3 (σ.1 58 x6.toNatClampNeg).toNatClampNeg), .int u2, .int u4]) rfl ?_
    refine x_iload (pc' := 150) dX7_square_148 rfl rfl ?_
    refine x_iload_n (pc' := 151) dX7_square_150 rfl rfl rfl ?_
    refine x_icmp_le (pc' := 154) (tgt := 165) dX7_square_151 (by decide) rfl (fun hc => ?_) (fun hc => ?_)
    · replace h := h.1 hc
      refine x_iinc (pc' := 168) (v := 1) dX7_square_165 rfl (by decide) rfl rfl (by decide) (ls' := [.ref 0, .int x1, .int x2, .int x3, .int x4, .int x5, .int (x6 + 1), .int (σ.1 3 (σ.1 58 x6.toNatClampNeg).toNatClampNeg), .int u2, .int u4]) rfl ?_
      refine x_goto (pc' := 82) dX7_square_168 (by decide) ?_
      refine x_forget 7 (ls' := [.ref 0, .int x1, .int x2, .int x3, .int x4, .int x5, .int (x6 + 1), Unk, .int u2, .int u4]) rfl ?_
      refine x_forget 8 (ls' := [.ref 0, .int x1, .int x2, .int x3, .int x4, .int x5, .int (x6 + 1), Unk, Unk, .int u4]) rfl ?_
      refine x_forget 9 (ls' := [.ref 0, .int x1, .int x2, .int x3, .int x4, .int x5, .int (x6 + 1), Unk, Unk, Unk]) rfl ?_
      exact h
    · replace h := h.2 hc
      refine x_iload (pc' := 156) dX7_square_154 rfl rfl ?_
      refine x_istore_n (pc' := 157) dX7_square_156 rfl rfl (by decide) rfl (ls' := [.ref 0, .int x1, .int x2, .int u4, .int x4, .int x5, .int x6, .int (σ.1 3 (σ.1 58 x6.toNatClampNeg).toNatClampNeg), .int u2, .int u4]) rfl ?_
      refine x_iload (pc' := 159) dX7_square_157 rfl rfl ?_
      refine x_istore (pc' := 161) dX7_square_159 rfl (by decide) rfl (ls' := [.ref 0, .int x1, .int x2, .int u4, .int (σ.1 3 (σ.1 58 x6.toNatClampNeg).toNatClampNeg), .int x5, .int x6, .int (σ.1 3 (σ.1 58 x6.toNatClampNeg).toNatClampNeg), .int u2, .int u4]) rfl ?_
      refine x_iload (pc' := 163) dX7_square_161 rfl rfl ?_
      refine x_istore (pc' := 165) dX7_square_163 rfl (by decide) rfl (ls' := [.ref 0, .int x1, .int x2, .int u4, .int (σ.1 3 (σ.1 58 x6.toNatClampNeg).toNatClampNeg), .int u2, .int x6, .int (σ.1 3 (σ.1 58 x6.toNatClampNeg).toNatClampNeg), .int u2, .int u4]) rfl ?_
      refine x_iinc (pc' := 168) (v := 1) dX7_square_165 rfl (by decide) rfl rfl (by decide) (ls' := [.ref 0, .int x1, .int x2, .int u4, .int (σ.1 3 (σ.1 58 x6.toNatClampNeg).toNatClampNeg), .int u2, .int (x6 + 1), .int (σ.1 3 (σ.1 58 x6.toNatClampNeg).toNatClampNeg), .int u2, .int u4]) rfl ?_
      refine x_goto (pc' := 82) dX7_square_168 (by decide) ?_
      refine x_forget 7 (ls' := [.ref 0, .int x1, .int x2, .int u4, .int (σ.1 3 (σ.1 58 x6.toNatClampNeg).toNatClampNeg), .int u2, .int (x6 + 1), Unk, .int u2, .int u4]) rfl ?_
      refine x_forget 8 (ls' := [.ref 0, .int x1, .int x2, .int u4, .int (σ.1 3 (σ.1 58 x6.toNatClampNeg).toNatClampNeg), .int u2, .int (x6 + 1), Unk, Unk, .int u4]) rfl ?_
      refine x_forget 9 (ls' := [.ref 0, .int x1, .int x2, .int u4, .int (σ.1 3 (σ.1 58 x6.toNatClampNeg).toNatClampNeg), .int u2, .int (x6 + 1), Unk, Unk, Unk]) rfl ?_
      exact h
set_option maxRecDepth 100000 in
set_option maxHeartbeats 4000000 in
theorem vX7_digest_0 {d : Nat} {σ : Mem} {Q : Option Value → Mem → Prop} 
    (h : X none (d + 3) mX7_digest 6 [.ref 0, .long 1901, Unk, .int 0] [] σ Q) :
    X none (d + 3) mX7_digest 0 [.ref 0, Unk, Unk, Unk] [] σ Q := by
  refine x_ldc2 (pc' := 3) dX7_digest_0 rfl llX7_282 ?_
  refine x_lstore_n (pc' := 4) dX7_digest_3 rfl rfl (by decide) rfl (ls' := [.ref 0, .long 1901, Unk, Unk]) rfl ?_
  refine x_iconst (pc' := 5) (v := 0) dX7_digest_4 rfl (by decide) ?_
  refine x_istore_n (pc' := 6) dX7_digest_5 rfl rfl (by decide) rfl (ls' := [.ref 0, .long 1901, Unk, .int 0]) rfl ?_
  exact h
set_option maxRecDepth 100000 in
set_option maxHeartbeats 4000000 in
theorem vX7_digest_6 {d : Nat} {σ : Mem} {Q : Option Value → Mem → Prop} {x3 : Int32} {y1 : Int64} 
    (h : ((7 < x3 → X none (d + 3) mX7_digest 33 [.ref 0, .long y1, Unk, .int 0] [] σ Q) ∧ (¬ 7 < x3 → (X none (d + 2) mX7_size 0 [.ref 0, .int x3] [] σ (fun r τ1 => ∃ u2 : Int32, r = some (.int u2) ∧ X none (d + 3) mX7_digest 6 [.ref 0, .long ((31 * y1) + ((u2).toInt64)), Unk, .int (x3 + 1)] [] τ1 Q))))) :
    X none (d + 3) mX7_digest 6 [.ref 0, .long y1, Unk, .int x3] [] σ Q := by
  refine x_iload_n (pc' := 7) dX7_digest_6 rfl rfl rfl ?_
  refine x_bipush (pc' := 9) (v := 7) dX7_digest_7 rfl (by decide) ?_
  refine x_icmp_gt (pc' := 12) (tgt := 31) dX7_digest_9 (by decide) rfl (fun hc => ?_) (fun hc => ?_)
  · replace h := h.1 hc
    refine x_iconst (pc' := 32) (v := 0) dX7_digest_31 rfl (by decide) ?_
    refine x_istore_n (pc' := 33) dX7_digest_32 rfl rfl (by decide) rfl (ls' := [.ref 0, .long y1, Unk, .int 0]) rfl ?_
    exact h
  · replace h := h.2 hc
    refine x_ldc2 (pc' := 15) dX7_digest_12 rfl llX7_284 ?_
    refine x_lload_n (pc' := 16) dX7_digest_15 rfl rfl rfl ?_
    refine x_lmul (pc' := 17) dX7_digest_16 rfl ?_
    refine x_aload_n (pc' := 18) dX7_digest_17 rfl rfl rfl ?_
    refine x_iload_n (pc' := 19) dX7_digest_18 rfl rfl rfl ?_
    refine x_callV (pc' := 22) (As := [.int x3]) dX7_digest_19 rfl lmX7_286 kd_0 rfl rfl (Nat.le_of_ble_eq_true rfl) (Nat.le_of_ble_eq_true rfl) ?_
    show X none (d + 2) mX7_size 0 [.ref 0, .int x3] [] σ _
    refine X.mono h ?_
    rintro r τ1 ⟨u2, rfl, h⟩
    show X none (d + 3) mX7_digest 22 [.ref 0, .long y1, Unk, .int x3] [.int u2, .long (31 * y1)] τ1 _
    refine x_i2l (pc' := 23) dX7_digest_22 rfl ?_
    refine x_ladd (pc' := 24) dX7_digest_23 rfl ?_
    refine x_lstore_n (pc' := 25) dX7_digest_24 rfl rfl (by decide) rfl (ls' := [.ref 0, .long ((31 * y1) + ((u2).toInt64)), Unk, .int x3]) rfl ?_
    refine x_iinc (pc' := 28) (v := 1) dX7_digest_25 rfl (by decide) rfl rfl (by decide) (ls' := [.ref 0, .long ((31 * y1) + ((u2).toInt64)), Unk, .int (x3 + 1)]) rfl ?_
    refine x_goto (pc' := 6) dX7_digest_28 (by decide) ?_
    exact h
set_option maxRecDepth 100000 in
set_option maxHeartbeats 4000000 in
theorem vX7_digest_33 {d : Nat} {σ : Mem} {Q : Option Value → Mem → Prop} {x3 : Int32} {y1 : Int64} 
    (h : ((4 < x3 → X none (d + 3) mX7_digest 59 [.ref 0, .long y1, Unk, .int 0] [] σ Q) ∧ (¬ 4 < x3 → (X none (d + 2) mX7_layers 0 [.ref 0, .int x3] [] σ (fun r τ1 => ∃ u2 : Int32, r = some (.int u2) ∧ X none (d + 3) mX7_digest 33 [.ref 0, .long ((31 * y1) + ((u2).toInt64)), Unk, .int (x3 + 1)] [] τ1 Q))))) :
    X none (d + 3) mX7_digest 33 [.ref 0, .long y1, Unk, .int x3] [] σ Q := by
  refine x_iload_n (pc' := 34) dX7_digest_33 rfl rfl rfl ?_
  refine x_iconst (pc' := 35) (v := 4) dX7_digest_34 rfl (by decide) ?_
  refine x_icmp_gt (pc' := 38) (tgt := 57) dX7_digest_35 (by decide) rfl (fun hc => ?_) (fun hc => ?_)
  · replace h := h.1 hc
    refine x_iconst (pc' := 58) (v := 0) dX7_digest_57 rfl (by decide) ?_
    refine x_istore_n (pc' := 59) dX7_digest_58 rfl rfl (by decide) rfl (ls' := [.ref 0, .long y1, Unk, .int 0]) rfl ?_
    exact h
  · replace h := h.2 hc
    refine x_ldc2 (pc' := 41) dX7_digest_38 rfl llX7_284 ?_
    refine x_lload_n (pc' := 42) dX7_digest_41 rfl rfl rfl ?_
    refine x_lmul (pc' := 43) dX7_digest_42 rfl ?_
    refine x_aload_n (pc' := 44) dX7_digest_43 rfl rfl rfl ?_
    refine x_iload_n (pc' := 45) dX7_digest_44 rfl rfl rfl ?_
    refine x_callV (pc' := 48) (As := [.int x3]) dX7_digest_45 rfl lmX7_289 kd_0 rfl rfl (Nat.le_of_ble_eq_true rfl) (Nat.le_of_ble_eq_true rfl) ?_
    show X none (d + 2) mX7_layers 0 [.ref 0, .int x3] [] σ _
    refine X.mono h ?_
    rintro r τ1 ⟨u2, rfl, h⟩
    show X none (d + 3) mX7_digest 48 [.ref 0, .long y1, Unk, .int x3] [.int u2, .long (31 * y1)] τ1 _
    refine x_i2l (pc' := 49) dX7_digest_48 rfl ?_
    refine x_ladd (pc' := 50) dX7_digest_49 rfl ?_
    refine x_lstore_n (pc' := 51) dX7_digest_50 rfl rfl (by decide) rfl (ls' := [.ref 0, .long ((31 * y1) + ((u2).toInt64)), Unk, .int x3]) rfl ?_
    refine x_iinc (pc' := 54) (v := 1) dX7_digest_51 rfl (by decide) rfl rfl (by decide) (ls' := [.ref 0, .long ((31 * y1) + ((u2).toInt64)), Unk, .int (x3 + 1)]) rfl ?_
    refine x_goto (pc' := 33) dX7_digest_54 (by decide) ?_
    exact h
set_option maxRecDepth 100000 in
set_option maxHeartbeats 4000000 in
theorem vX7_digest_59 {d : Nat} {σ : Mem} {Q : Option Value → Mem → Prop} {x3 : Int32} {y1 : Int64} 
    (h : (((σ.1 1 5) ≤ x3 → Q (some (.long ((31 * ((31 * y1) + (σ.2 72 0))) + (σ.2 72 1)))) σ) ∧ (¬ (σ.1 1 5) ≤ x3 → (vp_in x3 121 ∧ ((¬ (σ.1 6 x3.toNatClampNeg) = 0 → X none (d + 3) mX7_digest 59 [.ref 0, .long y1, Unk, .int (x3 + 1)] [] σ Q) ∧ ((σ.1 6 x3.toNatClampNeg) = 0 → (vp_in x3 121 ∧ (vp_in x3 121 ∧ (vp_in x3 121 ∧ (vp_in x3 121 ∧ (X none (d + 2) mX0_worth 0 [.ref 1, .int x3] [] σ (fun r τ1 => ∃ u2 : Int32, r = some (.int u2) ∧ X none (d + 3) mX7_digest 59 [.ref 0, .long ((31 * ((31 * ((31 * ((31 * ((31 * y1) + (((σ.1 2 x3.toNatClampNeg)).toInt64))) + (((σ.1 3 x3.toNatClampNeg)).toInt64))) + (((σ.1 4 x3.toNatClampNeg)).toInt64))) + (((σ.1 5 x3.toNatClampNeg)).toInt64))) + ((u2).toInt64)), Unk, .int (x3 + 1)] [] τ1 Q)))))))))))) :
    X none (d + 3) mX7_digest 59 [.ref 0, .long y1, Unk, .int x3] [] σ Q := by
  refine x_iload_n (pc' := 60) dX7_digest_59 rfl rfl rfl ?_
  refine x_aload_n (pc' := 61) dX7_digest_60 rfl rfl rfl ?_
  refine x_getr (pc' := 64) dX7_digest_61 rfl lfX7_10 kd_0 rfl rf_0_0 ?_
  refine x_geti (pc' := 67) dX7_digest_64 rfl lfX7_194 (OKF.k okF_1) rfl ?_
  refine x_icmp_ge (pc' := 70) (tgt := 171) dX7_digest_67 (by decide) rfl (fun hc => ?_) (fun hc => ?_)
  · replace h := h.1 hc
    refine x_ldc2 (pc' := 174) dX7_digest_171 rfl llX7_284 ?_
    refine x_lload_n (pc' := 175) dX7_digest_174 rfl rfl rfl ?_
    refine x_lmul (pc' := 176) dX7_digest_175 rfl ?_
    refine x_aload_n (pc' := 177) dX7_digest_176 rfl rfl rfl ?_
    refine x_getr (pc' := 180) dX7_digest_177 rfl lfX7_53 kd_0 rfl rf_0_7 ?_
    refine x_getl (pc' := 183) dX7_digest_180 rfl lfX7_249 kd_72 rfl ?_
    refine x_ladd (pc' := 184) dX7_digest_183 rfl ?_
    refine x_lstore_n (pc' := 185) dX7_digest_184 rfl rfl (by decide) rfl (ls' := [.ref 0, .long ((31 * y1) + (σ.2 72 0)), Unk, .int x3]) rfl ?_
    refine x_ldc2 (pc' := 188) dX7_digest_185 rfl llX7_284 ?_
    refine x_lload_n (pc' := 189) dX7_digest_188 rfl rfl rfl ?_
    refine x_lmul (pc' := 190) dX7_digest_189 rfl ?_
    refine x_aload_n (pc' := 191) dX7_digest_190 rfl rfl rfl ?_
    refine x_getr (pc' := 194) dX7_digest_191 rfl lfX7_53 kd_0 rfl rf_0_7 ?_
    refine x_getl (pc' := 197) dX7_digest_194 rfl lfX7_253 kd_72 rfl ?_
    refine x_ladd (pc' := 198) dX7_digest_197 rfl ?_
    exact x_lret dX7_digest_198 rfl h
  · replace h := h.2 hc
    refine x_aload_n (pc' := 71) dX7_digest_70 rfl rfl rfl ?_
    refine x_getr (pc' := 74) dX7_digest_71 rfl lfX7_10 kd_0 rfl rf_0_0 ?_
    refine x_iload_n (pc' := 75) dX7_digest_74 rfl rfl rfl ?_
    refine x_callV (pc' := 78) (As := [.int x3]) dX7_digest_75 rfl lmX7_292 (OKF.k okF_1) rfl rfl (Nat.le_of_ble_eq_true rfl) (Nat.le_of_ble_eq_true rfl) ?_
    show X none (d + 2) mX0_isThere 0 [.ref 1, .int x3] [] σ _
    refine x_aload_n (pc' := 1) dX0_isThere_0 rfl rfl rfl ?_
    refine x_getr (pc' := 4) dX0_isThere_1 rfl lfX0_24 (OKF.k okF_1) rfl (OKF.r4 okF_1) ?_
    refine x_iload_n (pc' := 5) dX0_isThere_4 rfl rfl rfl ?_
    obtain ⟨hb, h⟩ := h
    refine x_iald (pc' := 6) dX0_isThere_5 rfl (OKF.a4 okF_1) (by rw [(OKF.n4 okF_1)]; exact hb) ?_
    refine x_if_ne (pc' := 9) (tgt := 13) dX0_isThere_6 (by decide) rfl (fun hc => ?_) (fun hc => ?_)
    · replace h := h.1 hc
      refine x_iconst (pc' := 14) (v := 0) dX0_isThere_13 rfl (by decide) ?_
      refine x_iret dX0_isThere_14 rfl rfl ?_
      show X none (d + 3) mX7_digest 78 [.ref 0, .long y1, Unk, .int x3] [.int 0] σ _
      refine x_if_eq (pc' := 81) (tgt := 165) dX7_digest_78 (by decide) rfl (fun _ => ?_) (fun hc => absurd hc (by decide))
      refine x_iinc (pc' := 168) (v := 1) dX7_digest_165 rfl (by decide) rfl rfl (by decide) (ls' := [.ref 0, .long y1, Unk, .int (x3 + 1)]) rfl ?_
      refine x_goto (pc' := 59) dX7_digest_168 (by decide) ?_
      exact h
    · replace h := h.2 hc
      refine x_iconst (pc' := 10) (v := 1) dX0_isThere_9 rfl (by decide) ?_
      refine x_goto (pc' := 14) dX0_isThere_10 (by decide) ?_
      refine x_iret dX0_isThere_14 rfl rfl ?_
      show X none (d + 3) mX7_digest 78 [.ref 0, .long y1, Unk, .int x3] [.int 1] σ _
      refine x_if_eq (pc' := 81) (tgt := 165) dX7_digest_78 (by decide) rfl (fun hc => absurd hc (by decide)) (fun _ => ?_)
      refine x_ldc2 (pc' := 84) dX7_digest_81 rfl llX7_284 ?_
      refine x_lload_n (pc' := 85) dX7_digest_84 rfl rfl rfl ?_
      refine x_lmul (pc' := 86) dX7_digest_85 rfl ?_
      refine x_aload_n (pc' := 87) dX7_digest_86 rfl rfl rfl ?_
      refine x_getr (pc' := 90) dX7_digest_87 rfl lfX7_10 kd_0 rfl rf_0_0 ?_
      refine x_getr (pc' := 93) dX7_digest_90 rfl lfX7_174 (OKF.k okF_1) rfl (OKF.r0 okF_1) ?_
      refine x_iload_n (pc' := 94) dX7_digest_93 rfl rfl rfl ?_
      obtain ⟨hb, h⟩ := h
      refine x_iald (pc' := 95) dX7_digest_94 rfl (OKF.a0 okF_1) (by rw [(OKF.n0 okF_1)]; exact hb) ?_
      refine x_i2l (pc' := 96) dX7_digest_95 rfl ?_
      refine x_ladd (pc' := 97) dX7_digest_96 rfl ?_
      refine x_lstore_n (pc' := 98) dX7_digest_97 rfl rfl (by decide) rfl (ls' := [.ref 0, .long ((31 * y1) + (((σ.1 2 x3.toNatClampNeg)).toInt64)), Unk, .int x3]) rfl ?_
      refine x_ldc2 (pc' := 101) dX7_digest_98 rfl llX7_284 ?_
      refine x_lload_n (pc' := 102) dX7_digest_101 rfl rfl rfl ?_
      refine x_lmul (pc' := 103) dX7_digest_102 rfl ?_
      refine x_aload_n (pc' := 104) dX7_digest_103 rfl rfl rfl ?_
      refine x_getr (pc' := 107) dX7_digest_104 rfl lfX7_10 kd_0 rfl rf_0_0 ?_
      refine x_getr (pc' := 110) dX7_digest_107 rfl lfX7_127 (OKF.k okF_1) rfl (OKF.r1 okF_1) ?_
      refine x_iload_n (pc' := 111) dX7_digest_110 rfl rfl rfl ?_
      obtain ⟨hb, h⟩ := h
      refine x_iald (pc' := 112) dX7_digest_111 rfl (OKF.a1 okF_1) (by rw [(OKF.n1 okF_1)]; exact hb) ?_
      refine x_i2l (pc' := 113) dX7_digest_112 rfl ?_
      refine x_ladd (pc' := 114) dX7_digest_113 rfl ?_
      refine x_lstore_n (pc' := 115) dX7_digest_114 rfl rfl (by decide) rfl (ls' := [.ref 0, .long ((31 * ((31 * y1) + (((σ.1 2 x3.toNatClampNeg)).toInt64))) + (((σ.1 3 x3.toNatClampNeg)).toInt64)), Unk, .int x3]) rfl ?_
      refine x_ldc2 (pc' := 118) dX7_digest_115 rfl llX7_284 ?_
      refine x_lload_n (pc' := 119) dX7_digest_118 rfl rfl rfl ?_
      refine x_lmul (pc' := 120) dX7_digest_119 rfl ?_
      refine x_aload_n (pc' := 121) dX7_digest_120 rfl rfl rfl ?_
      refine x_getr (pc' := 124) dX7_digest_121 rfl lfX7_10 kd_0 rfl rf_0_0 ?_
      refine x_getr (pc' := 127) dX7_digest_124 rfl lfX7_131 (OKF.k okF_1) rfl (OKF.r2 okF_1) ?_
      refine x_iload_n (pc' := 128) dX7_digest_127 rfl rfl rfl ?_
      obtain ⟨hb, h⟩ := h
      refine x_iald (pc' := 129) dX7_digest_128 rfl (OKF.a2 okF_1) (by rw [(OKF.n2 okF_1)]; exact hb) ?_
      refine x_i2l (pc' := 130) dX7_digest_129 rfl ?_
      refine x_ladd (pc' := 131) dX7_digest_130 rfl ?_
      refine x_lstore_n (pc' := 132) dX7_digest_131 rfl rfl (by decide) rfl (ls' := [.ref 0, .long ((31 * ((31 * ((31 * y1) + (((σ.1 2 x3.toNatClampNeg)).toInt64))) + (((σ.1 3 x3.toNatClampNeg)).toInt64))) + (((σ.1 4 x3.toNatClampNeg)).toInt64)), Unk, .int x3]) rfl ?_
      refine x_ldc2 (pc' := 135) dX7_digest_132 rfl llX7_284 ?_
      refine x_lload_n (pc' := 136) dX7_digest_135 rfl rfl rfl ?_
      refine x_lmul (pc' := 137) dX7_digest_136 rfl ?_
      refine x_aload_n (pc' := 138) dX7_digest_137 rfl rfl rfl ?_
      refine x_getr (pc' := 141) dX7_digest_138 rfl lfX7_10 kd_0 rfl rf_0_0 ?_
      refine x_getr (pc' := 144) dX7_digest_141 rfl lfX7_134 (OKF.k okF_1) rfl (OKF.r3 okF_1) ?_
      refine x_iload_n (pc' := 145) dX7_digest_144 rfl rfl rfl ?_
      obtain ⟨hb, h⟩ := h
      refine x_iald (pc' := 146) dX7_digest_145 rfl (OKF.a3 okF_1) (by rw [(OKF.n3 okF_1)]; exact hb) ?_
      refine x_i2l (pc' := 147) dX7_digest_146 rfl ?_
      refine x_ladd (pc' := 148) dX7_digest_147 rfl ?_
      refine x_lstore_n (pc' := 149) dX7_digest_148 rfl rfl (by decide) rfl (ls' := [.ref 0, .long ((31 * ((31 * ((31 * ((31 * y1) + (((σ.1 2 x3.toNatClampNeg)).toInt64))) + (((σ.1 3 x3.toNatClampNeg)).toInt64))) + (((σ.1 4 x3.toNatClampNeg)).toInt64))) + (((σ.1 5 x3.toNatClampNeg)).toInt64)), Unk, .int x3]) rfl ?_
      refine x_ldc2 (pc' := 152) dX7_digest_149 rfl llX7_284 ?_
      refine x_lload_n (pc' := 153) dX7_digest_152 rfl rfl rfl ?_
      refine x_lmul (pc' := 154) dX7_digest_153 rfl ?_
      refine x_aload_n (pc' := 155) dX7_digest_154 rfl rfl rfl ?_
      refine x_getr (pc' := 158) dX7_digest_155 rfl lfX7_10 kd_0 rfl rf_0_0 ?_
      refine x_iload_n (pc' := 159) dX7_digest_158 rfl rfl rfl ?_
      refine x_callV (pc' := 162) (As := [.int x3]) dX7_digest_159 rfl lmX7_137 (OKF.k okF_1) rfl rfl (Nat.le_of_ble_eq_true rfl) (Nat.le_of_ble_eq_true rfl) ?_
      show X none (d + 2) mX0_worth 0 [.ref 1, .int x3] [] σ _
      refine X.mono h ?_
      rintro r τ1 ⟨u2, rfl, h⟩
      show X none (d + 3) mX7_digest 162 [.ref 0, .long ((31 * ((31 * ((31 * ((31 * y1) + (((σ.1 2 x3.toNatClampNeg)).toInt64))) + (((σ.1 3 x3.toNatClampNeg)).toInt64))) + (((σ.1 4 x3.toNatClampNeg)).toInt64))) + (((σ.1 5 x3.toNatClampNeg)).toInt64)), Unk, .int x3] [.int u2, .long (31 * ((31 * ((31 * ((31 * ((31 * y1) + (((σ.1 2 x3.toNatClampNeg)).toInt64))) + (((σ.1 3 x3.toNatClampNeg)).toInt64))) + (((σ.1 4 x3.toNatClampNeg)).toInt64))) + (((σ.1 5 x3.toNatClampNeg)).toInt64)))] τ1 _
      refine x_i2l (pc' := 163) dX7_digest_162 rfl ?_
      refine x_ladd (pc' := 164) dX7_digest_163 rfl ?_
      refine x_lstore_n (pc' := 165) dX7_digest_164 rfl rfl (by decide) rfl (ls' := [.ref 0, .long ((31 * ((31 * ((31 * ((31 * ((31 * y1) + (((σ.1 2 x3.toNatClampNeg)).toInt64))) + (((σ.1 3 x3.toNatClampNeg)).toInt64))) + (((σ.1 4 x3.toNatClampNeg)).toInt64))) + (((σ.1 5 x3.toNatClampNeg)).toInt64))) + ((u2).toInt64)), Unk, .int x3]) rfl ?_
      refine x_iinc (pc' := 168) (v := 1) dX7_digest_165 rfl (by decide) rfl rfl (by decide) (ls' := [.ref 0, .long ((31 * ((31 * ((31 * ((31 * ((31 * y1) + (((σ.1 2 x3.toNatClampNeg)).toInt64))) + (((σ.1 3 x3.toNatClampNeg)).toInt64))) + (((σ.1 4 x3.toNatClampNeg)).toInt64))) + (((σ.1 5 x3.toNatClampNeg)).toInt64))) + ((u2).toInt64)), Unk, .int (x3 + 1)]) rfl ?_
      refine x_goto (pc' := 59) dX7_digest_168 (by decide) ?_
      exact h
