set_option maxRecDepth 100000 in
set_option maxHeartbeats 4000000 in
theorem vX2_keep_0 {d : Nat} {σ : Mem} {Q : Option Value → Mem → Prop} {f : Nat} (hf : OKF f)
    (h : (vp_in (((σ.1 7 1) + (σ.1 7 2)) - ((σ.1 7 1) + (σ.1 7 2)) / 8 * 8) 8 ∧ (X none (d + 1) mX0_copyFrom 0 [.ref (9 + 6 * (((σ.1 7 1) + (σ.1 7 2)) - ((σ.1 7 1) + (σ.1 7 2)) / 8 * 8).toNatClampNeg), .ref f, Unk] [] σ (fun r τ2 => r = none ∧ ((8 ≤ (τ2.1 7 2) → (∀ τ3 : Mem, τ3 = (w1 τ2 7 1 (((τ2.1 7 1) + 1) - ((τ2.1 7 1) + 1) / 8 * 8)) → Q (none) τ3)) ∧ (¬ 8 ≤ (τ2.1 7 2) → (∀ τ4 : Mem, τ4 = (w1 τ2 7 2 ((τ2.1 7 2) + 1)) → Q (none) τ4))))))) :
    X none (d + 2) mX2_keep 0 [.ref 7, .ref f] [] σ Q := by
  refine x_aload_n (pc' := 1) dX2_keep_0 rfl rfl rfl ?_
  refine x_getr (pc' := 4) dX2_keep_1 rfl lfX2_11 kd_7 rfl rf_7_0 ?_
  refine x_aload_n (pc' := 5) dX2_keep_4 rfl rfl rfl ?_
  refine x_geti (pc' := 8) dX2_keep_5 rfl lfX2_18 kd_7 rfl ?_
  refine x_aload_n (pc' := 9) dX2_keep_8 rfl rfl rfl ?_
  refine x_geti (pc' := 12) dX2_keep_9 rfl lfX2_22 kd_7 rfl ?_
  refine x_iadd (pc' := 13) dX2_keep_12 rfl ?_
  refine x_bipush (pc' := 15) (v := 8) dX2_keep_13 rfl (by decide) ?_
  refine x_irem (pc' := 16) dX2_keep_15 rfl (by decide) ?_
  obtain ⟨hb1, h⟩ := h
  refine x_aald (pc' := 17) dX2_keep_16 rfl (Or.inl kd_8) (by rw [ln_8]; exact hb1) (slt_rf hb1) ?_
  refine x_aload_n (pc' := 18) dX2_keep_17 rfl rfl rfl ?_
  refine x_callV (pc' := 21) (As := [.ref f]) dX2_keep_18 rfl lmX2_25 (OKF.k (slt_ok hb1)) rfl rfl (Nat.le_of_ble_eq_true rfl) (Nat.le_of_ble_eq_true rfl) ?_
  show X none (d + 1) mX0_copyFrom 0 [.ref (9 + 6 * (((σ.1 7 1) + (σ.1 7 2)) - ((σ.1 7 1) + (σ.1 7 2)) / 8 * 8).toNatClampNeg), .ref f, Unk] [] σ _
  refine X.mono h ?_
  rintro r τ2 ⟨rfl, h⟩
  show X none (d + 2) mX2_keep 21 [.ref 7, .ref f] [] τ2 _
  refine x_aload_n (pc' := 22) dX2_keep_21 rfl rfl rfl ?_
  refine x_geti (pc' := 25) dX2_keep_22 rfl lfX2_22 kd_7 rfl ?_
  refine x_bipush (pc' := 27) (v := 8) dX2_keep_25 rfl (by decide) ?_
  refine x_icmp_ge (pc' := 30) (tgt := 43) dX2_keep_27 (by decide) rfl (fun hc => ?_) (fun hc => ?_)
  · replace h := h.1 hc
    refine x_aload_n (pc' := 44) dX2_keep_43 rfl rfl rfl ?_
    refine x_aload_n (pc' := 45) dX2_keep_44 rfl rfl rfl ?_
    refine x_geti (pc' := 48) dX2_keep_45 rfl lfX2_18 kd_7 rfl ?_
    refine x_iconst (pc' := 49) (v := 1) dX2_keep_48 rfl (by decide) ?_
    refine x_iadd (pc' := 50) dX2_keep_49 rfl ?_
    refine x_bipush (pc' := 52) (v := 8) dX2_keep_50 rfl (by decide) ?_
    refine x_irem (pc' := 53) dX2_keep_52 rfl (by decide) ?_
    refine x_puti (pc' := 56) dX2_keep_53 rfl lfX2_18 kd_7 rfl rfl rfl ?_
    obtain ⟨τ3, eτ3⟩ : ∃ τ : Mem, τ = (w1 τ2 7 1 (((τ2.1 7 1) + 1) - ((τ2.1 7 1) + 1) / 8 * 8)) := ⟨_, rfl⟩
    show X none (d + 2) mX2_keep 56 [.ref 7, .ref f] [] (w1 τ2 7 1 (((τ2.1 7 1) + 1) - ((τ2.1 7 1) + 1) / 8 * 8)) _
    rw [← eτ3]
    replace h := h τ3 eτ3
    exact x_vret dX2_keep_56 rfl h
  · replace h := h.2 hc
    refine x_aload_n (pc' := 31) dX2_keep_30 rfl rfl rfl ?_
    refine x_dup (pc' := 32) dX2_keep_31 rfl rfl ?_
    refine x_geti (pc' := 35) dX2_keep_32 rfl lfX2_22 kd_7 rfl ?_
    refine x_iconst (pc' := 36) (v := 1) dX2_keep_35 rfl (by decide) ?_
    refine x_iadd (pc' := 37) dX2_keep_36 rfl ?_
    refine x_puti (pc' := 40) dX2_keep_37 rfl lfX2_22 kd_7 rfl rfl rfl ?_
    obtain ⟨τ4, eτ4⟩ : ∃ τ : Mem, τ = (w1 τ2 7 2 ((τ2.1 7 2) + 1)) := ⟨_, rfl⟩
    show X none (d + 2) mX2_keep 40 [.ref 7, .ref f] [] (w1 τ2 7 2 ((τ2.1 7 2) + 1)) _
    rw [← eτ4]
    replace h := h τ4 eτ4
    refine x_goto (pc' := 56) dX2_keep_40 (by decide) ?_
    exact x_vret dX2_keep_56 rfl h
set_option maxRecDepth 100000 in
set_option maxHeartbeats 4000000 in
theorem vX2_bringBack_0 {d : Nat} {σ : Mem} {Q : Option Value → Mem → Prop} {f : Nat} (hf : OKF f)
    (h : (((σ.1 7 2) ≤ 0 → Q (none) σ) ∧ (¬ (σ.1 7 2) ≤ 0 → (∀ τ1 : Mem, τ1 = (w1 σ 7 2 ((σ.1 7 2) - 1)) → (vp_in (((τ1.1 7 1) + (τ1.1 7 2)) - ((τ1.1 7 1) + (τ1.1 7 2)) / 8 * 8) 8 ∧ (X none (d + 1) mX0_copyFrom 0 [.ref f, .ref (9 + 6 * (((τ1.1 7 1) + (τ1.1 7 2)) - ((τ1.1 7 1) + (τ1.1 7 2)) / 8 * 8).toNatClampNeg), Unk] [] τ1 (fun r τ3 => r = none ∧ Q (none) τ3))))))) :
    X none (d + 2) mX2_bringBack 0 [.ref 7, .ref f] [] σ Q := by
  refine x_aload_n (pc' := 1) dX2_bringBack_0 rfl rfl rfl ?_
  refine x_geti (pc' := 4) dX2_bringBack_1 rfl lfX2_22 kd_7 rfl ?_
  refine x_if_le (pc' := 7) (tgt := 38) dX2_bringBack_4 (by decide) rfl (fun hc => ?_) (fun hc => ?_)
  · replace h := h.1 hc
    exact x_vret dX2_bringBack_38 rfl h
  · replace h := h.2 hc
    refine x_aload_n (pc' := 8) dX2_bringBack_7 rfl rfl rfl ?_
    refine x_dup (pc' := 9) dX2_bringBack_8 rfl rfl ?_
    refine x_geti (pc' := 12) dX2_bringBack_9 rfl lfX2_22 kd_7 rfl ?_
    refine x_iconst (pc' := 13) (v := 1) dX2_bringBack_12 rfl (by decide) ?_
    refine x_isub (pc' := 14) dX2_bringBack_13 rfl ?_
    refine x_puti (pc' := 17) dX2_bringBack_14 rfl lfX2_22 kd_7 rfl rfl rfl ?_
    obtain ⟨τ1, eτ1⟩ : ∃ τ : Mem, τ = (w1 σ 7 2 ((σ.1 7 2) - 1)) := ⟨_, rfl⟩
    show X none (d + 2) mX2_bringBack 17 [.ref 7, .ref f] [] (w1 σ 7 2 ((σ.1 7 2) - 1)) _
    rw [← eτ1]
    replace h := h τ1 eτ1
    refine x_aload_n (pc' := 18) dX2_bringBack_17 rfl rfl rfl ?_
    refine x_aload_n (pc' := 19) dX2_bringBack_18 rfl rfl rfl ?_
    refine x_getr (pc' := 22) dX2_bringBack_19 rfl lfX2_11 kd_7 rfl rf_7_0 ?_
    refine x_aload_n (pc' := 23) dX2_bringBack_22 rfl rfl rfl ?_
    refine x_geti (pc' := 26) dX2_bringBack_23 rfl lfX2_18 kd_7 rfl ?_
    refine x_aload_n (pc' := 27) dX2_bringBack_26 rfl rfl rfl ?_
    refine x_geti (pc' := 30) dX2_bringBack_27 rfl lfX2_22 kd_7 rfl ?_
    refine x_iadd (pc' := 31) dX2_bringBack_30 rfl ?_
    refine x_bipush (pc' := 33) (v := 8) dX2_bringBack_31 rfl (by decide) ?_
    refine x_irem (pc' := 34) dX2_bringBack_33 rfl (by decide) ?_
    obtain ⟨hb2, h⟩ := h
    refine x_aald (pc' := 35) dX2_bringBack_34 rfl (Or.inl kd_8) (by rw [ln_8]; exact hb2) (slt_rf hb2) ?_
    refine x_callV (pc' := 38) (As := [.ref (9 + 6 * (((τ1.1 7 1) + (τ1.1 7 2)) - ((τ1.1 7 1) + (τ1.1 7 2)) / 8 * 8).toNatClampNeg)]) dX2_bringBack_35 rfl lmX2_25 (OKF.k hf) rfl rfl (Nat.le_of_ble_eq_true rfl) (Nat.le_of_ble_eq_true rfl) ?_
    show X none (d + 1) mX0_copyFrom 0 [.ref f, .ref (9 + 6 * (((τ1.1 7 1) + (τ1.1 7 2)) - ((τ1.1 7 1) + (τ1.1 7 2)) / 8 * 8).toNatClampNeg), Unk] [] τ1 _
    refine X.mono h ?_
    rintro r τ3 ⟨rfl, h⟩
    show X none (d + 2) mX2_bringBack 38 [.ref 7, .ref f] [] τ3 _
    exact x_vret dX2_bringBack_38 rfl h
set_option maxRecDepth 100000 in
set_option maxHeartbeats 4000000 in
theorem vX3_keep_0 {d : Nat} {σ : Mem} {Q : Option Value → Mem → Prop} {q f b : Nat} (hq : OKI q) (hf : OKF f) (hb0 : OKS b)
    (h : (X none (d + 1) mX0_copyFrom 0 [.ref (q + 1), .ref f, Unk] [] σ (fun r τ1 => r = none ∧ (X none (d + 1) mX6_copyFrom 0 [.ref (q + 7), .ref b] [] τ1 (fun r τ2 => r = none ∧ (∀ τ3 : Mem, τ3 = (w1 τ2 q 2 1) → Q (none) τ3)))))) :
    X none (d + 2) mX3_keep 0 [.ref q, .ref f, .ref b] [] σ Q := by
  refine x_aload_n (pc' := 1) dX3_keep_0 rfl rfl rfl ?_
  refine x_getr (pc' := 4) dX3_keep_1 rfl lfX3_10 (OKI.k hq) rfl (OKI.r0 hq) ?_
  refine x_aload_n (pc' := 5) dX3_keep_4 rfl rfl rfl ?_
  refine x_callV (pc' := 8) (As := [.ref f]) dX3_keep_5 rfl lmX3_23 (OKF.k (OKI.f hq)) rfl rfl (Nat.le_of_ble_eq_true rfl) (Nat.le_of_ble_eq_true rfl) ?_
  show X none (d + 1) mX0_copyFrom 0 [.ref (q + 1), .ref f, Unk] [] σ _
  refine X.mono h ?_
  rintro r τ1 ⟨rfl, h⟩
  show X none (d + 2) mX3_keep 8 [.ref q, .ref f, .ref b] [] τ1 _
  refine x_aload_n (pc' := 9) dX3_keep_8 rfl rfl rfl ?_
  refine x_getr (pc' := 12) dX3_keep_9 rfl lfX3_19 (OKI.k hq) rfl (OKI.r1 hq) ?_
  refine x_aload_n (pc' := 13) dX3_keep_12 rfl rfl rfl ?_
  refine x_callV (pc' := 16) (As := [.ref b]) dX3_keep_13 rfl lmX3_27 (OKS.k (OKI.s hq)) rfl rfl (Nat.le_of_ble_eq_true rfl) (Nat.le_of_ble_eq_true rfl) ?_
  show X none (d + 1) mX6_copyFrom 0 [.ref (q + 7), .ref b] [] τ1 _
  refine X.mono h ?_
  rintro r τ2 ⟨rfl, h⟩
  show X none (d + 2) mX3_keep 16 [.ref q, .ref f, .ref b] [] τ2 _
  refine x_aload_n (pc' := 17) dX3_keep_16 rfl rfl rfl ?_
  refine x_iconst (pc' := 18) (v := 1) dX3_keep_17 rfl (by decide) ?_
  refine x_puti (pc' := 21) dX3_keep_18 rfl lfX3_30 (OKI.k hq) rfl rfl rfl ?_
  obtain ⟨τ3, eτ3⟩ : ∃ τ : Mem, τ = (w1 τ2 q 2 1) := ⟨_, rfl⟩
  show X none (d + 2) mX3_keep 21 [.ref q, .ref f, .ref b] [] (w1 τ2 q 2 1) _
  rw [← eτ3]
  replace h := h τ3 eτ3
  exact x_vret dX3_keep_21 rfl h
set_option maxRecDepth 100000 in
set_option maxHeartbeats 4000000 in
theorem vX3_bringBack_0 {d : Nat} {σ : Mem} {Q : Option Value → Mem → Prop} {q f b : Nat} (hq : OKI q) (hf : OKF f) (hb0 : OKS b)
    (h : (X none (d + 1) mX0_copyFrom 0 [.ref f, .ref (q + 1), Unk] [] σ (fun r τ1 => r = none ∧ (X none (d + 1) mX6_copyFrom 0 [.ref b, .ref (q + 7)] [] τ1 (fun r τ2 => r = none ∧ Q (none) τ2))))) :
    X none (d + 2) mX3_bringBack 0 [.ref q, .ref f, .ref b] [] σ Q := by
  refine x_aload_n (pc' := 1) dX3_bringBack_0 rfl rfl rfl ?_
  refine x_aload_n (pc' := 2) dX3_bringBack_1 rfl rfl rfl ?_
  refine x_getr (pc' := 5) dX3_bringBack_2 rfl lfX3_10 (OKI.k hq) rfl (OKI.r0 hq) ?_
  refine x_callV (pc' := 8) (As := [.ref (q + 1)]) dX3_bringBack_5 rfl lmX3_23 (OKF.k hf) rfl rfl (Nat.le_of_ble_eq_true rfl) (Nat.le_of_ble_eq_true rfl) ?_
  show X none (d + 1) mX0_copyFrom 0 [.ref f, .ref (q + 1), Unk] [] σ _
  refine X.mono h ?_
  rintro r τ1 ⟨rfl, h⟩
  show X none (d + 2) mX3_bringBack 8 [.ref q, .ref f, .ref b] [] τ1 _
  refine x_aload_n (pc' := 9) dX3_bringBack_8 rfl rfl rfl ?_
  refine x_aload_n (pc' := 10) dX3_bringBack_9 rfl rfl rfl ?_
  refine x_getr (pc' := 13) dX3_bringBack_10 rfl lfX3_19 (OKI.k hq) rfl (OKI.r1 hq) ?_
  refine x_callV (pc' := 16) (As := [.ref (q + 7)]) dX3_bringBack_13 rfl lmX3_27 (OKS.k hb0) rfl rfl (Nat.le_of_ble_eq_true rfl) (Nat.le_of_ble_eq_true rfl) ?_
  show X none (d + 1) mX6_copyFrom 0 [.ref b, .ref (q + 7)] [] τ1 _
  refine X.mono h ?_
  rintro r τ2 ⟨rfl, h⟩
  show X none (d + 2) mX3_bringBack 16 [.ref q, .ref f, .ref b] [] τ2 _
  exact x_vret dX3_bringBack_16 rfl h
set_option maxRecDepth 100000 in
set_option maxHeartbeats 4000000 in
theorem vX7_isOnAxis_0 {d : Nat} {σ : Mem} {Q : Option Value → Mem → Prop} {x0 : Int32} 
    (h : ((x0 < (-500) → Q (some (.int 0)) σ) ∧ (¬ x0 < (-500) → ((500 < x0 → Q (some (.int 0)) σ) ∧ (¬ 500 < x0 → Q (some (.int 1)) σ))))) :
    X none d mX7_isOnAxis 0 [.int x0] [] σ Q := by
  refine x_iload_n (pc' := 1) dX7_isOnAxis_0 rfl rfl rfl ?_
  refine x_sipush (pc' := 4) (v := (-500)) dX7_isOnAxis_1 rfl (by decide) ?_
  refine x_icmp_lt (pc' := 7) (tgt := 18) dX7_isOnAxis_4 (by decide) rfl (fun hc => ?_) (fun hc => ?_)
  · replace h := h.1 hc
    refine x_iconst (pc' := 19) (v := 0) dX7_isOnAxis_18 rfl (by decide) ?_
    exact x_iret dX7_isOnAxis_19 rfl rfl h
  · replace h := h.2 hc
    refine x_iload_n (pc' := 8) dX7_isOnAxis_7 rfl rfl rfl ?_
    refine x_sipush (pc' := 11) (v := 500) dX7_isOnAxis_8 rfl (by decide) ?_
    refine x_icmp_gt (pc' := 14) (tgt := 18) dX7_isOnAxis_11 (by decide) rfl (fun hc => ?_) (fun hc => ?_)
    · replace h := h.1 hc
      refine x_iconst (pc' := 19) (v := 0) dX7_isOnAxis_18 rfl (by decide) ?_
      exact x_iret dX7_isOnAxis_19 rfl rfl h
    · replace h := h.2 hc
      refine x_iconst (pc' := 15) (v := 1) dX7_isOnAxis_14 rfl (by decide) ?_
      refine x_goto (pc' := 19) dX7_isOnAxis_15 (by decide) ?_
      exact x_iret dX7_isOnAxis_19 rfl rfl h
set_option maxRecDepth 100000 in
set_option maxHeartbeats 4000000 in
theorem vX7_isPlace_0 {d : Nat} {σ : Mem} {Q : Option Value → Mem → Prop} {x0 x1 : Int32} 
    (h : ((x0 < (-500) → Q (some (.int 0)) σ) ∧ (¬ x0 < (-500) → ((500 < x0 → Q (some (.int 0)) σ) ∧ (¬ 500 < x0 → ((x1 < (-500) → Q (some (.int 0)) σ) ∧ (¬ x1 < (-500) → ((500 < x1 → Q (some (.int 0)) σ) ∧ (¬ 500 < x1 → Q (some (.int 1)) σ))))))))) :
    X none (d + 1) mX7_isPlace 0 [.int x0, .int x1] [] σ Q := by
  refine x_iload_n (pc' := 1) dX7_isPlace_0 rfl rfl rfl ?_
  refine x_callS (pc' := 4) (As := [.int x0]) dX7_isPlace_1 rfl lmX7_298 rfl rfl (Nat.le_of_ble_eq_true rfl) (Nat.le_of_ble_eq_true rfl) ?_
  show X none d mX7_isOnAxis 0 [.int x0] [] σ _
  refine x_iload_n (pc' := 1) dX7_isOnAxis_0 rfl rfl rfl ?_
  refine x_sipush (pc' := 4) (v := (-500)) dX7_isOnAxis_1 rfl (by decide) ?_
  refine x_icmp_lt (pc' := 7) (tgt := 18) dX7_isOnAxis_4 (by decide) rfl (fun hc => ?_) (fun hc => ?_)
  · replace h := h.1 hc
    refine x_iconst (pc' := 19) (v := 0) dX7_isOnAxis_18 rfl (by decide) ?_
    refine x_iret dX7_isOnAxis_19 rfl rfl ?_
    show X none (d + 1) mX7_isPlace 4 [.int x0, .int x1] [.int 0] σ _
    refine x_if_eq (pc' := 7) (tgt := 18) dX7_isPlace_4 (by decide) rfl (fun _ => ?_) (fun hc => absurd hc (by decide))
    refine x_iconst (pc' := 19) (v := 0) dX7_isPlace_18 rfl (by decide) ?_
    exact x_iret dX7_isPlace_19 rfl rfl h
  · replace h := h.2 hc
    refine x_iload_n (pc' := 8) dX7_isOnAxis_7 rfl rfl rfl ?_
    refine x_sipush (pc' := 11) (v := 500) dX7_isOnAxis_8 rfl (by decide) ?_
    refine x_icmp_gt (pc' := 14) (tgt := 18) dX7_isOnAxis_11 (by decide) rfl (fun hc => ?_) (fun hc => ?_)
    · replace h := h.1 hc
      refine x_iconst (pc' := 19) (v := 0) dX7_isOnAxis_18 rfl (by decide) ?_
      refine x_iret dX7_isOnAxis_19 rfl rfl ?_
      show X none (d + 1) mX7_isPlace 4 [.int x0, .int x1] [.int 0] σ _
      refine x_if_eq (pc' := 7) (tgt := 18) dX7_isPlace_4 (by decide) rfl (fun _ => ?_) (fun hc => absurd hc (by decide))
      refine x_iconst (pc' := 19) (v := 0) dX7_isPlace_18 rfl (by decide) ?_
      exact x_iret dX7_isPlace_19 rfl rfl h
    · replace h := h.2 hc
      refine x_iconst (pc' := 15) (v := 1) dX7_isOnAxis_14 rfl (by decide) ?_
      refine x_goto (pc' := 19) dX7_isOnAxis_15 (by decide) ?_
      refine x_iret dX7_isOnAxis_19 rfl rfl ?_
      show X none (d + 1) mX7_isPlace 4 [.int x0, .int x1] [.int 1] σ _
      refine x_if_eq (pc' := 7) (tgt := 18) dX7_isPlace_4 (by decide) rfl (fun hc => absurd hc (by decide)) (fun _ => ?_)
      refine x_iload_n (pc' := 8) dX7_isPlace_7 rfl rfl rfl ?_
      refine x_callS (pc' := 11) (As := [.int x1]) dX7_isPlace_8 rfl lmX7_298 rfl rfl (Nat.le_of_ble_eq_true rfl) (Nat.le_of_ble_eq_true rfl) ?_
      show X none d mX7_isOnAxis 0 [.int x1] [] σ _
      refine x_iload_n (pc' := 1) dX7_isOnAxis_0 rfl rfl rfl ?_
      refine x_sipush (pc' := 4) (v := (-500)) dX7_isOnAxis_1 rfl (by decide) ?_
      refine x_icmp_lt (pc' := 7) (tgt := 18) dX7_isOnAxis_4 (by decide) rfl (fun hc => ?_) (fun hc => ?_)
      · replace h := h.1 hc
        refine x_iconst (pc' := 19) (v := 0) dX7_isOnAxis_18 rfl (by decide) ?_
        refine x_iret dX7_isOnAxis_19 rfl rfl ?_
        show X none (d + 1) mX7_isPlace 11 [.int x0, .int x1] [.int 0] σ _
        refine x_if_eq (pc' := 14) (tgt := 18) dX7_isPlace_11 (by decide) rfl (fun _ => ?_) (fun hc => absurd hc (by decide))
        refine x_iconst (pc' := 19) (v := 0) dX7_isPlace_18 rfl (by decide) ?_
        exact x_iret dX7_isPlace_19 rfl rfl h
      · replace h := h.2 hc
        refine x_iload_n (pc' := 8) dX7_isOnAxis_7 rfl rfl rfl ?_
        refine x_sipush (pc' := 11) (v := 500) dX7_isOnAxis_8 rfl (by decide) ?_
        refine x_icmp_gt (pc' := 14) (tgt := 18) dX7_isOnAxis_11 (by decide) rfl (fun hc => ?_) (fun hc => ?_)
        · replace h := h.1 hc
          refine x_iconst (pc' := 19) (v := 0) dX7_isOnAxis_18 rfl (by decide) ?_
          refine x_iret dX7_isOnAxis_19 rfl rfl ?_
          show X none (d + 1) mX7_isPlace 11 [.int x0, .int x1] [.int 0] σ _
          refine x_if_eq (pc' := 14) (tgt := 18) dX7_isPlace_11 (by decide) rfl (fun _ => ?_) (fun hc => absurd hc (by decide))
          refine x_iconst (pc' := 19) (v := 0) dX7_isPlace_18 rfl (by decide) ?_
          exact x_iret dX7_isPlace_19 rfl rfl h
        · replace h := h.2 hc
          refine x_iconst (pc' := 15) (v := 1) dX7_isOnAxis_14 rfl (by decide) ?_
          refine x_goto (pc' := 19) dX7_isOnAxis_15 (by decide) ?_
          refine x_iret dX7_isOnAxis_19 rfl rfl ?_
          show X none (d + 1) mX7_isPlace 11 [.int x0, .int x1] [.int 1] σ _
          refine x_if_eq (pc' := 14) (tgt := 18) dX7_isPlace_11 (by decide) rfl (fun hc => absurd hc (by decide)) (fun _ => ?_)
          refine x_iconst (pc' := 15) (v := 1) dX7_isPlace_14 rfl (by decide) ?_
          refine x_goto (pc' := 19) dX7_isPlace_15 (by decide) ?_
          exact x_iret dX7_isPlace_19 rfl rfl h
set_option maxRecDepth 100000 in
set_option maxHeartbeats 4000000 in
theorem vX7_isRectangle_0 {d : Nat} {σ : Mem} {Q : Option Value → Mem → Prop} {x0 x1 x2 x3 : Int32} 
    (h : (X none (d + 1) mX7_isPlace 0 [.int x0, .int x1] [] σ (fun r τ1 => ∃ u2 : Int32, r = some (.int u2) ∧ ((u2 = 0 → Q (some (.int 0)) τ1) ∧ (¬ u2 = 0 → (X none (d + 1) mX7_isPlace 0 [.int x2, .int x3] [] τ1 (fun r τ3 => ∃ u4 : Int32, r = some (.int u4) ∧ ((u4 = 0 → Q (some (.int 0)) τ3) ∧ (¬ u4 = 0 → ((x1 < x0 → Q (some (.int 0)) τ3) ∧ (¬ x1 < x0 → ((x3 < x2 → Q (some (.int 0)) τ3) ∧ (¬ x3 < x2 → Q (some (.int 1)) τ3))))))))))))) :
    X none (d + 2) mX7_isRectangle 0 [.int x0, .int x1, .int x2, .int x3] [] σ Q := by
  refine x_iload_n (pc' := 1) dX7_isRectangle_0 rfl rfl rfl ?_
  refine x_iload_n (pc' := 2) dX7_isRectangle_1 rfl rfl rfl ?_
  refine x_callS (pc' := 5) (As := [.int x0, .int x1]) dX7_isRectangle_2 rfl lmX7_64 rfl rfl (Nat.le_of_ble_eq_true rfl) (Nat.le_of_ble_eq_true rfl) ?_
  show X none (d + 1) mX7_isPlace 0 [.int x0, .int x1] [] σ _
  refine X.mono h ?_
  rintro r τ1 ⟨u2, rfl, h⟩
  show X none (d + 2) mX7_isRectangle 5 [.int x0, .int x1, .int x2, .int x3] [.int u2] τ1 _
  refine x_if_eq (pc' := 8) (tgt := 30) dX7_isRectangle_5 (by decide) rfl (fun hc => ?_) (fun hc => ?_)
  · replace h := h.1 hc
    refine x_iconst (pc' := 31) (v := 0) dX7_isRectangle_30 rfl (by decide) ?_
    exact x_iret dX7_isRectangle_31 rfl rfl h
  · replace h := h.2 hc
    refine x_iload_n (pc' := 9) dX7_isRectangle_8 rfl rfl rfl ?_
    refine x_iload_n (pc' := 10) dX7_isRectangle_9 rfl rfl rfl ?_
    refine x_callS (pc' := 13) (As := [.int x2, .int x3]) dX7_isRectangle_10 rfl lmX7_64 rfl rfl (Nat.le_of_ble_eq_true rfl) (Nat.le_of_ble_eq_true rfl) ?_
    show X none (d + 1) mX7_isPlace 0 [.int x2, .int x3] [] τ1 _
    refine X.mono h ?_
    rintro r τ3 ⟨u4, rfl, h⟩
    show X none (d + 2) mX7_isRectangle 13 [.int x0, .int x1, .int x2, .int x3] [.int u4] τ3 _
    refine x_if_eq (pc' := 16) (tgt := 30) dX7_isRectangle_13 (by decide) rfl (fun hc => ?_) (fun hc => ?_)
    · replace h := h.1 hc
      refine x_iconst (pc' := 31) (v := 0) dX7_isRectangle_30 rfl (by decide) ?_
      exact x_iret dX7_isRectangle_31 rfl rfl h
    · replace h := h.2 hc
      refine x_iload_n (pc' := 17) dX7_isRectangle_16 rfl rfl rfl ?_
      refine x_iload_n (pc' := 18) dX7_isRectangle_17 rfl rfl rfl ?_
      refine x_icmp_gt (pc' := 21) (tgt := 30) dX7_isRectangle_18 (by decide) rfl (fun hc => ?_) (fun hc => ?_)
      · replace h := h.1 hc
        refine x_iconst (pc' := 31) (v := 0) dX7_isRectangle_30 rfl (by decide) ?_
        exact x_iret dX7_isRectangle_31 rfl rfl h
      · replace h := h.2 hc
        refine x_iload_n (pc' := 22) dX7_isRectangle_21 rfl rfl rfl ?_
        refine x_iload_n (pc' := 23) dX7_isRectangle_22 rfl rfl rfl ?_
        refine x_icmp_gt (pc' := 26) (tgt := 30) dX7_isRectangle_23 (by decide) rfl (fun hc => ?_) (fun hc => ?_)
        · replace h := h.1 hc
          refine x_iconst (pc' := 31) (v := 0) dX7_isRectangle_30 rfl (by decide) ?_
          exact x_iret dX7_isRectangle_31 rfl rfl h
        · replace h := h.2 hc
          refine x_iconst (pc' := 27) (v := 1) dX7_isRectangle_26 rfl (by decide) ?_
          refine x_goto (pc' := 31) dX7_isRectangle_27 (by decide) ?_
          exact x_iret dX7_isRectangle_31 rfl rfl h
set_option maxRecDepth 100000 in
set_option maxHeartbeats 4000000 in
theorem vX7_pickRectangle_0 {d : Nat} {σ : Mem} {Q : Option Value → Mem → Prop} {x1 x2 x3 x4 : Int32} 
    (h : (X none (d + 2) mX6_becomeRectangle 0 [.ref 61, .int x1, .int x2, .int x3, .int x4] [] σ (fun r τ1 => r = none ∧ (X none (d + 2) mX4_pickShape 0 [.ref 57, .ref 1, .ref 61, Unk] [] τ1 (fun r τ2 => r = none ∧ Q (none) τ2))))) :
    X none (d + 3) mX7_pickRectangle 0 [.ref 0, .int x1, .int x2, .int x3, .int x4] [] σ Q := by
  refine x_aload_n (pc' := 1) dX7_pickRectangle_0 rfl rfl rfl ?_
  refine x_getr (pc' := 4) dX7_pickRectangle_1 rfl lfX7_36 kd_0 rfl rf_0_4 ?_
  refine x_iload_n (pc' := 5) dX7_pickRectangle_4 rfl rfl rfl ?_
  refine x_iload_n (pc' := 6) dX7_pickRectangle_5 rfl rfl rfl ?_
  refine x_iload_n (pc' := 7) dX7_pickRectangle_6 rfl rfl rfl ?_
  refine x_iload (pc' := 9) dX7_pickRectangle_7 rfl rfl ?_
  refine x_callV (pc' := 12) (As := [.int x1, .int x2, .int x3, .int x4]) dX7_pickRectangle_9 rfl lmX7_211 (OKS.k okS_61) rfl rfl (Nat.le_of_ble_eq_true rfl) (Nat.le_of_ble_eq_true rfl) ?_
  show X none (d + 2) mX6_becomeRectangle 0 [.ref 61, .int x1, .int x2, .int x3, .int x4] [] σ _
  refine X.mono h ?_
  rintro r τ1 ⟨rfl, h⟩
  show X none (d + 3) mX7_pickRectangle 12 [.ref 0, .int x1, .int x2, .int x3, .int x4] [] τ1 _
  refine x_aload_n (pc' := 13) dX7_pickRectangle_12 rfl rfl rfl ?_
  refine x_getr (pc' := 16) dX7_pickRectangle_13 rfl lfX7_26 kd_0 rfl rf_0_2 ?_
  refine x_aload_n (pc' := 17) dX7_pickRectangle_16 rfl rfl rfl ?_
  refine x_getr (pc' := 20) dX7_pickRectangle_17 rfl lfX7_10 kd_0 rfl rf_0_0 ?_
  refine x_aload_n (pc' := 21) dX7_pickRectangle_20 rfl rfl rfl ?_
  refine x_getr (pc' := 24) dX7_pickRectangle_21 rfl lfX7_36 kd_0 rfl rf_0_4 ?_
  refine x_callV (pc' := 27) (As := [.ref 1, .ref 61]) dX7_pickRectangle_24 rfl lmX7_238 (OKP.k okP_57) rfl rfl (Nat.le_of_ble_eq_true rfl) (Nat.le_of_ble_eq_true rfl) ?_
  show X none (d + 2) mX4_pickShape 0 [.ref 57, .ref 1, .ref 61, Unk] [] τ1 _
  refine X.mono h ?_
  rintro r τ2 ⟨rfl, h⟩
  show X none (d + 3) mX7_pickRectangle 27 [.ref 0, .int x1, .int x2, .int x3, .int x4] [] τ2 _
  exact x_vret dX7_pickRectangle_27 rfl h
set_option maxRecDepth 100000 in
set_option maxHeartbeats 4000000 in
theorem vX7_takePicked_0 {d : Nat} {σ : Mem} {Q : Option Value → Mem → Prop} 
    (h : ((¬ (σ.1 57 1) = 0 → (X none (d + 3) mX2_keep 0 [.ref 7, .ref 1] [] σ (fun r τ1 => r = none ∧ (X none (d + 3) mX4_sortByPlace 0 [.ref 57, .ref 1] [] τ1 (fun r τ2 => r = none ∧ (X none (d + 3) mX4_turnToNumbers 0 [.ref 57, .ref 1, Unk] [] τ2 (fun r τ3 => r = none ∧ X none (d + 4) mX7_takePicked 49 [.ref 0, .int (σ.1 57 1), .int 0] [] τ3 Q))))))) ∧ ((σ.1 57 1) = 0 → Q (some (.int 0)) σ))) :
    X none (d + 4) mX7_takePicked 0 [.ref 0, Unk, Unk] [] σ Q := by
  refine x_aload_n (pc' := 1) dX7_takePicked_0 rfl rfl rfl ?_
  refine x_getr (pc' := 4) dX7_takePicked_1 rfl lfX7_26 kd_0 rfl rf_0_2 ?_
  refine x_geti (pc' := 7) dX7_takePicked_4 rfl lfX7_157 (OKP.k okP_57) rfl ?_
  refine x_istore_n (pc' := 8) dX7_takePicked_7 rfl rfl (by decide) rfl (ls' := [.ref 0, .int (σ.1 57 1), Unk]) rfl ?_
  refine x_iload_n (pc' := 9) dX7_takePicked_8 rfl rfl rfl ?_
  refine x_if_ne (pc' := 12) (tgt := 14) dX7_takePicked_9 (by decide) rfl (fun hc => ?_) (fun hc => ?_)
  · replace h := h.1 hc
    refine x_aload_n (pc' := 15) dX7_takePicked_14 rfl rfl rfl ?_
    refine x_getr (pc' := 18) dX7_takePicked_15 rfl lfX7_19 kd_0 rfl rf_0_1 ?_
    refine x_aload_n (pc' := 19) dX7_takePicked_18 rfl rfl rfl ?_
    refine x_getr (pc' := 22) dX7_takePicked_19 rfl lfX7_10 kd_0 rfl rf_0_0 ?_
    refine x_callV (pc' := 25) (As := [.ref 1]) dX7_takePicked_22 rfl lmX7_82 kd_7 rfl rfl (Nat.le_of_ble_eq_true rfl) (Nat.le_of_ble_eq_true rfl) ?_
    show X none (d + 3) mX2_keep 0 [.ref 7, .ref 1] [] σ _
    refine X.mono h ?_
    rintro r τ1 ⟨rfl, h⟩
    show X none (d + 4) mX7_takePicked 25 [.ref 0, .int (σ.1 57 1), Unk] [] τ1 _
    refine x_aload_n (pc' := 26) dX7_takePicked_25 rfl rfl rfl ?_
    refine x_getr (pc' := 29) dX7_takePicked_26 rfl lfX7_26 kd_0 rfl rf_0_2 ?_
    refine x_aload_n (pc' := 30) dX7_takePicked_29 rfl rfl rfl ?_
    refine x_getr (pc' := 33) dX7_takePicked_30 rfl lfX7_10 kd_0 rfl rf_0_0 ?_
    refine x_callV (pc' := 36) (As := [.ref 1]) dX7_takePicked_33 rfl lmX7_160 (OKP.k okP_57) rfl rfl (Nat.le_of_ble_eq_true rfl) (Nat.le_of_ble_eq_true rfl) ?_
    show X none (d + 3) mX4_sortByPlace 0 [.ref 57, .ref 1] [] τ1 _
    refine X.mono h ?_
    rintro r τ2 ⟨rfl, h⟩
    show X none (d + 4) mX7_takePicked 36 [.ref 0, .int (σ.1 57 1), Unk] [] τ2 _
    refine x_aload_n (pc' := 37) dX7_takePicked_36 rfl rfl rfl ?_
    refine x_getr (pc' := 40) dX7_takePicked_37 rfl lfX7_26 kd_0 rfl rf_0_2 ?_
    refine x_aload_n (pc' := 41) dX7_takePicked_40 rfl rfl rfl ?_
    refine x_getr (pc' := 44) dX7_takePicked_41 rfl lfX7_10 kd_0 rfl rf_0_0 ?_
    refine x_callV (pc' := 47) (As := [.ref 1]) dX7_takePicked_44 rfl lmX7_295 (OKP.k okP_57) rfl rfl (Nat.le_of_ble_eq_true rfl) (Nat.le_of_ble_eq_true rfl) ?_
    show X none (d + 3) mX4_turnToNumbers 0 [.ref 57, .ref 1, Unk] [] τ2 _
    refine X.mono h ?_
    rintro r τ3 ⟨rfl, h⟩
    show X none (d + 4) mX7_takePicked 47 [.ref 0, .int (σ.1 57 1), Unk] [] τ3 _
    refine x_iconst (pc' := 48) (v := 0) dX7_takePicked_47 rfl (by decide) ?_
    refine x_istore_n (pc' := 49) dX7_takePicked_48 rfl rfl (by decide) rfl (ls' := [.ref 0, .int (σ.1 57 1), .int 0]) rfl ?_
    exact h
  · replace h := h.2 hc
    refine x_iconst (pc' := 13) (v := 0) dX7_takePicked_12 rfl (by decide) ?_
    exact x_iret dX7_takePicked_13 rfl rfl h
set_option maxRecDepth 100000 in
set_option maxHeartbeats 4000000 in
theorem vX7_takePicked_49 {d : Nat} {σ : Mem} {Q : Option Value → Mem → Prop} {x1 x2 : Int32} 
    (h : ((x1 ≤ x2 → Q (some (.int x1)) σ) ∧ (¬ x1 ≤ x2 → (vp_in x2 60 ∧ (X none (d + 3) mX0_find 0 [.ref 1, .int (σ.1 58 x2.toNatClampNeg), Unk] [] σ (fun r τ1 => ∃ u2 : Int32, r = some (.int u2) ∧ (X none (d + 3) mX0_goAway 0 [.ref 1, .int u2, Unk] [] τ1 (fun r τ3 => ∃ u4 : Int32, r = some (.int u4) ∧ X none (d + 4) mX7_takePicked 49 [.ref 0, .int x1, .int (x2 + 1)] [] τ3 Q)))))))) :
    X none (d + 4) mX7_takePicked 49 [.ref 0, .int x1, .int x2] [] σ Q := by
  refine x_iload_n (pc' := 50) dX7_takePicked_49 rfl rfl rfl ?_
  refine x_iload_n (pc' := 51) dX7_takePicked_50 rfl rfl rfl ?_
  refine x_icmp_ge (pc' := 54) (tgt := 84) dX7_takePicked_51 (by decide) rfl (fun hc => ?_) (fun hc => ?_)
  · replace h := h.1 hc
    refine x_iload_n (pc' := 85) dX7_takePicked_84 rfl rfl rfl ?_
    exact x_iret dX7_takePicked_85 rfl rfl h
  · replace h := h.2 hc
    refine x_aload_n (pc' := 55) dX7_takePicked_54 rfl rfl rfl ?_
    refine x_getr (pc' := 58) dX7_takePicked_55 rfl lfX7_10 kd_0 rfl rf_0_0 ?_
    refine x_aload_n (pc' := 59) dX7_takePicked_58 rfl rfl rfl ?_
    refine x_getr (pc' := 62) dX7_takePicked_59 rfl lfX7_10 kd_0 rfl rf_0_0 ?_
    refine x_aload_n (pc' := 63) dX7_takePicked_62 rfl rfl rfl ?_
    refine x_getr (pc' := 66) dX7_takePicked_63 rfl lfX7_26 kd_0 rfl rf_0_2 ?_
    refine x_getr (pc' := 69) dX7_takePicked_66 rfl lfX7_164 (OKP.k okP_57) rfl (OKP.r0 okP_57) ?_
    refine x_iload_n (pc' := 70) dX7_takePicked_69 rfl rfl rfl ?_
    obtain ⟨hb, h⟩ := h
    refine x_iald (pc' := 71) dX7_takePicked_70 rfl (OKP.a0 okP_57) (by rw [(OKP.n0 okP_57)]; exact hb) ?_
    refine x_callV (pc' := 74) (As := [.int (σ.1 58 x2.toNatClampNeg)]) dX7_takePicked_71 rfl lmX7_90 (OKF.k okF_1) rfl rfl (Nat.le_of_ble_eq_true rfl) (Nat.le_of_ble_eq_true rfl) ?_
    show X none (d + 3) mX0_find 0 [.ref 1, .int (σ.1 58 x2.toNatClampNeg), Unk] [] σ _
    refine X.mono h ?_
    rintro r τ1 ⟨u2, rfl, h⟩
    show X none (d + 4) mX7_takePicked 74 [.ref 0, .int x1, .int x2] [.int u2, .ref 1] τ1 _
    refine x_callV (pc' := 77) (As := [.int u2]) dX7_takePicked_74 rfl lmX7_93 (OKF.k okF_1) rfl rfl (Nat.le_of_ble_eq_true rfl) (Nat.le_of_ble_eq_true rfl) ?_
    show X none (d + 3) mX0_goAway 0 [.ref 1, .int u2, Unk] [] τ1 _
    refine X.mono h ?_
    rintro r τ3 ⟨u4, rfl, h⟩
    show X none (d + 4) mX7_takePicked 77 [.ref 0, .int x1, .int x2] [.int u4] τ3 _
    refine x_pop (pc' := 78) dX7_takePicked_77 rfl rfl ?_
    refine x_iinc (pc' := 81) (v := 1) dX7_takePicked_78 rfl (by decide) rfl rfl (by decide) (ls' := [.ref 0, .int x1, .int (x2 + 1)]) rfl ?_
    refine x_goto (pc' := 49) dX7_takePicked_81 (by decide) ?_
    exact h
set_option maxRecDepth 100000 in
set_option maxHeartbeats 4000000 in
theorem vX7_put_0 {d : Nat} {σ : Mem} {Q : Option Value → Mem → Prop} {x1 x2 x3 : Int32} 
    (h : (X none (d + 2) mX7_isPlace 0 [.int x1, .int x2] [] σ (fun r τ1 => ∃ u2 : Int32, r = some (.int u2) ∧ ((u2 = 0 → (∀ τ3 : Mem, τ3 = (w1 τ1 0 10 ((τ1.1 0 10) + 1)) → Q (some (.int (-2000000002))) τ3)) ∧ (¬ u2 = 0 → ((x3 < 1 → (∀ τ4 : Mem, τ4 = (w1 τ1 0 10 ((τ1.1 0 10) + 1)) → Q (some (.int (-2000000002))) τ4)) ∧ (¬ x3 < 1 → ((x3 ≤ 100 → ((60 ≤ ((τ1.1 1 5) - (τ1.1 1 6)) → (∀ τ5 : Mem, τ5 = (w1 τ1 0 12 ((τ1.1 0 12) + 1)) → Q (some (.int (-2000000004))) τ5)) ∧ (¬ 60 ≤ ((τ1.1 1 5) - (τ1.1 1 6)) → ((9999 < (((τ1.1 1 10) + 1) - 1) → (∀ τ6 : Mem, τ6 = (w1 τ1 0 12 ((τ1.1 0 12) + 1)) → Q (some (.int (-2000000004))) τ6)) ∧ (¬ 9999 < (((τ1.1 1 10) + 1) - 1) → (X none (d + 2) mX2_keep 0 [.ref 7, .ref 1] [] τ1 (fun r τ7 => r = none ∧ (X none (d + 2) mX0_come 0 [.ref 1, .int x1, .int x2, .int x3] [] τ7 (fun r τ8 => ∃ u9 : Int32, r = some (.int u9) ∧ Q (some (.int u9)) τ8))))))))) ∧ (¬ x3 ≤ 100 → (∀ τ10 : Mem, τ10 = (w1 τ1 0 10 ((τ1.1 0 10) + 1)) → Q (some (.int (-2000000002))) τ10)))))))))) :
    X none (d + 3) mX7_put 0 [.ref 0, .int x1, .int x2, .int x3] [] σ Q := by
  refine x_iload_n (pc' := 1) dX7_put_0 rfl rfl rfl ?_
  refine x_iload_n (pc' := 2) dX7_put_1 rfl rfl rfl ?_
  refine x_callS (pc' := 5) (As := [.int x1, .int x2]) dX7_put_2 rfl lmX7_64 rfl rfl (Nat.le_of_ble_eq_true rfl) (Nat.le_of_ble_eq_true rfl) ?_
  show X none (d + 2) mX7_isPlace 0 [.int x1, .int x2] [] σ _
  refine X.mono h ?_
  rintro r τ1 ⟨u2, rfl, h⟩
  show X none (d + 3) mX7_put 5 [.ref 0, .int x1, .int x2, .int x3] [.int u2] τ1 _
  refine x_if_eq (pc' := 8) (tgt := 19) dX7_put_5 (by decide) rfl (fun hc => ?_) (fun hc => ?_)
  · replace h := h.1 hc
    refine x_aload_n (pc' := 20) dX7_put_19 rfl rfl rfl ?_
    refine x_ldc (pc' := 22) dX7_put_20 rfl lcX7_68 ?_
    refine x_callV (pc' := 25) (As := [.int (-2000000002)]) dX7_put_22 rfl lmX7_69 kd_0 rfl rfl (Nat.le_of_ble_eq_true rfl) (Nat.le_of_ble_eq_true rfl) ?_
    show X none (d + 2) mX7_refuse 0 [.ref 0, .int (-2000000002)] [] τ1 _
    refine x_iload_n (pc' := 1) dX7_refuse_0 rfl rfl rfl ?_
    refine x_ldc (pc' := 3) dX7_refuse_1 rfl lcX7_68 ?_
    refine x_icmp_ne (pc' := 6) (tgt := 19) dX7_refuse_3 (by decide) rfl (fun hc => absurd hc (by decide)) (fun _ => ?_)
    refine x_aload_n (pc' := 7) dX7_refuse_6 rfl rfl rfl ?_
    refine x_dup (pc' := 8) dX7_refuse_7 rfl rfl ?_
    refine x_geti (pc' := 11) dX7_refuse_8 rfl lfX7_267 kd_0 rfl ?_
    refine x_iconst (pc' := 12) (v := 1) dX7_refuse_11 rfl (by decide) ?_
    refine x_iadd (pc' := 13) dX7_refuse_12 rfl ?_
    refine x_puti (pc' := 16) dX7_refuse_13 rfl lfX7_267 kd_0 rfl rfl rfl ?_
    obtain ⟨τ3, eτ3⟩ : ∃ τ : Mem, τ = (w1 τ1 0 10 ((τ1.1 0 10) + 1)) := ⟨_, rfl⟩
    show X none (d + 2) mX7_refuse 16 [.ref 0, .int (-2000000002)] [] (w1 τ1 0 10 ((τ1.1 0 10) + 1)) _
    rw [← eτ3]
    replace h := h τ3 eτ3
    refine x_goto (pc' := 48) dX7_refuse_16 (by decide) ?_
    refine x_iload_n (pc' := 49) dX7_refuse_48 rfl rfl rfl ?_
    refine x_iret dX7_refuse_49 rfl rfl ?_
    show X none (d + 3) mX7_put 25 [.ref 0, .int x1, .int x2, .int x3] [.int (-2000000002)] τ3 _
    exact x_iret dX7_put_25 rfl rfl h
  · replace h := h.2 hc
    refine x_iload_n (pc' := 9) dX7_put_8 rfl rfl rfl ?_
    refine x_iconst (pc' := 10) (v := 1) dX7_put_9 rfl (by decide) ?_
    refine x_icmp_lt (pc' := 13) (tgt := 19) dX7_put_10 (by decide) rfl (fun hc => ?_) (fun hc => ?_)
    · replace h := h.1 hc
      refine x_aload_n (pc' := 20) dX7_put_19 rfl rfl rfl ?_
      refine x_ldc (pc' := 22) dX7_put_20 rfl lcX7_68 ?_
      refine x_callV (pc' := 25) (As := [.int (-2000000002)]) dX7_put_22 rfl lmX7_69 kd_0 rfl rfl (Nat.le_of_ble_eq_true rfl) (Nat.le_of_ble_eq_true rfl) ?_
      show X none (d + 2) mX7_refuse 0 [.ref 0, .int (-2000000002)] [] τ1 _
      refine x_iload_n (pc' := 1) dX7_refuse_0 rfl rfl rfl ?_
      refine x_ldc (pc' := 3) dX7_refuse_1 rfl lcX7_68 ?_
      refine x_icmp_ne (pc' := 6) (tgt := 19) dX7_refuse_3 (by decide) rfl (fun hc => absurd hc (by decide)) (fun _ => ?_)
      refine x_aload_n (pc' := 7) dX7_refuse_6 rfl rfl rfl ?_
      refine x_dup (pc' := 8) dX7_refuse_7 rfl rfl ?_
      refine x_geti (pc' := 11) dX7_refuse_8 rfl lfX7_267 kd_0 rfl ?_
      refine x_iconst (pc' := 12) (v := 1) dX7_refuse_11 rfl (by decide) ?_
      refine x_iadd (pc' := 13) dX7_refuse_12 rfl ?_
      refine x_puti (pc' := 16) dX7_refuse_13 rfl lfX7_267 kd_0 rfl rfl rfl ?_
      obtain ⟨τ4, eτ4⟩ : ∃ τ : Mem, τ = (w1 τ1 0 10 ((τ1.1 0 10) + 1)) := ⟨_, rfl⟩
      show X none (d + 2) mX7_refuse 16 [.ref 0, .int (-2000000002)] [] (w1 τ1 0 10 ((τ1.1 0 10) + 1)) _
      rw [← eτ4]
      replace h := h τ4 eτ4
      refine x_goto (pc' := 48) dX7_refuse_16 (by decide) ?_
      refine x_iload_n (pc' := 49) dX7_refuse_48 rfl rfl rfl ?_
      refine x_iret dX7_refuse_49 rfl rfl ?_
      show X none (d + 3) mX7_put 25 [.ref 0, .int x1, .int x2, .int x3] [.int (-2000000002)] τ4 _
      exact x_iret dX7_put_25 rfl rfl h
    · replace h := h.2 hc
      refine x_iload_n (pc' := 14) dX7_put_13 rfl rfl rfl ?_
      refine x_bipush (pc' := 16) (v := 100) dX7_put_14 rfl (by decide) ?_
      refine x_icmp_le (pc' := 19) (tgt := 26) dX7_put_16 (by decide) rfl (fun hc => ?_) (fun hc => ?_)
      · replace h := h.1 hc
        refine x_aload_n (pc' := 27) dX7_put_26 rfl rfl rfl ?_
        refine x_getr (pc' := 30) dX7_put_27 rfl lfX7_10 kd_0 rfl rf_0_0 ?_
        refine x_callV (pc' := 33) (As := []) dX7_put_30 rfl lmX7_73 (OKF.k okF_1) rfl rfl (Nat.le_of_ble_eq_true rfl) (Nat.le_of_ble_eq_true rfl) ?_
        show X none (d + 2) mX0_there 0 [.ref 1] [] τ1 _
        refine x_aload_n (pc' := 1) dX0_there_0 rfl rfl rfl ?_
        refine x_geti (pc' := 4) dX0_there_1 rfl lfX0_27 (OKF.k okF_1) rfl ?_
        refine x_aload_n (pc' := 5) dX0_there_4 rfl rfl rfl ?_
        refine x_geti (pc' := 8) dX0_there_5 rfl lfX0_31 (OKF.k okF_1) rfl ?_
        refine x_isub (pc' := 9) dX0_there_8 rfl ?_
        refine x_iret dX0_there_9 rfl rfl ?_
        show X none (d + 3) mX7_put 33 [.ref 0, .int x1, .int x2, .int x3] [.int ((τ1.1 1 5) - (τ1.1 1 6))] τ1 _
        refine x_bipush (pc' := 35) (v := 60) dX7_put_33 rfl (by decide) ?_
        refine x_icmp_ge (pc' := 38) (tgt := 49) dX7_put_35 (by decide) rfl (fun hc => ?_) (fun hc => ?_)
        · replace h := h.1 hc
          refine x_aload_n (pc' := 50) dX7_put_49 rfl rfl rfl ?_
          refine x_ldc (pc' := 52) dX7_put_50 rfl lcX7_81 ?_
          refine x_callV (pc' := 55) (As := [.int (-2000000004)]) dX7_put_52 rfl lmX7_69 kd_0 rfl rfl (Nat.le_of_ble_eq_true rfl) (Nat.le_of_ble_eq_true rfl) ?_
          show X none (d + 2) mX7_refuse 0 [.ref 0, .int (-2000000004)] [] τ1 _
          refine x_iload_n (pc' := 1) dX7_refuse_0 rfl rfl rfl ?_
          refine x_ldc (pc' := 3) dX7_refuse_1 rfl lcX7_68 ?_
          refine x_icmp_ne (pc' := 6) (tgt := 19) dX7_refuse_3 (by decide) rfl (fun _ => ?_) (fun hc => absurd hc (by decide))
          refine x_iload_n (pc' := 20) dX7_refuse_19 rfl rfl rfl ?_
          refine x_ldc (pc' := 22) dX7_refuse_20 rfl lcX7_123 ?_
          refine x_icmp_ne (pc' := 25) (tgt := 38) dX7_refuse_22 (by decide) rfl (fun _ => ?_) (fun hc => absurd hc (by decide))
          refine x_aload_n (pc' := 39) dX7_refuse_38 rfl rfl rfl ?_
          refine x_dup (pc' := 40) dX7_refuse_39 rfl rfl ?_
          refine x_geti (pc' := 43) dX7_refuse_40 rfl lfX7_273 kd_0 rfl ?_
          refine x_iconst (pc' := 44) (v := 1) dX7_refuse_43 rfl (by decide) ?_
          refine x_iadd (pc' := 45) dX7_refuse_44 rfl ?_
          refine x_puti (pc' := 48) dX7_refuse_45 rfl lfX7_273 kd_0 rfl rfl rfl ?_
          obtain ⟨τ5, eτ5⟩ : ∃ τ : Mem, τ = (w1 τ1 0 12 ((τ1.1 0 12) + 1)) := ⟨_, rfl⟩
          show X none (d + 2) mX7_refuse 48 [.ref 0, .int (-2000000004)] [] (w1 τ1 0 12 ((τ1.1 0 12) + 1)) _
          rw [← eτ5]
          replace h := h τ5 eτ5
          refine x_iload_n (pc' := 49) dX7_refuse_48 rfl rfl rfl ?_
          refine x_iret dX7_refuse_49 rfl rfl ?_
          show X none (d + 3) mX7_put 55 [.ref 0, .int x1, .int x2, .int x3] [.int (-2000000004)] τ5 _
          exact x_iret dX7_put_55 rfl rfl h
        · replace h := h.2 hc
          refine x_aload_n (pc' := 39) dX7_put_38 rfl rfl rfl ?_
          refine x_getr (pc' := 42) dX7_put_39 rfl lfX7_10 kd_0 rfl rf_0_0 ?_
          refine x_iconst (pc' := 43) (v := 1) dX7_put_42 rfl (by decide) ?_
          refine x_callV (pc' := 46) (As := [.int 1]) dX7_put_43 rfl lmX7_77 (OKF.k okF_1) rfl rfl (Nat.le_of_ble_eq_true rfl) (Nat.le_of_ble_eq_true rfl) ?_
          show X none (d + 2) mX0_hasNumbers 0 [.ref 1, .int 1] [] τ1 _
          refine x_aload_n (pc' := 1) dX0_hasNumbers_0 rfl rfl rfl ?_
          refine x_geti (pc' := 4) dX0_hasNumbers_1 rfl lfX0_34 (OKF.k okF_1) rfl ?_
          refine x_iload_n (pc' := 5) dX0_hasNumbers_4 rfl rfl rfl ?_
          refine x_iadd (pc' := 6) dX0_hasNumbers_5 rfl ?_
          refine x_iconst (pc' := 7) (v := 1) dX0_hasNumbers_6 rfl (by decide) ?_
          refine x_isub (pc' := 8) dX0_hasNumbers_7 rfl ?_
          refine x_sipush (pc' := 11) (v := 9999) dX0_hasNumbers_8 rfl (by decide) ?_
          refine x_icmp_gt (pc' := 14) (tgt := 18) dX0_hasNumbers_11 (by decide) rfl (fun hc => ?_) (fun hc => ?_)
          · replace h := h.1 hc
            refine x_iconst (pc' := 19) (v := 0) dX0_hasNumbers_18 rfl (by decide) ?_
            refine x_iret dX0_hasNumbers_19 rfl rfl ?_
            show X none (d + 3) mX7_put 46 [.ref 0, .int x1, .int x2, .int x3] [.int 0] τ1 _
            refine x_if_ne (pc' := 49) (tgt := 56) dX7_put_46 (by decide) rfl (fun hc => absurd hc (by decide)) (fun _ => ?_)
            refine x_aload_n (pc' := 50) dX7_put_49 rfl rfl rfl ?_
            refine x_ldc (pc' := 52) dX7_put_50 rfl lcX7_81 ?_
            refine x_callV (pc' := 55) (As := [.int (-2000000004)]) dX7_put_52 rfl lmX7_69 kd_0 rfl rfl (Nat.le_of_ble_eq_true rfl) (Nat.le_of_ble_eq_true rfl) ?_
            show X none (d + 2) mX7_refuse 0 [.ref 0, .int (-2000000004)] [] τ1 _
            refine x_iload_n (pc' := 1) dX7_refuse_0 rfl rfl rfl ?_
            refine x_ldc (pc' := 3) dX7_refuse_1 rfl lcX7_68 ?_
            refine x_icmp_ne (pc' := 6) (tgt := 19) dX7_refuse_3 (by decide) rfl (fun _ => ?_) (fun hc => absurd hc (by decide))
            refine x_iload_n (pc' := 20) dX7_refuse_19 rfl rfl rfl ?_
            refine x_ldc (pc' := 22) dX7_refuse_20 rfl lcX7_123 ?_
            refine x_icmp_ne (pc' := 25) (tgt := 38) dX7_refuse_22 (by decide) rfl (fun _ => ?_) (fun hc => absurd hc (by decide))
            refine x_aload_n (pc' := 39) dX7_refuse_38 rfl rfl rfl ?_
            refine x_dup (pc' := 40) dX7_refuse_39 rfl rfl ?_
            refine x_geti (pc' := 43) dX7_refuse_40 rfl lfX7_273 kd_0 rfl ?_
            refine x_iconst (pc' := 44) (v := 1) dX7_refuse_43 rfl (by decide) ?_
            refine x_iadd (pc' := 45) dX7_refuse_44 rfl ?_
            refine x_puti (pc' := 48) dX7_refuse_45 rfl lfX7_273 kd_0 rfl rfl rfl ?_
            obtain ⟨τ6, eτ6⟩ : ∃ τ : Mem, τ = (w1 τ1 0 12 ((τ1.1 0 12) + 1)) := ⟨_, rfl⟩
            show X none (d + 2) mX7_refuse 48 [.ref 0, .int (-2000000004)] [] (w1 τ1 0 12 ((τ1.1 0 12) + 1)) _
            rw [← eτ6]
            replace h := h τ6 eτ6
            refine x_iload_n (pc' := 49) dX7_refuse_48 rfl rfl rfl ?_
            refine x_iret dX7_refuse_49 rfl rfl ?_
            show X none (d + 3) mX7_put 55 [.ref 0, .int x1, .int x2, .int x3] [.int (-2000000004)] τ6 _
            exact x_iret dX7_put_55 rfl rfl h
          · replace h := h.2 hc
            refine x_iconst (pc' := 15) (v := 1) dX0_hasNumbers_14 rfl (by decide) ?_
            refine x_goto (pc' := 19) dX0_hasNumbers_15 (by decide) ?_
            refine x_iret dX0_hasNumbers_19 rfl rfl ?_
            show X none (d + 3) mX7_put 46 [.ref 0, .int x1, .int x2, .int x3] [.int 1] τ1 _
            refine x_if_ne (pc' := 49) (tgt := 56) dX7_put_46 (by decide) rfl (fun _ => ?_) (fun hc => absurd hc (by decide))
            refine x_aload_n (pc' := 57) dX7_put_56 rfl rfl rfl ?_
            refine x_getr (pc' := 60) dX7_put_57 rfl lfX7_19 kd_0 rfl rf_0_1 ?_
            refine x_aload_n (pc' := 61) dX7_put_60 rfl rfl rfl ?_
            refine x_getr (pc' := 64) dX7_put_61 rfl lfX7_10 kd_0 rfl rf_0_0 ?_
            refine x_callV (pc' := 67) (As := [.ref 1]) dX7_put_64 rfl lmX7_82 kd_7 rfl rfl (Nat.le_of_ble_eq_true rfl) (Nat.le_of_ble_eq_true rfl) ?_
            show X none (d + 2) mX2_keep 0 [.ref 7, .ref 1] [] τ1 _
            refine X.mono h ?_
            rintro r τ7 ⟨rfl, h⟩
            show X none (d + 3) mX7_put 67 [.ref 0, .int x1, .int x2, .int x3] [] τ7 _
            refine x_aload_n (pc' := 68) dX7_put_67 rfl rfl rfl ?_
            refine x_getr (pc' := 71) dX7_put_68 rfl lfX7_10 kd_0 rfl rf_0_0 ?_
            refine x_iload_n (pc' := 72) dX7_put_71 rfl rfl rfl ?_
            refine x_iload_n (pc' := 73) dX7_put_72 rfl rfl rfl ?_
            refine x_iload_n (pc' := 74) dX7_put_73 rfl rfl rfl ?_
            refine x_callV (pc' := 77) (As := [.int x1, .int x2, .int x3]) dX7_put_74 rfl lmX7_86 (OKF.k okF_1) rfl rfl (Nat.le_of_ble_eq_true rfl) (Nat.le_of_ble_eq_true rfl) ?_
            show X none (d + 2) mX0_come 0 [.ref 1, .int x1, .int x2, .int x3] [] τ7 _
            refine X.mono h ?_
            rintro r τ8 ⟨u9, rfl, h⟩
            show X none (d + 3) mX7_put 77 [.ref 0, .int x1, .int x2, .int x3] [.int u9] τ8 _
            exact x_iret dX7_put_77 rfl rfl h
      · replace h := h.2 hc
        refine x_aload_n (pc' := 20) dX7_put_19 rfl rfl rfl ?_
        refine x_ldc (pc' := 22) dX7_put_20 rfl lcX7_68 ?_
        refine x_callV (pc' := 25) (As := [.int (-2000000002)]) dX7_put_22 rfl lmX7_69 kd_0 rfl rfl (Nat.le_of_ble_eq_true rfl) (Nat.le_of_ble_eq_true rfl) ?_
        show X none (d + 2) mX7_refuse 0 [.ref 0, .int (-2000000002)] [] τ1 _
        refine x_iload_n (pc' := 1) dX7_refuse_0 rfl rfl rfl ?_
        refine x_ldc (pc' := 3) dX7_refuse_1 rfl lcX7_68 ?_
        refine x_icmp_ne (pc' := 6) (tgt := 19) dX7_refuse_3 (by decide) rfl (fun hc => absurd hc (by decide)) (fun _ => ?_)
        refine x_aload_n (pc' := 7) dX7_refuse_6 rfl rfl rfl ?_
        refine x_dup (pc' := 8) dX7_refuse_7 rfl rfl ?_
        refine x_geti (pc' := 11) dX7_refuse_8 rfl lfX7_267 kd_0 rfl ?_
        refine x_iconst (pc' := 12) (v := 1) dX7_refuse_11 rfl (by decide) ?_
        refine x_iadd (pc' := 13) dX7_refuse_12 rfl ?_
        refine x_puti (pc' := 16) dX7_refuse_13 rfl lfX7_267 kd_0 rfl rfl rfl ?_
        obtain ⟨τ10, eτ10⟩ : ∃ τ : Mem, τ = (w1 τ1 0 10 ((τ1.1 0 10) + 1)) := ⟨_, rfl⟩
        show X none (d + 2) mX7_refuse 16 [.ref 0, .int (-2000000002)] [] (w1 τ1 0 10 ((τ1.1 0 10) + 1)) _
        rw [← eτ10]
        replace h := h τ10 eτ10
        refine x_goto (pc' := 48) dX7_refuse_16 (by decide) ?_
        refine x_iload_n (pc' := 49) dX7_refuse_48 rfl rfl rfl ?_
        refine x_iret dX7_refuse_49 rfl rfl ?_
        show X none (d + 3) mX7_put 25 [.ref 0, .int x1, .int x2, .int x3] [.int (-2000000002)] τ10 _
        exact x_iret dX7_put_25 rfl rfl h
set_option maxRecDepth 100000 in
set_option maxHeartbeats 4000000 in
theorem vX7_take_0 {d : Nat} {σ : Mem} {Q : Option Value → Mem → Prop} {x1 : Int32} 
    (h : (X none (d + 2) mX0_find 0 [.ref 1, .int x1, Unk] [] σ (fun r τ1 => ∃ u2 : Int32, r = some (.int u2) ∧ ((0 ≤ u2 → (X none (d + 2) mX2_keep 0 [.ref 7, .ref 1] [] τ1 (fun r τ3 => r = none ∧ (X none (d + 2) mX0_goAway 0 [.ref 1, .int u2, Unk] [] τ3 (fun r τ4 => ∃ u5 : Int32, r = some (.int u5) ∧ Q (some (.int u5)) τ4))))) ∧ (¬ 0 ≤ u2 → (∀ τ6 : Mem, τ6 = (w1 τ1 0 10 ((τ1.1 0 10) + 1)) → Q (some (.int (-2000000002))) τ6)))))) :
    X none (d + 3) mX7_take 0 [.ref 0, .int x1, Unk] [] σ Q := by
  refine x_aload_n (pc' := 1) dX7_take_0 rfl rfl rfl ?_
  refine x_getr (pc' := 4) dX7_take_1 rfl lfX7_10 kd_0 rfl rf_0_0 ?_
  refine x_iload_n (pc' := 5) dX7_take_4 rfl rfl rfl ?_
  refine x_callV (pc' := 8) (As := [.int x1]) dX7_take_5 rfl lmX7_90 (OKF.k okF_1) rfl rfl (Nat.le_of_ble_eq_true rfl) (Nat.le_of_ble_eq_true rfl) ?_
  show X none (d + 2) mX0_find 0 [.ref 1, .int x1, Unk] [] σ _
  refine X.mono h ?_
  rintro r τ1 ⟨u2, rfl, h⟩
  show X none (d + 3) mX7_take 8 [.ref 0, .int x1, Unk] [.int u2] τ1 _
  refine x_istore_n (pc' := 9) dX7_take_8 rfl rfl (by decide) rfl (ls' := [.ref 0, .int x1, .int u2]) rfl ?_
  refine x_iload_n (pc' := 10) dX7_take_9 rfl rfl rfl ?_
  refine x_if_ge (pc' := 13) (tgt := 20) dX7_take_10 (by decide) rfl (fun hc => ?_) (fun hc => ?_)
  · replace h := h.1 hc
    refine x_aload_n (pc' := 21) dX7_take_20 rfl rfl rfl ?_
    refine x_getr (pc' := 24) dX7_take_21 rfl lfX7_19 kd_0 rfl rf_0_1 ?_
    refine x_aload_n (pc' := 25) dX7_take_24 rfl rfl rfl ?_
    refine x_getr (pc' := 28) dX7_take_25 rfl lfX7_10 kd_0 rfl rf_0_0 ?_
    refine x_callV (pc' := 31) (As := [.ref 1]) dX7_take_28 rfl lmX7_82 kd_7 rfl rfl (Nat.le_of_ble_eq_true rfl) (Nat.le_of_ble_eq_true rfl) ?_
    show X none (d + 2) mX2_keep 0 [.ref 7, .ref 1] [] τ1 _
    refine X.mono h ?_
    rintro r τ3 ⟨rfl, h⟩
    show X none (d + 3) mX7_take 31 [.ref 0, .int x1, .int u2] [] τ3 _
    refine x_aload_n (pc' := 32) dX7_take_31 rfl rfl rfl ?_
    refine x_getr (pc' := 35) dX7_take_32 rfl lfX7_10 kd_0 rfl rf_0_0 ?_
    refine x_iload_n (pc' := 36) dX7_take_35 rfl rfl rfl ?_
    refine x_callV (pc' := 39) (As := [.int u2]) dX7_take_36 rfl lmX7_93 (OKF.k okF_1) rfl rfl (Nat.le_of_ble_eq_true rfl) (Nat.le_of_ble_eq_true rfl) ?_
    show X none (d + 2) mX0_goAway 0 [.ref 1, .int u2, Unk] [] τ3 _
    refine X.mono h ?_
    rintro r τ4 ⟨u5, rfl, h⟩
    show X none (d + 3) mX7_take 39 [.ref 0, .int x1, .int u2] [.int u5] τ4 _
    exact x_iret dX7_take_39 rfl rfl h
  · replace h := h.2 hc
    refine x_aload_n (pc' := 14) dX7_take_13 rfl rfl rfl ?_
    refine x_ldc (pc' := 16) dX7_take_14 rfl lcX7_68 ?_
    refine x_callV (pc' := 19) (As := [.int (-2000000002)]) dX7_take_16 rfl lmX7_69 kd_0 rfl rfl (Nat.le_of_ble_eq_true rfl) (Nat.le_of_ble_eq_true rfl) ?_
    show X none (d + 2) mX7_refuse 0 [.ref 0, .int (-2000000002)] [] τ1 _
    refine x_iload_n (pc' := 1) dX7_refuse_0 rfl rfl rfl ?_
    refine x_ldc (pc' := 3) dX7_refuse_1 rfl lcX7_68 ?_
    refine x_icmp_ne (pc' := 6) (tgt := 19) dX7_refuse_3 (by decide) rfl (fun hc => absurd hc (by decide)) (fun _ => ?_)
    refine x_aload_n (pc' := 7) dX7_refuse_6 rfl rfl rfl ?_
    refine x_dup (pc' := 8) dX7_refuse_7 rfl rfl ?_
    refine x_geti (pc' := 11) dX7_refuse_8 rfl lfX7_267 kd_0 rfl ?_
    refine x_iconst (pc' := 12) (v := 1) dX7_refuse_11 rfl (by decide) ?_
    refine x_iadd (pc' := 13) dX7_refuse_12 rfl ?_
    refine x_puti (pc' := 16) dX7_refuse_13 rfl lfX7_267 kd_0 rfl rfl rfl ?_
    obtain ⟨τ6, eτ6⟩ : ∃ τ : Mem, τ = (w1 τ1 0 10 ((τ1.1 0 10) + 1)) := ⟨_, rfl⟩
    show X none (d + 2) mX7_refuse 16 [.ref 0, .int (-2000000002)] [] (w1 τ1 0 10 ((τ1.1 0 10) + 1)) _
    rw [← eτ6]
    replace h := h τ6 eτ6
    refine x_goto (pc' := 48) dX7_refuse_16 (by decide) ?_
    refine x_iload_n (pc' := 49) dX7_refuse_48 rfl rfl rfl ?_
    refine x_iret dX7_refuse_49 rfl rfl ?_
    show X none (d + 3) mX7_take 19 [.ref 0, .int x1, .int u2] [.int (-2000000002)] τ6 _
    exact x_iret dX7_take_19 rfl rfl h
set_option maxRecDepth 100000 in
set_option maxHeartbeats 4000000 in
theorem vX7_move_0 {d : Nat} {σ : Mem} {Q : Option Value → Mem → Prop} {x1 x2 x3 : Int32} 
    (h : (X none (d + 2) mX0_find 0 [.ref 1, .int x1, Unk] [] σ (fun r τ1 => ∃ u2 : Int32, r = some (.int u2) ∧ ((u2 < 0 → (∀ τ3 : Mem, τ3 = (w1 τ1 0 10 ((τ1.1 0 10) + 1)) → Q (some (.int (-2000000002))) τ3)) ∧ (¬ u2 < 0 → (X none (d + 2) mX7_isPlace 0 [.int x2, .int x3] [] τ1 (fun r τ4 => ∃ u5 : Int32, r = some (.int u5) ∧ ((¬ u5 = 0 → ((9999 < (((τ4.1 1 10) + 1) - 1) → (∀ τ6 : Mem, τ6 = (w1 τ4 0 12 ((τ4.1 0 12) + 1)) → Q (some (.int (-2000000004))) τ6)) ∧ (¬ 9999 < (((τ4.1 1 10) + 1) - 1) → (X none (d + 2) mX2_keep 0 [.ref 7, .ref 1] [] τ4 (fun r τ7 => r = none ∧ (X none (d + 2) mX0_goAway 0 [.ref 1, .int u2, Unk] [] τ7 (fun r τ8 => ∃ u9 : Int32, r = some (.int u9) ∧ (X none (d + 2) mX0_come 0 [.ref 1, .int x2, .int x3, .int u9] [] τ8 (fun r τ10 => ∃ u11 : Int32, r = some (.int u11) ∧ Q (some (.int u11)) τ10))))))))) ∧ (u5 = 0 → (∀ τ12 : Mem, τ12 = (w1 τ4 0 10 ((τ4.1 0 10) + 1)) → Q (some (.int (-2000000002))) τ12)))))))))) :
    X none (d + 3) mX7_move 0 [.ref 0, .int x1, .int x2, .int x3, Unk, Unk] [] σ Q := by
  refine x_aload_n (pc' := 1) dX7_move_0 rfl rfl rfl ?_
  refine x_getr (pc' := 4) dX7_move_1 rfl lfX7_10 kd_0 rfl rf_0_0 ?_
  refine x_iload_n (pc' := 5) dX7_move_4 rfl rfl rfl ?_
  refine x_callV (pc' := 8) (As := [.int x1]) dX7_move_5 rfl lmX7_90 (OKF.k okF_1) rfl rfl (Nat.le_of_ble_eq_true rfl) (Nat.le_of_ble_eq_true rfl) ?_
  show X none (d + 2) mX0_find 0 [.ref 1, .int x1, Unk] [] σ _
  refine X.mono h ?_
  rintro r τ1 ⟨u2, rfl, h⟩
  show X none (d + 3) mX7_move 8 [.ref 0, .int x1, .int x2, .int x3, Unk, Unk] [.int u2] τ1 _
  refine x_istore (pc' := 10) dX7_move_8 rfl (by decide) rfl (ls' := [.ref 0, .int x1, .int x2, .int x3, .int u2, Unk]) rfl ?_
  refine x_iload (pc' := 12) dX7_move_10 rfl rfl ?_
  refine x_if_lt (pc' := 15) (tgt := 23) dX7_move_12 (by decide) rfl (fun hc => ?_) (fun hc => ?_)
  · replace h := h.1 hc
    refine x_aload_n (pc' := 24) dX7_move_23 rfl rfl rfl ?_
    refine x_ldc (pc' := 26) dX7_move_24 rfl lcX7_68 ?_
    refine x_callV (pc' := 29) (As := [.int (-2000000002)]) dX7_move_26 rfl lmX7_69 kd_0 rfl rfl (Nat.le_of_ble_eq_true rfl) (Nat.le_of_ble_eq_true rfl) ?_
    show X none (d + 2) mX7_refuse 0 [.ref 0, .int (-2000000002)] [] τ1 _
    refine x_iload_n (pc' := 1) dX7_refuse_0 rfl rfl rfl ?_
    refine x_ldc (pc' := 3) dX7_refuse_1 rfl lcX7_68 ?_
    refine x_icmp_ne (pc' := 6) (tgt := 19) dX7_refuse_3 (by decide) rfl (fun hc => absurd hc (by decide)) (fun _ => ?_)
    refine x_aload_n (pc' := 7) dX7_refuse_6 rfl rfl rfl ?_
    refine x_dup (pc' := 8) dX7_refuse_7 rfl rfl ?_
    refine x_geti (pc' := 11) dX7_refuse_8 rfl lfX7_267 kd_0 rfl ?_
    refine x_iconst (pc' := 12) (v := 1) dX7_refuse_11 rfl (by decide) ?_
    refine x_iadd (pc' := 13) dX7_refuse_12 rfl ?_
    refine x_puti (pc' := 16) dX7_refuse_13 rfl lfX7_267 kd_0 rfl rfl rfl ?_
    obtain ⟨τ3, eτ3⟩ : ∃ τ : Mem, τ = (w1 τ1 0 10 ((τ1.1 0 10) + 1)) := ⟨_, rfl⟩
    show X none (d + 2) mX7_refuse 16 [.ref 0, .int (-2000000002)] [] (w1 τ1 0 10 ((τ1.1 0 10) + 1)) _
    rw [← eτ3]
    replace h := h τ3 eτ3
    refine x_goto (pc' := 48) dX7_refuse_16 (by decide) ?_
    refine x_iload_n (pc' := 49) dX7_refuse_48 rfl rfl rfl ?_
    refine x_iret dX7_refuse_49 rfl rfl ?_
    show X none (d + 3) mX7_move 29 [.ref 0, .int x1, .int x2, .int x3, .int u2, Unk] [.int (-2000000002)] τ3 _
    exact x_iret dX7_move_29 rfl rfl h
  · replace h := h.2 hc
    refine x_iload_n (pc' := 16) dX7_move_15 rfl rfl rfl ?_
    refine x_iload_n (pc' := 17) dX7_move_16 rfl rfl rfl ?_
    refine x_callS (pc' := 20) (As := [.int x2, .int x3]) dX7_move_17 rfl lmX7_64 rfl rfl (Nat.le_of_ble_eq_true rfl) (Nat.le_of_ble_eq_true rfl) ?_
    show X none (d + 2) mX7_isPlace 0 [.int x2, .int x3] [] τ1 _
    refine X.mono h ?_
    rintro r τ4 ⟨u5, rfl, h⟩
    show X none (d + 3) mX7_move 20 [.ref 0, .int x1, .int x2, .int x3, .int u2, Unk] [.int u5] τ4 _
    refine x_if_ne (pc' := 23) (tgt := 30) dX7_move_20 (by decide) rfl (fun hc => ?_) (fun hc => ?_)
    · replace h := h.1 hc
      refine x_aload_n (pc' := 31) dX7_move_30 rfl rfl rfl ?_
      refine x_getr (pc' := 34) dX7_move_31 rfl lfX7_10 kd_0 rfl rf_0_0 ?_
      refine x_iconst (pc' := 35) (v := 1) dX7_move_34 rfl (by decide) ?_
      refine x_callV (pc' := 38) (As := [.int 1]) dX7_move_35 rfl lmX7_77 (OKF.k okF_1) rfl rfl (Nat.le_of_ble_eq_true rfl) (Nat.le_of_ble_eq_true rfl) ?_
      show X none (d + 2) mX0_hasNumbers 0 [.ref 1, .int 1] [] τ4 _
      refine x_aload_n (pc' := 1) dX0_hasNumbers_0 rfl rfl rfl ?_
      refine x_geti (pc' := 4) dX0_hasNumbers_1 rfl lfX0_34 (OKF.k okF_1) rfl ?_
      refine x_iload_n (pc' := 5) dX0_hasNumbers_4 rfl rfl rfl ?_
      refine x_iadd (pc' := 6) dX0_hasNumbers_5 rfl ?_
      refine x_iconst (pc' := 7) (v := 1) dX0_hasNumbers_6 rfl (by decide) ?_
      refine x_isub (pc' := 8) dX0_hasNumbers_7 rfl ?_
      refine x_sipush (pc' := 11) (v := 9999) dX0_hasNumbers_8 rfl (by decide) ?_
      refine x_icmp_gt (pc' := 14) (tgt := 18) dX0_hasNumbers_11 (by decide) rfl (fun hc => ?_) (fun hc => ?_)
      · replace h := h.1 hc
        refine x_iconst (pc' := 19) (v := 0) dX0_hasNumbers_18 rfl (by decide) ?_
        refine x_iret dX0_hasNumbers_19 rfl rfl ?_
        show X none (d + 3) mX7_move 38 [.ref 0, .int x1, .int x2, .int x3, .int u2, Unk] [.int 0] τ4 _
        refine x_if_ne (pc' := 41) (tgt := 48) dX7_move_38 (by decide) rfl (fun hc => absurd hc (by decide)) (fun _ => ?_)
        refine x_aload_n (pc' := 42) dX7_move_41 rfl rfl rfl ?_
        refine x_ldc (pc' := 44) dX7_move_42 rfl lcX7_81 ?_
        refine x_callV (pc' := 47) (As := [.int (-2000000004)]) dX7_move_44 rfl lmX7_69 kd_0 rfl rfl (Nat.le_of_ble_eq_true rfl) (Nat.le_of_ble_eq_true rfl) ?_
        show X none (d + 2) mX7_refuse 0 [.ref 0, .int (-2000000004)] [] τ4 _
        refine x_iload_n (pc' := 1) dX7_refuse_0 rfl rfl rfl ?_
        refine x_ldc (pc' := 3) dX7_refuse_1 rfl lcX7_68 ?_
        refine x_icmp_ne (pc' := 6) (tgt := 19) dX7_refuse_3 (by decide) rfl (fun _ => ?_) (fun hc => absurd hc (by decide))
        refine x_iload_n (pc' := 20) dX7_refuse_19 rfl rfl rfl ?_
        refine x_ldc (pc' := 22) dX7_refuse_20 rfl lcX7_123 ?_
        refine x_icmp_ne (pc' := 25) (tgt := 38) dX7_refuse_22 (by decide) rfl (fun _ => ?_) (fun hc => absurd hc (by decide))
        refine x_aload_n (pc' := 39) dX7_refuse_38 rfl rfl rfl ?_
        refine x_dup (pc' := 40) dX7_refuse_39 rfl rfl ?_
        refine x_geti (pc' := 43) dX7_refuse_40 rfl lfX7_273 kd_0 rfl ?_
        refine x_iconst (pc' := 44) (v := 1) dX7_refuse_43 rfl (by decide) ?_
        refine x_iadd (pc' := 45) dX7_refuse_44 rfl ?_
        refine x_puti (pc' := 48) dX7_refuse_45 rfl lfX7_273 kd_0 rfl rfl rfl ?_
        obtain ⟨τ6, eτ6⟩ : ∃ τ : Mem, τ = (w1 τ4 0 12 ((τ4.1 0 12) + 1)) := ⟨_, rfl⟩
        show X none (d + 2) mX7_refuse 48 [.ref 0, .int (-2000000004)] [] (w1 τ4 0 12 ((τ4.1 0 12) + 1)) _
        rw [← eτ6]
        replace h := h τ6 eτ6
        refine x_iload_n (pc' := 49) dX7_refuse_48 rfl rfl rfl ?_
        refine x_iret dX7_refuse_49 rfl rfl ?_
        show X none (d + 3) mX7_move 47 [.ref 0, .int x1, .int x2, .int x3, .int u2, Unk] [.int (-2000000004)] τ6 _
        exact x_iret dX7_move_47 rfl rfl h
      · replace h := h.2 hc
        refine x_iconst (pc' := 15) (v := 1) dX0_hasNumbers_14 rfl (by decide) ?_
        refine x_goto (pc' := 19) dX0_hasNumbers_15 (by decide) ?_
        refine x_iret dX0_hasNumbers_19 rfl rfl ?_
        show X none (d + 3) mX7_move 38 [.ref 0, .int x1, .int x2, .int x3, .int u2, Unk] [.int 1] τ4 _
        refine x_if_ne (pc' := 41) (tgt := 48) dX7_move_38 (by decide) rfl (fun _ => ?_) (fun hc => absurd hc (by decide))
        refine x_aload_n (pc' := 49) dX7_move_48 rfl rfl rfl ?_
        refine x_getr (pc' := 52) dX7_move_49 rfl lfX7_19 kd_0 rfl rf_0_1 ?_
        refine x_aload_n (pc' := 53) dX7_move_52 rfl rfl rfl ?_
        refine x_getr (pc' := 56) dX7_move_53 rfl lfX7_10 kd_0 rfl rf_0_0 ?_
        refine x_callV (pc' := 59) (As := [.ref 1]) dX7_move_56 rfl lmX7_82 kd_7 rfl rfl (Nat.le_of_ble_eq_true rfl) (Nat.le_of_ble_eq_true rfl) ?_
        show X none (d + 2) mX2_keep 0 [.ref 7, .ref 1] [] τ4 _
        refine X.mono h ?_
        rintro r τ7 ⟨rfl, h⟩
        show X none (d + 3) mX7_move 59 [.ref 0, .int x1, .int x2, .int x3, .int u2, Unk] [] τ7 _
        refine x_aload_n (pc' := 60) dX7_move_59 rfl rfl rfl ?_
        refine x_getr (pc' := 63) dX7_move_60 rfl lfX7_10 kd_0 rfl rf_0_0 ?_
        refine x_iload (pc' := 65) dX7_move_63 rfl rfl ?_
        refine x_callV (pc' := 68) (As := [.int u2]) dX7_move_65 rfl lmX7_93 (OKF.k okF_1) rfl rfl (Nat.le_of_ble_eq_true rfl) (Nat.le_of_ble_eq_true rfl) ?_
        show X none (d + 2) mX0_goAway 0 [.ref 1, .int u2, Unk] [] τ7 _
        refine X.mono h ?_
        rintro r τ8 ⟨u9, rfl, h⟩
        show X none (d + 3) mX7_move 68 [.ref 0, .int x1, .int x2, .int x3, .int u2, Unk] [.int u9] τ8 _
        refine x_istore (pc' := 70) dX7_move_68 rfl (by decide) rfl (ls' := [.ref 0, .int x1, .int x2, .int x3, .int u2, .int u9]) rfl ?_
        refine x_aload_n (pc' := 71) dX7_move_70 rfl rfl rfl ?_
        refine x_getr (pc' := 74) dX7_move_71 rfl lfX7_10 kd_0 rfl rf_0_0 ?_
        refine x_iload_n (pc' := 75) dX7_move_74 rfl rfl rfl ?_
        refine x_iload_n (pc' := 76) dX7_move_75 rfl rfl rfl ?_
        refine x_iload (pc' := 78) dX7_move_76 rfl rfl ?_
        refine x_callV (pc' := 81) (As := [.int x2, .int x3, .int u9]) dX7_move_78 rfl lmX7_86 (OKF.k okF_1) rfl rfl (Nat.le_of_ble_eq_true rfl) (Nat.le_of_ble_eq_true rfl) ?_
        show X none (d + 2) mX0_come 0 [.ref 1, .int x2, .int x3, .int u9] [] τ8 _
        refine X.mono h ?_
        rintro r τ10 ⟨u11, rfl, h⟩
        show X none (d + 3) mX7_move 81 [.ref 0, .int x1, .int x2, .int x3, .int u2, .int u9] [.int u11] τ10 _
        exact x_iret dX7_move_81 rfl rfl h
    · replace h := h.2 hc
      refine x_aload_n (pc' := 24) dX7_move_23 rfl rfl rfl ?_
      refine x_ldc (pc' := 26) dX7_move_24 rfl lcX7_68 ?_
      refine x_callV (pc' := 29) (As := [.int (-2000000002)]) dX7_move_26 rfl lmX7_69 kd_0 rfl rfl (Nat.le_of_ble_eq_true rfl) (Nat.le_of_ble_eq_true rfl) ?_
      show X none (d + 2) mX7_refuse 0 [.ref 0, .int (-2000000002)] [] τ4 _
      refine x_iload_n (pc' := 1) dX7_refuse_0 rfl rfl rfl ?_
      refine x_ldc (pc' := 3) dX7_refuse_1 rfl lcX7_68 ?_
      refine x_icmp_ne (pc' := 6) (tgt := 19) dX7_refuse_3 (by decide) rfl (fun hc => absurd hc (by decide)) (fun _ => ?_)
      refine x_aload_n (pc' := 7) dX7_refuse_6 rfl rfl rfl ?_
      refine x_dup (pc' := 8) dX7_refuse_7 rfl rfl ?_
      refine x_geti (pc' := 11) dX7_refuse_8 rfl lfX7_267 kd_0 rfl ?_
      refine x_iconst (pc' := 12) (v := 1) dX7_refuse_11 rfl (by decide) ?_
      refine x_iadd (pc' := 13) dX7_refuse_12 rfl ?_
      refine x_puti (pc' := 16) dX7_refuse_13 rfl lfX7_267 kd_0 rfl rfl rfl ?_
      obtain ⟨τ12, eτ12⟩ : ∃ τ : Mem, τ = (w1 τ4 0 10 ((τ4.1 0 10) + 1)) := ⟨_, rfl⟩
      show X none (d + 2) mX7_refuse 16 [.ref 0, .int (-2000000002)] [] (w1 τ4 0 10 ((τ4.1 0 10) + 1)) _
      rw [← eτ12]
      replace h := h τ12 eτ12
      refine x_goto (pc' := 48) dX7_refuse_16 (by decide) ?_
      refine x_iload_n (pc' := 49) dX7_refuse_48 rfl rfl rfl ?_
      refine x_iret dX7_refuse_49 rfl rfl ?_
      show X none (d + 3) mX7_move 29 [.ref 0, .int x1, .int x2, .int x3, .int u2, Unk] [.int (-2000000002)] τ12 _
      exact x_iret dX7_move_29 rfl rfl h
