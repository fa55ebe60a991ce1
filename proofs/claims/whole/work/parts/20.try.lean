set_option maxRecDepth 100000 in
set_option maxHeartbeats 4000000 in
theorem vX0_find_2 {d : Nat} {σ : Mem} {Q : Option Value → Mem → Prop} {f : Nat} {n i : Int32} (hf : OKF f)
    (h : (((σ.1 f 5) ≤ i → Q (some (.int (-1))) σ) ∧ (¬ (σ.1 f 5) ≤ i → (vp_in i 121 ∧ ((¬ (σ.1 (f + 1) i.toNatClampNeg) = n → X none (d + 1) mX0_find 2 [.ref f, .int n, .int (i + 1)] [] σ Q) ∧ ((σ.1 (f + 1) i.toNatClampNeg) = n → (vp_in i 121 ∧ ((¬ (σ.1 (f + 5) i.toNatClampNeg) = 0 → X none (d + 1) mX0_find 2 [.ref f, .int n, .int (i + 1)] [] σ Q) ∧ ((σ.1 (f + 5) i.toNatClampNeg) = 0 → Q (some (.int i)) σ))))))))) :
    X none (d + 1) mX0_find 2 [.ref f, .int n, .int i] [] σ Q := by
  refine x_iload_n (pc' := 3) dX0_find_2 rfl rfl rfl ?_
  refine x_aload_n (pc' := 4) dX0_find_3 rfl rfl rfl ?_
  refine x_geti (pc' := 7) dX0_find_4 rfl lfX0_27 (OKF.k hf) rfl ?_
  refine x_icmp_ge (pc' := 10) (tgt := 36) dX0_find_7 (by decide) rfl (fun hc => ?_) (fun hc => ?_)
  · replace h := h.1 hc
    refine x_iconst (pc' := 37) (v := (-1)) dX0_find_36 rfl (by decide) ?_
    exact x_iret dX0_find_37 rfl rfl h
  · replace h := h.2 hc
    refine x_aload_n (pc' := 11) dX0_find_10 rfl rfl rfl ?_
    refine x_getr (pc' := 14) dX0_find_11 rfl lfX0_11 (OKF.k hf) rfl (OKF.r0 hf) ?_
    refine x_iload_n (pc' := 15) dX0_find_14 rfl rfl rfl ?_
    obtain ⟨hb, h⟩ := h
    refine x_iald (pc' := 16) dX0_find_15 rfl (OKF.a0 hf) (by rw [(OKF.n0 hf)]; exact hb) ?_
    refine x_iload_n (pc' := 17) dX0_find_16 rfl rfl rfl ?_
    refine x_icmp_ne (pc' := 20) (tgt := 30) dX0_find_17 (by decide) rfl (fun hc => ?_) (fun hc => ?_)
    · replace h := h.1 hc
      refine x_iinc (pc' := 33) (v := 1) dX0_find_30 rfl (by decide) rfl rfl (by decide) (ls' := [.ref f, .int n, .int (i + 1)]) rfl ?_
      refine x_goto (pc' := 2) dX0_find_33 (by decide) ?_
      exact h
    · replace h := h.2 hc
      refine x_aload_n (pc' := 21) dX0_find_20 rfl rfl rfl ?_
      refine x_iload_n (pc' := 22) dX0_find_21 rfl rfl rfl ?_
      refine x_callV (pc' := 25) (As := [.int i]) dX0_find_22 rfl lmX0_43 (OKF.k hf) rfl rfl (Nat.le_of_ble_eq_true rfl) (Nat.le_of_ble_eq_true rfl) ?_
      show X none d mX0_isThere 0 [.ref f, .int i] [] σ _
      refine x_aload_n (pc' := 1) dX0_isThere_0 rfl rfl rfl ?_
      refine x_getr (pc' := 4) dX0_isThere_1 rfl lfX0_24 (OKF.k hf) rfl (OKF.r4 hf) ?_
      refine x_iload_n (pc' := 5) dX0_isThere_4 rfl rfl rfl ?_
      obtain ⟨hb, h⟩ := h
      refine x_iald (pc' := 6) dX0_isThere_5 rfl (OKF.a4 hf) (by rw [(OKF.n4 hf)]; exact hb) ?_
      refine x_if_ne (pc' := 9) (tgt := 13) dX0_isThere_6 (by decide) rfl (fun hc => ?_) (fun hc => ?_)
      · replace h := h.1 hc
        refine x_iconst (pc' := 14) (v := 0) dX0_isThere_13 rfl (by decide) ?_
        refine x_iret dX0_isThere_14 rfl rfl ?_
        show X none (d + 1) mX0_find 25 [.ref f, .int n, .int i] [.int 0] σ _
        refine x_if_eq (pc' := 28) (tgt := 30) dX0_find_25 (by decide) rfl (fun _ => ?_) (fun hc => absurd hc (by decide))
        refine x_iinc (pc' := 33) (v := 1) dX0_find_30 rfl (by decide) rfl rfl (by decide) (ls' := [.ref f, .int n, .int (i + 1)]) rfl ?_
        refine x_goto (pc' := 2) dX0_find_33 (by decide) ?_
        exact h
      · replace h := h.2 hc
        refine x_iconst (pc' := 10) (v := 1) dX0_isThere_9 rfl (by decide) ?_
        refine x_goto (pc' := 14) dX0_isThere_10 (by decide) ?_
        refine x_iret dX0_isThere_14 rfl rfl ?_
        show X none (d + 1) mX0_find 25 [.ref f, .int n, .int i] [.int 1] σ _
        refine x_if_eq (pc' := 28) (tgt := 30) dX0_find_25 (by decide) rfl (fun hc => absurd hc (by decide)) (fun _ => ?_)
        refine x_iload_n (pc' := 29) dX0_find_28 rfl rfl rfl ?_
        exact x_iret dX0_find_29 rfl rfl h
set_option maxRecDepth 100000 in
set_option maxHeartbeats 4000000 in
theorem vX0_worth_0 {d : Nat} {σ : Mem} {Q : Option Value → Mem → Prop} {f : Nat} {i : Int32} (hf : OKF f)
    (h : (((σ.1 f 9).toInt < 1 ∨ 5 < (σ.1 f 9).toInt → Q (some (.int 1)) σ) ∧ ((σ.1 f 9).toInt = 1 → (vp_in i 121 ∧ Q (some (.int (σ.1 (f + 4) i.toNatClampNeg))) σ)) ∧ ((σ.1 f 9).toInt = 2 → (vp_in i 121 ∧ (vp_in i 121 ∧ ((¬ (((σ.1 (f + 2) i.toNatClampNeg) + (σ.1 (f + 3) i.toNatClampNeg)) - ((σ.1 (f + 2) i.toNatClampNeg) + (σ.1 (f + 3) i.toNatClampNeg)) / 2 * 2) = 0 → Q (some (.int 0)) σ) ∧ ((((σ.1 (f + 2) i.toNatClampNeg) + (σ.1 (f + 3) i.toNatClampNeg)) - ((σ.1 (f + 2) i.toNatClampNeg) + (σ.1 (f + 3) i.toNatClampNeg)) / 2 * 2) = 0 → Q (some (.int 1)) σ))))) ∧ ((σ.1 f 9).toInt = 3 → (vp_in i 121 ∧ Q (some (.int (2 * (σ.1 (f + 4) i.toNatClampNeg)))) σ)) ∧ ((σ.1 f 9).toInt = 4 → (X none d mX0_north 0 [.ref f, .int i] [] σ (fun r τ1 => ∃ u2 : Int32, r = some (.int u2) ∧ Q (some (.int u2)) τ1))) ∧ ((σ.1 f 9).toInt = 5 → (X none d mX0_north 0 [.ref f, .int i] [] σ (fun r τ3 => ∃ u4 : Int32, r = some (.int u4) ∧ (vp_in i 121 ∧ Q (some (.int (u4 + ((τ3.1 (f + 1) i.toNatClampNeg) - (τ3.1 (f + 1) i.toNatClampNeg) / 10 * 10)))) τ3)))))) :
    X none (d + 1) mX0_worth 0 [.ref f, .int i] [] σ Q := by
  refine x_aload_n (pc' := 1) dX0_worth_0 rfl rfl rfl ?_
  refine x_geti (pc' := 4) dX0_worth_1 rfl lfX0_65 (OKF.k hf) rfl ?_
  by_cases hc : (σ.1 f 9).toInt < 1 ∨ 5 < (σ.1 f 9).toInt
  · refine x_tblOut (pc' := 102) dX0_worth_4 hc (by decide) ?_
    replace h := h.1 hc
    refine x_iconst (pc' := 103) (v := 1) dX0_worth_102 rfl (by decide) ?_
    exact x_iret dX0_worth_103 rfl rfl h
  · replace h := h.2
    have hr : (σ.1 f 9).toInt = 1 ∨ (σ.1 f 9).toInt = 2 ∨ (σ.1 f 9).toInt = 3 ∨ (σ.1 f 9).toInt = 4 ∨ (σ.1 f 9).toInt = 5 := by omega
    rcases hr with hr | hr | hr | hr | hr
    · refine x_tblIn (pc' := 40) dX0_worth_4 (by omega) (by omega) (off := 36) (by rw [hr]; rfl) (by decide) ?_
      replace h := h.1 hr
      refine x_aload_n (pc' := 41) dX0_worth_40 rfl rfl rfl ?_
      refine x_getr (pc' := 44) dX0_worth_41 rfl lfX0_21 (OKF.k hf) rfl (OKF.r3 hf) ?_
      refine x_iload_n (pc' := 45) dX0_worth_44 rfl rfl rfl ?_
      obtain ⟨hb, h⟩ := h
      refine x_iald (pc' := 46) dX0_worth_45 rfl (OKF.a3 hf) (by rw [(OKF.n3 hf)]; exact hb) ?_
      exact x_iret dX0_worth_46 rfl rfl h
    · refine x_tblIn (pc' := 47) dX0_worth_4 (by omega) (by omega) (off := 43) (by rw [hr]; rfl) (by decide) ?_
      replace h := h.2.1 hr
      refine x_aload_n (pc' := 48) dX0_worth_47 rfl rfl rfl ?_
      refine x_getr (pc' := 51) dX0_worth_48 rfl lfX0_15 (OKF.k hf) rfl (OKF.r1 hf) ?_
      refine x_iload_n (pc' := 52) dX0_worth_51 rfl rfl rfl ?_
      obtain ⟨hb, h⟩ := h
      refine x_iald (pc' := 53) dX0_worth_52 rfl (OKF.a1 hf) (by rw [(OKF.n1 hf)]; exact hb) ?_
      refine x_aload_n (pc' := 54) dX0_worth_53 rfl rfl rfl ?_
      refine x_getr (pc' := 57) dX0_worth_54 rfl lfX0_18 (OKF.k hf) rfl (OKF.r2 hf) ?_
      refine x_iload_n (pc' := 58) dX0_worth_57 rfl rfl rfl ?_
      obtain ⟨hb, h⟩ := h
      refine x_iald (pc' := 59) dX0_worth_58 rfl (OKF.a2 hf) (by rw [(OKF.n2 hf)]; exact hb) ?_
      refine x_iadd (pc' := 60) dX0_worth_59 rfl ?_
      refine x_iconst (pc' := 61) (v := 2) dX0_worth_60 rfl (by decide) ?_
      refine x_irem (pc' := 62) dX0_worth_61 rfl (by decide) ?_
      refine x_if_ne (pc' := 65) (tgt := 69) dX0_worth_62 (by decide) rfl (fun hc => ?_) (fun hc => ?_)
      · replace h := h.1 hc
        refine x_iconst (pc' := 70) (v := 0) dX0_worth_69 rfl (by decide) ?_
        exact x_iret dX0_worth_70 rfl rfl h
      · replace h := h.2 hc
        refine x_iconst (pc' := 66) (v := 1) dX0_worth_65 rfl (by decide) ?_
        refine x_goto (pc' := 70) dX0_worth_66 (by decide) ?_
        exact x_iret dX0_worth_70 rfl rfl h
    · refine x_tblIn (pc' := 71) dX0_worth_4 (by omega) (by omega) (off := 67) (by rw [hr]; rfl) (by decide) ?_
      replace h := h.2.2.1 hr
      refine x_iconst (pc' := 72) (v := 2) dX0_worth_71 rfl (by decide) ?_
      refine x_aload_n (pc' := 73) dX0_worth_72 rfl rfl rfl ?_
      refine x_getr (pc' := 76) dX0_worth_73 rfl lfX0_21 (OKF.k hf) rfl (OKF.r3 hf) ?_
      refine x_iload_n (pc' := 77) dX0_worth_76 rfl rfl rfl ?_
      obtain ⟨hb, h⟩ := h
      refine x_iald (pc' := 78) dX0_worth_77 rfl (OKF.a3 hf) (by rw [(OKF.n3 hf)]; exact hb) ?_
      refine x_imul (pc' := 79) dX0_worth_78 rfl ?_
      exact x_iret dX0_worth_79 rfl rfl h
    · refine x_tblIn (pc' := 80) dX0_worth_4 (by omega) (by omega) (off := 76) (by rw [hr]; rfl) (by decide) ?_
      replace h := h.2.2.2.1 hr
      refine x_aload_n (pc' := 81) dX0_worth_80 rfl rfl rfl ?_
      refine x_iload_n (pc' := 82) dX0_worth_81 rfl rfl rfl ?_
      refine x_callV (pc' := 85) (As := [.int i]) dX0_worth_82 rfl lmX0_68 (OKF.k hf) rfl rfl (Nat.le_of_ble_eq_true rfl) (Nat.le_of_ble_eq_true rfl) ?_
      show X none d mX0_north 0 [.ref f, .int i] [] σ _
      refine X.mono h ?_
      rintro r τ1 ⟨u2, rfl, h⟩
      show X none (d + 1) mX0_worth 85 [.ref f, .int i] [.int u2] τ1 _
      exact x_iret dX0_worth_85 rfl rfl h
    · refine x_tblIn (pc' := 86) dX0_worth_4 (by omega) (by omega) (off := 82) (by rw [hr]; rfl) (by decide) ?_
      replace h := h.2.2.2.2 hr
      refine x_aload_n (pc' := 87) dX0_worth_86 rfl rfl rfl ?_
      refine x_iload_n (pc' := 88) dX0_worth_87 rfl rfl rfl ?_
      refine x_callV (pc' := 91) (As := [.int i]) dX0_worth_88 rfl lmX0_68 (OKF.k hf) rfl rfl (Nat.le_of_ble_eq_true rfl) (Nat.le_of_ble_eq_true rfl) ?_
      show X none d mX0_north 0 [.ref f, .int i] [] σ _
      refine X.mono h ?_
      rintro r τ3 ⟨u4, rfl, h⟩
      show X none (d + 1) mX0_worth 91 [.ref f, .int i] [.int u4] τ3 _
      refine x_aload_n (pc' := 92) dX0_worth_91 rfl rfl rfl ?_
      refine x_getr (pc' := 95) dX0_worth_92 rfl lfX0_11 (OKF.k hf) rfl (OKF.r0 hf) ?_
      refine x_iload_n (pc' := 96) dX0_worth_95 rfl rfl rfl ?_
      obtain ⟨hb, h⟩ := h
      refine x_iald (pc' := 97) dX0_worth_96 rfl (OKF.a0 hf) (by rw [(OKF.n0 hf)]; exact hb) ?_
      refine x_bipush (pc' := 99) (v := 10) dX0_worth_97 rfl (by decide) ?_
      refine x_irem (pc' := 100) dX0_worth_99 rfl (by decide) ?_
      refine x_iadd (pc' := 101) dX0_worth_100 rfl ?_
      exact x_iret dX0_worth_101 rfl rfl h
