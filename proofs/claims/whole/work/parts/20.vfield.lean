set_option maxRecDepth 100000 in
set_option maxHeartbeats 4000000 in
theorem vJ6_bitCount_0f7a4_0 {d : Nat} {σ : Mem} {Q : Option Value → Mem → Prop} {x0 : Int32} 
    (h : Q (some (.int ((((((((x0 - (((x0.toUInt32 >>> ((1 : Int32).toUInt32 &&& Int32.toUInt32 31)).toInt32) &&& 1431655765)) &&& 858993459) + ((((x0 - (((x0.toUInt32 >>> ((1 : Int32).toUInt32 &&& Int32.toUInt32 31)).toInt32) &&& 1431655765)).toUInt32 >>> ((2 : Int32).toUInt32 &&& Int32.toUInt32 31)).toInt32) &&& 858993459)) + (((((x0 - (((x0.toUInt32 >>> ((1 : Int32).toUInt32 &&& Int32.toUInt32 31)).toInt32) &&& 1431655765)) &&& 858993459) + ((((x0 - (((x0.toUInt32 >>> ((1 : Int32).toUInt32 &&& Int32.toUInt32 31)).toInt32) &&& 1431655765)).toUInt32 >>> ((2 : Int32).toUInt32 &&& Int32.toUInt32 31)).toInt32) &&& 858993459)).toUInt32 >>> ((4 : Int32).toUInt32 &&& Int32.toUInt32 31)).toInt32)) &&& 252645135) + (((((((x0 - (((x0.toUInt32 >>> ((1 : Int32).toUInt32 &&& Int32.toUInt32 31)).toInt32) &&& 1431655765)) &&& 858993459) + ((((x0 - (((x0.toUInt32 >>> ((1 : Int32).toUInt32 &&& Int32.toUInt32 31)).toInt32) &&& 1431655765)).toUInt32 >>> ((2 : Int32).toUInt32 &&& Int32.toUInt32 31)).toInt32) &&& 858993459)) + (((((x0 - (((x0.toUInt32 >>> ((1 : Int32).toUInt32 &&& Int32.toUInt32 31)).toInt32) &&& 1431655765)) &&& 858993459) + ((((x0 - (((x0.toUInt32 >>> ((1 : Int32).toUInt32 &&& Int32.toUInt32 31)).toInt32) &&& 1431655765)).toUInt32 >>> ((2 : Int32).toUInt32 &&& Int32.toUInt32 31)).toInt32) &&& 858993459)).toUInt32 >>> ((4 : Int32).toUInt32 &&& Int32.toUInt32 31)).toInt32)) &&& 252645135).toUInt32 >>> ((8 : Int32).toUInt32 &&& Int32.toUInt32 31)).toInt32)) + ((((((((x0 - (((x0.toUInt32 >>> ((1 : Int32).toUInt32 &&& Int32.toUInt32 31)).toInt32) &&& 1431655765)) &&& 858993459) + ((((x0 - (((x0.toUInt32 >>> ((1 : Int32).toUInt32 &&& Int32.toUInt32 31)).toInt32) &&& 1431655765)).toUInt32 >>> ((2 : Int32).toUInt32 &&& Int32.toUInt32 31)).toInt32) &&& 858993459)) + (((((x0 - (((x0.toUInt32 >>> ((1 : Int32).toUInt32 &&& Int32.toUInt32 31)).toInt32) &&& 1431655765)) &&& 858993459) + ((((x0 - (((x0.toUInt32 >>> ((1 : Int32).toUInt32 &&& Int32.toUInt32 31)).toInt32) &&& 1431655765)).toUInt32 >>> ((2 : Int32).toUInt32 &&& Int32.toUInt32 31)).toInt32) &&& 858993459)).toUInt32 >>> ((4 : Int32).toUInt32 &&& Int32.toUInt32 31)).toInt32)) &&& 252645135) + (((((((x0 - (((x0.toUInt32 >>> ((1 : Int32).toUInt32 &&& Int32.toUInt32 31)).toInt32) &&& 1431655765)) &&& 858993459) + ((((x0 - (((x0.toUInt32 >>> ((1 : Int32).toUInt32 &&& Int32.toUInt32 31)).toInt32) &&& 1431655765)).toUInt32 >>> ((2 : Int32).toUInt32 &&& Int32.toUInt32 31)).toInt32) &&& 858993459)) + (((((x0 - (((x0.toUInt32 >>> ((1 : Int32).toUInt32 &&& Int32.toUInt32 31)).toInt32) &&& 1431655765)) &&& 858993459) + ((((x0 - (((x0.toUInt32 >>> ((1 : Int32).toUInt32 &&& Int32.toUInt32 31)).toInt32) &&& 1431655765)).toUInt32 >>> ((2 : Int32).toUInt32 &&& Int32.toUInt32 31)).toInt32) &&& 858993459)).toUInt32 >>> ((4 : Int32).toUInt32 &&& Int32.toUInt32 31)).toInt32)) &&& 252645135).toUInt32 >>> ((8 : Int32).toUInt32 &&& Int32.toUInt32 31)).toInt32)).toUInt32 >>> ((16 : Int32).toUInt32 &&& Int32.toUInt32 31)).toInt32)) &&& 63))) σ) :
    X none d mJ6_bitCount_0f7a4 0 [.int x0] [] σ Q := by
  refine x_iload_n (pc' := 1) dJ6_bitCount_0f7a4_0 rfl rfl rfl ?_
  refine x_iload_n (pc' := 2) dJ6_bitCount_0f7a4_1 rfl rfl rfl ?_
  refine x_iconst (pc' := 3) (v := 1) dJ6_bitCount_0f7a4_2 rfl (by decide) ?_
  refine x_iushr (pc' := 4) dJ6_bitCount_0f7a4_3 rfl ?_
  refine x_ldcw (pc' := 7) dJ6_bitCount_0f7a4_4 rfl lcJ6_265 ?_
  refine x_iand (pc' := 8) dJ6_bitCount_0f7a4_7 rfl ?_
  refine x_isub (pc' := 9) dJ6_bitCount_0f7a4_8 rfl ?_
  refine x_istore_n (pc' := 10) dJ6_bitCount_0f7a4_9 rfl rfl (by decide) rfl (ls' := [.int (x0 - (((x0.toUInt32 >>> ((1 : Int32).toUInt32 &&& Int32.toUInt32 31)).toInt32) &&& 1431655765))]) rfl ?_
  refine x_iload_n (pc' := 11) dJ6_bitCount_0f7a4_10 rfl rfl rfl ?_
  refine x_ldcw (pc' := 14) dJ6_bitCount_0f7a4_11 rfl lcJ6_266 ?_
  refine x_iand (pc' := 15) dJ6_bitCount_0f7a4_14 rfl ?_
  refine x_iload_n (pc' := 16) dJ6_bitCount_0f7a4_15 rfl rfl rfl ?_
  refine x_iconst (pc' := 17) (v := 2) dJ6_bitCount_0f7a4_16 rfl (by decide) ?_
  refine x_iushr (pc' := 18) dJ6_bitCount_0f7a4_17 rfl ?_
  refine x_ldcw (pc' := 21) dJ6_bitCount_0f7a4_18 rfl lcJ6_266 ?_
  refine x_iand (pc' := 22) dJ6_bitCount_0f7a4_21 rfl ?_
  refine x_iadd (pc' := 23) dJ6_bitCount_0f7a4_22 rfl ?_
  refine x_istore_n (pc' := 24) dJ6_bitCount_0f7a4_23 rfl rfl (by decide) rfl (ls' := [.int (((x0 - (((x0.toUInt32 >>> ((1 : Int32).toUInt32 &&& Int32.toUInt32 31)).toInt32) &&& 1431655765)) &&& 858993459) + ((((x0 - (((x0.toUInt32 >>> ((1 : Int32).toUInt32 &&& Int32.toUInt32 31)).toInt32) &&& 1431655765)).toUInt32 >>> ((2 : Int32).toUInt32 &&& Int32.toUInt32 31)).toInt32) &&& 858993459))]) rfl ?_
  refine x_iload_n (pc' := 25) dJ6_bitCount_0f7a4_24 rfl rfl rfl ?_
  refine x_iload_n (pc' := 26) dJ6_bitCount_0f7a4_25 rfl rfl rfl ?_
  refine x_iconst (pc' := 27) (v := 4) dJ6_bitCount_0f7a4_26 rfl (by decide) ?_
  refine x_iushr (pc' := 28) dJ6_bitCount_0f7a4_27 rfl ?_
  refine x_iadd (pc' := 29) dJ6_bitCount_0f7a4_28 rfl ?_
  refine x_ldcw (pc' := 32) dJ6_bitCount_0f7a4_29 rfl lcJ6_267 ?_
  refine x_iand (pc' := 33) dJ6_bitCount_0f7a4_32 rfl ?_
  refine x_istore_n (pc' := 34) dJ6_bitCount_0f7a4_33 rfl rfl (by decide) rfl (ls' := [.int (((((x0 - (((x0.toUInt32 >>> ((1 : Int32).toUInt32 &&& Int32.toUInt32 31)).toInt32) &&& 1431655765)) &&& 858993459) + ((((x0 - (((x0.toUInt32 >>> ((1 : Int32).toUInt32 &&& Int32.toUInt32 31)).toInt32) &&& 1431655765)).toUInt32 >>> ((2 : Int32).toUInt32 &&& Int32.toUInt32 31)).toInt32) &&& 858993459)) + (((((x0 - (((x0.toUInt32 >>> ((1 : Int32).toUInt32 &&& Int32.toUInt32 31)).toInt32) &&& 1431655765)) &&& 858993459) + ((((x0 - (((x0.toUInt32 >>> ((1 : Int32).toUInt32 &&& Int32.toUInt32 31)).toInt32) &&& 1431655765)).toUInt32 >>> ((2 : Int32).toUInt32 &&& Int32.toUInt32 31)).toInt32) &&& 858993459)).toUInt32 >>> ((4 : Int32).toUInt32 &&& Int32.toUInt32 31)).toInt32)) &&& 252645135)]) rfl ?_
  refine x_iload_n (pc' := 35) dJ6_bitCount_0f7a4_34 rfl rfl rfl ?_
  refine x_iload_n (pc' := 36) dJ6_bitCount_0f7a4_35 rfl rfl rfl ?_
  refine x_bipush (pc' := 38) (v := 8) dJ6_bitCount_0f7a4_36 rfl (by decide) ?_
  refine x_iushr (pc' := 39) dJ6_bitCount_0f7a4_38 rfl ?_
  refine x_iadd (pc' := 40) dJ6_bitCount_0f7a4_39 rfl ?_
  refine x_istore_n (pc' := 41) dJ6_bitCount_0f7a4_40 rfl rfl (by decide) rfl (ls' := [.int ((((((x0 - (((x0.toUInt32 >>> ((1 : Int32).toUInt32 &&& Int32.toUInt32 31)).toInt32) &&& 1431655765)) &&& 858993459) + ((((x0 - (((x0.toUInt32 >>> ((1 : Int32).toUInt32 &&& Int32.toUInt32 31)).toInt32) &&& 1431655765)).toUInt32 >>> ((2 : Int32).toUInt32 &&& Int32.toUInt32 31)).toInt32) &&& 858993459)) + (((((x0 - (((x0.toUInt32 >>> ((1 : Int32).toUInt32 &&& Int32.toUInt32 31)).toInt32) &&& 1431655765)) &&& 858993459) + ((((x0 - (((x0.toUInt32 >>> ((1 : Int32).toUInt32 &&& Int32.toUInt32 31)).toInt32) &&& 1431655765)).toUInt32 >>> ((2 : Int32).toUInt32 &&& Int32.toUInt32 31)).toInt32) &&& 858993459)).toUInt32 >>> ((4 : Int32).toUInt32 &&& Int32.toUInt32 31)).toInt32)) &&& 252645135) + (((((((x0 - (((x0.toUInt32 >>> ((1 : Int32).toUInt32 &&& Int32.toUInt32 31)).toInt32) &&& 1431655765)) &&& 858993459) + ((((x0 - (((x0.toUInt32 >>> ((1 : Int32).toUInt32 &&& Int32.toUInt32 31)).toInt32) &&& 1431655765)).toUInt32 >>> ((2 : Int32).toUInt32 &&& Int32.toUInt32 31)).toInt32) &&& 858993459)) + (((((x0 - (((x0.toUInt32 >>> ((1 : Int32).toUInt32 &&& Int32.toUInt32 31)).toInt32) &&& 1431655765)) &&& 858993459) + ((((x0 - (((x0.toUInt32 >>> ((1 : Int32).toUInt32 &&& Int32.toUInt32 31)).toInt32) &&& 1431655765)).toUInt32 >>> ((2 : Int32).toUInt32 &&& Int32.toUInt32 31)).toInt32) &&& 858993459)).toUInt32 >>> ((4 : Int32).toUInt32 &&& Int32.toUInt32 31)).toInt32)) &&& 252645135).toUInt32 >>> ((8 : Int32).toUInt32 &&& Int32.toUInt32 31)).toInt32))]) rfl ?_
  refine x_iload_n (pc' := 42) dJ6_bitCount_0f7a4_41 rfl rfl rfl ?_
  refine x_iload_n (pc' := 43) dJ6_bitCount_0f7a4_42 rfl rfl rfl ?_
  refine x_bipush (pc' := 45) (v := 16) dJ6_bitCount_0f7a4_43 rfl (by decide) ?_
  refine x_iushr (pc' := 46) dJ6_bitCount_0f7a4_45 rfl ?_
  refine x_iadd (pc' := 47) dJ6_bitCount_0f7a4_46 rfl ?_
  refine x_istore_n (pc' := 48) dJ6_bitCount_0f7a4_47 rfl rfl (by decide) rfl (ls' := [.int (((((((x0 - (((x0.toUInt32 >>> ((1 : Int32).toUInt32 &&& Int32.toUInt32 31)).toInt32) &&& 1431655765)) &&& 858993459) + ((((x0 - (((x0.toUInt32 >>> ((1 : Int32).toUInt32 &&& Int32.toUInt32 31)).toInt32) &&& 1431655765)).toUInt32 >>> ((2 : Int32).toUInt32 &&& Int32.toUInt32 31)).toInt32) &&& 858993459)) + (((((x0 - (((x0.toUInt32 >>> ((1 : Int32).toUInt32 &&& Int32.toUInt32 31)).toInt32) &&& 1431655765)) &&& 858993459) + ((((x0 - (((x0.toUInt32 >>> ((1 : Int32).toUInt32 &&& Int32.toUInt32 31)).toInt32) &&& 1431655765)).toUInt32 >>> ((2 : Int32).toUInt32 &&& Int32.toUInt32 31)).toInt32) &&& 858993459)).toUInt32 >>> ((4 : Int32).toUInt32 &&& Int32.toUInt32 31)).toInt32)) &&& 252645135) + (((((((x0 - (((x0.toUInt32 >>> ((1 : Int32).toUInt32 &&& Int32.toUInt32 31)).toInt32) &&& 1431655765)) &&& 858993459) + ((((x0 - (((x0.toUInt32 >>> ((1 : Int32).toUInt32 &&& Int32.toUInt32 31)).toInt32) &&& 1431655765)).toUInt32 >>> ((2 : Int32).toUInt32 &&& Int32.toUInt32 31)).toInt32) &&& 858993459)) + (((((x0 - (((x0.toUInt32 >>> ((1 : Int32).toUInt32 &&& Int32.toUInt32 31)).toInt32) &&& 1431655765)) &&& 858993459) + ((((x0 - (((x0.toUInt32 >>> ((1 : Int32).toUInt32 &&& Int32.toUInt32 31)).toInt32) &&& 1431655765)).toUInt32 >>> ((2 : Int32).toUInt32 &&& Int32.toUInt32 31)).toInt32) &&& 858993459)).toUInt32 >>> ((4 : Int32).toUInt32 &&& Int32.toUInt32 31)).toInt32)) &&& 252645135).toUInt32 >>> ((8 : Int32).toUInt32 &&& Int32.toUInt32 31)).toInt32)) + ((((((((x0 - (((x0.toUInt32 >>> ((1 : Int32).toUInt32 &&& Int32.toUInt32 31)).toInt32) &&& 1431655765)) &&& 858993459) + ((((x0 - (((x0.toUInt32 >>> ((1 : Int32).toUInt32 &&& Int32.toUInt32 31)).toInt32) &&& 1431655765)).toUInt32 >>> ((2 : Int32).toUInt32 &&& Int32.toUInt32 31)).toInt32) &&& 858993459)) + (((((x0 - (((x0.toUInt32 >>> ((1 : Int32).toUInt32 &&& Int32.toUInt32 31)).toInt32) &&& 1431655765)) &&& 858993459) + ((((x0 - (((x0.toUInt32 >>> ((1 : Int32).toUInt32 &&& Int32.toUInt32 31)).toInt32) &&& 1431655765)).toUInt32 >>> ((2 : Int32).toUInt32 &&& Int32.toUInt32 31)).toInt32) &&& 858993459)).toUInt32 >>> ((4 : Int32).toUInt32 &&& Int32.toUInt32 31)).toInt32)) &&& 252645135) + (((((((x0 - (((x0.toUInt32 >>> ((1 : Int32).toUInt32 &&& Int32.toUInt32 31)).toInt32) &&& 1431655765)) &&& 858993459) + ((((x0 - (((x0.toUInt32 >>> ((1 : Int32).toUInt32 &&& Int32.toUInt32 31)).toInt32) &&& 1431655765)).toUInt32 >>> ((2 : Int32).toUInt32 &&& Int32.toUInt32 31)).toInt32) &&& 858993459)) + (((((x0 - (((x0.toUInt32 >>> ((1 : Int32).toUInt32 &&& Int32.toUInt32 31)).toInt32) &&& 1431655765)) &&& 858993459) + ((((x0 - (((x0.toUInt32 >>> ((1 : Int32).toUInt32 &&& Int32.toUInt32 31)).toInt32) &&& 1431655765)).toUInt32 >>> ((2 : Int32).toUInt32 &&& Int32.toUInt32 31)).toInt32) &&& 858993459)).toUInt32 >>> ((4 : Int32).toUInt32 &&& Int32.toUInt32 31)).toInt32)) &&& 252645135).toUInt32 >>> ((8 : Int32).toUInt32 &&& Int32.toUInt32 31)).toInt32)).toUInt32 >>> ((16 : Int32).toUInt32 &&& Int32.toUInt32 31)).toInt32))]) rfl ?_
  refine x_iload_n (pc' := 49) dJ6_bitCount_0f7a4_48 rfl rfl rfl ?_
  refine x_bipush (pc' := 51) (v := 63) dJ6_bitCount_0f7a4_49 rfl (by decide) ?_
  refine x_iand (pc' := 52) dJ6_bitCount_0f7a4_51 rfl ?_
  exact x_iret dJ6_bitCount_0f7a4_52 rfl rfl h
set_option maxRecDepth 100000 in
set_option maxHeartbeats 4000000 in
theorem vX0_find_0 {d : Nat} {σ : Mem} {Q : Option Value → Mem → Prop} {f : Nat} {x1 : Int32} (hf : OKF f)
    (h : X none (d + 1) mX0_find 2 [.ref f, .int x1, .int 0] [] σ Q) :
    X none (d + 1) mX0_find 0 [.ref f, .int x1, Unk] [] σ Q := by
  refine x_iconst (pc' := 1) (v := 0) dX0_find_0 rfl (by decide) ?_
  refine x_istore_n (pc' := 2) dX0_find_1 rfl rfl (by decide) rfl (ls' := [.ref f, .int x1, .int 0]) rfl ?_
  exact h
set_option maxRecDepth 100000 in
set_option maxHeartbeats 4000000 in
theorem vX0_find_2 {d : Nat} {σ : Mem} {Q : Option Value → Mem → Prop} {f : Nat} {x1 x2 : Int32} (hf : OKF f)
    (h : (((σ.1 f 5) ≤ x2 → Q (some (.int (-1))) σ) ∧ (¬ (σ.1 f 5) ≤ x2 → (vp_in x2 121 ∧ ((¬ (σ.1 (f + 1) x2.toNatClampNeg) = x1 → X none (d + 1) mX0_find 2 [.ref f, .int x1, .int (x2 + 1)] [] σ Q) ∧ ((σ.1 (f + 1) x2.toNatClampNeg) = x1 → (vp_in x2 121 ∧ ((¬ (σ.1 (f + 5) x2.toNatClampNeg) = 0 → X none (d + 1) mX0_find 2 [.ref f, .int x1, .int (x2 + 1)] [] σ Q) ∧ ((σ.1 (f + 5) x2.toNatClampNeg) = 0 → Q (some (.int x2)) σ))))))))) :
    X none (d + 1) mX0_find 2 [.ref f, .int x1, .int x2] [] σ Q := by
  refine x_iload_n (pc' := 3) dX0_find_2 rfl rfl rfl ?_
  refine x_aload_n (pc' := 4) dX0_find_3 rfl rfl rfl ?_
  refine x_geti (pc' := 7) dX0_find_4 rfl lfX0_27 (OKF.k hf) rfl ?_
  refine x_icmp_ge (pc' := 10) (tgt := 36) dX0_find_7 (by decide) rfl (fun hc => ?_) (fun hc => ?_)
  · replace h := h.1 hc
    refine x_iconst (pc' := 37) (v := (-1)) dX0_find_36 rfl (by decide) ?_
    exact x_iret dX0_find_37 rfl rfl h
  · replace h := h.2 hc
    refine x_aload_n (pc' := 11) dX0_find_10 rfl rfl rfl ?_
    refine x_getr (pc' := 14) dX0_find_11 rfl lfX0_11 (OKF.k hf) rfl (OKF.r0 hf) ?_
    refine x_iload_n (pc' := 15) dX0_find_14 rfl rfl rfl ?_
    obtain ⟨hb, h⟩ := h
    refine x_iald (pc' := 16) dX0_find_15 rfl (OKF.a0 hf) (by rw [(OKF.n0 hf)]; exact hb) ?_
    refine x_iload_n (pc' := 17) dX0_find_16 rfl rfl rfl ?_
    refine x_icmp_ne (pc' := 20) (tgt := 30) dX0_find_17 (by decide) rfl (fun hc => ?_) (fun hc => ?_)
    · replace h := h.1 hc
      refine x_iinc (pc' := 33) (v := 1) dX0_find_30 rfl (by decide) rfl rfl (by decide) (ls' := [.ref f, .int x1, .int (x2 + 1)]) rfl ?_
      refine x_goto (pc' := 2) dX0_find_33 (by decide) ?_
      exact h
    · replace h := h.2 hc
      refine x_aload_n (pc' := 21) dX0_find_20 rfl rfl rfl ?_
      refine x_iload_n (pc' := 22) dX0_find_21 rfl rfl rfl ?_
      refine x_callV (pc' := 25) (As := [.int x2]) dX0_find_22 rfl lmX0_43 (OKF.k hf) rfl rfl (Nat.le_of_ble_eq_true rfl) (Nat.le_of_ble_eq_true rfl) ?_
      show X none d mX0_isThere 0 [.ref f, .int x2] [] σ _
      refine x_aload_n (pc' := 1) dX0_isThere_0 rfl rfl rfl ?_
      refine x_getr (pc' := 4) dX0_isThere_1 rfl lfX0_24 (OKF.k hf) rfl (OKF.r4 hf) ?_
      refine x_iload_n (pc' := 5) dX0_isThere_4 rfl rfl rfl ?_
      obtain ⟨hb, h⟩ := h
      refine x_iald (pc' := 6) dX0_isThere_5 rfl (OKF.a4 hf) (by rw [(OKF.n4 hf)]; exact hb) ?_
      refine x_if_ne (pc' := 9) (tgt := 13) dX0_isThere_6 (by decide) rfl (fun hc => ?_) (fun hc => ?_)
      · replace h := h.1 hc
        refine x_iconst (pc' := 14) (v := 0) dX0_isThere_13 rfl (by decide) ?_
        refine x_iret dX0_isThere_14 rfl rfl ?_
        show X none (d + 1) mX0_find 25 [.ref f, .int x1, .int x2] [.int 0] σ _
        refine x_if_eq (pc' := 28) (tgt := 30) dX0_find_25 (by decide) rfl (fun _ => ?_) (fun hc => absurd hc (by decide))
        refine x_iinc (pc' := 33) (v := 1) dX0_find_30 rfl (by decide) rfl rfl (by decide) (ls' := [.ref f, .int x1, .int (x2 + 1)]) rfl ?_
        refine x_goto (pc' := 2) dX0_find_33 (by decide) ?_
        exact h
      · replace h := h.2 hc
        refine x_iconst (pc' := 10) (v := 1) dX0_isThere_9 rfl (by decide) ?_
        refine x_goto (pc' := 14) dX0_isThere_10 (by decide) ?_
        refine x_iret dX0_isThere_14 rfl rfl ?_
        show X none (d + 1) mX0_find 25 [.ref f, .int x1, .int x2] [.int 1] σ _
        refine x_if_eq (pc' := 28) (tgt := 30) dX0_find_25 (by decide) rfl (fun hc => absurd hc (by decide)) (fun _ => ?_)
        refine x_iload_n (pc' := 29) dX0_find_28 rfl rfl rfl ?_
        exact x_iret dX0_find_29 rfl rfl h
set_option maxRecDepth 100000 in
set_option maxHeartbeats 4000000 in
theorem vX0_come_0 {d : Nat} {σ : Mem} {Q : Option Value → Mem → Prop} {f : Nat} {x1 x2 x3 : Int32} (hf : OKF f)
    (h : (((σ.1 f 5) < 121 → (vp_in (σ.1 f 5) 121 ∧ (∀ τ1 : Mem, τ1 = (w1 σ (f + 1) (σ.1 f 5).toNatClampNeg (σ.1 f 10)) → (vp_in (τ1.1 f 5) 121 ∧ (∀ τ2 : Mem, τ2 = (w1 τ1 (f + 2) (τ1.1 f 5).toNatClampNeg x1) → (vp_in (τ2.1 f 5) 121 ∧ (∀ τ3 : Mem, τ3 = (w1 τ2 (f + 3) (τ2.1 f 5).toNatClampNeg x2) → (vp_in (τ3.1 f 5) 121 ∧ (∀ τ4 : Mem, τ4 = (w1 τ3 (f + 4) (τ3.1 f 5).toNatClampNeg x3) → (vp_in (τ4.1 f 5) 121 ∧ (∀ τ5 : Mem, τ5 = (w1 τ4 (f + 5) (τ4.1 f 5).toNatClampNeg 0) → (∀ τ6 : Mem, τ6 = (w1 τ5 f 5 ((τ5.1 f 5) + 1)) → (∀ τ7 : Mem, τ7 = (w1 τ6 f 7 ((τ6.1 f 7) + ((τ6.1 f 5) &&& (-(τ6.1 f 5))))) → (∀ τ8 : Mem, τ8 = (w1 τ7 f 10 ((τ7.1 f 10) + 1)) → Q (some (.int ((τ8.1 f 10) - 1))) τ8)))))))))))))) ∧ (¬ (σ.1 f 5) < 121 → Q (some (.int (-2000000004))) σ))) :
    X none (d + 1) mX0_come 0 [.ref f, .int x1, .int x2, .int x3] [] σ Q := by
  refine x_aload_n (pc' := 1) dX0_come_0 rfl rfl rfl ?_
  refine x_geti (pc' := 4) dX0_come_1 rfl lfX0_27 (OKF.k hf) rfl ?_
  refine x_bipush (pc' := 6) (v := 121) dX0_come_4 rfl (by decide) ?_
  refine x_icmp_lt (pc' := 9) (tgt := 12) dX0_come_6 (by decide) rfl (fun hc => ?_) (fun hc => ?_)
  · replace h := h.1 hc
    refine x_aload_n (pc' := 13) dX0_come_12 rfl rfl rfl ?_
    refine x_getr (pc' := 16) dX0_come_13 rfl lfX0_11 (OKF.k hf) rfl (OKF.r0 hf) ?_
    refine x_aload_n (pc' := 17) dX0_come_16 rfl rfl rfl ?_
    refine x_geti (pc' := 20) dX0_come_17 rfl lfX0_27 (OKF.k hf) rfl ?_
    refine x_aload_n (pc' := 21) dX0_come_20 rfl rfl rfl ?_
    refine x_geti (pc' := 24) dX0_come_21 rfl lfX0_34 (OKF.k hf) rfl ?_
    obtain ⟨hb, h⟩ := h
    refine x_iast (pc' := 25) dX0_come_24 rfl (OKF.a0 hf) (by rw [(OKF.n0 hf)]; exact hb) ?_
    obtain ⟨τ1, eτ1⟩ : ∃ τ : Mem, τ = (w1 σ (f + 1) (σ.1 f 5).toNatClampNeg (σ.1 f 10)) := ⟨_, rfl⟩
    show X none (d + 1) mX0_come 25 [.ref f, .int x1, .int x2, .int x3] [] (w1 σ (f + 1) (σ.1 f 5).toNatClampNeg (σ.1 f 10)) _
    rw [← eτ1]
    replace h := h τ1 eτ1
    refine x_aload_n (pc' := 26) dX0_come_25 rfl rfl rfl ?_
    refine x_getr (pc' := 29) dX0_come_26 rfl lfX0_15 (OKF.k hf) rfl (OKF.r1 hf) ?_
    refine x_aload_n (pc' := 30) dX0_come_29 rfl rfl rfl ?_
    refine x_geti (pc' := 33) dX0_come_30 rfl lfX0_27 (OKF.k hf) rfl ?_
    refine x_iload_n (pc' := 34) dX0_come_33 rfl rfl rfl ?_
    obtain ⟨hb, h⟩ := h
    refine x_iast (pc' := 35) dX0_come_34 rfl (OKF.a1 hf) (by rw [(OKF.n1 hf)]; exact hb) ?_
    obtain ⟨τ2, eτ2⟩ : ∃ τ : Mem, τ = (w1 τ1 (f + 2) (τ1.1 f 5).toNatClampNeg x1) := ⟨_, rfl⟩
    show X none (d + 1) mX0_come 35 [.ref f, .int x1, .int x2, .int x3] [] (w1 τ1 (f + 2) (τ1.1 f 5).toNatClampNeg x1) _
    rw [← eτ2]
    replace h := h τ2 eτ2
    refine x_aload_n (pc' := 36) dX0_come_35 rfl rfl rfl ?_
    refine x_getr (pc' := 39) dX0_come_36 rfl lfX0_18 (OKF.k hf) rfl (OKF.r2 hf) ?_
    refine x_aload_n (pc' := 40) dX0_come_39 rfl rfl rfl ?_
    refine x_geti (pc' := 43) dX0_come_40 rfl lfX0_27 (OKF.k hf) rfl ?_
    refine x_iload_n (pc' := 44) dX0_come_43 rfl rfl rfl ?_
    obtain ⟨hb, h⟩ := h
    refine x_iast (pc' := 45) dX0_come_44 rfl (OKF.a2 hf) (by rw [(OKF.n2 hf)]; exact hb) ?_
    obtain ⟨τ3, eτ3⟩ : ∃ τ : Mem, τ = (w1 τ2 (f + 3) (τ2.1 f 5).toNatClampNeg x2) := ⟨_, rfl⟩
    show X none (d + 1) mX0_come 45 [.ref f, .int x1, .int x2, .int x3] [] (w1 τ2 (f + 3) (τ2.1 f 5).toNatClampNeg x2) _
    rw [← eτ3]
    replace h := h τ3 eτ3
    refine x_aload_n (pc' := 46) dX0_come_45 rfl rfl rfl ?_
    refine x_getr (pc' := 49) dX0_come_46 rfl lfX0_21 (OKF.k hf) rfl (OKF.r3 hf) ?_
    refine x_aload_n (pc' := 50) dX0_come_49 rfl rfl rfl ?_
    refine x_geti (pc' := 53) dX0_come_50 rfl lfX0_27 (OKF.k hf) rfl ?_
    refine x_iload_n (pc' := 54) dX0_come_53 rfl rfl rfl ?_
    obtain ⟨hb, h⟩ := h
    refine x_iast (pc' := 55) dX0_come_54 rfl (OKF.a3 hf) (by rw [(OKF.n3 hf)]; exact hb) ?_
    obtain ⟨τ4, eτ4⟩ : ∃ τ : Mem, τ = (w1 τ3 (f + 4) (τ3.1 f 5).toNatClampNeg x3) := ⟨_, rfl⟩
    show X none (d + 1) mX0_come 55 [.ref f, .int x1, .int x2, .int x3] [] (w1 τ3 (f + 4) (τ3.1 f 5).toNatClampNeg x3) _
    rw [← eτ4]
    replace h := h τ4 eτ4
    refine x_aload_n (pc' := 56) dX0_come_55 rfl rfl rfl ?_
    refine x_getr (pc' := 59) dX0_come_56 rfl lfX0_24 (OKF.k hf) rfl (OKF.r4 hf) ?_
    refine x_aload_n (pc' := 60) dX0_come_59 rfl rfl rfl ?_
    refine x_geti (pc' := 63) dX0_come_60 rfl lfX0_27 (OKF.k hf) rfl ?_
    refine x_iconst (pc' := 64) (v := 0) dX0_come_63 rfl (by decide) ?_
    obtain ⟨hb, h⟩ := h
    refine x_iast (pc' := 65) dX0_come_64 rfl (OKF.a4 hf) (by rw [(OKF.n4 hf)]; exact hb) ?_
    obtain ⟨τ5, eτ5⟩ : ∃ τ : Mem, τ = (w1 τ4 (f + 5) (τ4.1 f 5).toNatClampNeg 0) := ⟨_, rfl⟩
    show X none (d + 1) mX0_come 65 [.ref f, .int x1, .int x2, .int x3] [] (w1 τ4 (f + 5) (τ4.1 f 5).toNatClampNeg 0) _
    rw [← eτ5]
    replace h := h τ5 eτ5
    refine x_aload_n (pc' := 66) dX0_come_65 rfl rfl rfl ?_
    refine x_dup (pc' := 67) dX0_come_66 rfl rfl ?_
    refine x_geti (pc' := 70) dX0_come_67 rfl lfX0_27 (OKF.k hf) rfl ?_
    refine x_iconst (pc' := 71) (v := 1) dX0_come_70 rfl (by decide) ?_
    refine x_iadd (pc' := 72) dX0_come_71 rfl ?_
    refine x_puti (pc' := 75) dX0_come_72 rfl lfX0_27 (OKF.k hf) rfl rfl rfl ?_
    obtain ⟨τ6, eτ6⟩ : ∃ τ : Mem, τ = (w1 τ5 f 5 ((τ5.1 f 5) + 1)) := ⟨_, rfl⟩
    show X none (d + 1) mX0_come 75 [.ref f, .int x1, .int x2, .int x3] [] (w1 τ5 f 5 ((τ5.1 f 5) + 1)) _
    rw [← eτ6]
    replace h := h τ6 eτ6
    refine x_aload_n (pc' := 76) dX0_come_75 rfl rfl rfl ?_
    refine x_dup (pc' := 77) dX0_come_76 rfl rfl ?_
    refine x_geti (pc' := 80) dX0_come_77 rfl lfX0_48 (OKF.k hf) rfl ?_
    refine x_aload_n (pc' := 81) dX0_come_80 rfl rfl rfl ?_
    refine x_geti (pc' := 84) dX0_come_81 rfl lfX0_27 (OKF.k hf) rfl ?_
    refine x_callS (pc' := 87) (As := [.int (τ6.1 f 5)]) dX0_come_84 rfl lmX0_51 rfl rfl (Nat.le_of_ble_eq_true rfl) (Nat.le_of_ble_eq_true rfl) ?_
    show X none d mX0_newestLayer 0 [.int (τ6.1 f 5)] [] τ6 _
    refine x_iload_n (pc' := 1) dX0_newestLayer_0 rfl rfl rfl ?_
    refine x_iload_n (pc' := 2) dX0_newestLayer_1 rfl rfl rfl ?_
    refine x_ineg (pc' := 3) dX0_newestLayer_2 rfl ?_
    refine x_iand (pc' := 4) dX0_newestLayer_3 rfl ?_
    refine x_iret dX0_newestLayer_4 rfl rfl ?_
    show X none (d + 1) mX0_come 87 [.ref f, .int x1, .int x2, .int x3] [.int ((τ6.1 f 5) &&& (-(τ6.1 f 5))), .int (τ6.1 f 7), .ref f] τ6 _
    refine x_iadd (pc' := 88) dX0_come_87 rfl ?_
    refine x_puti (pc' := 91) dX0_come_88 rfl lfX0_48 (OKF.k hf) rfl rfl rfl ?_
    obtain ⟨τ7, eτ7⟩ : ∃ τ : Mem, τ = (w1 τ6 f 7 ((τ6.1 f 7) + ((τ6.1 f 5) &&& (-(τ6.1 f 5))))) := ⟨_, rfl⟩
    show X none (d + 1) mX0_come 91 [.ref f, .int x1, .int x2, .int x3] [] (w1 τ6 f 7 ((τ6.1 f 7) + ((τ6.1 f 5) &&& (-(τ6.1 f 5))))) _
    rw [← eτ7]
    replace h := h τ7 eτ7
    refine x_aload_n (pc' := 92) dX0_come_91 rfl rfl rfl ?_
    refine x_dup (pc' := 93) dX0_come_92 rfl rfl ?_
    refine x_geti (pc' := 96) dX0_come_93 rfl lfX0_34 (OKF.k hf) rfl ?_
    refine x_iconst (pc' := 97) (v := 1) dX0_come_96 rfl (by decide) ?_
    refine x_iadd (pc' := 98) dX0_come_97 rfl ?_
    refine x_puti (pc' := 101) dX0_come_98 rfl lfX0_34 (OKF.k hf) rfl rfl rfl ?_
    obtain ⟨τ8, eτ8⟩ : ∃ τ : Mem, τ = (w1 τ7 f 10 ((τ7.1 f 10) + 1)) := ⟨_, rfl⟩
    show X none (d + 1) mX0_come 101 [.ref f, .int x1, .int x2, .int x3] [] (w1 τ7 f 10 ((τ7.1 f 10) + 1)) _
    rw [← eτ8]
    replace h := h τ8 eτ8
    refine x_aload_n (pc' := 102) dX0_come_101 rfl rfl rfl ?_
    refine x_geti (pc' := 105) dX0_come_102 rfl lfX0_34 (OKF.k hf) rfl ?_
    refine x_iconst (pc' := 106) (v := 1) dX0_come_105 rfl (by decide) ?_
    refine x_isub (pc' := 107) dX0_come_106 rfl ?_
    exact x_iret dX0_come_107 rfl rfl h
  · replace h := h.2 hc
    refine x_ldc (pc' := 11) dX0_come_9 rfl lcX0_47 ?_
    exact x_iret dX0_come_11 rfl rfl h
set_option maxRecDepth 100000 in
set_option maxHeartbeats 4000000 in
theorem vX0_goAway_0 {d : Nat} {σ : Mem} {Q : Option Value → Mem → Prop} {f : Nat} {x1 : Int32} (hf : OKF f)
    (h : ((x1 < 0 → Q (some (.int (-2000000002))) σ) ∧ (¬ x1 < 0 → ((x1 < (σ.1 f 5) → (vp_in x1 121 ∧ (∀ τ1 : Mem, τ1 = (w1 σ f 6 ((σ.1 f 6) + 1)) → (vp_in x1 121 ∧ (∀ τ2 : Mem, τ2 = (w1 τ1 (f + 5) x1.toNatClampNeg (τ1.1 f 6)) → (∀ τ3 : Mem, τ3 = (w1 τ2 f 7 ((τ2.1 f 7) + ((τ2.1 f 6) &&& (-(τ2.1 f 6))))) → (((τ3.1 f 6) ≤ ((τ3.1 f 5) - (τ3.1 f 6)) → Q (some (.int (σ.1 (f + 4) x1.toNatClampNeg))) τ3) ∧ (¬ (τ3.1 f 6) ≤ ((τ3.1 f 5) - (τ3.1 f 6)) → (X none (d + 1) mX0_layAnew 0 [.ref f, Unk, Unk] [] τ3 (fun r τ4 => r = none ∧ Q (some (.int (σ.1 (f + 4) x1.toNatClampNeg))) τ4)))))))))) ∧ (¬ x1 < (σ.1 f 5) → Q (some (.int (-2000000002))) σ))))) :
    X none (d + 2) mX0_goAway 0 [.ref f, .int x1, Unk] [] σ Q := by
  refine x_iload_n (pc' := 1) dX0_goAway_0 rfl rfl rfl ?_
  refine x_if_lt (pc' := 4) (tgt := 12) dX0_goAway_1 (by decide) rfl (fun hc => ?_) (fun hc => ?_)
  · replace h := h.1 hc
    refine x_ldc (pc' := 14) dX0_goAway_12 rfl lcX0_54 ?_
    exact x_iret dX0_goAway_14 rfl rfl h
  · replace h := h.2 hc
    refine x_iload_n (pc' := 5) dX0_goAway_4 rfl rfl rfl ?_
    refine x_aload_n (pc' := 6) dX0_goAway_5 rfl rfl rfl ?_
    refine x_geti (pc' := 9) dX0_goAway_6 rfl lfX0_27 (OKF.k hf) rfl ?_
    refine x_icmp_lt (pc' := 12) (tgt := 15) dX0_goAway_9 (by decide) rfl (fun hc => ?_) (fun hc => ?_)
    · replace h := h.1 hc
      refine x_aload_n (pc' := 16) dX0_goAway_15 rfl rfl rfl ?_
      refine x_getr (pc' := 19) dX0_goAway_16 rfl lfX0_21 (OKF.k hf) rfl (OKF.r3 hf) ?_
      refine x_iload_n (pc' := 20) dX0_goAway_19 rfl rfl rfl ?_
      obtain ⟨hb, h⟩ := h
      refine x_iald (pc' := 21) dX0_goAway_20 rfl (OKF.a3 hf) (by rw [(OKF.n3 hf)]; exact hb) ?_
      refine x_istore_n (pc' := 22) dX0_goAway_21 rfl rfl (by decide) rfl (ls' := [.ref f, .int x1, .int (σ.1 (f + 4) x1.toNatClampNeg)]) rfl ?_
      refine x_aload_n (pc' := 23) dX0_goAway_22 rfl rfl rfl ?_
      refine x_dup (pc' := 24) dX0_goAway_23 rfl rfl ?_
      refine x_geti (pc' := 27) dX0_goAway_24 rfl lfX0_31 (OKF.k hf) rfl ?_
      refine x_iconst (pc' := 28) (v := 1) dX0_goAway_27 rfl (by decide) ?_
      refine x_iadd (pc' := 29) dX0_goAway_28 rfl ?_
      refine x_puti (pc' := 32) dX0_goAway_29 rfl lfX0_31 (OKF.k hf) rfl rfl rfl ?_
      obtain ⟨τ1, eτ1⟩ : ∃ τ : Mem, τ = (w1 σ f 6 ((σ.1 f 6) + 1)) := ⟨_, rfl⟩
      show X none (d + 2) mX0_goAway 32 [.ref f, .int x1, .int (σ.1 (f + 4) x1.toNatClampNeg)] [] (w1 σ f 6 ((σ.1 f 6) + 1)) _
      rw [← eτ1]
      replace h := h τ1 eτ1
      refine x_aload_n (pc' := 33) dX0_goAway_32 rfl rfl rfl ?_
      refine x_getr (pc' := 36) dX0_goAway_33 rfl lfX0_24 (OKF.k hf) rfl (OKF.r4 hf) ?_
      refine x_iload_n (pc' := 37) dX0_goAway_36 rfl rfl rfl ?_
      refine x_aload_n (pc' := 38) dX0_goAway_37 rfl rfl rfl ?_
      refine x_geti (pc' := 41) dX0_goAway_38 rfl lfX0_31 (OKF.k hf) rfl ?_
      obtain ⟨hb, h⟩ := h
      refine x_iast (pc' := 42) dX0_goAway_41 rfl (OKF.a4 hf) (by rw [(OKF.n4 hf)]; exact hb) ?_
      obtain ⟨τ2, eτ2⟩ : ∃ τ : Mem, τ = (w1 τ1 (f + 5) x1.toNatClampNeg (τ1.1 f 6)) := ⟨_, rfl⟩
      show X none (d + 2) mX0_goAway 42 [.ref f, .int x1, .int (σ.1 (f + 4) x1.toNatClampNeg)] [] (w1 τ1 (f + 5) x1.toNatClampNeg (τ1.1 f 6)) _
      rw [← eτ2]
      replace h := h τ2 eτ2
      refine x_aload_n (pc' := 43) dX0_goAway_42 rfl rfl rfl ?_
      refine x_dup (pc' := 44) dX0_goAway_43 rfl rfl ?_
      refine x_geti (pc' := 47) dX0_goAway_44 rfl lfX0_48 (OKF.k hf) rfl ?_
      refine x_aload_n (pc' := 48) dX0_goAway_47 rfl rfl rfl ?_
      refine x_geti (pc' := 51) dX0_goAway_48 rfl lfX0_31 (OKF.k hf) rfl ?_
      refine x_callS (pc' := 54) (As := [.int (τ2.1 f 6)]) dX0_goAway_51 rfl lmX0_51 rfl rfl (Nat.le_of_ble_eq_true rfl) (Nat.le_of_ble_eq_true rfl) ?_
      show X none (d + 1) mX0_newestLayer 0 [.int (τ2.1 f 6)] [] τ2 _
      refine x_iload_n (pc' := 1) dX0_newestLayer_0 rfl rfl rfl ?_
      refine x_iload_n (pc' := 2) dX0_newestLayer_1 rfl rfl rfl ?_
      refine x_ineg (pc' := 3) dX0_newestLayer_2 rfl ?_
      refine x_iand (pc' := 4) dX0_newestLayer_3 rfl ?_
      refine x_iret dX0_newestLayer_4 rfl rfl ?_
      show X none (d + 2) mX0_goAway 54 [.ref f, .int x1, .int (σ.1 (f + 4) x1.toNatClampNeg)] [.int ((τ2.1 f 6) &&& (-(τ2.1 f 6))), .int (τ2.1 f 7), .ref f] τ2 _
      refine x_iadd (pc' := 55) dX0_goAway_54 rfl ?_
      refine x_puti (pc' := 58) dX0_goAway_55 rfl lfX0_48 (OKF.k hf) rfl rfl rfl ?_
      obtain ⟨τ3, eτ3⟩ : ∃ τ : Mem, τ = (w1 τ2 f 7 ((τ2.1 f 7) + ((τ2.1 f 6) &&& (-(τ2.1 f 6))))) := ⟨_, rfl⟩
      show X none (d + 2) mX0_goAway 58 [.ref f, .int x1, .int (σ.1 (f + 4) x1.toNatClampNeg)] [] (w1 τ2 f 7 ((τ2.1 f 7) + ((τ2.1 f 6) &&& (-(τ2.1 f 6))))) _
      rw [← eτ3]
      replace h := h τ3 eτ3
      refine x_aload_n (pc' := 59) dX0_goAway_58 rfl rfl rfl ?_
      refine x_geti (pc' := 62) dX0_goAway_59 rfl lfX0_31 (OKF.k hf) rfl ?_
      refine x_aload_n (pc' := 63) dX0_goAway_62 rfl rfl rfl ?_
      refine x_callV (pc' := 66) (As := []) dX0_goAway_63 rfl lmX0_55 (OKF.k hf) rfl rfl (Nat.le_of_ble_eq_true rfl) (Nat.le_of_ble_eq_true rfl) ?_
      show X none (d + 1) mX0_there 0 [.ref f] [] τ3 _
      refine x_aload_n (pc' := 1) dX0_there_0 rfl rfl rfl ?_
      refine x_geti (pc' := 4) dX0_there_1 rfl lfX0_27 (OKF.k hf) rfl ?_
      refine x_aload_n (pc' := 5) dX0_there_4 rfl rfl rfl ?_
      refine x_geti (pc' := 8) dX0_there_5 rfl lfX0_31 (OKF.k hf) rfl ?_
      refine x_isub (pc' := 9) dX0_there_8 rfl ?_
      refine x_iret dX0_there_9 rfl rfl ?_
      show X none (d + 2) mX0_goAway 66 [.ref f, .int x1, .int (σ.1 (f + 4) x1.toNatClampNeg)] [.int ((τ3.1 f 5) - (τ3.1 f 6)), .int (τ3.1 f 6)] τ3 _
      refine x_icmp_le (pc' := 69) (tgt := 73) dX0_goAway_66 (by decide) rfl (fun hc => ?_) (fun hc => ?_)
      · replace h := h.1 hc
        refine x_iload_n (pc' := 74) dX0_goAway_73 rfl rfl rfl ?_
        exact x_iret dX0_goAway_74 rfl rfl h
      · replace h := h.2 hc
        refine x_aload_n (pc' := 70) dX0_goAway_69 rfl rfl rfl ?_
        refine x_callV (pc' := 73) (As := []) dX0_goAway_70 rfl lmX0_59 (OKF.k hf) rfl rfl (Nat.le_of_ble_eq_true rfl) (Nat.le_of_ble_eq_true rfl) ?_
        show X none (d + 1) mX0_layAnew 0 [.ref f, Unk, Unk] [] τ3 _
        refine X.mono h ?_
        rintro r τ4 ⟨rfl, h⟩
        show X none (d + 2) mX0_goAway 73 [.ref f, .int x1, .int (σ.1 (f + 4) x1.toNatClampNeg)] [] τ4 _
        refine x_iload_n (pc' := 74) dX0_goAway_73 rfl rfl rfl ?_
        exact x_iret dX0_goAway_74 rfl rfl h
    · replace h := h.2 hc
      refine x_ldc (pc' := 14) dX0_goAway_12 rfl lcX0_54 ?_
      exact x_iret dX0_goAway_14 rfl rfl h
set_option maxRecDepth 100000 in
set_option maxHeartbeats 4000000 in
theorem vX0_layAnew_0 {d : Nat} {σ : Mem} {Q : Option Value → Mem → Prop} {f : Nat} (hf : OKF f)
    (h : X none (d + 1) mX0_layAnew 4 [.ref f, .int 0, .int 0] [] σ Q) :
    X none (d + 1) mX0_layAnew 0 [.ref f, Unk, Unk] [] σ Q := by
  refine x_iconst (pc' := 1) (v := 0) dX0_layAnew_0 rfl (by decide) ?_
  refine x_istore_n (pc' := 2) dX0_layAnew_1 rfl rfl (by decide) rfl (ls' := [.ref f, .int 0, Unk]) rfl ?_
  refine x_iconst (pc' := 3) (v := 0) dX0_layAnew_2 rfl (by decide) ?_
  refine x_istore_n (pc' := 4) dX0_layAnew_3 rfl rfl (by decide) rfl (ls' := [.ref f, .int 0, .int 0]) rfl ?_
  exact h
set_option maxRecDepth 100000 in
set_option maxHeartbeats 4000000 in
theorem vX0_layAnew_4 {d : Nat} {σ : Mem} {Q : Option Value → Mem → Prop} {f : Nat} {x1 x2 : Int32} (hf : OKF f)
    (h : (((σ.1 f 5) ≤ x2 → (∀ τ1 : Mem, τ1 = (w1 σ f 5 x1) → (∀ τ2 : Mem, τ2 = (w1 τ1 f 6 0) → (∀ τ3 : Mem, τ3 = (w1 τ2 f 8 ((τ2.1 f 8) + 1)) → Q (none) τ3)))) ∧ (¬ (σ.1 f 5) ≤ x2 → (vp_in x2 121 ∧ ((¬ (σ.1 (f + 5) x2.toNatClampNeg) = 0 → X none (d + 1) mX0_layAnew 4 [.ref f, .int x1, .int (x2 + 1)] [] σ Q) ∧ ((σ.1 (f + 5) x2.toNatClampNeg) = 0 → (vp_in x2 121 ∧ (vp_in x1 121 ∧ (∀ τ4 : Mem, τ4 = (w1 σ (f + 1) x1.toNatClampNeg (σ.1 (f + 1) x2.toNatClampNeg)) → (vp_in x2 121 ∧ (vp_in x1 121 ∧ (∀ τ5 : Mem, τ5 = (w1 τ4 (f + 2) x1.toNatClampNeg (τ4.1 (f + 2) x2.toNatClampNeg)) → (vp_in x2 121 ∧ (vp_in x1 121 ∧ (∀ τ6 : Mem, τ6 = (w1 τ5 (f + 3) x1.toNatClampNeg (τ5.1 (f + 3) x2.toNatClampNeg)) → (vp_in x2 121 ∧ (vp_in x1 121 ∧ (∀ τ7 : Mem, τ7 = (w1 τ6 (f + 4) x1.toNatClampNeg (τ6.1 (f + 4) x2.toNatClampNeg)) → (vp_in x1 121 ∧ (∀ τ8 : Mem, τ8 = (w1 τ7 (f + 5) x1.toNatClampNeg 0) → X none (d + 1) mX0_layAnew 4 [.ref f, .int (x1 + 1), .int (x2 + 1)] [] τ8 Q)))))))))))))))))))) :
    X none (d + 1) mX0_layAnew 4 [.ref f, .int x1, .int x2] [] σ Q := by
  refine x_iload_n (pc' := 5) dX0_layAnew_4 rfl rfl rfl ?_
  refine x_aload_n (pc' := 6) dX0_layAnew_5 rfl rfl rfl ?_
  refine x_geti (pc' := 9) dX0_layAnew_6 rfl lfX0_27 (OKF.k hf) rfl ?_
  refine x_icmp_ge (pc' := 12) (tgt := 84) dX0_layAnew_9 (by decide) rfl (fun hc => ?_) (fun hc => ?_)
  · replace h := h.1 hc
    refine x_aload_n (pc' := 85) dX0_layAnew_84 rfl rfl rfl ?_
    refine x_iload_n (pc' := 86) dX0_layAnew_85 rfl rfl rfl ?_
    refine x_puti (pc' := 89) dX0_layAnew_86 rfl lfX0_27 (OKF.k hf) rfl rfl rfl ?_
    obtain ⟨τ1, eτ1⟩ : ∃ τ : Mem, τ = (w1 σ f 5 x1) := ⟨_, rfl⟩
    show X none (d + 1) mX0_layAnew 89 [.ref f, .int x1, .int x2] [] (w1 σ f 5 x1) _
    rw [← eτ1]
    replace h := h τ1 eτ1
    refine x_aload_n (pc' := 90) dX0_layAnew_89 rfl rfl rfl ?_
    refine x_iconst (pc' := 91) (v := 0) dX0_layAnew_90 rfl (by decide) ?_
    refine x_puti (pc' := 94) dX0_layAnew_91 rfl lfX0_31 (OKF.k hf) rfl rfl rfl ?_
    obtain ⟨τ2, eτ2⟩ : ∃ τ : Mem, τ = (w1 τ1 f 6 0) := ⟨_, rfl⟩
    show X none (d + 1) mX0_layAnew 94 [.ref f, .int x1, .int x2] [] (w1 τ1 f 6 0) _
    rw [← eτ2]
    replace h := h τ2 eτ2
    refine x_aload_n (pc' := 95) dX0_layAnew_94 rfl rfl rfl ?_
    refine x_dup (pc' := 96) dX0_layAnew_95 rfl rfl ?_
    refine x_geti (pc' := 99) dX0_layAnew_96 rfl lfX0_62 (OKF.k hf) rfl ?_
    refine x_iconst (pc' := 100) (v := 1) dX0_layAnew_99 rfl (by decide) ?_
    refine x_iadd (pc' := 101) dX0_layAnew_100 rfl ?_
    refine x_puti (pc' := 104) dX0_layAnew_101 rfl lfX0_62 (OKF.k hf) rfl rfl rfl ?_
    obtain ⟨τ3, eτ3⟩ : ∃ τ : Mem, τ = (w1 τ2 f 8 ((τ2.1 f 8) + 1)) := ⟨_, rfl⟩
    show X none (d + 1) mX0_layAnew 104 [.ref f, .int x1, .int x2] [] (w1 τ2 f 8 ((τ2.1 f 8) + 1)) _
    rw [← eτ3]
    replace h := h τ3 eτ3
    exact x_vret dX0_layAnew_104 rfl h
  · replace h := h.2 hc
    refine x_aload_n (pc' := 13) dX0_layAnew_12 rfl rfl rfl ?_
    refine x_iload_n (pc' := 14) dX0_layAnew_13 rfl rfl rfl ?_
    refine x_callV (pc' := 17) (As := [.int x2]) dX0_layAnew_14 rfl lmX0_43 (OKF.k hf) rfl rfl (Nat.le_of_ble_eq_true rfl) (Nat.le_of_ble_eq_true rfl) ?_
    show X none d mX0_isThere 0 [.ref f, .int x2] [] σ _
    refine x_aload_n (pc' := 1) dX0_isThere_0 rfl rfl rfl ?_
    refine x_getr (pc' := 4) dX0_isThere_1 rfl lfX0_24 (OKF.k hf) rfl (OKF.r4 hf) ?_
    refine x_iload_n (pc' := 5) dX0_isThere_4 rfl rfl rfl ?_
    obtain ⟨hb, h⟩ := h
    refine x_iald (pc' := 6) dX0_isThere_5 rfl (OKF.a4 hf) (by rw [(OKF.n4 hf)]; exact hb) ?_
    refine x_if_ne (pc' := 9) (tgt := 13) dX0_isThere_6 (by decide) rfl (fun hc => ?_) (fun hc => ?_)
    · replace h := h.1 hc
      refine x_iconst (pc' := 14) (v := 0) dX0_isThere_13 rfl (by decide) ?_
      refine x_iret dX0_isThere_14 rfl rfl ?_
      show X none (d + 1) mX0_layAnew 17 [.ref f, .int x1, .int x2] [.int 0] σ _
      refine x_if_eq (pc' := 20) (tgt := 78) dX0_layAnew_17 (by decide) rfl (fun _ => ?_) (fun hc => absurd hc (by decide))
      refine x_iinc (pc' := 81) (v := 1) dX0_layAnew_78 rfl (by decide) rfl rfl (by decide) (ls' := [.ref f, .int x1, .int (x2 + 1)]) rfl ?_
      refine x_goto (pc' := 4) dX0_layAnew_81 (by decide) ?_
      exact h
    · replace h := h.2 hc
      refine x_iconst (pc' := 10) (v := 1) dX0_isThere_9 rfl (by decide) ?_
      refine x_goto (pc' := 14) dX0_isThere_10 (by decide) ?_
      refine x_iret dX0_isThere_14 rfl rfl ?_
      show X none (d + 1) mX0_layAnew 17 [.ref f, .int x1, .int x2] [.int 1] σ _
      refine x_if_eq (pc' := 20) (tgt := 78) dX0_layAnew_17 (by decide) rfl (fun hc => absurd hc (by decide)) (fun _ => ?_)
      refine x_aload_n (pc' := 21) dX0_layAnew_20 rfl rfl rfl ?_
      refine x_getr (pc' := 24) dX0_layAnew_21 rfl lfX0_11 (OKF.k hf) rfl (OKF.r0 hf) ?_
      refine x_iload_n (pc' := 25) dX0_layAnew_24 rfl rfl rfl ?_
      refine x_aload_n (pc' := 26) dX0_layAnew_25 rfl rfl rfl ?_
      refine x_getr (pc' := 29) dX0_layAnew_26 rfl lfX0_11 (OKF.k hf) rfl (OKF.r0 hf) ?_
      refine x_iload_n (pc' := 30) dX0_layAnew_29 rfl rfl rfl ?_
      obtain ⟨hb, h⟩ := h
      refine x_iald (pc' := 31) dX0_layAnew_30 rfl (OKF.a0 hf) (by rw [(OKF.n0 hf)]; exact hb) ?_
      obtain ⟨hb, h⟩ := h
      refine x_iast (pc' := 32) dX0_layAnew_31 rfl (OKF.a0 hf) (by rw [(OKF.n0 hf)]; exact hb) ?_
      obtain ⟨τ4, eτ4⟩ : ∃ τ : Mem, τ = (w1 σ (f + 1) x1.toNatClampNeg (σ.1 (f + 1) x2.toNatClampNeg)) := ⟨_, rfl⟩
      show X none (d + 1) mX0_layAnew 32 [.ref f, .int x1, .int x2] [] (w1 σ (f + 1) x1.toNatClampNeg (σ.1 (f + 1) x2.toNatClampNeg)) _
      rw [← eτ4]
      replace h := h τ4 eτ4
      refine x_aload_n (pc' := 33) dX0_layAnew_32 rfl rfl rfl ?_
      refine x_getr (pc' := 36) dX0_layAnew_33 rfl lfX0_15 (OKF.k hf) rfl (OKF.r1 hf) ?_
      refine x_iload_n (pc' := 37) dX0_layAnew_36 rfl rfl rfl ?_
      refine x_aload_n (pc' := 38) dX0_layAnew_37 rfl rfl rfl ?_
      refine x_getr (pc' := 41) dX0_layAnew_38 rfl lfX0_15 (OKF.k hf) rfl (OKF.r1 hf) ?_
      refine x_iload_n (pc' := 42) dX0_layAnew_41 rfl rfl rfl ?_
      obtain ⟨hb, h⟩ := h
      refine x_iald (pc' := 43) dX0_layAnew_42 rfl (OKF.a1 hf) (by rw [(OKF.n1 hf)]; exact hb) ?_
      obtain ⟨hb, h⟩ := h
      refine x_iast (pc' := 44) dX0_layAnew_43 rfl (OKF.a1 hf) (by rw [(OKF.n1 hf)]; exact hb) ?_
      obtain ⟨τ5, eτ5⟩ : ∃ τ : Mem, τ = (w1 τ4 (f + 2) x1.toNatClampNeg (τ4.1 (f + 2) x2.toNatClampNeg)) := ⟨_, rfl⟩
      show X none (d + 1) mX0_layAnew 44 [.ref f, .int x1, .int x2] [] (w1 τ4 (f + 2) x1.toNatClampNeg (τ4.1 (f + 2) x2.toNatClampNeg)) _
      rw [← eτ5]
      replace h := h τ5 eτ5
      refine x_aload_n (pc' := 45) dX0_layAnew_44 rfl rfl rfl ?_
      refine x_getr (pc' := 48) dX0_layAnew_45 rfl lfX0_18 (OKF.k hf) rfl (OKF.r2 hf) ?_
      refine x_iload_n (pc' := 49) dX0_layAnew_48 rfl rfl rfl ?_
      refine x_aload_n (pc' := 50) dX0_layAnew_49 rfl rfl rfl ?_
      refine x_getr (pc' := 53) dX0_layAnew_50 rfl lfX0_18 (OKF.k hf) rfl (OKF.r2 hf) ?_
      refine x_iload_n (pc' := 54) dX0_layAnew_53 rfl rfl rfl ?_
      obtain ⟨hb, h⟩ := h
      refine x_iald (pc' := 55) dX0_layAnew_54 rfl (OKF.a2 hf) (by rw [(OKF.n2 hf)]; exact hb) ?_
      obtain ⟨hb, h⟩ := h
      refine x_iast (pc' := 56) dX0_layAnew_55 rfl (OKF.a2 hf) (by rw [(OKF.n2 hf)]; exact hb) ?_
      obtain ⟨τ6, eτ6⟩ : ∃ τ : Mem, τ = (w1 τ5 (f + 3) x1.toNatClampNeg (τ5.1 (f + 3) x2.toNatClampNeg)) := ⟨_, rfl⟩
      show X none (d + 1) mX0_layAnew 56 [.ref f, .int x1, .int x2] [] (w1 τ5 (f + 3) x1.toNatClampNeg (τ5.1 (f + 3) x2.toNatClampNeg)) _
      rw [← eτ6]
      replace h := h τ6 eτ6
      refine x_aload_n (pc' := 57) dX0_layAnew_56 rfl rfl rfl ?_
      refine x_getr (pc' := 60) dX0_layAnew_57 rfl lfX0_21 (OKF.k hf) rfl (OKF.r3 hf) ?_
      refine x_iload_n (pc' := 61) dX0_layAnew_60 rfl rfl rfl ?_
      refine x_aload_n (pc' := 62) dX0_layAnew_61 rfl rfl rfl ?_
      refine x_getr (pc' := 65) dX0_layAnew_62 rfl lfX0_21 (OKF.k hf) rfl (OKF.r3 hf) ?_
      refine x_iload_n (pc' := 66) dX0_layAnew_65 rfl rfl rfl ?_
      obtain ⟨hb, h⟩ := h
      refine x_iald (pc' := 67) dX0_layAnew_66 rfl (OKF.a3 hf) (by rw [(OKF.n3 hf)]; exact hb) ?_
      obtain ⟨hb, h⟩ := h
      refine x_iast (pc' := 68) dX0_layAnew_67 rfl (OKF.a3 hf) (by rw [(OKF.n3 hf)]; exact hb) ?_
      obtain ⟨τ7, eτ7⟩ : ∃ τ : Mem, τ = (w1 τ6 (f + 4) x1.toNatClampNeg (τ6.1 (f + 4) x2.toNatClampNeg)) := ⟨_, rfl⟩
      show X none (d + 1) mX0_layAnew 68 [.ref f, .int x1, .int x2] [] (w1 τ6 (f + 4) x1.toNatClampNeg (τ6.1 (f + 4) x2.toNatClampNeg)) _
      rw [← eτ7]
      replace h := h τ7 eτ7
      refine x_aload_n (pc' := 69) dX0_layAnew_68 rfl rfl rfl ?_
      refine x_getr (pc' := 72) dX0_layAnew_69 rfl lfX0_24 (OKF.k hf) rfl (OKF.r4 hf) ?_
      refine x_iload_n (pc' := 73) dX0_layAnew_72 rfl rfl rfl ?_
      refine x_iconst (pc' := 74) (v := 0) dX0_layAnew_73 rfl (by decide) ?_
      obtain ⟨hb, h⟩ := h
      refine x_iast (pc' := 75) dX0_layAnew_74 rfl (OKF.a4 hf) (by rw [(OKF.n4 hf)]; exact hb) ?_
      obtain ⟨τ8, eτ8⟩ : ∃ τ : Mem, τ = (w1 τ7 (f + 5) x1.toNatClampNeg 0) := ⟨_, rfl⟩
      show X none (d + 1) mX0_layAnew 75 [.ref f, .int x1, .int x2] [] (w1 τ7 (f + 5) x1.toNatClampNeg 0) _
      rw [← eτ8]
      replace h := h τ8 eτ8
      refine x_iinc (pc' := 78) (v := 1) dX0_layAnew_75 rfl (by decide) rfl rfl (by decide) (ls' := [.ref f, .int (x1 + 1), .int x2]) rfl ?_
      refine x_iinc (pc' := 81) (v := 1) dX0_layAnew_78 rfl (by decide) rfl rfl (by decide) (ls' := [.ref f, .int (x1 + 1), .int (x2 + 1)]) rfl ?_
      refine x_goto (pc' := 4) dX0_layAnew_81 (by decide) ?_
      exact h
set_option maxRecDepth 100000 in
set_option maxHeartbeats 4000000 in
theorem vX0_worth_0 {d : Nat} {σ : Mem} {Q : Option Value → Mem → Prop} {f : Nat} {x1 : Int32} (hf : OKF f)
    (h : (((σ.1 f 9).toInt < 1 ∨ 5 < (σ.1 f 9).toInt → Q (some (.int 1)) σ) ∧ ((σ.1 f 9).toInt = 1 → (vp_in x1 121 ∧ Q (some (.int (σ.1 (f + 4) x1.toNatClampNeg))) σ)) ∧ ((σ.1 f 9).toInt = 2 → (vp_in x1 121 ∧ (vp_in x1 121 ∧ ((¬ (((σ.1 (f + 2) x1.toNatClampNeg) + (σ.1 (f + 3) x1.toNatClampNeg)) - ((σ.1 (f + 2) x1.toNatClampNeg) + (σ.1 (f + 3) x1.toNatClampNeg)) / 2 * 2) = 0 → Q (some (.int 0)) σ) ∧ ((((σ.1 (f + 2) x1.toNatClampNeg) + (σ.1 (f + 3) x1.toNatClampNeg)) - ((σ.1 (f + 2) x1.toNatClampNeg) + (σ.1 (f + 3) x1.toNatClampNeg)) / 2 * 2) = 0 → Q (some (.int 1)) σ))))) ∧ ((σ.1 f 9).toInt = 3 → (vp_in x1 121 ∧ Q (some (.int (2 * (σ.1 (f + 4) x1.toNatClampNeg)))) σ)) ∧ ((σ.1 f 9).toInt = 4 → (vp_in x1 121 ∧ (((σ.1 (f + 3) x1.toNatClampNeg) < 0 → Q (some (.int 0)) σ) ∧ (¬ (σ.1 (f + 3) x1.toNatClampNeg) < 0 → (vp_in x1 121 ∧ Q (some (.int (σ.1 (f + 4) x1.toNatClampNeg))) σ))))) ∧ ((σ.1 f 9).toInt = 5 → (vp_in x1 121 ∧ (((σ.1 (f + 3) x1.toNatClampNeg) < 0 → (vp_in x1 121 ∧ Q (some (.int (0 + ((σ.1 (f + 1) x1.toNatClampNeg) - (σ.1 (f + 1) x1.toNatClampNeg) / 10 * 10)))) σ)) ∧ (¬ (σ.1 (f + 3) x1.toNatClampNeg) < 0 → (vp_in x1 121 ∧ (vp_in x1 121 ∧ Q (some (.int ((σ.1 (f + 4) x1.toNatClampNeg) + ((σ.1 (f + 1) x1.toNatClampNeg) - (σ.1 (f + 1) x1.toNatClampNeg) / 10 * 10)))) σ)))))))) :
    X none (d + 1) mX0_worth 0 [.ref f, .int x1] [] σ Q := by
  refine x_aload_n (pc' := 1) dX0_worth_0 rfl rfl rfl ?_
  refine x_geti (pc' := 4) dX0_worth_1 rfl lfX0_65 (OKF.k hf) rfl ?_
  by_cases hc : (σ.1 f 9).toInt < 1 ∨ 5 < (σ.1 f 9).toInt
  · refine x_tblOut (pc' := 102) dX0_worth_4 hc (by decide) ?_
    replace h := h.1 hc
    refine x_iconst (pc' := 103) (v := 1) dX0_worth_102 rfl (by decide) ?_
    exact x_iret dX0_worth_103 rfl rfl h
  · replace h := h.2
    have hr : (σ.1 f 9).toInt = 1 ∨ (σ.1 f 9).toInt = 2 ∨ (σ.1 f 9).toInt = 3 ∨ (σ.1 f 9).toInt = 4 ∨ (σ.1 f 9).toInt = 5 := by omega
    rcases hr with hr | hr | hr | hr | hr
    · refine x_tblIn (pc' := 40) dX0_worth_4 (by omega) (by omega) (off := 36) (by rw [hr]; rfl) (by decide) ?_
      replace h := h.1 hr
      refine x_aload_n (pc' := 41) dX0_worth_40 rfl rfl rfl ?_
      refine x_getr (pc' := 44) dX0_worth_41 rfl lfX0_21 (OKF.k hf) rfl (OKF.r3 hf) ?_
      refine x_iload_n (pc' := 45) dX0_worth_44 rfl rfl rfl ?_
      obtain ⟨hb, h⟩ := h
      refine x_iald (pc' := 46) dX0_worth_45 rfl (OKF.a3 hf) (by rw [(OKF.n3 hf)]; exact hb) ?_
      exact x_iret dX0_worth_46 rfl rfl h
    · refine x_tblIn (pc' := 47) dX0_worth_4 (by omega) (by omega) (off := 43) (by rw [hr]; rfl) (by decide) ?_
      replace h := h.2.1 hr
      refine x_aload_n (pc' := 48) dX0_worth_47 rfl rfl rfl ?_
      refine x_getr (pc' := 51) dX0_worth_48 rfl lfX0_15 (OKF.k hf) rfl (OKF.r1 hf) ?_
      refine x_iload_n (pc' := 52) dX0_worth_51 rfl rfl rfl ?_
      obtain ⟨hb, h⟩ := h
      refine x_iald (pc' := 53) dX0_worth_52 rfl (OKF.a1 hf) (by rw [(OKF.n1 hf)]; exact hb) ?_
      refine x_aload_n (pc' := 54) dX0_worth_53 rfl rfl rfl ?_
      refine x_getr (pc' := 57) dX0_worth_54 rfl lfX0_18 (OKF.k hf) rfl (OKF.r2 hf) ?_
      refine x_iload_n (pc' := 58) dX0_worth_57 rfl rfl rfl ?_
      obtain ⟨hb, h⟩ := h
      refine x_iald (pc' := 59) dX0_worth_58 rfl (OKF.a2 hf) (by rw [(OKF.n2 hf)]; exact hb) ?_
      refine x_iadd (pc' := 60) dX0_worth_59 rfl ?_
      refine x_iconst (pc' := 61) (v := 2) dX0_worth_60 rfl (by decide) ?_
      refine x_irem (pc' := 62) dX0_worth_61 rfl (by decide) ?_
      refine x_if_ne (pc' := 65) (tgt := 69) dX0_worth_62 (by decide) rfl (fun hc => ?_) (fun hc => ?_)
      · replace h := h.1 hc
        refine x_iconst (pc' := 70) (v := 0) dX0_worth_69 rfl (by decide) ?_
        exact x_iret dX0_worth_70 rfl rfl h
      · replace h := h.2 hc
        refine x_iconst (pc' := 66) (v := 1) dX0_worth_65 rfl (by decide) ?_
        refine x_goto (pc' := 70) dX0_worth_66 (by decide) ?_
        exact x_iret dX0_worth_70 rfl rfl h
    · refine x_tblIn (pc' := 71) dX0_worth_4 (by omega) (by omega) (off := 67) (by rw [hr]; rfl) (by decide) ?_
      replace h := h.2.2.1 hr
      refine x_iconst (pc' := 72) (v := 2) dX0_worth_71 rfl (by decide) ?_
      refine x_aload_n (pc' := 73) dX0_worth_72 rfl rfl rfl ?_
      refine x_getr (pc' := 76) dX0_worth_73 rfl lfX0_21 (OKF.k hf) rfl (OKF.r3 hf) ?_
      refine x_iload_n (pc' := 77) dX0_worth_76 rfl rfl rfl ?_
      obtain ⟨hb, h⟩ := h
      refine x_iald (pc' := 78) dX0_worth_77 rfl (OKF.a3 hf) (by rw [(OKF.n3 hf)]; exact hb) ?_
      refine x_imul (pc' := 79) dX0_worth_78 rfl ?_
      exact x_iret dX0_worth_79 rfl rfl h
    · refine x_tblIn (pc' := 80) dX0_worth_4 (by omega) (by omega) (off := 76) (by rw [hr]; rfl) (by decide) ?_
      replace h := h.2.2.2.1 hr
      refine x_aload_n (pc' := 81) dX0_worth_80 rfl rfl rfl ?_
      refine x_iload_n (pc' := 82) dX0_worth_81 rfl rfl rfl ?_
      refine x_callV (pc' := 85) (As := [.int x1]) dX0_worth_82 rfl lmX0_68 (OKF.k hf) rfl rfl (Nat.le_of_ble_eq_true rfl) (Nat.le_of_ble_eq_true rfl) ?_
      show X none d mX0_north 0 [.ref f, .int x1] [] σ _
      refine x_aload_n (pc' := 1) dX0_north_0 rfl rfl rfl ?_
      refine x_getr (pc' := 4) dX0_north_1 rfl lfX0_18 (OKF.k hf) rfl (OKF.r2 hf) ?_
      refine x_iload_n (pc' := 5) dX0_north_4 rfl rfl rfl ?_
      obtain ⟨hb, h⟩ := h
      refine x_iald (pc' := 6) dX0_north_5 rfl (OKF.a2 hf) (by rw [(OKF.n2 hf)]; exact hb) ?_
      refine x_if_lt (pc' := 9) (tgt := 18) dX0_north_6 (by decide) rfl (fun hc => ?_) (fun hc => ?_)
      · replace h := h.1 hc
        refine x_iconst (pc' := 19) (v := 0) dX0_north_18 rfl (by decide) ?_
        refine x_iret dX0_north_19 rfl rfl ?_
        show X none (d + 1) mX0_worth 85 [.ref f, .int x1] [.int 0] σ _
        exact x_iret dX0_worth_85 rfl rfl h
      · replace h := h.2 hc
        refine x_aload_n (pc' := 10) dX0_north_9 rfl rfl rfl ?_
        refine x_getr (pc' := 13) dX0_north_10 rfl lfX0_21 (OKF.k hf) rfl (OKF.r3 hf) ?_
        refine x_iload_n (pc' := 14) dX0_north_13 rfl rfl rfl ?_
        obtain ⟨hb, h⟩ := h
        refine x_iald (pc' := 15) dX0_north_14 rfl (OKF.a3 hf) (by rw [(OKF.n3 hf)]; exact hb) ?_
        refine x_goto (pc' := 19) dX0_north_15 (by decide) ?_
        refine x_iret dX0_north_19 rfl rfl ?_
        show X none (d + 1) mX0_worth 85 [.ref f, .int x1] [.int (σ.1 (f + 4) x1.toNatClampNeg)] σ _
        exact x_iret dX0_worth_85 rfl rfl h
    · refine x_tblIn (pc' := 86) dX0_worth_4 (by omega) (by omega) (off := 82) (by rw [hr]; rfl) (by decide) ?_
      replace h := h.2.2.2.2 hr
      refine x_aload_n (pc' := 87) dX0_worth_86 rfl rfl rfl ?_
      refine x_iload_n (pc' := 88) dX0_worth_87 rfl rfl rfl ?_
      refine x_callV (pc' := 91) (As := [.int x1]) dX0_worth_88 rfl lmX0_68 (OKF.k hf) rfl rfl (Nat.le_of_ble_eq_true rfl) (Nat.le_of_ble_eq_true rfl) ?_
      show X none d mX0_north 0 [.ref f, .int x1] [] σ _
      refine x_aload_n (pc' := 1) dX0_north_0 rfl rfl rfl ?_
      refine x_getr (pc' := 4) dX0_north_1 rfl lfX0_18 (OKF.k hf) rfl (OKF.r2 hf) ?_
      refine x_iload_n (pc' := 5) dX0_north_4 rfl rfl rfl ?_
      obtain ⟨hb, h⟩ := h
      refine x_iald (pc' := 6) dX0_north_5 rfl (OKF.a2 hf) (by rw [(OKF.n2 hf)]; exact hb) ?_
      refine x_if_lt (pc' := 9) (tgt := 18) dX0_north_6 (by decide) rfl (fun hc => ?_) (fun hc => ?_)
      · replace h := h.1 hc
        refine x_iconst (pc' := 19) (v := 0) dX0_north_18 rfl (by decide) ?_
        refine x_iret dX0_north_19 rfl rfl ?_
        show X none (d + 1) mX0_worth 91 [.ref f, .int x1] [.int 0] σ _
        refine x_aload_n (pc' := 92) dX0_worth_91 rfl rfl rfl ?_
        refine x_getr (pc' := 95) dX0_worth_92 rfl lfX0_11 (OKF.k hf) rfl (OKF.r0 hf) ?_
        refine x_iload_n (pc' := 96) dX0_worth_95 rfl rfl rfl ?_
        obtain ⟨hb, h⟩ := h
        refine x_iald (pc' := 97) dX0_worth_96 rfl (OKF.a0 hf) (by rw [(OKF.n0 hf)]; exact hb) ?_
        refine x_bipush (pc' := 99) (v := 10) dX0_worth_97 rfl (by decide) ?_
        refine x_irem (pc' := 100) dX0_worth_99 rfl (by decide) ?_
        refine x_iadd (pc' := 101) dX0_worth_100 rfl ?_
        exact x_iret dX0_worth_101 rfl rfl h
      · replace h := h.2 hc
        refine x_aload_n (pc' := 10) dX0_north_9 rfl rfl rfl ?_
        refine x_getr (pc' := 13) dX0_north_10 rfl lfX0_21 (OKF.k hf) rfl (OKF.r3 hf) ?_
        refine x_iload_n (pc' := 14) dX0_north_13 rfl rfl rfl ?_
        obtain ⟨hb, h⟩ := h
        refine x_iald (pc' := 15) dX0_north_14 rfl (OKF.a3 hf) (by rw [(OKF.n3 hf)]; exact hb) ?_
        refine x_goto (pc' := 19) dX0_north_15 (by decide) ?_
        refine x_iret dX0_north_19 rfl rfl ?_
        show X none (d + 1) mX0_worth 91 [.ref f, .int x1] [.int (σ.1 (f + 4) x1.toNatClampNeg)] σ _
        refine x_aload_n (pc' := 92) dX0_worth_91 rfl rfl rfl ?_
        refine x_getr (pc' := 95) dX0_worth_92 rfl lfX0_11 (OKF.k hf) rfl (OKF.r0 hf) ?_
        refine x_iload_n (pc' := 96) dX0_worth_95 rfl rfl rfl ?_
        obtain ⟨hb, h⟩ := h
        refine x_iald (pc' := 97) dX0_worth_96 rfl (OKF.a0 hf) (by rw [(OKF.n0 hf)]; exact hb) ?_
        refine x_bipush (pc' := 99) (v := 10) dX0_worth_97 rfl (by decide) ?_
        refine x_irem (pc' := 100) dX0_worth_99 rfl (by decide) ?_
        refine x_iadd (pc' := 101) dX0_worth_100 rfl ?_
        exact x_iret dX0_worth_101 rfl rfl h
set_option maxRecDepth 100000 in
set_option maxHeartbeats 4000000 in
theorem vX0_weightOfAll_0 {d : Nat} {σ : Mem} {Q : Option Value → Mem → Prop} {f : Nat} (hf : OKF f)
    (h : X none (d + 1) mX0_weightOfAll 4 [.ref f, .int 0, .int 0] [] σ Q) :
    X none (d + 1) mX0_weightOfAll 0 [.ref f, Unk, Unk] [] σ Q := by
  refine x_iconst (pc' := 1) (v := 0) dX0_weightOfAll_0 rfl (by decide) ?_
  refine x_istore_n (pc' := 2) dX0_weightOfAll_1 rfl rfl (by decide) rfl (ls' := [.ref f, .int 0, Unk]) rfl ?_
  refine x_iconst (pc' := 3) (v := 0) dX0_weightOfAll_2 rfl (by decide) ?_
  refine x_istore_n (pc' := 4) dX0_weightOfAll_3 rfl rfl (by decide) rfl (ls' := [.ref f, .int 0, .int 0]) rfl ?_
  exact h
set_option maxRecDepth 100000 in
set_option maxHeartbeats 4000000 in
theorem vX0_weightOfAll_4 {d : Nat} {σ : Mem} {Q : Option Value → Mem → Prop} {f : Nat} {x1 x2 : Int32} (hf : OKF f)
    (h : (((σ.1 f 5) ≤ x2 → Q (some (.int x1)) σ) ∧ (¬ (σ.1 f 5) ≤ x2 → (vp_in x2 121 ∧ ((¬ (σ.1 (f + 5) x2.toNatClampNeg) = 0 → X none (d + 1) mX0_weightOfAll 4 [.ref f, .int x1, .int (x2 + 1)] [] σ Q) ∧ ((σ.1 (f + 5) x2.toNatClampNeg) = 0 → (vp_in x2 121 ∧ X none (d + 1) mX0_weightOfAll 4 [.ref f, .int (x1 + (σ.1 (f + 4) x2.toNatClampNeg)), .int (x2 + 1)] [] σ Q))))))) :
    X none (d + 1) mX0_weightOfAll 4 [.ref f, .int x1, .int x2] [] σ Q := by
  refine x_iload_n (pc' := 5) dX0_weightOfAll_4 rfl rfl rfl ?_
  refine x_aload_n (pc' := 6) dX0_weightOfAll_5 rfl rfl rfl ?_
  refine x_geti (pc' := 9) dX0_weightOfAll_6 rfl lfX0_27 (OKF.k hf) rfl ?_
  refine x_icmp_ge (pc' := 12) (tgt := 35) dX0_weightOfAll_9 (by decide) rfl (fun hc => ?_) (fun hc => ?_)
  · replace h := h.1 hc
    refine x_iload_n (pc' := 36) dX0_weightOfAll_35 rfl rfl rfl ?_
    exact x_iret dX0_weightOfAll_36 rfl rfl h
  · replace h := h.2 hc
    refine x_aload_n (pc' := 13) dX0_weightOfAll_12 rfl rfl rfl ?_
    refine x_iload_n (pc' := 14) dX0_weightOfAll_13 rfl rfl rfl ?_
    refine x_callV (pc' := 17) (As := [.int x2]) dX0_weightOfAll_14 rfl lmX0_43 (OKF.k hf) rfl rfl (Nat.le_of_ble_eq_true rfl) (Nat.le_of_ble_eq_true rfl) ?_
    show X none d mX0_isThere 0 [.ref f, .int x2] [] σ _
    refine x_aload_n (pc' := 1) dX0_isThere_0 rfl rfl rfl ?_
    refine x_getr (pc' := 4) dX0_isThere_1 rfl lfX0_24 (OKF.k hf) rfl (OKF.r4 hf) ?_
    refine x_iload_n (pc' := 5) dX0_isThere_4 rfl rfl rfl ?_
    obtain ⟨hb, h⟩ := h
    refine x_iald (pc' := 6) dX0_isThere_5 rfl (OKF.a4 hf) (by rw [(OKF.n4 hf)]; exact hb) ?_
    refine x_if_ne (pc' := 9) (tgt := 13) dX0_isThere_6 (by decide) rfl (fun hc => ?_) (fun hc => ?_)
    · replace h := h.1 hc
      refine x_iconst (pc' := 14) (v := 0) dX0_isThere_13 rfl (by decide) ?_
      refine x_iret dX0_isThere_14 rfl rfl ?_
      show X none (d + 1) mX0_weightOfAll 17 [.ref f, .int x1, .int x2] [.int 0] σ _
      refine x_if_eq (pc' := 20) (tgt := 29) dX0_weightOfAll_17 (by decide) rfl (fun _ => ?_) (fun hc => absurd hc (by decide))
      refine x_iinc (pc' := 32) (v := 1) dX0_weightOfAll_29 rfl (by decide) rfl rfl (by decide) (ls' := [.ref f, .int x1, .int (x2 + 1)]) rfl ?_
      refine x_goto (pc' := 4) dX0_weightOfAll_32 (by decide) ?_
      exact h
    · replace h := h.2 hc
      refine x_iconst (pc' := 10) (v := 1) dX0_isThere_9 rfl (by decide) ?_
      refine x_goto (pc' := 14) dX0_isThere_10 (by decide) ?_
      refine x_iret dX0_isThere_14 rfl rfl ?_
      show X none (d + 1) mX0_weightOfAll 17 [.ref f, .int x1, .int x2] [.int 1] σ _
      refine x_if_eq (pc' := 20) (tgt := 29) dX0_weightOfAll_17 (by decide) rfl (fun hc => absurd hc (by decide)) (fun _ => ?_)
      refine x_iload_n (pc' := 21) dX0_weightOfAll_20 rfl rfl rfl ?_
      refine x_aload_n (pc' := 22) dX0_weightOfAll_21 rfl rfl rfl ?_
      refine x_getr (pc' := 25) dX0_weightOfAll_22 rfl lfX0_21 (OKF.k hf) rfl (OKF.r3 hf) ?_
      refine x_iload_n (pc' := 26) dX0_weightOfAll_25 rfl rfl rfl ?_
      obtain ⟨hb, h⟩ := h
      refine x_iald (pc' := 27) dX0_weightOfAll_26 rfl (OKF.a3 hf) (by rw [(OKF.n3 hf)]; exact hb) ?_
      refine x_iadd (pc' := 28) dX0_weightOfAll_27 rfl ?_
      refine x_istore_n (pc' := 29) dX0_weightOfAll_28 rfl rfl (by decide) rfl (ls' := [.ref f, .int (x1 + (σ.1 (f + 4) x2.toNatClampNeg)), .int x2]) rfl ?_
      refine x_iinc (pc' := 32) (v := 1) dX0_weightOfAll_29 rfl (by decide) rfl rfl (by decide) (ls' := [.ref f, .int (x1 + (σ.1 (f + 4) x2.toNatClampNeg)), .int (x2 + 1)]) rfl ?_
      refine x_goto (pc' := 4) dX0_weightOfAll_32 (by decide) ?_
      exact h
set_option maxRecDepth 100000 in
set_option maxHeartbeats 4000000 in
theorem vX0_distance_0 {d : Nat} {σ : Mem} {Q : Option Value → Mem → Prop} {f : Nat} {x1 x2 x3 : Int32} (hf : OKF f)
    (h : (vp_in x1 121 ∧ (vp_in x1 121 ∧ Q (some (.int (if (if 0 ≤ ((σ.1 (f + 2) x1.toNatClampNeg) - x2) then ((σ.1 (f + 2) x1.toNatClampNeg) - x2) else 0 - ((σ.1 (f + 2) x1.toNatClampNeg) - x2)) < (if 0 ≤ ((σ.1 (f + 3) x1.toNatClampNeg) - x3) then ((σ.1 (f + 3) x1.toNatClampNeg) - x3) else 0 - ((σ.1 (f + 3) x1.toNatClampNeg) - x3)) then (if 0 ≤ ((σ.1 (f + 3) x1.toNatClampNeg) - x3) then ((σ.1 (f + 3) x1.toNatClampNeg) - x3) else 0 - ((σ.1 (f + 3) x1.toNatClampNeg) - x3)) else (if 0 ≤ ((σ.1 (f + 2) x1.toNatClampNeg) - x2) then ((σ.1 (f + 2) x1.toNatClampNeg) - x2) else 0 - ((σ.1 (f + 2) x1.toNatClampNeg) - x2))))) σ))) :
    X none (d + 1) mX0_distance 0 [.ref f, .int x1, .int x2, .int x3] [] σ Q := by
  refine x_aload_n (pc' := 1) dX0_distance_0 rfl rfl rfl ?_
  refine x_getr (pc' := 4) dX0_distance_1 rfl lfX0_15 (OKF.k hf) rfl (OKF.r1 hf) ?_
  refine x_iload_n (pc' := 5) dX0_distance_4 rfl rfl rfl ?_
  obtain ⟨hb, h⟩ := h
  refine x_iald (pc' := 6) dX0_distance_5 rfl (OKF.a1 hf) (by rw [(OKF.n1 hf)]; exact hb) ?_
  refine x_iload_n (pc' := 7) dX0_distance_6 rfl rfl rfl ?_
  refine x_isub (pc' := 8) dX0_distance_7 rfl ?_
  refine x_mabs (pc' := 11) dX0_distance_8 rfl lmX0_71 (Nat.le_of_ble_eq_true rfl) ?_
  refine x_aload_n (pc' := 12) dX0_distance_11 rfl rfl rfl ?_
  refine x_getr (pc' := 15) dX0_distance_12 rfl lfX0_18 (OKF.k hf) rfl (OKF.r2 hf) ?_
  refine x_iload_n (pc' := 16) dX0_distance_15 rfl rfl rfl ?_
  obtain ⟨hb, h⟩ := h
  refine x_iald (pc' := 17) dX0_distance_16 rfl (OKF.a2 hf) (by rw [(OKF.n2 hf)]; exact hb) ?_
  refine x_iload_n (pc' := 18) dX0_distance_17 rfl rfl rfl ?_
  refine x_isub (pc' := 19) dX0_distance_18 rfl ?_
  refine x_mabs (pc' := 22) dX0_distance_19 rfl lmX0_71 (Nat.le_of_ble_eq_true rfl) ?_
  refine x_mmax (pc' := 25) dX0_distance_22 rfl lmX0_76 (Nat.le_of_ble_eq_true rfl) ?_
  exact x_iret dX0_distance_25 rfl rfl h
set_option maxRecDepth 100000 in
set_option maxHeartbeats 4000000 in
theorem vX0_isLess_0 {d : Nat} {σ : Mem} {Q : Option Value → Mem → Prop} {f : Nat} {x1 x2 : Int32} (hf : OKF f)
    (h : (vp_in x1 121 ∧ (vp_in x2 121 ∧ (((σ.1 (f + 2) x2.toNatClampNeg) ≤ (σ.1 (f + 2) x1.toNatClampNeg) → Q (some (.int 0)) σ) ∧ (¬ (σ.1 (f + 2) x2.toNatClampNeg) ≤ (σ.1 (f + 2) x1.toNatClampNeg) → (vp_in x1 121 ∧ (vp_in x2 121 ∧ (((σ.1 (f + 3) x2.toNatClampNeg) ≤ (σ.1 (f + 3) x1.toNatClampNeg) → Q (some (.int 0)) σ) ∧ (¬ (σ.1 (f + 3) x2.toNatClampNeg) ≤ (σ.1 (f + 3) x1.toNatClampNeg) → Q (some (.int 1)) σ))))))))) :
    X none d mX0_isLess 0 [.ref f, .int x1, .int x2] [] σ Q := by
  refine x_aload_n (pc' := 1) dX0_isLess_0 rfl rfl rfl ?_
  refine x_getr (pc' := 4) dX0_isLess_1 rfl lfX0_15 (OKF.k hf) rfl (OKF.r1 hf) ?_
  refine x_iload_n (pc' := 5) dX0_isLess_4 rfl rfl rfl ?_
  obtain ⟨hb, h⟩ := h
  refine x_iald (pc' := 6) dX0_isLess_5 rfl (OKF.a1 hf) (by rw [(OKF.n1 hf)]; exact hb) ?_
  refine x_aload_n (pc' := 7) dX0_isLess_6 rfl rfl rfl ?_
  refine x_getr (pc' := 10) dX0_isLess_7 rfl lfX0_15 (OKF.k hf) rfl (OKF.r1 hf) ?_
  refine x_iload_n (pc' := 11) dX0_isLess_10 rfl rfl rfl ?_
  obtain ⟨hb, h⟩ := h
  refine x_iald (pc' := 12) dX0_isLess_11 rfl (OKF.a1 hf) (by rw [(OKF.n1 hf)]; exact hb) ?_
  refine x_icmp_ge (pc' := 15) (tgt := 34) dX0_isLess_12 (by decide) rfl (fun hc => ?_) (fun hc => ?_)
  · replace h := h.1 hc
    refine x_iconst (pc' := 35) (v := 0) dX0_isLess_34 rfl (by decide) ?_
    exact x_iret dX0_isLess_35 rfl rfl h
  · replace h := h.2 hc
    refine x_aload_n (pc' := 16) dX0_isLess_15 rfl rfl rfl ?_
    refine x_getr (pc' := 19) dX0_isLess_16 rfl lfX0_18 (OKF.k hf) rfl (OKF.r2 hf) ?_
    refine x_iload_n (pc' := 20) dX0_isLess_19 rfl rfl rfl ?_
    obtain ⟨hb, h⟩ := h
    refine x_iald (pc' := 21) dX0_isLess_20 rfl (OKF.a2 hf) (by rw [(OKF.n2 hf)]; exact hb) ?_
    refine x_aload_n (pc' := 22) dX0_isLess_21 rfl rfl rfl ?_
    refine x_getr (pc' := 25) dX0_isLess_22 rfl lfX0_18 (OKF.k hf) rfl (OKF.r2 hf) ?_
    refine x_iload_n (pc' := 26) dX0_isLess_25 rfl rfl rfl ?_
    obtain ⟨hb, h⟩ := h
    refine x_iald (pc' := 27) dX0_isLess_26 rfl (OKF.a2 hf) (by rw [(OKF.n2 hf)]; exact hb) ?_
    refine x_icmp_ge (pc' := 30) (tgt := 34) dX0_isLess_27 (by decide) rfl (fun hc => ?_) (fun hc => ?_)
    · replace h := h.1 hc
      refine x_iconst (pc' := 35) (v := 0) dX0_isLess_34 rfl (by decide) ?_
      exact x_iret dX0_isLess_35 rfl rfl h
    · replace h := h.2 hc
      refine x_iconst (pc' := 31) (v := 1) dX0_isLess_30 rfl (by decide) ?_
      refine x_goto (pc' := 35) dX0_isLess_31 (by decide) ?_
      exact x_iret dX0_isLess_35 rfl rfl h
set_option maxRecDepth 100000 in
set_option maxHeartbeats 4000000 in
theorem vX0_isTopped_0 {d : Nat} {σ : Mem} {Q : Option Value → Mem → Prop} {f : Nat} {x1 x2 : Int32} (hf : OKF f)
    (h : (vp_in x2 121 ∧ (vp_in x1 121 ∧ (((σ.1 (f + 2) x2.toNatClampNeg) < (σ.1 (f + 2) x1.toNatClampNeg) → Q (some (.int 0)) σ) ∧ (¬ (σ.1 (f + 2) x2.toNatClampNeg) < (σ.1 (f + 2) x1.toNatClampNeg) → (vp_in x2 121 ∧ (vp_in x1 121 ∧ (((σ.1 (f + 3) x2.toNatClampNeg) < (σ.1 (f + 3) x1.toNatClampNeg) → Q (some (.int 0)) σ) ∧ (¬ (σ.1 (f + 3) x2.toNatClampNeg) < (σ.1 (f + 3) x1.toNatClampNeg) → (vp_in x2 121 ∧ (vp_in x1 121 ∧ ((¬ (σ.1 (f + 2) x2.toNatClampNeg) = (σ.1 (f + 2) x1.toNatClampNeg) → Q (some (.int 1)) σ) ∧ ((σ.1 (f + 2) x2.toNatClampNeg) = (σ.1 (f + 2) x1.toNatClampNeg) → (vp_in x2 121 ∧ (vp_in x1 121 ∧ (((σ.1 (f + 3) x2.toNatClampNeg) = (σ.1 (f + 3) x1.toNatClampNeg) → Q (some (.int 0)) σ) ∧ (¬ (σ.1 (f + 3) x2.toNatClampNeg) = (σ.1 (f + 3) x1.toNatClampNeg) → Q (some (.int 1)) σ))))))))))))))))) :
    X none d mX0_isTopped 0 [.ref f, .int x1, .int x2] [] σ Q := by
  refine x_aload_n (pc' := 1) dX0_isTopped_0 rfl rfl rfl ?_
  refine x_getr (pc' := 4) dX0_isTopped_1 rfl lfX0_15 (OKF.k hf) rfl (OKF.r1 hf) ?_
  refine x_iload_n (pc' := 5) dX0_isTopped_4 rfl rfl rfl ?_
  obtain ⟨hb, h⟩ := h
  refine x_iald (pc' := 6) dX0_isTopped_5 rfl (OKF.a1 hf) (by rw [(OKF.n1 hf)]; exact hb) ?_
  refine x_aload_n (pc' := 7) dX0_isTopped_6 rfl rfl rfl ?_
  refine x_getr (pc' := 10) dX0_isTopped_7 rfl lfX0_15 (OKF.k hf) rfl (OKF.r1 hf) ?_
  refine x_iload_n (pc' := 11) dX0_isTopped_10 rfl rfl rfl ?_
  obtain ⟨hb, h⟩ := h
  refine x_iald (pc' := 12) dX0_isTopped_11 rfl (OKF.a1 hf) (by rw [(OKF.n1 hf)]; exact hb) ?_
  refine x_icmp_lt (pc' := 15) (tgt := 64) dX0_isTopped_12 (by decide) rfl (fun hc => ?_) (fun hc => ?_)
  · replace h := h.1 hc
    refine x_iconst (pc' := 65) (v := 0) dX0_isTopped_64 rfl (by decide) ?_
    exact x_iret dX0_isTopped_65 rfl rfl h
  · replace h := h.2 hc
    refine x_aload_n (pc' := 16) dX0_isTopped_15 rfl rfl rfl ?_
    refine x_getr (pc' := 19) dX0_isTopped_16 rfl lfX0_18 (OKF.k hf) rfl (OKF.r2 hf) ?_
    refine x_iload_n (pc' := 20) dX0_isTopped_19 rfl rfl rfl ?_
    obtain ⟨hb, h⟩ := h
    refine x_iald (pc' := 21) dX0_isTopped_20 rfl (OKF.a2 hf) (by rw [(OKF.n2 hf)]; exact hb) ?_
    refine x_aload_n (pc' := 22) dX0_isTopped_21 rfl rfl rfl ?_
    refine x_getr (pc' := 25) dX0_isTopped_22 rfl lfX0_18 (OKF.k hf) rfl (OKF.r2 hf) ?_
    refine x_iload_n (pc' := 26) dX0_isTopped_25 rfl rfl rfl ?_
    obtain ⟨hb, h⟩ := h
    refine x_iald (pc' := 27) dX0_isTopped_26 rfl (OKF.a2 hf) (by rw [(OKF.n2 hf)]; exact hb) ?_
    refine x_icmp_lt (pc' := 30) (tgt := 64) dX0_isTopped_27 (by decide) rfl (fun hc => ?_) (fun hc => ?_)
    · replace h := h.1 hc
      refine x_iconst (pc' := 65) (v := 0) dX0_isTopped_64 rfl (by decide) ?_
      exact x_iret dX0_isTopped_65 rfl rfl h
    · replace h := h.2 hc
      refine x_aload_n (pc' := 31) dX0_isTopped_30 rfl rfl rfl ?_
      refine x_getr (pc' := 34) dX0_isTopped_31 rfl lfX0_15 (OKF.k hf) rfl (OKF.r1 hf) ?_
      refine x_iload_n (pc' := 35) dX0_isTopped_34 rfl rfl rfl ?_
      obtain ⟨hb, h⟩ := h
      refine x_iald (pc' := 36) dX0_isTopped_35 rfl (OKF.a1 hf) (by rw [(OKF.n1 hf)]; exact hb) ?_
      refine x_aload_n (pc' := 37) dX0_isTopped_36 rfl rfl rfl ?_
      refine x_getr (pc' := 40) dX0_isTopped_37 rfl lfX0_15 (OKF.k hf) rfl (OKF.r1 hf) ?_
      refine x_iload_n (pc' := 41) dX0_isTopped_40 rfl rfl rfl ?_
      obtain ⟨hb, h⟩ := h
      refine x_iald (pc' := 42) dX0_isTopped_41 rfl (OKF.a1 hf) (by rw [(OKF.n1 hf)]; exact hb) ?_
      refine x_icmp_ne (pc' := 45) (tgt := 60) dX0_isTopped_42 (by decide) rfl (fun hc => ?_) (fun hc => ?_)
      · replace h := h.1 hc
        refine x_iconst (pc' := 61) (v := 1) dX0_isTopped_60 rfl (by decide) ?_
        refine x_goto (pc' := 65) dX0_isTopped_61 (by decide) ?_
        exact x_iret dX0_isTopped_65 rfl rfl h
      · replace h := h.2 hc
        refine x_aload_n (pc' := 46) dX0_isTopped_45 rfl rfl rfl ?_
        refine x_getr (pc' := 49) dX0_isTopped_46 rfl lfX0_18 (OKF.k hf) rfl (OKF.r2 hf) ?_
        refine x_iload_n (pc' := 50) dX0_isTopped_49 rfl rfl rfl ?_
        obtain ⟨hb, h⟩ := h
        refine x_iald (pc' := 51) dX0_isTopped_50 rfl (OKF.a2 hf) (by rw [(OKF.n2 hf)]; exact hb) ?_
        refine x_aload_n (pc' := 52) dX0_isTopped_51 rfl rfl rfl ?_
        refine x_getr (pc' := 55) dX0_isTopped_52 rfl lfX0_18 (OKF.k hf) rfl (OKF.r2 hf) ?_
        refine x_iload_n (pc' := 56) dX0_isTopped_55 rfl rfl rfl ?_
        obtain ⟨hb, h⟩ := h
        refine x_iald (pc' := 57) dX0_isTopped_56 rfl (OKF.a2 hf) (by rw [(OKF.n2 hf)]; exact hb) ?_
        refine x_icmp_eq (pc' := 60) (tgt := 64) dX0_isTopped_57 (by decide) rfl (fun hc => ?_) (fun hc => ?_)
        · replace h := h.1 hc
          refine x_iconst (pc' := 65) (v := 0) dX0_isTopped_64 rfl (by decide) ?_
          exact x_iret dX0_isTopped_65 rfl rfl h
        · replace h := h.2 hc
          refine x_iconst (pc' := 61) (v := 1) dX0_isTopped_60 rfl (by decide) ?_
          refine x_goto (pc' := 65) dX0_isTopped_61 (by decide) ?_
          exact x_iret dX0_isTopped_65 rfl rfl h
set_option maxRecDepth 100000 in
set_option maxHeartbeats 4000000 in
theorem vX0_isBeforeByPlace_0 {d : Nat} {σ : Mem} {Q : Option Value → Mem → Prop} {f : Nat} {x1 x2 : Int32} (hf : OKF f)
    (h : (vp_in x1 121 ∧ (vp_in x2 121 ∧ (((σ.1 (f + 2) x1.toNatClampNeg) = (σ.1 (f + 2) x2.toNatClampNeg) → (vp_in x1 121 ∧ (vp_in x2 121 ∧ (((σ.1 (f + 3) x1.toNatClampNeg) = (σ.1 (f + 3) x2.toNatClampNeg) → (vp_in x1 121 ∧ (vp_in x2 121 ∧ (((σ.1 (f + 1) x2.toNatClampNeg) ≤ (σ.1 (f + 1) x1.toNatClampNeg) → Q (some (.int 0)) σ) ∧ (¬ (σ.1 (f + 1) x2.toNatClampNeg) ≤ (σ.1 (f + 1) x1.toNatClampNeg) → Q (some (.int 1)) σ))))) ∧ (¬ (σ.1 (f + 3) x1.toNatClampNeg) = (σ.1 (f + 3) x2.toNatClampNeg) → (vp_in x1 121 ∧ (vp_in x2 121 ∧ (((σ.1 (f + 3) x2.toNatClampNeg) ≤ (σ.1 (f + 3) x1.toNatClampNeg) → Q (some (.int 0)) σ) ∧ (¬ (σ.1 (f + 3) x2.toNatClampNeg) ≤ (σ.1 (f + 3) x1.toNatClampNeg) → Q (some (.int 1)) σ))))))))) ∧ (¬ (σ.1 (f + 2) x1.toNatClampNeg) = (σ.1 (f + 2) x2.toNatClampNeg) → (vp_in x1 121 ∧ (vp_in x2 121 ∧ (((σ.1 (f + 2) x2.toNatClampNeg) ≤ (σ.1 (f + 2) x1.toNatClampNeg) → Q (some (.int 0)) σ) ∧ (¬ (σ.1 (f + 2) x2.toNatClampNeg) ≤ (σ.1 (f + 2) x1.toNatClampNeg) → Q (some (.int 1)) σ))))))))) :
    X none d mX0_isBeforeByPlace 0 [.ref f, .int x1, .int x2] [] σ Q := by
  refine x_aload_n (pc' := 1) dX0_isBeforeByPlace_0 rfl rfl rfl ?_
  refine x_getr (pc' := 4) dX0_isBeforeByPlace_1 rfl lfX0_15 (OKF.k hf) rfl (OKF.r1 hf) ?_
  refine x_iload_n (pc' := 5) dX0_isBeforeByPlace_4 rfl rfl rfl ?_
  obtain ⟨hb, h⟩ := h
  refine x_iald (pc' := 6) dX0_isBeforeByPlace_5 rfl (OKF.a1 hf) (by rw [(OKF.n1 hf)]; exact hb) ?_
  refine x_aload_n (pc' := 7) dX0_isBeforeByPlace_6 rfl rfl rfl ?_
  refine x_getr (pc' := 10) dX0_isBeforeByPlace_7 rfl lfX0_15 (OKF.k hf) rfl (OKF.r1 hf) ?_
  refine x_iload_n (pc' := 11) dX0_isBeforeByPlace_10 rfl rfl rfl ?_
  obtain ⟨hb, h⟩ := h
  refine x_iald (pc' := 12) dX0_isBeforeByPlace_11 rfl (OKF.a1 hf) (by rw [(OKF.n1 hf)]; exact hb) ?_
  refine x_icmp_eq (pc' := 15) (tgt := 36) dX0_isBeforeByPlace_12 (by decide) rfl (fun hc => ?_) (fun hc => ?_)
  · replace h := h.1 hc
    refine x_aload_n (pc' := 37) dX0_isBeforeByPlace_36 rfl rfl rfl ?_
    refine x_getr (pc' := 40) dX0_isBeforeByPlace_37 rfl lfX0_18 (OKF.k hf) rfl (OKF.r2 hf) ?_
    refine x_iload_n (pc' := 41) dX0_isBeforeByPlace_40 rfl rfl rfl ?_
    obtain ⟨hb, h⟩ := h
    refine x_iald (pc' := 42) dX0_isBeforeByPlace_41 rfl (OKF.a2 hf) (by rw [(OKF.n2 hf)]; exact hb) ?_
    refine x_aload_n (pc' := 43) dX0_isBeforeByPlace_42 rfl rfl rfl ?_
    refine x_getr (pc' := 46) dX0_isBeforeByPlace_43 rfl lfX0_18 (OKF.k hf) rfl (OKF.r2 hf) ?_
    refine x_iload_n (pc' := 47) dX0_isBeforeByPlace_46 rfl rfl rfl ?_
    obtain ⟨hb, h⟩ := h
    refine x_iald (pc' := 48) dX0_isBeforeByPlace_47 rfl (OKF.a2 hf) (by rw [(OKF.n2 hf)]; exact hb) ?_
    refine x_icmp_eq (pc' := 51) (tgt := 72) dX0_isBeforeByPlace_48 (by decide) rfl (fun hc => ?_) (fun hc => ?_)
    · replace h := h.1 hc
      refine x_aload_n (pc' := 73) dX0_isBeforeByPlace_72 rfl rfl rfl ?_
      refine x_getr (pc' := 76) dX0_isBeforeByPlace_73 rfl lfX0_11 (OKF.k hf) rfl (OKF.r0 hf) ?_
      refine x_iload_n (pc' := 77) dX0_isBeforeByPlace_76 rfl rfl rfl ?_
      obtain ⟨hb, h⟩ := h
      refine x_iald (pc' := 78) dX0_isBeforeByPlace_77 rfl (OKF.a0 hf) (by rw [(OKF.n0 hf)]; exact hb) ?_
      refine x_aload_n (pc' := 79) dX0_isBeforeByPlace_78 rfl rfl rfl ?_
      refine x_getr (pc' := 82) dX0_isBeforeByPlace_79 rfl lfX0_11 (OKF.k hf) rfl (OKF.r0 hf) ?_
      refine x_iload_n (pc' := 83) dX0_isBeforeByPlace_82 rfl rfl rfl ?_
      obtain ⟨hb, h⟩ := h
      refine x_iald (pc' := 84) dX0_isBeforeByPlace_83 rfl (OKF.a0 hf) (by rw [(OKF.n0 hf)]; exact hb) ?_
      refine x_icmp_ge (pc' := 87) (tgt := 91) dX0_isBeforeByPlace_84 (by decide) rfl (fun hc => ?_) (fun hc => ?_)
      · replace h := h.1 hc
        refine x_iconst (pc' := 92) (v := 0) dX0_isBeforeByPlace_91 rfl (by decide) ?_
        exact x_iret dX0_isBeforeByPlace_92 rfl rfl h
      · replace h := h.2 hc
        refine x_iconst (pc' := 88) (v := 1) dX0_isBeforeByPlace_87 rfl (by decide) ?_
        refine x_goto (pc' := 92) dX0_isBeforeByPlace_88 (by decide) ?_
        exact x_iret dX0_isBeforeByPlace_92 rfl rfl h
    · replace h := h.2 hc
      refine x_aload_n (pc' := 52) dX0_isBeforeByPlace_51 rfl rfl rfl ?_
      refine x_getr (pc' := 55) dX0_isBeforeByPlace_52 rfl lfX0_18 (OKF.k hf) rfl (OKF.r2 hf) ?_
      refine x_iload_n (pc' := 56) dX0_isBeforeByPlace_55 rfl rfl rfl ?_
      obtain ⟨hb, h⟩ := h
      refine x_iald (pc' := 57) dX0_isBeforeByPlace_56 rfl (OKF.a2 hf) (by rw [(OKF.n2 hf)]; exact hb) ?_
      refine x_aload_n (pc' := 58) dX0_isBeforeByPlace_57 rfl rfl rfl ?_
      refine x_getr (pc' := 61) dX0_isBeforeByPlace_58 rfl lfX0_18 (OKF.k hf) rfl (OKF.r2 hf) ?_
      refine x_iload_n (pc' := 62) dX0_isBeforeByPlace_61 rfl rfl rfl ?_
      obtain ⟨hb, h⟩ := h
      refine x_iald (pc' := 63) dX0_isBeforeByPlace_62 rfl (OKF.a2 hf) (by rw [(OKF.n2 hf)]; exact hb) ?_
      refine x_icmp_ge (pc' := 66) (tgt := 70) dX0_isBeforeByPlace_63 (by decide) rfl (fun hc => ?_) (fun hc => ?_)
      · replace h := h.1 hc
        refine x_iconst (pc' := 71) (v := 0) dX0_isBeforeByPlace_70 rfl (by decide) ?_
        exact x_iret dX0_isBeforeByPlace_71 rfl rfl h
      · replace h := h.2 hc
        refine x_iconst (pc' := 67) (v := 1) dX0_isBeforeByPlace_66 rfl (by decide) ?_
        refine x_goto (pc' := 71) dX0_isBeforeByPlace_67 (by decide) ?_
        exact x_iret dX0_isBeforeByPlace_71 rfl rfl h
  · replace h := h.2 hc
    refine x_aload_n (pc' := 16) dX0_isBeforeByPlace_15 rfl rfl rfl ?_
    refine x_getr (pc' := 19) dX0_isBeforeByPlace_16 rfl lfX0_15 (OKF.k hf) rfl (OKF.r1 hf) ?_
    refine x_iload_n (pc' := 20) dX0_isBeforeByPlace_19 rfl rfl rfl ?_
    obtain ⟨hb, h⟩ := h
    refine x_iald (pc' := 21) dX0_isBeforeByPlace_20 rfl (OKF.a1 hf) (by rw [(OKF.n1 hf)]; exact hb) ?_
    refine x_aload_n (pc' := 22) dX0_isBeforeByPlace_21 rfl rfl rfl ?_
    refine x_getr (pc' := 25) dX0_isBeforeByPlace_22 rfl lfX0_15 (OKF.k hf) rfl (OKF.r1 hf) ?_
    refine x_iload_n (pc' := 26) dX0_isBeforeByPlace_25 rfl rfl rfl ?_
    obtain ⟨hb, h⟩ := h
    refine x_iald (pc' := 27) dX0_isBeforeByPlace_26 rfl (OKF.a1 hf) (by rw [(OKF.n1 hf)]; exact hb) ?_
    refine x_icmp_ge (pc' := 30) (tgt := 34) dX0_isBeforeByPlace_27 (by decide) rfl (fun hc => ?_) (fun hc => ?_)
    · replace h := h.1 hc
      refine x_iconst (pc' := 35) (v := 0) dX0_isBeforeByPlace_34 rfl (by decide) ?_
      exact x_iret dX0_isBeforeByPlace_35 rfl rfl h
    · replace h := h.2 hc
      refine x_iconst (pc' := 31) (v := 1) dX0_isBeforeByPlace_30 rfl (by decide) ?_
      refine x_goto (pc' := 35) dX0_isBeforeByPlace_31 (by decide) ?_
      exact x_iret dX0_isBeforeByPlace_35 rfl rfl h
set_option maxRecDepth 100000 in
set_option maxHeartbeats 4000000 in
theorem vX0_copyFrom_0 {d : Nat} {σ : Mem} {Q : Option Value → Mem → Prop} {f g : Nat} (hf : OKF f) (hg : OKF g)
    (h : (¬ (σ.1 g 5) < 0 ∧ (0 : Int32).toNatClampNeg + (σ.1 g 5).toNatClampNeg ≤ 121 ∧ (0 : Int32).toNatClampNeg + (σ.1 g 5).toNatClampNeg ≤ 121 ∧ (∀ τ1 : Mem, τ1 = (wc σ (g + 1) (f + 1) 0 0 (σ.1 g 5).toNatClampNeg) → (¬ (σ.1 g 5) < 0 ∧ (0 : Int32).toNatClampNeg + (σ.1 g 5).toNatClampNeg ≤ 121 ∧ (0 : Int32).toNatClampNeg + (σ.1 g 5).toNatClampNeg ≤ 121 ∧ (∀ τ2 : Mem, τ2 = (wc τ1 (g + 2) (f + 2) 0 0 (σ.1 g 5).toNatClampNeg) → (¬ (σ.1 g 5) < 0 ∧ (0 : Int32).toNatClampNeg + (σ.1 g 5).toNatClampNeg ≤ 121 ∧ (0 : Int32).toNatClampNeg + (σ.1 g 5).toNatClampNeg ≤ 121 ∧ (∀ τ3 : Mem, τ3 = (wc τ2 (g + 3) (f + 3) 0 0 (σ.1 g 5).toNatClampNeg) → (¬ (σ.1 g 5) < 0 ∧ (0 : Int32).toNatClampNeg + (σ.1 g 5).toNatClampNeg ≤ 121 ∧ (0 : Int32).toNatClampNeg + (σ.1 g 5).toNatClampNeg ≤ 121 ∧ (∀ τ4 : Mem, τ4 = (wc τ3 (g + 4) (f + 4) 0 0 (σ.1 g 5).toNatClampNeg) → (¬ (σ.1 g 5) < 0 ∧ (0 : Int32).toNatClampNeg + (σ.1 g 5).toNatClampNeg ≤ 121 ∧ (0 : Int32).toNatClampNeg + (σ.1 g 5).toNatClampNeg ≤ 121 ∧ (∀ τ5 : Mem, τ5 = (wc τ4 (g + 5) (f + 5) 0 0 (σ.1 g 5).toNatClampNeg) → (∀ τ6 : Mem, τ6 = (w1 τ5 f 5 (σ.1 g 5)) → (∀ τ7 : Mem, τ7 = (w1 τ6 f 6 (τ6.1 g 6)) → (∀ τ8 : Mem, τ8 = (w1 τ7 f 7 (τ7.1 g 7)) → (∀ τ9 : Mem, τ9 = (w1 τ8 f 8 (τ8.1 g 8)) → (∀ τ10 : Mem, τ10 = (w1 τ9 f 9 (τ9.1 g 9)) → (∀ τ11 : Mem, τ11 = (w1 τ10 f 10 (τ10.1 g 10)) → Q (none) τ11))))))))))))))))) :
    X none (d + 1) mX0_copyFrom 0 [.ref f, .ref g, Unk] [] σ Q := by
  refine x_aload_n (pc' := 1) dX0_copyFrom_0 rfl rfl rfl ?_
  refine x_geti (pc' := 4) dX0_copyFrom_1 rfl lfX0_27 (OKF.k hg) rfl ?_
  refine x_istore_n (pc' := 5) dX0_copyFrom_4 rfl rfl (by decide) rfl (ls' := [.ref f, .ref g, .int (σ.1 g 5)]) rfl ?_
  refine x_aload_n (pc' := 6) dX0_copyFrom_5 rfl rfl rfl ?_
  refine x_getr (pc' := 9) dX0_copyFrom_6 rfl lfX0_11 (OKF.k hg) rfl (OKF.r0 hg) ?_
  refine x_iconst (pc' := 10) (v := 0) dX0_copyFrom_9 rfl (by decide) ?_
  refine x_aload_n (pc' := 11) dX0_copyFrom_10 rfl rfl rfl ?_
  refine x_getr (pc' := 14) dX0_copyFrom_11 rfl lfX0_11 (OKF.k hf) rfl (OKF.r0 hf) ?_
  refine x_iconst (pc' := 15) (v := 0) dX0_copyFrom_14 rfl (by decide) ?_
  refine x_iload_n (pc' := 16) dX0_copyFrom_15 rfl rfl rfl ?_
  obtain ⟨hc1, hc2, hc3, h⟩ := h
  refine x_copy (pc' := 19) dX0_copyFrom_16 rfl laX0_90 (OKF.a0 hg) (OKF.a0 hf) (by decide) (by decide) hc1 (by rw [(OKF.n0 hg)]; exact hc2) (by rw [(OKF.n0 hf)]; exact hc3) ?_
  obtain ⟨τ1, eτ1⟩ : ∃ τ : Mem, τ = (wc σ (g + 1) (f + 1) 0 0 (σ.1 g 5).toNatClampNeg) := ⟨_, rfl⟩
  show X none (d + 1) mX0_copyFrom 19 [.ref f, .ref g, .int (σ.1 g 5)] [] (wc σ (g + 1) (f + 1) 0 0 (σ.1 g 5).toNatClampNeg) _
  rw [← eτ1]
  replace h := h τ1 eτ1
  refine x_aload_n (pc' := 20) dX0_copyFrom_19 rfl rfl rfl ?_
  refine x_getr (pc' := 23) dX0_copyFrom_20 rfl lfX0_15 (OKF.k hg) rfl (OKF.r1 hg) ?_
  refine x_iconst (pc' := 24) (v := 0) dX0_copyFrom_23 rfl (by decide) ?_
  refine x_aload_n (pc' := 25) dX0_copyFrom_24 rfl rfl rfl ?_
  refine x_getr (pc' := 28) dX0_copyFrom_25 rfl lfX0_15 (OKF.k hf) rfl (OKF.r1 hf) ?_
  refine x_iconst (pc' := 29) (v := 0) dX0_copyFrom_28 rfl (by decide) ?_
  refine x_iload_n (pc' := 30) dX0_copyFrom_29 rfl rfl rfl ?_
  obtain ⟨hc1, hc2, hc3, h⟩ := h
  refine x_copy (pc' := 33) dX0_copyFrom_30 rfl laX0_90 (OKF.a1 hg) (OKF.a1 hf) (by decide) (by decide) hc1 (by rw [(OKF.n1 hg)]; exact hc2) (by rw [(OKF.n1 hf)]; exact hc3) ?_
  obtain ⟨τ2, eτ2⟩ : ∃ τ : Mem, τ = (wc τ1 (g + 2) (f + 2) 0 0 (σ.1 g 5).toNatClampNeg) := ⟨_, rfl⟩
  show X none (d + 1) mX0_copyFrom 33 [.ref f, .ref g, .int (σ.1 g 5)] [] (wc τ1 (g + 2) (f + 2) 0 0 (σ.1 g 5).toNatClampNeg) _
  rw [← eτ2]
  replace h := h τ2 eτ2
  refine x_aload_n (pc' := 34) dX0_copyFrom_33 rfl rfl rfl ?_
  refine x_getr (pc' := 37) dX0_copyFrom_34 rfl lfX0_18 (OKF.k hg) rfl (OKF.r2 hg) ?_
  refine x_iconst (pc' := 38) (v := 0) dX0_copyFrom_37 rfl (by decide) ?_
  refine x_aload_n (pc' := 39) dX0_copyFrom_38 rfl rfl rfl ?_
  refine x_getr (pc' := 42) dX0_copyFrom_39 rfl lfX0_18 (OKF.k hf) rfl (OKF.r2 hf) ?_
  refine x_iconst (pc' := 43) (v := 0) dX0_copyFrom_42 rfl (by decide) ?_
  refine x_iload_n (pc' := 44) dX0_copyFrom_43 rfl rfl rfl ?_
  obtain ⟨hc1, hc2, hc3, h⟩ := h
  refine x_copy (pc' := 47) dX0_copyFrom_44 rfl laX0_90 (OKF.a2 hg) (OKF.a2 hf) (by decide) (by decide) hc1 (by rw [(OKF.n2 hg)]; exact hc2) (by rw [(OKF.n2 hf)]; exact hc3) ?_
  obtain ⟨τ3, eτ3⟩ : ∃ τ : Mem, τ = (wc τ2 (g + 3) (f + 3) 0 0 (σ.1 g 5).toNatClampNeg) := ⟨_, rfl⟩
  show X none (d + 1) mX0_copyFrom 47 [.ref f, .ref g, .int (σ.1 g 5)] [] (wc τ2 (g + 3) (f + 3) 0 0 (σ.1 g 5).toNatClampNeg) _
  rw [← eτ3]
  replace h := h τ3 eτ3
  refine x_aload_n (pc' := 48) dX0_copyFrom_47 rfl rfl rfl ?_
  refine x_getr (pc' := 51) dX0_copyFrom_48 rfl lfX0_21 (OKF.k hg) rfl (OKF.r3 hg) ?_
  refine x_iconst (pc' := 52) (v := 0) dX0_copyFrom_51 rfl (by decide) ?_
  refine x_aload_n (pc' := 53) dX0_copyFrom_52 rfl rfl rfl ?_
  refine x_getr (pc' := 56) dX0_copyFrom_53 rfl lfX0_21 (OKF.k hf) rfl (OKF.r3 hf) ?_
  refine x_iconst (pc' := 57) (v := 0) dX0_copyFrom_56 rfl (by decide) ?_
  refine x_iload_n (pc' := 58) dX0_copyFrom_57 rfl rfl rfl ?_
  obtain ⟨hc1, hc2, hc3, h⟩ := h
  refine x_copy (pc' := 61) dX0_copyFrom_58 rfl laX0_90 (OKF.a3 hg) (OKF.a3 hf) (by decide) (by decide) hc1 (by rw [(OKF.n3 hg)]; exact hc2) (by rw [(OKF.n3 hf)]; exact hc3) ?_
  obtain ⟨τ4, eτ4⟩ : ∃ τ : Mem, τ = (wc τ3 (g + 4) (f + 4) 0 0 (σ.1 g 5).toNatClampNeg) := ⟨_, rfl⟩
  show X none (d + 1) mX0_copyFrom 61 [.ref f, .ref g, .int (σ.1 g 5)] [] (wc τ3 (g + 4) (f + 4) 0 0 (σ.1 g 5).toNatClampNeg) _
  rw [← eτ4]
  replace h := h τ4 eτ4
  refine x_aload_n (pc' := 62) dX0_copyFrom_61 rfl rfl rfl ?_
  refine x_getr (pc' := 65) dX0_copyFrom_62 rfl lfX0_24 (OKF.k hg) rfl (OKF.r4 hg) ?_
  refine x_iconst (pc' := 66) (v := 0) dX0_copyFrom_65 rfl (by decide) ?_
  refine x_aload_n (pc' := 67) dX0_copyFrom_66 rfl rfl rfl ?_
  refine x_getr (pc' := 70) dX0_copyFrom_67 rfl lfX0_24 (OKF.k hf) rfl (OKF.r4 hf) ?_
  refine x_iconst (pc' := 71) (v := 0) dX0_copyFrom_70 rfl (by decide) ?_
  refine x_iload_n (pc' := 72) dX0_copyFrom_71 rfl rfl rfl ?_
  obtain ⟨hc1, hc2, hc3, h⟩ := h
  refine x_copy (pc' := 75) dX0_copyFrom_72 rfl laX0_90 (OKF.a4 hg) (OKF.a4 hf) (by decide) (by decide) hc1 (by rw [(OKF.n4 hg)]; exact hc2) (by rw [(OKF.n4 hf)]; exact hc3) ?_
  obtain ⟨τ5, eτ5⟩ : ∃ τ : Mem, τ = (wc τ4 (g + 5) (f + 5) 0 0 (σ.1 g 5).toNatClampNeg) := ⟨_, rfl⟩
  show X none (d + 1) mX0_copyFrom 75 [.ref f, .ref g, .int (σ.1 g 5)] [] (wc τ4 (g + 5) (f + 5) 0 0 (σ.1 g 5).toNatClampNeg) _
  rw [← eτ5]
  replace h := h τ5 eτ5
  refine x_aload_n (pc' := 76) dX0_copyFrom_75 rfl rfl rfl ?_
  refine x_iload_n (pc' := 77) dX0_copyFrom_76 rfl rfl rfl ?_
  refine x_puti (pc' := 80) dX0_copyFrom_77 rfl lfX0_27 (OKF.k hf) rfl rfl rfl ?_
  obtain ⟨τ6, eτ6⟩ : ∃ τ : Mem, τ = (w1 τ5 f 5 (σ.1 g 5)) := ⟨_, rfl⟩
  show X none (d + 1) mX0_copyFrom 80 [.ref f, .ref g, .int (σ.1 g 5)] [] (w1 τ5 f 5 (σ.1 g 5)) _
  rw [← eτ6]
  replace h := h τ6 eτ6
  refine x_aload_n (pc' := 81) dX0_copyFrom_80 rfl rfl rfl ?_
  refine x_aload_n (pc' := 82) dX0_copyFrom_81 rfl rfl rfl ?_
  refine x_geti (pc' := 85) dX0_copyFrom_82 rfl lfX0_31 (OKF.k hg) rfl ?_
  refine x_puti (pc' := 88) dX0_copyFrom_85 rfl lfX0_31 (OKF.k hf) rfl rfl rfl ?_
  obtain ⟨τ7, eτ7⟩ : ∃ τ : Mem, τ = (w1 τ6 f 6 (τ6.1 g 6)) := ⟨_, rfl⟩
  show X none (d + 1) mX0_copyFrom 88 [.ref f, .ref g, .int (σ.1 g 5)] [] (w1 τ6 f 6 (τ6.1 g 6)) _
  rw [← eτ7]
  replace h := h τ7 eτ7
  refine x_aload_n (pc' := 89) dX0_copyFrom_88 rfl rfl rfl ?_
  refine x_aload_n (pc' := 90) dX0_copyFrom_89 rfl rfl rfl ?_
  refine x_geti (pc' := 93) dX0_copyFrom_90 rfl lfX0_48 (OKF.k hg) rfl ?_
  refine x_puti (pc' := 96) dX0_copyFrom_93 rfl lfX0_48 (OKF.k hf) rfl rfl rfl ?_
  obtain ⟨τ8, eτ8⟩ : ∃ τ : Mem, τ = (w1 τ7 f 7 (τ7.1 g 7)) := ⟨_, rfl⟩
  show X none (d + 1) mX0_copyFrom 96 [.ref f, .ref g, .int (σ.1 g 5)] [] (w1 τ7 f 7 (τ7.1 g 7)) _
  rw [← eτ8]
  replace h := h τ8 eτ8
  refine x_aload_n (pc' := 97) dX0_copyFrom_96 rfl rfl rfl ?_
  refine x_aload_n (pc' := 98) dX0_copyFrom_97 rfl rfl rfl ?_
  refine x_geti (pc' := 101) dX0_copyFrom_98 rfl lfX0_62 (OKF.k hg) rfl ?_
  refine x_puti (pc' := 104) dX0_copyFrom_101 rfl lfX0_62 (OKF.k hf) rfl rfl rfl ?_
  obtain ⟨τ9, eτ9⟩ : ∃ τ : Mem, τ = (w1 τ8 f 8 (τ8.1 g 8)) := ⟨_, rfl⟩
  show X none (d + 1) mX0_copyFrom 104 [.ref f, .ref g, .int (σ.1 g 5)] [] (w1 τ8 f 8 (τ8.1 g 8)) _
  rw [← eτ9]
  replace h := h τ9 eτ9
  refine x_aload_n (pc' := 105) dX0_copyFrom_104 rfl rfl rfl ?_
  refine x_aload_n (pc' := 106) dX0_copyFrom_105 rfl rfl rfl ?_
  refine x_geti (pc' := 109) dX0_copyFrom_106 rfl lfX0_65 (OKF.k hg) rfl ?_
  refine x_puti (pc' := 112) dX0_copyFrom_109 rfl lfX0_65 (OKF.k hf) rfl rfl rfl ?_
  obtain ⟨τ10, eτ10⟩ : ∃ τ : Mem, τ = (w1 τ9 f 9 (τ9.1 g 9)) := ⟨_, rfl⟩
  show X none (d + 1) mX0_copyFrom 112 [.ref f, .ref g, .int (σ.1 g 5)] [] (w1 τ9 f 9 (τ9.1 g 9)) _
  rw [← eτ10]
  replace h := h τ10 eτ10
  refine x_aload_n (pc' := 113) dX0_copyFrom_112 rfl rfl rfl ?_
  refine x_aload_n (pc' := 114) dX0_copyFrom_113 rfl rfl rfl ?_
  refine x_geti (pc' := 117) dX0_copyFrom_114 rfl lfX0_34 (OKF.k hg) rfl ?_
  refine x_puti (pc' := 120) dX0_copyFrom_117 rfl lfX0_34 (OKF.k hf) rfl rfl rfl ?_
  obtain ⟨τ11, eτ11⟩ : ∃ τ : Mem, τ = (w1 τ10 f 10 (τ10.1 g 10)) := ⟨_, rfl⟩
  show X none (d + 1) mX0_copyFrom 120 [.ref f, .ref g, .int (σ.1 g 5)] [] (w1 τ10 f 10 (τ10.1 g 10)) _
  rw [← eτ11]
  replace h := h τ11 eτ11
  exact x_vret dX0_copyFrom_120 rfl h
