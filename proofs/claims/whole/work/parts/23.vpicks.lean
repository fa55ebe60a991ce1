set_option maxRecDepth 100000 in
set_option maxHeartbeats 4000000 in
theorem vX6_inRectangle_0 {d : Nat} {σ : Mem} {Q : Option Value → Mem → Prop} {q : Nat} {x1 x2 x3 : Int32} (hq : OKS q)
    (h : ((x1 < (σ.1 q 3) → (vp_in (4 * x1) 48 ∧ ((x2 < (σ.1 (q + 2) (4 * x1).toNatClampNeg) → Q (some (.int 0)) σ) ∧ (¬ x2 < (σ.1 (q + 2) (4 * x1).toNatClampNeg) → (vp_in ((4 * x1) + 1) 48 ∧ (((σ.1 (q + 2) ((4 * x1) + 1).toNatClampNeg) < x2 → Q (some (.int 0)) σ) ∧ (¬ (σ.1 (q + 2) ((4 * x1) + 1).toNatClampNeg) < x2 → (vp_in ((4 * x1) + 2) 48 ∧ ((x3 < (σ.1 (q + 2) ((4 * x1) + 2).toNatClampNeg) → Q (some (.int 0)) σ) ∧ (¬ x3 < (σ.1 (q + 2) ((4 * x1) + 2).toNatClampNeg) → (vp_in ((4 * x1) + 3) 48 ∧ (((σ.1 (q + 2) ((4 * x1) + 3).toNatClampNeg) < x3 → Q (some (.int 0)) σ) ∧ (¬ (σ.1 (q + 2) ((4 * x1) + 3).toNatClampNeg) < x3 → Q (some (.int 1)) σ))))))))))))) ∧ (¬ x1 < (σ.1 q 3) → Q (some (.int 0)) σ))) :
    X none d mX6_inRectangle 0 [.ref q, .int x1, .int x2, .int x3, Unk] [] σ Q := by
  refine x_iload_n (pc' := 1) dX6_inRectangle_0 rfl rfl rfl ?_
  refine x_aload_n (pc' := 2) dX6_inRectangle_1 rfl rfl rfl ?_
  refine x_geti (pc' := 5) dX6_inRectangle_2 rfl lfX6_22 (OKS.k hq) rfl ?_
  refine x_icmp_lt (pc' := 8) (tgt := 10) dX6_inRectangle_5 (by decide) rfl (fun hc => ?_) (fun hc => ?_)
  · replace h := h.1 hc
    refine x_iconst (pc' := 11) (v := 4) dX6_inRectangle_10 rfl (by decide) ?_
    refine x_iload_n (pc' := 12) dX6_inRectangle_11 rfl rfl rfl ?_
    refine x_imul (pc' := 13) dX6_inRectangle_12 rfl ?_
    refine x_istore (pc' := 15) dX6_inRectangle_13 rfl (by decide) rfl (ls' := [.ref q, .int x1, .int x2, .int x3, .int (4 * x1)]) rfl ?_
    refine x_iload_n (pc' := 16) dX6_inRectangle_15 rfl rfl rfl ?_
    refine x_aload_n (pc' := 17) dX6_inRectangle_16 rfl rfl rfl ?_
    refine x_getr (pc' := 20) dX6_inRectangle_17 rfl lfX6_15 (OKS.k hq) rfl (OKS.r1 hq) ?_
    refine x_iload (pc' := 22) dX6_inRectangle_20 rfl rfl ?_
    obtain ⟨hb, h⟩ := h
    refine x_iald (pc' := 23) dX6_inRectangle_22 rfl (OKS.a1 hq) (by rw [(OKS.n1 hq)]; exact hb) ?_
    refine x_icmp_lt (pc' := 26) (tgt := 69) dX6_inRectangle_23 (by decide) rfl (fun hc => ?_) (fun hc => ?_)
    · replace h := h.1 hc
      refine x_iconst (pc' := 70) (v := 0) dX6_inRectangle_69 rfl (by decide) ?_
      exact x_iret dX6_inRectangle_70 rfl rfl h
    · replace h := h.2 hc
      refine x_iload_n (pc' := 27) dX6_inRectangle_26 rfl rfl rfl ?_
      refine x_aload_n (pc' := 28) dX6_inRectangle_27 rfl rfl rfl ?_
      refine x_getr (pc' := 31) dX6_inRectangle_28 rfl lfX6_15 (OKS.k hq) rfl (OKS.r1 hq) ?_
      refine x_iload (pc' := 33) dX6_inRectangle_31 rfl rfl ?_
      refine x_iconst (pc' := 34) (v := 1) dX6_inRectangle_33 rfl (by decide) ?_
      refine x_iadd (pc' := 35) dX6_inRectangle_34 rfl ?_
      obtain ⟨hb, h⟩ := h
      refine x_iald (pc' := 36) dX6_inRectangle_35 rfl (OKS.a1 hq) (by rw [(OKS.n1 hq)]; exact hb) ?_
      refine x_icmp_gt (pc' := 39) (tgt := 69) dX6_inRectangle_36 (by decide) rfl (fun hc => ?_) (fun hc => ?_)
      · replace h := h.1 hc
        refine x_iconst (pc' := 70) (v := 0) dX6_inRectangle_69 rfl (by decide) ?_
        exact x_iret dX6_inRectangle_70 rfl rfl h
      · replace h := h.2 hc
        refine x_iload_n (pc' := 40) dX6_inRectangle_39 rfl rfl rfl ?_
        refine x_aload_n (pc' := 41) dX6_inRectangle_40 rfl rfl rfl ?_
        refine x_getr (pc' := 44) dX6_inRectangle_41 rfl lfX6_15 (OKS.k hq) rfl (OKS.r1 hq) ?_
        refine x_iload (pc' := 46) dX6_inRectangle_44 rfl rfl ?_
        refine x_iconst (pc' := 47) (v := 2) dX6_inRectangle_46 rfl (by decide) ?_
        refine x_iadd (pc' := 48) dX6_inRectangle_47 rfl ?_
        obtain ⟨hb, h⟩ := h
        refine x_iald (pc' := 49) dX6_inRectangle_48 rfl (OKS.a1 hq) (by rw [(OKS.n1 hq)]; exact hb) ?_
        refine x_icmp_lt (pc' := 52) (tgt := 69) dX6_inRectangle_49 (by decide) rfl (fun hc => ?_) (fun hc => ?_)
        · replace h := h.1 hc
          refine x_iconst (pc' := 70) (v := 0) dX6_inRectangle_69 rfl (by decide) ?_
          exact x_iret dX6_inRectangle_70 rfl rfl h
        · replace h := h.2 hc
          refine x_iload_n (pc' := 53) dX6_inRectangle_52 rfl rfl rfl ?_
          refine x_aload_n (pc' := 54) dX6_inRectangle_53 rfl rfl rfl ?_
          refine x_getr (pc' := 57) dX6_inRectangle_54 rfl lfX6_15 (OKS.k hq) rfl (OKS.r1 hq) ?_
          refine x_iload (pc' := 59) dX6_inRectangle_57 rfl rfl ?_
          refine x_iconst (pc' := 60) (v := 3) dX6_inRectangle_59 rfl (by decide) ?_
          refine x_iadd (pc' := 61) dX6_inRectangle_60 rfl ?_
          obtain ⟨hb, h⟩ := h
          refine x_iald (pc' := 62) dX6_inRectangle_61 rfl (OKS.a1 hq) (by rw [(OKS.n1 hq)]; exact hb) ?_
          refine x_icmp_gt (pc' := 65) (tgt := 69) dX6_inRectangle_62 (by decide) rfl (fun hc => ?_) (fun hc => ?_)
          · replace h := h.1 hc
            refine x_iconst (pc' := 70) (v := 0) dX6_inRectangle_69 rfl (by decide) ?_
            exact x_iret dX6_inRectangle_70 rfl rfl h
          · replace h := h.2 hc
            refine x_iconst (pc' := 66) (v := 1) dX6_inRectangle_65 rfl (by decide) ?_
            refine x_goto (pc' := 70) dX6_inRectangle_66 (by decide) ?_
            exact x_iret dX6_inRectangle_70 rfl rfl h
  · replace h := h.2 hc
    refine x_iconst (pc' := 9) (v := 0) dX6_inRectangle_8 rfl (by decide) ?_
    exact x_iret dX6_inRectangle_9 rfl rfl h
set_option maxRecDepth 100000 in
set_option maxHeartbeats 4000000 in
theorem vX6_holds_0 {d : Nat} {σ : Mem} {Q : Option Value → Mem → Prop} {q : Nat} {x1 x2 : Int32} (hq : OKS q)
    (h : X none (d + 1) mX6_holds 5 [.ref q, .int x1, .int x2, .int 0, .int 0, Unk] [] σ Q) :
    X none (d + 1) mX6_holds 0 [.ref q, .int x1, .int x2, Unk, Unk, Unk] [] σ Q := by
  refine x_iconst (pc' := 1) (v := 0) dX6_holds_0 rfl (by decide) ?_
  refine x_istore_n (pc' := 2) dX6_holds_1 rfl rfl (by decide) rfl (ls' := [.ref q, .int x1, .int x2, .int 0, Unk, Unk]) rfl ?_
  refine x_iconst (pc' := 3) (v := 0) dX6_holds_2 rfl (by decide) ?_
  refine x_istore (pc' := 5) dX6_holds_3 rfl (by decide) rfl (ls' := [.ref q, .int x1, .int x2, .int 0, .int 0, Unk]) rfl ?_
  exact h
set_option maxRecDepth 100000 in
set_option maxHeartbeats 4000000 in
theorem vX6_holds_5 {d : Nat} {σ : Mem} {Q : Option Value → Mem → Prop} {q : Nat} {x1 x2 x3 x4 : Int32} (hq : OKS q)
    (h : (((σ.1 q 2) ≤ x4 → ((¬ (x3 &&& 1) = 1 → Q (some (.int 0)) σ) ∧ ((x3 &&& 1) = 1 → Q (some (.int 1)) σ))) ∧ (¬ (σ.1 q 2) ≤ x4 → (vp_in x4 120 ∧ (((σ.1 (q + 1) x4.toNatClampNeg) < 0 → ((¬ (σ.1 (q + 1) x4.toNatClampNeg) = (-1) → ((¬ (σ.1 (q + 1) x4.toNatClampNeg) = (-2) → ((¬ (σ.1 (q + 1) x4.toNatClampNeg) = (-3) → X none (d + 1) mX6_holds 5 [.ref q, .int x1, .int x2, .int ((x3 >>> (1 &&& 31)) &&& ((x3 &&& 1) ^^^ (-1))), .int (x4 + 1), Unk] [] σ Q) ∧ ((σ.1 (q + 1) x4.toNatClampNeg) = (-3) → X none (d + 1) mX6_holds 5 [.ref q, .int x1, .int x2, .int ((x3 >>> (1 &&& 31)) ||| (x3 &&& 1)), .int (x4 + 1), Unk] [] σ Q))) ∧ ((σ.1 (q + 1) x4.toNatClampNeg) = (-2) → X none (d + 1) mX6_holds 5 [.ref q, .int x1, .int x2, .int ((x3 >>> (1 &&& 31)) &&& ((x3 &&& 1) ||| (-2))), .int (x4 + 1), Unk] [] σ Q))) ∧ ((σ.1 (q + 1) x4.toNatClampNeg) = (-1) → X none (d + 1) mX6_holds 5 [.ref q, .int x1, .int x2, .int (x3 ^^^ 1), .int (x4 + 1), Unk] [] σ Q))) ∧ (¬ (σ.1 (q + 1) x4.toNatClampNeg) < 0 → (X none d mX6_inRectangle 0 [.ref q, .int (σ.1 (q + 1) x4.toNatClampNeg), .int x1, .int x2, Unk] [] σ (fun r τ1 => ∃ u2 : Int32, r = some (.int u2) ∧ ((u2 = 0 → X none (d + 1) mX6_holds 5 [.ref q, .int x1, .int x2, .int ((x3 <<< (1 &&& 31)) ||| 0), .int (x4 + 1), Unk] [] τ1 Q) ∧ (¬ u2 = 0 → X none (d + 1) mX6_holds 5 [.ref q, .int x1, .int x2, .int ((x3 <<< (1 &&& 31)) ||| 1), .int (x4 + 1), Unk] [] τ1 Q)))))))))) :
    X none (d + 1) mX6_holds 5 [.ref q, .int x1, .int x2, .int x3, .int x4, Unk] [] σ Q := by
  refine x_iload (pc' := 7) dX6_holds_5 rfl rfl ?_
  refine x_aload_n (pc' := 8) dX6_holds_7 rfl rfl rfl ?_
  refine x_geti (pc' := 11) dX6_holds_8 rfl lfX6_18 (OKS.k hq) rfl ?_
  refine x_icmp_ge (pc' := 14) (tgt := 78) dX6_holds_11 (by decide) rfl (fun hc => ?_) (fun hc => ?_)
  · replace h := h.1 hc
    refine x_iload_n (pc' := 79) dX6_holds_78 rfl rfl rfl ?_
    refine x_iconst (pc' := 80) (v := 1) dX6_holds_79 rfl (by decide) ?_
    refine x_iand (pc' := 81) dX6_holds_80 rfl ?_
    refine x_iconst (pc' := 82) (v := 1) dX6_holds_81 rfl (by decide) ?_
    refine x_icmp_ne (pc' := 85) (tgt := 89) dX6_holds_82 (by decide) rfl (fun hc => ?_) (fun hc => ?_)
    · replace h := h.1 hc
      refine x_iconst (pc' := 90) (v := 0) dX6_holds_89 rfl (by decide) ?_
      exact x_iret dX6_holds_90 rfl rfl h
    · replace h := h.2 hc
      refine x_iconst (pc' := 86) (v := 1) dX6_holds_85 rfl (by decide) ?_
      refine x_goto (pc' := 90) dX6_holds_86 (by decide) ?_
      exact x_iret dX6_holds_90 rfl rfl h
  · replace h := h.2 hc
    refine x_aload_n (pc' := 15) dX6_holds_14 rfl rfl rfl ?_
    refine x_getr (pc' := 18) dX6_holds_15 rfl lfX6_9 (OKS.k hq) rfl (OKS.r0 hq) ?_
    refine x_iload (pc' := 20) dX6_holds_18 rfl rfl ?_
    obtain ⟨hb, h⟩ := h
    refine x_iald (pc' := 21) dX6_holds_20 rfl (OKS.a0 hq) (by rw [(OKS.n0 hq)]; exact hb) ?_
    refine x_istore (pc' := 23) dX6_holds_21 rfl (by decide) rfl (ls' := [.ref q, .int x1, .int x2, .int x3, .int x4, .int (σ.1 (q + 1) x4.toNatClampNeg)]) rfl ?_
    refine x_iload (pc' := 25) dX6_holds_23 rfl rfl ?_
    refine x_if_lt (pc' := 28) (tgt := 52) dX6_holds_25 (by decide) rfl (fun hc => ?_) (fun hc => ?_)
    · replace h := h.1 hc
      refine x_iload (pc' := 54) dX6_holds_52 rfl rfl ?_
      refine x_iconst (pc' := 55) (v := (-1)) dX6_holds_54 rfl (by decide) ?_
      refine x_icmp_ne (pc' := 58) (tgt := 65) dX6_holds_55 (by decide) rfl (fun hc => ?_) (fun hc => ?_)
      · replace h := h.1 hc
        refine x_iload_n (pc' := 66) dX6_holds_65 rfl rfl rfl ?_
        refine x_iload (pc' := 68) dX6_holds_66 rfl rfl ?_
        refine x_callS (pc' := 71) (As := [.int x3, .int (σ.1 (q + 1) x4.toNatClampNeg)]) dX6_holds_68 rfl lmX6_40 rfl rfl (Nat.le_of_ble_eq_true rfl) (Nat.le_of_ble_eq_true rfl) ?_
        show X none d mX6_join 0 [.int x3, .int (σ.1 (q + 1) x4.toNatClampNeg), Unk, Unk] [] σ _
        refine x_iload_n (pc' := 1) dX6_join_0 rfl rfl rfl ?_
        refine x_iconst (pc' := 2) (v := 1) dX6_join_1 rfl (by decide) ?_
        refine x_iand (pc' := 3) dX6_join_2 rfl ?_
        refine x_istore_n (pc' := 4) dX6_join_3 rfl rfl (by decide) rfl (ls' := [.int x3, .int (σ.1 (q + 1) x4.toNatClampNeg), .int (x3 &&& 1), Unk]) rfl ?_
        refine x_iload_n (pc' := 5) dX6_join_4 rfl rfl rfl ?_
        refine x_iconst (pc' := 6) (v := 1) dX6_join_5 rfl (by decide) ?_
        refine x_ishr (pc' := 7) dX6_join_6 rfl ?_
        refine x_istore_n (pc' := 8) dX6_join_7 rfl rfl (by decide) rfl (ls' := [.int x3, .int (σ.1 (q + 1) x4.toNatClampNeg), .int (x3 &&& 1), .int (x3 >>> (1 &&& 31))]) rfl ?_
        refine x_iload_n (pc' := 9) dX6_join_8 rfl rfl rfl ?_
        refine x_bipush (pc' := 11) (v := (-2)) dX6_join_9 rfl (by decide) ?_
        refine x_icmp_ne (pc' := 14) (tgt := 21) dX6_join_11 (by decide) rfl (fun hc => ?_) (fun hc => ?_)
        · replace h := h.1 hc
          refine x_iload_n (pc' := 22) dX6_join_21 rfl rfl rfl ?_
          refine x_bipush (pc' := 24) (v := (-3)) dX6_join_22 rfl (by decide) ?_
          refine x_icmp_ne (pc' := 27) (tgt := 31) dX6_join_24 (by decide) rfl (fun hc => ?_) (fun hc => ?_)
          · replace h := h.1 hc
            refine x_iload_n (pc' := 32) dX6_join_31 rfl rfl rfl ?_
            refine x_iload_n (pc' := 33) dX6_join_32 rfl rfl rfl ?_
            refine x_iconst (pc' := 34) (v := (-1)) dX6_join_33 rfl (by decide) ?_
            refine x_ixor (pc' := 35) dX6_join_34 rfl ?_
            refine x_iand (pc' := 36) dX6_join_35 rfl ?_
            refine x_iret dX6_join_36 rfl rfl ?_
            show X none (d + 1) mX6_holds 71 [.ref q, .int x1, .int x2, .int x3, .int x4, .int (σ.1 (q + 1) x4.toNatClampNeg)] [.int ((x3 >>> (1 &&& 31)) &&& ((x3 &&& 1) ^^^ (-1)))] σ _
            refine x_istore_n (pc' := 72) dX6_holds_71 rfl rfl (by decide) rfl (ls' := [.ref q, .int x1, .int x2, .int ((x3 >>> (1 &&& 31)) &&& ((x3 &&& 1) ^^^ (-1))), .int x4, .int (σ.1 (q + 1) x4.toNatClampNeg)]) rfl ?_
            refine x_iinc (pc' := 75) (v := 1) dX6_holds_72 rfl (by decide) rfl rfl (by decide) (ls' := [.ref q, .int x1, .int x2, .int ((x3 >>> (1 &&& 31)) &&& ((x3 &&& 1) ^^^ (-1))), .int (x4 + 1), .int (σ.1 (q + 1) x4.toNatClampNeg)]) rfl ?_
            refine x_goto (pc' := 5) dX6_holds_75 (by decide) ?_
            refine x_forget 5 (ls' := [.ref q, .int x1, .int x2, .int ((x3 >>> (1 &&& 31)) &&& ((x3 &&& 1) ^^^ (-1))), .int (x4 + 1), Unk]) rfl ?_
            exact h
          · replace h := h.2 hc
            refine x_iload_n (pc' := 28) dX6_join_27 rfl rfl rfl ?_
            refine x_iload_n (pc' := 29) dX6_join_28 rfl rfl rfl ?_
            refine x_ior (pc' := 30) dX6_join_29 rfl ?_
            refine x_iret dX6_join_30 rfl rfl ?_
            show X none (d + 1) mX6_holds 71 [.ref q, .int x1, .int x2, .int x3, .int x4, .int (σ.1 (q + 1) x4.toNatClampNeg)] [.int ((x3 >>> (1 &&& 31)) ||| (x3 &&& 1))] σ _
            refine x_istore_n (pc' := 72) dX6_holds_71 rfl rfl (by decide) rfl (ls' := [.ref q, .int x1, .int x2, .int ((x3 >>> (1 &&& 31)) ||| (x3 &&& 1)), .int x4, .int (σ.1 (q + 1) x4.toNatClampNeg)]) rfl ?_
            refine x_iinc (pc' := 75) (v := 1) dX6_holds_72 rfl (by decide) rfl rfl (by decide) (ls' := [.ref q, .int x1, .int x2, .int ((x3 >>> (1 &&& 31)) ||| (x3 &&& 1)), .int (x4 + 1), .int (σ.1 (q + 1) x4.toNatClampNeg)]) rfl ?_
            refine x_goto (pc' := 5) dX6_holds_75 (by decide) ?_
            refine x_forget 5 (ls' := [.ref q, .int x1, .int x2, .int ((x3 >>> (1 &&& 31)) ||| (x3 &&& 1)), .int (x4 + 1), Unk]) rfl ?_
            exact h
        · replace h := h.2 hc
          refine x_iload_n (pc' := 15) dX6_join_14 rfl rfl rfl ?_
          refine x_iload_n (pc' := 16) dX6_join_15 rfl rfl rfl ?_
          refine x_bipush (pc' := 18) (v := (-2)) dX6_join_16 rfl (by decide) ?_
          refine x_ior (pc' := 19) dX6_join_18 rfl ?_
          refine x_iand (pc' := 20) dX6_join_19 rfl ?_
          refine x_iret dX6_join_20 rfl rfl ?_
          show X none (d + 1) mX6_holds 71 [.ref q, .int x1, .int x2, .int x3, .int x4, .int (σ.1 (q + 1) x4.toNatClampNeg)] [.int ((x3 >>> (1 &&& 31)) &&& ((x3 &&& 1) ||| (-2)))] σ _
          refine x_istore_n (pc' := 72) dX6_holds_71 rfl rfl (by decide) rfl (ls' := [.ref q, .int x1, .int x2, .int ((x3 >>> (1 &&& 31)) &&& ((x3 &&& 1) ||| (-2))), .int x4, .int (σ.1 (q + 1) x4.toNatClampNeg)]) rfl ?_
          refine x_iinc (pc' := 75) (v := 1) dX6_holds_72 rfl (by decide) rfl rfl (by decide) (ls' := [.ref q, .int x1, .int x2, .int ((x3 >>> (1 &&& 31)) &&& ((x3 &&& 1) ||| (-2))), .int (x4 + 1), .int (σ.1 (q + 1) x4.toNatClampNeg)]) rfl ?_
          refine x_goto (pc' := 5) dX6_holds_75 (by decide) ?_
          refine x_forget 5 (ls' := [.ref q, .int x1, .int x2, .int ((x3 >>> (1 &&& 31)) &&& ((x3 &&& 1) ||| (-2))), .int (x4 + 1), Unk]) rfl ?_
          exact h
      · replace h := h.2 hc
        refine x_iload_n (pc' := 59) dX6_holds_58 rfl rfl rfl ?_
        refine x_iconst (pc' := 60) (v := 1) dX6_holds_59 rfl (by decide) ?_
        refine x_ixor (pc' := 61) dX6_holds_60 rfl ?_
        refine x_istore_n (pc' := 62) dX6_holds_61 rfl rfl (by decide) rfl (ls' := [.ref q, .int x1, .int x2, .int (x3 ^^^ 1), .int x4, .int (σ.1 (q + 1) x4.toNatClampNeg)]) rfl ?_
        refine x_goto (pc' := 72) dX6_holds_62 (by decide) ?_
        refine x_iinc (pc' := 75) (v := 1) dX6_holds_72 rfl (by decide) rfl rfl (by decide) (ls' := [.ref q, .int x1, .int x2, .int (x3 ^^^ 1), .int (x4 + 1), .int (σ.1 (q + 1) x4.toNatClampNeg)]) rfl ?_
        refine x_goto (pc' := 5) dX6_holds_75 (by decide) ?_
        refine x_forget 5 (ls' := [.ref q, .int x1, .int x2, .int (x3 ^^^ 1), .int (x4 + 1), Unk]) rfl ?_
        exact h
    · replace h := h.2 hc
      refine x_iload_n (pc' := 29) dX6_holds_28 rfl rfl rfl ?_
      refine x_iconst (pc' := 30) (v := 1) dX6_holds_29 rfl (by decide) ?_
      refine x_ishl (pc' := 31) dX6_holds_30 rfl ?_
      refine x_aload_n (pc' := 32) dX6_holds_31 rfl rfl rfl ?_
      refine x_iload (pc' := 34) dX6_holds_32 rfl rfl ?_
      refine x_iload_n (pc' := 35) dX6_holds_34 rfl rfl rfl ?_
      refine x_iload_n (pc' := 36) dX6_holds_35 rfl rfl rfl ?_
      refine x_callV (pc' := 39) (As := [.int (σ.1 (q + 1) x4.toNatClampNeg), .int x1, .int x2]) dX6_holds_36 rfl lmX6_36 (OKS.k hq) rfl rfl (Nat.le_of_ble_eq_true rfl) (Nat.le_of_ble_eq_true rfl) ?_
      show X none d mX6_inRectangle 0 [.ref q, .int (σ.1 (q + 1) x4.toNatClampNeg), .int x1, .int x2, Unk] [] σ _
      refine X.mono h ?_
      rintro r τ1 ⟨u2, rfl, h⟩
      show X none (d + 1) mX6_holds 39 [.ref q, .int x1, .int x2, .int x3, .int x4, .int (σ.1 (q + 1) x4.toNatClampNeg)] [.int u2, .int (x3 <<< (1 &&& 31))] τ1 _
      refine x_if_eq (pc' := 42) (tgt := 46) dX6_holds_39 (by decide) rfl (fun hc => ?_) (fun hc => ?_)
      · replace h := h.1 hc
        refine x_iconst (pc' := 47) (v := 0) dX6_holds_46 rfl (by decide) ?_
        refine x_ior (pc' := 48) dX6_holds_47 rfl ?_
        refine x_istore_n (pc' := 49) dX6_holds_48 rfl rfl (by decide) rfl (ls' := [.ref q, .int x1, .int x2, .int ((x3 <<< (1 &&& 31)) ||| 0), .int x4, .int (σ.1 (q + 1) x4.toNatClampNeg)]) rfl ?_
        refine x_goto (pc' := 72) dX6_holds_49 (by decide) ?_
        refine x_iinc (pc' := 75) (v := 1) dX6_holds_72 rfl (by decide) rfl rfl (by decide) (ls' := [.ref q, .int x1, .int x2, .int ((x3 <<< (1 &&& 31)) ||| 0), .int (x4 + 1), .int (σ.1 (q + 1) x4.toNatClampNeg)]) rfl ?_
        refine x_goto (pc' := 5) dX6_holds_75 (by decide) ?_
        refine x_forget 5 (ls' := [.ref q, .int x1, .int x2, .int ((x3 <<< (1 &&& 31)) ||| 0), .int (x4 + 1), Unk]) rfl ?_
        exact h
      · replace h := h.2 hc
        refine x_iconst (pc' := 43) (v := 1) dX6_holds_42 rfl (by decide) ?_
        refine x_goto (pc' := 47) dX6_holds_43 (by decide) ?_
        refine x_ior (pc' := 48) dX6_holds_47 rfl ?_
        refine x_istore_n (pc' := 49) dX6_holds_48 rfl rfl (by decide) rfl (ls' := [.ref q, .int x1, .int x2, .int ((x3 <<< (1 &&& 31)) ||| 1), .int x4, .int (σ.1 (q + 1) x4.toNatClampNeg)]) rfl ?_
        refine x_goto (pc' := 72) dX6_holds_49 (by decide) ?_
        refine x_iinc (pc' := 75) (v := 1) dX6_holds_72 rfl (by decide) rfl rfl (by decide) (ls' := [.ref q, .int x1, .int x2, .int ((x3 <<< (1 &&& 31)) ||| 1), .int (x4 + 1), .int (σ.1 (q + 1) x4.toNatClampNeg)]) rfl ?_
        refine x_goto (pc' := 5) dX6_holds_75 (by decide) ?_
        refine x_forget 5 (ls' := [.ref q, .int x1, .int x2, .int ((x3 <<< (1 &&& 31)) ||| 1), .int (x4 + 1), Unk]) rfl ?_
        exact h
set_option maxRecDepth 100000 in
set_option maxHeartbeats 4000000 in
theorem vX6_addRectangle_0 {d : Nat} {σ : Mem} {Q : Option Value → Mem → Prop} {q : Nat} {x1 x2 x3 x4 : Int32} (hq : OKS q)
    (h : (((σ.1 q 3) < 12 → (vp_in (4 * (σ.1 q 3)) 48 ∧ (∀ τ1 : Mem, τ1 = (w1 σ (q + 2) (4 * (σ.1 q 3)).toNatClampNeg x1) → (vp_in ((4 * (σ.1 q 3)) + 1) 48 ∧ (∀ τ2 : Mem, τ2 = (w1 τ1 (q + 2) ((4 * (σ.1 q 3)) + 1).toNatClampNeg x2) → (vp_in ((4 * (σ.1 q 3)) + 2) 48 ∧ (∀ τ3 : Mem, τ3 = (w1 τ2 (q + 2) ((4 * (σ.1 q 3)) + 2).toNatClampNeg x3) → (vp_in ((4 * (σ.1 q 3)) + 3) 48 ∧ (∀ τ4 : Mem, τ4 = (w1 τ3 (q + 2) ((4 * (σ.1 q 3)) + 3).toNatClampNeg x4) → ((120 ≤ (τ4.1 q 2) → (∀ τ5 : Mem, τ5 = (w1 τ4 q 3 ((τ4.1 q 3) + 1)) → Q (none) τ5)) ∧ (¬ 120 ≤ (τ4.1 q 2) → (vp_in (τ4.1 q 2) 120 ∧ (∀ τ6 : Mem, τ6 = (w1 τ4 (q + 1) (τ4.1 q 2).toNatClampNeg (τ4.1 q 3)) → (∀ τ7 : Mem, τ7 = (w1 τ6 q 2 ((τ6.1 q 2) + 1)) → (∀ τ8 : Mem, τ8 = (w1 τ7 q 3 ((τ7.1 q 3) + 1)) → Q (none) τ8))))))))))))))) ∧ (¬ (σ.1 q 3) < 12 → Q (none) σ))) :
    X none (d + 1) mX6_addRectangle 0 [.ref q, .int x1, .int x2, .int x3, .int x4, Unk] [] σ Q := by
  refine x_aload_n (pc' := 1) dX6_addRectangle_0 rfl rfl rfl ?_
  refine x_geti (pc' := 4) dX6_addRectangle_1 rfl lfX6_22 (OKS.k hq) rfl ?_
  refine x_bipush (pc' := 6) (v := 12) dX6_addRectangle_4 rfl (by decide) ?_
  refine x_icmp_lt (pc' := 9) (tgt := 10) dX6_addRectangle_6 (by decide) rfl (fun hc => ?_) (fun hc => ?_)
  · replace h := h.1 hc
    refine x_iconst (pc' := 11) (v := 4) dX6_addRectangle_10 rfl (by decide) ?_
    refine x_aload_n (pc' := 12) dX6_addRectangle_11 rfl rfl rfl ?_
    refine x_geti (pc' := 15) dX6_addRectangle_12 rfl lfX6_22 (OKS.k hq) rfl ?_
    refine x_imul (pc' := 16) dX6_addRectangle_15 rfl ?_
    refine x_istore (pc' := 18) dX6_addRectangle_16 rfl (by decide) rfl (ls' := [.ref q, .int x1, .int x2, .int x3, .int x4, .int (4 * (σ.1 q 3))]) rfl ?_
    refine x_aload_n (pc' := 19) dX6_addRectangle_18 rfl rfl rfl ?_
    refine x_getr (pc' := 22) dX6_addRectangle_19 rfl lfX6_15 (OKS.k hq) rfl (OKS.r1 hq) ?_
    refine x_iload (pc' := 24) dX6_addRectangle_22 rfl rfl ?_
    refine x_iload_n (pc' := 25) dX6_addRectangle_24 rfl rfl rfl ?_
    obtain ⟨hb, h⟩ := h
    refine x_iast (pc' := 26) dX6_addRectangle_25 rfl (OKS.a1 hq) (by rw [(OKS.n1 hq)]; exact hb) ?_
    obtain ⟨τ1, eτ1⟩ : ∃ τ : Mem, τ = (w1 σ (q + 2) (4 * (σ.1 q 3)).toNatClampNeg x1) := ⟨_, rfl⟩
    show X none (d + 1) mX6_addRectangle 26 [.ref q, .int x1, .int x2, .int x3, .int x4, .int (4 * (σ.1 q 3))] [] (w1 σ (q + 2) (4 * (σ.1 q 3)).toNatClampNeg x1) _
    rw [← eτ1]
    replace h := h τ1 eτ1
    refine x_aload_n (pc' := 27) dX6_addRectangle_26 rfl rfl rfl ?_
    refine x_getr (pc' := 30) dX6_addRectangle_27 rfl lfX6_15 (OKS.k hq) rfl (OKS.r1 hq) ?_
    refine x_iload (pc' := 32) dX6_addRectangle_30 rfl rfl ?_
    refine x_iconst (pc' := 33) (v := 1) dX6_addRectangle_32 rfl (by decide) ?_
    refine x_iadd (pc' := 34) dX6_addRectangle_33 rfl ?_
    refine x_iload_n (pc' := 35) dX6_addRectangle_34 rfl rfl rfl ?_
    obtain ⟨hb, h⟩ := h
    refine x_iast (pc' := 36) dX6_addRectangle_35 rfl (OKS.a1 hq) (by rw [(OKS.n1 hq)]; exact hb) ?_
    obtain ⟨τ2, eτ2⟩ : ∃ τ : Mem, τ = (w1 τ1 (q + 2) ((4 * (σ.1 q 3)) + 1).toNatClampNeg x2) := ⟨_, rfl⟩
    show X none (d + 1) mX6_addRectangle 36 [.ref q, .int x1, .int x2, .int x3, .int x4, .int (4 * (σ.1 q 3))] [] (w1 τ1 (q + 2) ((4 * (σ.1 q 3)) + 1).toNatClampNeg x2) _
    rw [← eτ2]
    replace h := h τ2 eτ2
    refine x_aload_n (pc' := 37) dX6_addRectangle_36 rfl rfl rfl ?_
    refine x_getr (pc' := 40) dX6_addRectangle_37 rfl lfX6_15 (OKS.k hq) rfl (OKS.r1 hq) ?_
    refine x_iload (pc' := 42) dX6_addRectangle_40 rfl rfl ?_
    refine x_iconst (pc' := 43) (v := 2) dX6_addRectangle_42 rfl (by decide) ?_
    refine x_iadd (pc' := 44) dX6_addRectangle_43 rfl ?_
    refine x_iload_n (pc' := 45) dX6_addRectangle_44 rfl rfl rfl ?_
    obtain ⟨hb, h⟩ := h
    refine x_iast (pc' := 46) dX6_addRectangle_45 rfl (OKS.a1 hq) (by rw [(OKS.n1 hq)]; exact hb) ?_
    obtain ⟨τ3, eτ3⟩ : ∃ τ : Mem, τ = (w1 τ2 (q + 2) ((4 * (σ.1 q 3)) + 2).toNatClampNeg x3) := ⟨_, rfl⟩
    show X none (d + 1) mX6_addRectangle 46 [.ref q, .int x1, .int x2, .int x3, .int x4, .int (4 * (σ.1 q 3))] [] (w1 τ2 (q + 2) ((4 * (σ.1 q 3)) + 2).toNatClampNeg x3) _
    rw [← eτ3]
    replace h := h τ3 eτ3
    refine x_aload_n (pc' := 47) dX6_addRectangle_46 rfl rfl rfl ?_
    refine x_getr (pc' := 50) dX6_addRectangle_47 rfl lfX6_15 (OKS.k hq) rfl (OKS.r1 hq) ?_
    refine x_iload (pc' := 52) dX6_addRectangle_50 rfl rfl ?_
    refine x_iconst (pc' := 53) (v := 3) dX6_addRectangle_52 rfl (by decide) ?_
    refine x_iadd (pc' := 54) dX6_addRectangle_53 rfl ?_
    refine x_iload (pc' := 56) dX6_addRectangle_54 rfl rfl ?_
    obtain ⟨hb, h⟩ := h
    refine x_iast (pc' := 57) dX6_addRectangle_56 rfl (OKS.a1 hq) (by rw [(OKS.n1 hq)]; exact hb) ?_
    obtain ⟨τ4, eτ4⟩ : ∃ τ : Mem, τ = (w1 τ3 (q + 2) ((4 * (σ.1 q 3)) + 3).toNatClampNeg x4) := ⟨_, rfl⟩
    show X none (d + 1) mX6_addRectangle 57 [.ref q, .int x1, .int x2, .int x3, .int x4, .int (4 * (σ.1 q 3))] [] (w1 τ3 (q + 2) ((4 * (σ.1 q 3)) + 3).toNatClampNeg x4) _
    rw [← eτ4]
    replace h := h τ4 eτ4
    refine x_aload_n (pc' := 58) dX6_addRectangle_57 rfl rfl rfl ?_
    refine x_aload_n (pc' := 59) dX6_addRectangle_58 rfl rfl rfl ?_
    refine x_geti (pc' := 62) dX6_addRectangle_59 rfl lfX6_22 (OKS.k hq) rfl ?_
    refine x_callV (pc' := 65) (As := [.int (τ4.1 q 3)]) dX6_addRectangle_62 rfl lmX6_32 (OKS.k hq) rfl rfl (Nat.le_of_ble_eq_true rfl) (Nat.le_of_ble_eq_true rfl) ?_
    show X none d mX6_addStep 0 [.ref q, .int (τ4.1 q 3)] [] τ4 _
    refine x_aload_n (pc' := 1) dX6_addStep_0 rfl rfl rfl ?_
    refine x_geti (pc' := 4) dX6_addStep_1 rfl lfX6_18 (OKS.k hq) rfl ?_
    refine x_bipush (pc' := 6) (v := 120) dX6_addStep_4 rfl (by decide) ?_
    refine x_icmp_ge (pc' := 9) (tgt := 29) dX6_addStep_6 (by decide) rfl (fun hc => ?_) (fun hc => ?_)
    · replace h := h.1 hc
      refine x_vret dX6_addStep_29 rfl ?_
      show X none (d + 1) mX6_addRectangle 65 [.ref q, .int x1, .int x2, .int x3, .int x4, .int (4 * (σ.1 q 3))] [] τ4 _
      refine x_aload_n (pc' := 66) dX6_addRectangle_65 rfl rfl rfl ?_
      refine x_dup (pc' := 67) dX6_addRectangle_66 rfl rfl ?_
      refine x_geti (pc' := 70) dX6_addRectangle_67 rfl lfX6_22 (OKS.k hq) rfl ?_
      refine x_iconst (pc' := 71) (v := 1) dX6_addRectangle_70 rfl (by decide) ?_
      refine x_iadd (pc' := 72) dX6_addRectangle_71 rfl ?_
      refine x_puti (pc' := 75) dX6_addRectangle_72 rfl lfX6_22 (OKS.k hq) rfl rfl rfl ?_
      obtain ⟨τ5, eτ5⟩ : ∃ τ : Mem, τ = (w1 τ4 q 3 ((τ4.1 q 3) + 1)) := ⟨_, rfl⟩
      show X none (d + 1) mX6_addRectangle 75 [.ref q, .int x1, .int x2, .int x3, .int x4, .int (4 * (σ.1 q 3))] [] (w1 τ4 q 3 ((τ4.1 q 3) + 1)) _
      rw [← eτ5]
      replace h := h τ5 eτ5
      exact x_vret dX6_addRectangle_75 rfl h
    · replace h := h.2 hc
      refine x_aload_n (pc' := 10) dX6_addStep_9 rfl rfl rfl ?_
      refine x_getr (pc' := 13) dX6_addStep_10 rfl lfX6_9 (OKS.k hq) rfl (OKS.r0 hq) ?_
      refine x_aload_n (pc' := 14) dX6_addStep_13 rfl rfl rfl ?_
      refine x_geti (pc' := 17) dX6_addStep_14 rfl lfX6_18 (OKS.k hq) rfl ?_
      refine x_iload_n (pc' := 18) dX6_addStep_17 rfl rfl rfl ?_
      obtain ⟨hb, h⟩ := h
      refine x_iast (pc' := 19) dX6_addStep_18 rfl (OKS.a0 hq) (by rw [(OKS.n0 hq)]; exact hb) ?_
      obtain ⟨τ6, eτ6⟩ : ∃ τ : Mem, τ = (w1 τ4 (q + 1) (τ4.1 q 2).toNatClampNeg (τ4.1 q 3)) := ⟨_, rfl⟩
      show X none d mX6_addStep 19 [.ref q, .int (τ4.1 q 3)] [] (w1 τ4 (q + 1) (τ4.1 q 2).toNatClampNeg (τ4.1 q 3)) _
      rw [← eτ6]
      replace h := h τ6 eτ6
      refine x_aload_n (pc' := 20) dX6_addStep_19 rfl rfl rfl ?_
      refine x_dup (pc' := 21) dX6_addStep_20 rfl rfl ?_
      refine x_geti (pc' := 24) dX6_addStep_21 rfl lfX6_18 (OKS.k hq) rfl ?_
      refine x_iconst (pc' := 25) (v := 1) dX6_addStep_24 rfl (by decide) ?_
      refine x_iadd (pc' := 26) dX6_addStep_25 rfl ?_
      refine x_puti (pc' := 29) dX6_addStep_26 rfl lfX6_18 (OKS.k hq) rfl rfl rfl ?_
      obtain ⟨τ7, eτ7⟩ : ∃ τ : Mem, τ = (w1 τ6 q 2 ((τ6.1 q 2) + 1)) := ⟨_, rfl⟩
      show X none d mX6_addStep 29 [.ref q, .int (τ4.1 q 3)] [] (w1 τ6 q 2 ((τ6.1 q 2) + 1)) _
      rw [← eτ7]
      replace h := h τ7 eτ7
      refine x_vret dX6_addStep_29 rfl ?_
      show X none (d + 1) mX6_addRectangle 65 [.ref q, .int x1, .int x2, .int x3, .int x4, .int (4 * (σ.1 q 3))] [] τ7 _
      refine x_aload_n (pc' := 66) dX6_addRectangle_65 rfl rfl rfl ?_
      refine x_dup (pc' := 67) dX6_addRectangle_66 rfl rfl ?_
      refine x_geti (pc' := 70) dX6_addRectangle_67 rfl lfX6_22 (OKS.k hq) rfl ?_
      refine x_iconst (pc' := 71) (v := 1) dX6_addRectangle_70 rfl (by decide) ?_
      refine x_iadd (pc' := 72) dX6_addRectangle_71 rfl ?_
      refine x_puti (pc' := 75) dX6_addRectangle_72 rfl lfX6_22 (OKS.k hq) rfl rfl rfl ?_
      obtain ⟨τ8, eτ8⟩ : ∃ τ : Mem, τ = (w1 τ7 q 3 ((τ7.1 q 3) + 1)) := ⟨_, rfl⟩
      show X none (d + 1) mX6_addRectangle 75 [.ref q, .int x1, .int x2, .int x3, .int x4, .int (4 * (σ.1 q 3))] [] (w1 τ7 q 3 ((τ7.1 q 3) + 1)) _
      rw [← eτ8]
      replace h := h τ8 eτ8
      exact x_vret dX6_addRectangle_75 rfl h
  · replace h := h.2 hc
    exact x_vret dX6_addRectangle_9 rfl h
set_option maxRecDepth 100000 in
set_option maxHeartbeats 4000000 in
theorem vX6_becomeRectangle_0 {d : Nat} {σ : Mem} {Q : Option Value → Mem → Prop} {q : Nat} {x1 x2 x3 x4 : Int32} (hq : OKS q)
    (h : (∀ τ1 : Mem, τ1 = (w1 σ q 2 0) → (∀ τ2 : Mem, τ2 = (w1 τ1 q 3 0) → (X none (d + 1) mX6_addRectangle 0 [.ref q, .int x1, .int x2, .int x3, .int x4, Unk] [] τ2 (fun r τ3 => r = none ∧ Q (none) τ3))))) :
    X none (d + 2) mX6_becomeRectangle 0 [.ref q, .int x1, .int x2, .int x3, .int x4] [] σ Q := by
  refine x_aload_n (pc' := 1) dX6_becomeRectangle_0 rfl rfl rfl ?_
  refine x_callV (pc' := 4) (As := []) dX6_becomeRectangle_1 rfl lmX6_25 (OKS.k hq) rfl rfl (Nat.le_of_ble_eq_true rfl) (Nat.le_of_ble_eq_true rfl) ?_
  show X none (d + 1) mX6_empty 0 [.ref q] [] σ _
  refine x_aload_n (pc' := 1) dX6_empty_0 rfl rfl rfl ?_
  refine x_iconst (pc' := 2) (v := 0) dX6_empty_1 rfl (by decide) ?_
  refine x_puti (pc' := 5) dX6_empty_2 rfl lfX6_18 (OKS.k hq) rfl rfl rfl ?_
  obtain ⟨τ1, eτ1⟩ : ∃ τ : Mem, τ = (w1 σ q 2 0) := ⟨_, rfl⟩
  show X none (d + 1) mX6_empty 5 [.ref q] [] (w1 σ q 2 0) _
  rw [← eτ1]
  replace h := h τ1 eτ1
  refine x_aload_n (pc' := 6) dX6_empty_5 rfl rfl rfl ?_
  refine x_iconst (pc' := 7) (v := 0) dX6_empty_6 rfl (by decide) ?_
  refine x_puti (pc' := 10) dX6_empty_7 rfl lfX6_22 (OKS.k hq) rfl rfl rfl ?_
  obtain ⟨τ2, eτ2⟩ : ∃ τ : Mem, τ = (w1 τ1 q 3 0) := ⟨_, rfl⟩
  show X none (d + 1) mX6_empty 10 [.ref q] [] (w1 τ1 q 3 0) _
  rw [← eτ2]
  replace h := h τ2 eτ2
  refine x_vret dX6_empty_10 rfl ?_
  show X none (d + 2) mX6_becomeRectangle 4 [.ref q, .int x1, .int x2, .int x3, .int x4] [] τ2 _
  refine x_aload_n (pc' := 5) dX6_becomeRectangle_4 rfl rfl rfl ?_
  refine x_iload_n (pc' := 6) dX6_becomeRectangle_5 rfl rfl rfl ?_
  refine x_iload_n (pc' := 7) dX6_becomeRectangle_6 rfl rfl rfl ?_
  refine x_iload_n (pc' := 8) dX6_becomeRectangle_7 rfl rfl rfl ?_
  refine x_iload (pc' := 10) dX6_becomeRectangle_8 rfl rfl ?_
  refine x_callV (pc' := 13) (As := [.int x1, .int x2, .int x3, .int x4]) dX6_becomeRectangle_10 rfl lmX6_28 (OKS.k hq) rfl rfl (Nat.le_of_ble_eq_true rfl) (Nat.le_of_ble_eq_true rfl) ?_
  show X none (d + 1) mX6_addRectangle 0 [.ref q, .int x1, .int x2, .int x3, .int x4, Unk] [] τ2 _
  refine X.mono h ?_
  rintro r τ3 ⟨rfl, h⟩
  show X none (d + 2) mX6_becomeRectangle 13 [.ref q, .int x1, .int x2, .int x3, .int x4] [] τ3 _
  exact x_vret dX6_becomeRectangle_13 rfl h
set_option maxRecDepth 100000 in
set_option maxHeartbeats 4000000 in
theorem vX6_copyFrom_0 {d : Nat} {σ : Mem} {Q : Option Value → Mem → Prop} {q b : Nat} (hq : OKS q) (hb0 : OKS b)
    (h : (¬ (σ.1 b 2) < 0 ∧ (0 : Int32).toNatClampNeg + (σ.1 b 2).toNatClampNeg ≤ 120 ∧ (0 : Int32).toNatClampNeg + (σ.1 b 2).toNatClampNeg ≤ 120 ∧ (∀ τ1 : Mem, τ1 = (wc σ (b + 1) (q + 1) 0 0 (σ.1 b 2).toNatClampNeg) → (¬ (4 * (τ1.1 b 3)) < 0 ∧ (0 : Int32).toNatClampNeg + (4 * (τ1.1 b 3)).toNatClampNeg ≤ 48 ∧ (0 : Int32).toNatClampNeg + (4 * (τ1.1 b 3)).toNatClampNeg ≤ 48 ∧ (∀ τ2 : Mem, τ2 = (wc τ1 (b + 2) (q + 2) 0 0 (4 * (τ1.1 b 3)).toNatClampNeg) → (∀ τ3 : Mem, τ3 = (w1 τ2 q 2 (τ2.1 b 2)) → (∀ τ4 : Mem, τ4 = (w1 τ3 q 3 (τ3.1 b 3)) → Q (none) τ4))))))) :
    X none (d + 1) mX6_copyFrom 0 [.ref q, .ref b] [] σ Q := by
  refine x_aload_n (pc' := 1) dX6_copyFrom_0 rfl rfl rfl ?_
  refine x_getr (pc' := 4) dX6_copyFrom_1 rfl lfX6_9 (OKS.k hb0) rfl (OKS.r0 hb0) ?_
  refine x_iconst (pc' := 5) (v := 0) dX6_copyFrom_4 rfl (by decide) ?_
  refine x_aload_n (pc' := 6) dX6_copyFrom_5 rfl rfl rfl ?_
  refine x_getr (pc' := 9) dX6_copyFrom_6 rfl lfX6_9 (OKS.k hq) rfl (OKS.r0 hq) ?_
  refine x_iconst (pc' := 10) (v := 0) dX6_copyFrom_9 rfl (by decide) ?_
  refine x_aload_n (pc' := 11) dX6_copyFrom_10 rfl rfl rfl ?_
  refine x_geti (pc' := 14) dX6_copyFrom_11 rfl lfX6_18 (OKS.k hb0) rfl ?_
  obtain ⟨hc1, hc2, hc3, h⟩ := h
  refine x_copy (pc' := 17) dX6_copyFrom_14 rfl laX6_44 (OKS.a0 hb0) (OKS.a0 hq) (by decide) (by decide) hc1 (by rw [(OKS.n0 hb0)]; exact hc2) (by rw [(OKS.n0 hq)]; exact hc3) ?_
  obtain ⟨τ1, eτ1⟩ : ∃ τ : Mem, τ = (wc σ (b + 1) (q + 1) 0 0 (σ.1 b 2).toNatClampNeg) := ⟨_, rfl⟩
  show X none (d + 1) mX6_copyFrom 17 [.ref q, .ref b] [] (wc σ (b + 1) (q + 1) 0 0 (σ.1 b 2).toNatClampNeg) _
  rw [← eτ1]
  replace h := h τ1 eτ1
  refine x_aload_n (pc' := 18) dX6_copyFrom_17 rfl rfl rfl ?_
  refine x_getr (pc' := 21) dX6_copyFrom_18 rfl lfX6_15 (OKS.k hb0) rfl (OKS.r1 hb0) ?_
  refine x_iconst (pc' := 22) (v := 0) dX6_copyFrom_21 rfl (by decide) ?_
  refine x_aload_n (pc' := 23) dX6_copyFrom_22 rfl rfl rfl ?_
  refine x_getr (pc' := 26) dX6_copyFrom_23 rfl lfX6_15 (OKS.k hq) rfl (OKS.r1 hq) ?_
  refine x_iconst (pc' := 27) (v := 0) dX6_copyFrom_26 rfl (by decide) ?_
  refine x_iconst (pc' := 28) (v := 4) dX6_copyFrom_27 rfl (by decide) ?_
  refine x_aload_n (pc' := 29) dX6_copyFrom_28 rfl rfl rfl ?_
  refine x_geti (pc' := 32) dX6_copyFrom_29 rfl lfX6_22 (OKS.k hb0) rfl ?_
  refine x_imul (pc' := 33) dX6_copyFrom_32 rfl ?_
  obtain ⟨hc1, hc2, hc3, h⟩ := h
  refine x_copy (pc' := 36) dX6_copyFrom_33 rfl laX6_44 (OKS.a1 hb0) (OKS.a1 hq) (by decide) (by decide) hc1 (by rw [(OKS.n1 hb0)]; exact hc2) (by rw [(OKS.n1 hq)]; exact hc3) ?_
  obtain ⟨τ2, eτ2⟩ : ∃ τ : Mem, τ = (wc τ1 (b + 2) (q + 2) 0 0 (4 * (τ1.1 b 3)).toNatClampNeg) := ⟨_, rfl⟩
  show X none (d + 1) mX6_copyFrom 36 [.ref q, .ref b] [] (wc τ1 (b + 2) (q + 2) 0 0 (4 * (τ1.1 b 3)).toNatClampNeg) _
  rw [← eτ2]
  replace h := h τ2 eτ2
  refine x_aload_n (pc' := 37) dX6_copyFrom_36 rfl rfl rfl ?_
  refine x_aload_n (pc' := 38) dX6_copyFrom_37 rfl rfl rfl ?_
  refine x_geti (pc' := 41) dX6_copyFrom_38 rfl lfX6_18 (OKS.k hb0) rfl ?_
  refine x_puti (pc' := 44) dX6_copyFrom_41 rfl lfX6_18 (OKS.k hq) rfl rfl rfl ?_
  obtain ⟨τ3, eτ3⟩ : ∃ τ : Mem, τ = (w1 τ2 q 2 (τ2.1 b 2)) := ⟨_, rfl⟩
  show X none (d + 1) mX6_copyFrom 44 [.ref q, .ref b] [] (w1 τ2 q 2 (τ2.1 b 2)) _
  rw [← eτ3]
  replace h := h τ3 eτ3
  refine x_aload_n (pc' := 45) dX6_copyFrom_44 rfl rfl rfl ?_
  refine x_aload_n (pc' := 46) dX6_copyFrom_45 rfl rfl rfl ?_
  refine x_geti (pc' := 49) dX6_copyFrom_46 rfl lfX6_22 (OKS.k hb0) rfl ?_
  refine x_puti (pc' := 52) dX6_copyFrom_49 rfl lfX6_22 (OKS.k hq) rfl rfl rfl ?_
  obtain ⟨τ4, eτ4⟩ : ∃ τ : Mem, τ = (w1 τ3 q 3 (τ3.1 b 3)) := ⟨_, rfl⟩
  show X none (d + 1) mX6_copyFrom 52 [.ref q, .ref b] [] (w1 τ3 q 3 (τ3.1 b 3)) _
  rw [← eτ4]
  replace h := h τ4 eτ4
  exact x_vret dX6_copyFrom_52 rfl h
set_option maxRecDepth 100000 in
set_option maxHeartbeats 4000000 in
theorem vX4_pickAll_0 {d : Nat} {σ : Mem} {Q : Option Value → Mem → Prop} {q f : Nat} (hq : OKP q) (hf : OKF f)
    (h : (∀ τ1 : Mem, τ1 = (w1 σ q 1 0) → X none (d + 1) mX4_pickAll 7 [.ref q, .ref f, .int 0] [] τ1 Q)) :
    X none (d + 1) mX4_pickAll 0 [.ref q, .ref f, Unk] [] σ Q := by
  refine x_aload_n (pc' := 1) dX4_pickAll_0 rfl rfl rfl ?_
  refine x_iconst (pc' := 2) (v := 0) dX4_pickAll_1 rfl (by decide) ?_
  refine x_puti (pc' := 5) dX4_pickAll_2 rfl lfX4_15 (OKP.k hq) rfl rfl rfl ?_
  obtain ⟨τ1, eτ1⟩ : ∃ τ : Mem, τ = (w1 σ q 1 0) := ⟨_, rfl⟩
  show X none (d + 1) mX4_pickAll 5 [.ref q, .ref f, Unk] [] (w1 σ q 1 0) _
  rw [← eτ1]
  replace h := h τ1 eτ1
  refine x_iconst (pc' := 6) (v := 0) dX4_pickAll_5 rfl (by decide) ?_
  refine x_istore_n (pc' := 7) dX4_pickAll_6 rfl rfl (by decide) rfl (ls' := [.ref q, .ref f, .int 0]) rfl ?_
  exact h
set_option maxRecDepth 100000 in
set_option maxHeartbeats 4000000 in
theorem vX4_pickAll_7 {d : Nat} {σ : Mem} {Q : Option Value → Mem → Prop} {q f : Nat} {x2 : Int32} (hq : OKP q) (hf : OKF f)
    (h : (((σ.1 f 5) ≤ x2 → Q (none) σ) ∧ (¬ (σ.1 f 5) ≤ x2 → (vp_in x2 121 ∧ ((¬ (σ.1 (f + 5) x2.toNatClampNeg) = 0 → X none (d + 1) mX4_pickAll 7 [.ref q, .ref f, .int (x2 + 1)] [] σ Q) ∧ ((σ.1 (f + 5) x2.toNatClampNeg) = 0 → ((60 ≤ (σ.1 q 1) → X none (d + 1) mX4_pickAll 7 [.ref q, .ref f, .int (x2 + 1)] [] σ Q) ∧ (¬ 60 ≤ (σ.1 q 1) → (vp_in (σ.1 q 1) 60 ∧ (∀ τ1 : Mem, τ1 = (w1 σ (q + 1) (σ.1 q 1).toNatClampNeg x2) → (∀ τ2 : Mem, τ2 = (w1 τ1 q 1 ((τ1.1 q 1) + 1)) → X none (d + 1) mX4_pickAll 7 [.ref q, .ref f, .int (x2 + 1)] [] τ2 Q))))))))))) :
    X none (d + 1) mX4_pickAll 7 [.ref q, .ref f, .int x2] [] σ Q := by
  refine x_iload_n (pc' := 8) dX4_pickAll_7 rfl rfl rfl ?_
  refine x_aload_n (pc' := 9) dX4_pickAll_8 rfl rfl rfl ?_
  refine x_geti (pc' := 12) dX4_pickAll_9 rfl lfX4_19 (OKF.k hf) rfl ?_
  refine x_icmp_ge (pc' := 15) (tgt := 34) dX4_pickAll_12 (by decide) rfl (fun hc => ?_) (fun hc => ?_)
  · replace h := h.1 hc
    exact x_vret dX4_pickAll_34 rfl h
  · replace h := h.2 hc
    refine x_aload_n (pc' := 16) dX4_pickAll_15 rfl rfl rfl ?_
    refine x_iload_n (pc' := 17) dX4_pickAll_16 rfl rfl rfl ?_
    refine x_callV (pc' := 20) (As := [.int x2]) dX4_pickAll_17 rfl lmX4_24 (OKF.k hf) rfl rfl (Nat.le_of_ble_eq_true rfl) (Nat.le_of_ble_eq_true rfl) ?_
    show X none d mX0_isThere 0 [.ref f, .int x2] [] σ _
    refine x_aload_n (pc' := 1) dX0_isThere_0 rfl rfl rfl ?_
    refine x_getr (pc' := 4) dX0_isThere_1 rfl lfX0_24 (OKF.k hf) rfl (OKF.r4 hf) ?_
    refine x_iload_n (pc' := 5) dX0_isThere_4 rfl rfl rfl ?_
    obtain ⟨hb, h⟩ := h
    refine x_iald (pc' := 6) dX0_isThere_5 rfl (OKF.a4 hf) (by rw [(OKF.n4 hf)]; exact hb) ?_
    refine x_if_ne (pc' := 9) (tgt := 13) dX0_isThere_6 (by decide) rfl (fun hc => ?_) (fun hc => ?_)
    · replace h := h.1 hc
      refine x_iconst (pc' := 14) (v := 0) dX0_isThere_13 rfl (by decide) ?_
      refine x_iret dX0_isThere_14 rfl rfl ?_
      show X none (d + 1) mX4_pickAll 20 [.ref q, .ref f, .int x2] [.int 0] σ _
      refine x_if_eq (pc' := 23) (tgt := 28) dX4_pickAll_20 (by decide) rfl (fun _ => ?_) (fun hc => absurd hc (by decide))
      refine x_iinc (pc' := 31) (v := 1) dX4_pickAll_28 rfl (by decide) rfl rfl (by decide) (ls' := [.ref q, .ref f, .int (x2 + 1)]) rfl ?_
      refine x_goto (pc' := 7) dX4_pickAll_31 (by decide) ?_
      exact h
    · replace h := h.2 hc
      refine x_iconst (pc' := 10) (v := 1) dX0_isThere_9 rfl (by decide) ?_
      refine x_goto (pc' := 14) dX0_isThere_10 (by decide) ?_
      refine x_iret dX0_isThere_14 rfl rfl ?_
      show X none (d + 1) mX4_pickAll 20 [.ref q, .ref f, .int x2] [.int 1] σ _
      refine x_if_eq (pc' := 23) (tgt := 28) dX4_pickAll_20 (by decide) rfl (fun hc => absurd hc (by decide)) (fun _ => ?_)
      refine x_aload_n (pc' := 24) dX4_pickAll_23 rfl rfl rfl ?_
      refine x_iload_n (pc' := 25) dX4_pickAll_24 rfl rfl rfl ?_
      refine x_callV (pc' := 28) (As := [.int x2]) dX4_pickAll_25 rfl lmX4_28 (OKP.k hq) rfl rfl (Nat.le_of_ble_eq_true rfl) (Nat.le_of_ble_eq_true rfl) ?_
      show X none d mX4_add 0 [.ref q, .int x2] [] σ _
      refine x_aload_n (pc' := 1) dX4_add_0 rfl rfl rfl ?_
      refine x_geti (pc' := 4) dX4_add_1 rfl lfX4_15 (OKP.k hq) rfl ?_
      refine x_bipush (pc' := 6) (v := 60) dX4_add_4 rfl (by decide) ?_
      refine x_icmp_ge (pc' := 9) (tgt := 29) dX4_add_6 (by decide) rfl (fun hc => ?_) (fun hc => ?_)
      · replace h := h.1 hc
        refine x_vret dX4_add_29 rfl ?_
        show X none (d + 1) mX4_pickAll 28 [.ref q, .ref f, .int x2] [] σ _
        refine x_iinc (pc' := 31) (v := 1) dX4_pickAll_28 rfl (by decide) rfl rfl (by decide) (ls' := [.ref q, .ref f, .int (x2 + 1)]) rfl ?_
        refine x_goto (pc' := 7) dX4_pickAll_31 (by decide) ?_
        exact h
      · replace h := h.2 hc
        refine x_aload_n (pc' := 10) dX4_add_9 rfl rfl rfl ?_
        refine x_getr (pc' := 13) dX4_add_10 rfl lfX4_9 (OKP.k hq) rfl (OKP.r0 hq) ?_
        refine x_aload_n (pc' := 14) dX4_add_13 rfl rfl rfl ?_
        refine x_geti (pc' := 17) dX4_add_14 rfl lfX4_15 (OKP.k hq) rfl ?_
        refine x_iload_n (pc' := 18) dX4_add_17 rfl rfl rfl ?_
        obtain ⟨hb, h⟩ := h
        refine x_iast (pc' := 19) dX4_add_18 rfl (OKP.a0 hq) (by rw [(OKP.n0 hq)]; exact hb) ?_
        obtain ⟨τ1, eτ1⟩ : ∃ τ : Mem, τ = (w1 σ (q + 1) (σ.1 q 1).toNatClampNeg x2) := ⟨_, rfl⟩
        show X none d mX4_add 19 [.ref q, .int x2] [] (w1 σ (q + 1) (σ.1 q 1).toNatClampNeg x2) _
        rw [← eτ1]
        replace h := h τ1 eτ1
        refine x_aload_n (pc' := 20) dX4_add_19 rfl rfl rfl ?_
        refine x_dup (pc' := 21) dX4_add_20 rfl rfl ?_
        refine x_geti (pc' := 24) dX4_add_21 rfl lfX4_15 (OKP.k hq) rfl ?_
        refine x_iconst (pc' := 25) (v := 1) dX4_add_24 rfl (by decide) ?_
        refine x_iadd (pc' := 26) dX4_add_25 rfl ?_
        refine x_puti (pc' := 29) dX4_add_26 rfl lfX4_15 (OKP.k hq) rfl rfl rfl ?_
        obtain ⟨τ2, eτ2⟩ : ∃ τ : Mem, τ = (w1 τ1 q 1 ((τ1.1 q 1) + 1)) := ⟨_, rfl⟩
        show X none d mX4_add 29 [.ref q, .int x2] [] (w1 τ1 q 1 ((τ1.1 q 1) + 1)) _
        rw [← eτ2]
        replace h := h τ2 eτ2
        refine x_vret dX4_add_29 rfl ?_
        show X none (d + 1) mX4_pickAll 28 [.ref q, .ref f, .int x2] [] τ2 _
        refine x_iinc (pc' := 31) (v := 1) dX4_pickAll_28 rfl (by decide) rfl rfl (by decide) (ls' := [.ref q, .ref f, .int (x2 + 1)]) rfl ?_
        refine x_goto (pc' := 7) dX4_pickAll_31 (by decide) ?_
        exact h
set_option maxRecDepth 100000 in
set_option maxHeartbeats 4000000 in
theorem vX4_pickShape_0 {d : Nat} {σ : Mem} {Q : Option Value → Mem → Prop} {q f b : Nat} (hq : OKP q) (hf : OKF f) (hb0 : OKS b)
    (h : (∀ τ1 : Mem, τ1 = (w1 σ q 1 0) → X none (d + 2) mX4_pickShape 7 [.ref q, .ref f, .ref b, .int 0] [] τ1 Q)) :
    X none (d + 2) mX4_pickShape 0 [.ref q, .ref f, .ref b, Unk] [] σ Q := by
  refine x_aload_n (pc' := 1) dX4_pickShape_0 rfl rfl rfl ?_
  refine x_iconst (pc' := 2) (v := 0) dX4_pickShape_1 rfl (by decide) ?_
  refine x_puti (pc' := 5) dX4_pickShape_2 rfl lfX4_15 (OKP.k hq) rfl rfl rfl ?_
  obtain ⟨τ1, eτ1⟩ : ∃ τ : Mem, τ = (w1 σ q 1 0) := ⟨_, rfl⟩
  show X none (d + 2) mX4_pickShape 5 [.ref q, .ref f, .ref b, Unk] [] (w1 σ q 1 0) _
  rw [← eτ1]
  replace h := h τ1 eτ1
  refine x_iconst (pc' := 6) (v := 0) dX4_pickShape_5 rfl (by decide) ?_
  refine x_istore_n (pc' := 7) dX4_pickShape_6 rfl rfl (by decide) rfl (ls' := [.ref q, .ref f, .ref b, .int 0]) rfl ?_
  exact h
set_option maxRecDepth 100000 in
set_option maxHeartbeats 4000000 in
theorem vX4_pickShape_7 {d : Nat} {σ : Mem} {Q : Option Value → Mem → Prop} {q f b : Nat} {x3 : Int32} (hq : OKP q) (hf : OKF f) (hb0 : OKS b)
    (h : (((σ.1 f 5) ≤ x3 → Q (none) σ) ∧ (¬ (σ.1 f 5) ≤ x3 → (vp_in x3 121 ∧ ((¬ (σ.1 (f + 5) x3.toNatClampNeg) = 0 → X none (d + 2) mX4_pickShape 7 [.ref q, .ref f, .ref b, .int (x3 + 1)] [] σ Q) ∧ ((σ.1 (f + 5) x3.toNatClampNeg) = 0 → (vp_in x3 121 ∧ (vp_in x3 121 ∧ (X none (d + 1) mX6_holds 0 [.ref b, .int (σ.1 (f + 2) x3.toNatClampNeg), .int (σ.1 (f + 3) x3.toNatClampNeg), Unk, Unk, Unk] [] σ (fun r τ1 => ∃ u2 : Int32, r = some (.int u2) ∧ ((u2 = 0 → X none (d + 2) mX4_pickShape 7 [.ref q, .ref f, .ref b, .int (x3 + 1)] [] τ1 Q) ∧ (¬ u2 = 0 → ((60 ≤ (τ1.1 q 1) → X none (d + 2) mX4_pickShape 7 [.ref q, .ref f, .ref b, .int (x3 + 1)] [] τ1 Q) ∧ (¬ 60 ≤ (τ1.1 q 1) → (vp_in (τ1.1 q 1) 60 ∧ (∀ τ3 : Mem, τ3 = (w1 τ1 (q + 1) (τ1.1 q 1).toNatClampNeg x3) → (∀ τ4 : Mem, τ4 = (w1 τ3 q 1 ((τ3.1 q 1) + 1)) → X none (d + 2) mX4_pickShape 7 [.ref q, .ref f, .ref b, .int (x3 + 1)] [] τ4 Q))))))))))))))))) :
    X none (d + 2) mX4_pickShape 7 [.ref q, .ref f, .ref b, .int x3] [] σ Q := by
  refine x_iload_n (pc' := 8) dX4_pickShape_7 rfl rfl rfl ?_
  refine x_aload_n (pc' := 9) dX4_pickShape_8 rfl rfl rfl ?_
  refine x_geti (pc' := 12) dX4_pickShape_9 rfl lfX4_19 (OKF.k hf) rfl ?_
  refine x_icmp_ge (pc' := 15) (tgt := 53) dX4_pickShape_12 (by decide) rfl (fun hc => ?_) (fun hc => ?_)
  · replace h := h.1 hc
    exact x_vret dX4_pickShape_53 rfl h
  · replace h := h.2 hc
    refine x_aload_n (pc' := 16) dX4_pickShape_15 rfl rfl rfl ?_
    refine x_iload_n (pc' := 17) dX4_pickShape_16 rfl rfl rfl ?_
    refine x_callV (pc' := 20) (As := [.int x3]) dX4_pickShape_17 rfl lmX4_24 (OKF.k hf) rfl rfl (Nat.le_of_ble_eq_true rfl) (Nat.le_of_ble_eq_true rfl) ?_
    show X none (d + 1) mX0_isThere 0 [.ref f, .int x3] [] σ _
    refine x_aload_n (pc' := 1) dX0_isThere_0 rfl rfl rfl ?_
    refine x_getr (pc' := 4) dX0_isThere_1 rfl lfX0_24 (OKF.k hf) rfl (OKF.r4 hf) ?_
    refine x_iload_n (pc' := 5) dX0_isThere_4 rfl rfl rfl ?_
    obtain ⟨hb, h⟩ := h
    refine x_iald (pc' := 6) dX0_isThere_5 rfl (OKF.a4 hf) (by rw [(OKF.n4 hf)]; exact hb) ?_
    refine x_if_ne (pc' := 9) (tgt := 13) dX0_isThere_6 (by decide) rfl (fun hc => ?_) (fun hc => ?_)
    · replace h := h.1 hc
      refine x_iconst (pc' := 14) (v := 0) dX0_isThere_13 rfl (by decide) ?_
      refine x_iret dX0_isThere_14 rfl rfl ?_
      show X none (d + 2) mX4_pickShape 20 [.ref q, .ref f, .ref b, .int x3] [.int 0] σ _
      refine x_if_eq (pc' := 23) (tgt := 47) dX4_pickShape_20 (by decide) rfl (fun _ => ?_) (fun hc => absurd hc (by decide))
      refine x_iinc (pc' := 50) (v := 1) dX4_pickShape_47 rfl (by decide) rfl rfl (by decide) (ls' := [.ref q, .ref f, .ref b, .int (x3 + 1)]) rfl ?_
      refine x_goto (pc' := 7) dX4_pickShape_50 (by decide) ?_
      exact h
    · replace h := h.2 hc
      refine x_iconst (pc' := 10) (v := 1) dX0_isThere_9 rfl (by decide) ?_
      refine x_goto (pc' := 14) dX0_isThere_10 (by decide) ?_
      refine x_iret dX0_isThere_14 rfl rfl ?_
      show X none (d + 2) mX4_pickShape 20 [.ref q, .ref f, .ref b, .int x3] [.int 1] σ _
      refine x_if_eq (pc' := 23) (tgt := 47) dX4_pickShape_20 (by decide) rfl (fun hc => absurd hc (by decide)) (fun _ => ?_)
      refine x_aload_n (pc' := 24) dX4_pickShape_23 rfl rfl rfl ?_
      refine x_aload_n (pc' := 25) dX4_pickShape_24 rfl rfl rfl ?_
      refine x_getr (pc' := 28) dX4_pickShape_25 rfl lfX4_32 (OKF.k hf) rfl (OKF.r1 hf) ?_
      refine x_iload_n (pc' := 29) dX4_pickShape_28 rfl rfl rfl ?_
      obtain ⟨hb, h⟩ := h
      refine x_iald (pc' := 30) dX4_pickShape_29 rfl (OKF.a1 hf) (by rw [(OKF.n1 hf)]; exact hb) ?_
      refine x_aload_n (pc' := 31) dX4_pickShape_30 rfl rfl rfl ?_
      refine x_getr (pc' := 34) dX4_pickShape_31 rfl lfX4_35 (OKF.k hf) rfl (OKF.r2 hf) ?_
      refine x_iload_n (pc' := 35) dX4_pickShape_34 rfl rfl rfl ?_
      obtain ⟨hb, h⟩ := h
      refine x_iald (pc' := 36) dX4_pickShape_35 rfl (OKF.a2 hf) (by rw [(OKF.n2 hf)]; exact hb) ?_
      refine x_callV (pc' := 39) (As := [.int (σ.1 (f + 2) x3.toNatClampNeg), .int (σ.1 (f + 3) x3.toNatClampNeg)]) dX4_pickShape_36 rfl lmX4_38 (OKS.k hb0) rfl rfl (Nat.le_of_ble_eq_true rfl) (Nat.le_of_ble_eq_true rfl) ?_
      show X none (d + 1) mX6_holds 0 [.ref b, .int (σ.1 (f + 2) x3.toNatClampNeg), .int (σ.1 (f + 3) x3.toNatClampNeg), Unk, Unk, Unk] [] σ _
      refine X.mono h ?_
      rintro r τ1 ⟨u2, rfl, h⟩
      show X none (d + 2) mX4_pickShape 39 [.ref q, .ref f, .ref b, .int x3] [.int u2] τ1 _
      refine x_if_eq (pc' := 42) (tgt := 47) dX4_pickShape_39 (by decide) rfl (fun hc => ?_) (fun hc => ?_)
      · replace h := h.1 hc
        refine x_iinc (pc' := 50) (v := 1) dX4_pickShape_47 rfl (by decide) rfl rfl (by decide) (ls' := [.ref q, .ref f, .ref b, .int (x3 + 1)]) rfl ?_
        refine x_goto (pc' := 7) dX4_pickShape_50 (by decide) ?_
        exact h
      · replace h := h.2 hc
        refine x_aload_n (pc' := 43) dX4_pickShape_42 rfl rfl rfl ?_
        refine x_iload_n (pc' := 44) dX4_pickShape_43 rfl rfl rfl ?_
        refine x_callV (pc' := 47) (As := [.int x3]) dX4_pickShape_44 rfl lmX4_28 (OKP.k hq) rfl rfl (Nat.le_of_ble_eq_true rfl) (Nat.le_of_ble_eq_true rfl) ?_
        show X none (d + 1) mX4_add 0 [.ref q, .int x3] [] τ1 _
        refine x_aload_n (pc' := 1) dX4_add_0 rfl rfl rfl ?_
        refine x_geti (pc' := 4) dX4_add_1 rfl lfX4_15 (OKP.k hq) rfl ?_
        refine x_bipush (pc' := 6) (v := 60) dX4_add_4 rfl (by decide) ?_
        refine x_icmp_ge (pc' := 9) (tgt := 29) dX4_add_6 (by decide) rfl (fun hc => ?_) (fun hc => ?_)
        · replace h := h.1 hc
          refine x_vret dX4_add_29 rfl ?_
          show X none (d + 2) mX4_pickShape 47 [.ref q, .ref f, .ref b, .int x3] [] τ1 _
          refine x_iinc (pc' := 50) (v := 1) dX4_pickShape_47 rfl (by decide) rfl rfl (by decide) (ls' := [.ref q, .ref f, .ref b, .int (x3 + 1)]) rfl ?_
          refine x_goto (pc' := 7) dX4_pickShape_50 (by decide) ?_
          exact h
        · replace h := h.2 hc
          refine x_aload_n (pc' := 10) dX4_add_9 rfl rfl rfl ?_
          refine x_getr (pc' := 13) dX4_add_10 rfl lfX4_9 (OKP.k hq) rfl (OKP.r0 hq) ?_
          refine x_aload_n (pc' := 14) dX4_add_13 rfl rfl rfl ?_
          refine x_geti (pc' := 17) dX4_add_14 rfl lfX4_15 (OKP.k hq) rfl ?_
          refine x_iload_n (pc' := 18) dX4_add_17 rfl rfl rfl ?_
          obtain ⟨hb, h⟩ := h
          refine x_iast (pc' := 19) dX4_add_18 rfl (OKP.a0 hq) (by rw [(OKP.n0 hq)]; exact hb) ?_
          obtain ⟨τ3, eτ3⟩ : ∃ τ : Mem, τ = (w1 τ1 (q + 1) (τ1.1 q 1).toNatClampNeg x3) := ⟨_, rfl⟩
          show X none (d + 1) mX4_add 19 [.ref q, .int x3] [] (w1 τ1 (q + 1) (τ1.1 q 1).toNatClampNeg x3) _
          rw [← eτ3]
          replace h := h τ3 eτ3
          refine x_aload_n (pc' := 20) dX4_add_19 rfl rfl rfl ?_
          refine x_dup (pc' := 21) dX4_add_20 rfl rfl ?_
          refine x_geti (pc' := 24) dX4_add_21 rfl lfX4_15 (OKP.k hq) rfl ?_
          refine x_iconst (pc' := 25) (v := 1) dX4_add_24 rfl (by decide) ?_
          refine x_iadd (pc' := 26) dX4_add_25 rfl ?_
          refine x_puti (pc' := 29) dX4_add_26 rfl lfX4_15 (OKP.k hq) rfl rfl rfl ?_
          obtain ⟨τ4, eτ4⟩ : ∃ τ : Mem, τ = (w1 τ3 q 1 ((τ3.1 q 1) + 1)) := ⟨_, rfl⟩
          show X none (d + 1) mX4_add 29 [.ref q, .int x3] [] (w1 τ3 q 1 ((τ3.1 q 1) + 1)) _
          rw [← eτ4]
          replace h := h τ4 eτ4
          refine x_vret dX4_add_29 rfl ?_
          show X none (d + 2) mX4_pickShape 47 [.ref q, .ref f, .ref b, .int x3] [] τ4 _
          refine x_iinc (pc' := 50) (v := 1) dX4_pickShape_47 rfl (by decide) rfl rfl (by decide) (ls' := [.ref q, .ref f, .ref b, .int (x3 + 1)]) rfl ?_
          refine x_goto (pc' := 7) dX4_pickShape_50 (by decide) ?_
          exact h
set_option maxRecDepth 100000 in
set_option maxHeartbeats 4000000 in
theorem vX4_pickStairs_0 {d : Nat} {σ : Mem} {Q : Option Value → Mem → Prop} {q f q2 : Nat} (hq : OKP q) (hf : OKF f) (hq2 : OKP q2)
    (h : (∀ τ1 : Mem, τ1 = (w1 σ q 1 0) → X none (d + 2) mX4_pickStairs 7 [.ref q, .ref f, .ref q2, .int 0] [] τ1 Q)) :
    X none (d + 2) mX4_pickStairs 0 [.ref q, .ref f, .ref q2, Unk] [] σ Q := by
  refine x_aload_n (pc' := 1) dX4_pickStairs_0 rfl rfl rfl ?_
  refine x_iconst (pc' := 2) (v := 0) dX4_pickStairs_1 rfl (by decide) ?_
  refine x_puti (pc' := 5) dX4_pickStairs_2 rfl lfX4_15 (OKP.k hq) rfl rfl rfl ?_
  obtain ⟨τ1, eτ1⟩ : ∃ τ : Mem, τ = (w1 σ q 1 0) := ⟨_, rfl⟩
  show X none (d + 2) mX4_pickStairs 5 [.ref q, .ref f, .ref q2, Unk] [] (w1 σ q 1 0) _
  rw [← eτ1]
  replace h := h τ1 eτ1
  refine x_iconst (pc' := 6) (v := 0) dX4_pickStairs_5 rfl (by decide) ?_
  refine x_istore_n (pc' := 7) dX4_pickStairs_6 rfl rfl (by decide) rfl (ls' := [.ref q, .ref f, .ref q2, .int 0]) rfl ?_
  exact h
set_option maxRecDepth 100000 in
set_option maxHeartbeats 4000000 in
theorem vX4_pickStairs_7 {d : Nat} {σ : Mem} {Q : Option Value → Mem → Prop} {q f q2 : Nat} {x3 : Int32} (hq : OKP q) (hf : OKF f) (hq2 : OKP q2)
    (h : (((σ.1 q2 1) ≤ x3 → Q (none) σ) ∧ (¬ (σ.1 q2 1) ≤ x3 → (vp_in x3 60 ∧ (X none (d + 1) mX4_tops 0 [.ref q2, .ref f, .int (σ.1 (q2 + 1) x3.toNatClampNeg), Unk] [] σ (fun r τ1 => ∃ u2 : Int32, r = some (.int u2) ∧ ((¬ u2 = 0 → X none (d + 2) mX4_pickStairs 7 [.ref q, .ref f, .ref q2, .int (x3 + 1)] [] τ1 Q) ∧ (u2 = 0 → (vp_in x3 60 ∧ ((60 ≤ (τ1.1 q 1) → X none (d + 2) mX4_pickStairs 7 [.ref q, .ref f, .ref q2, .int (x3 + 1)] [] τ1 Q) ∧ (¬ 60 ≤ (τ1.1 q 1) → (vp_in (τ1.1 q 1) 60 ∧ (∀ τ3 : Mem, τ3 = (w1 τ1 (q + 1) (τ1.1 q 1).toNatClampNeg (τ1.1 (q2 + 1) x3.toNatClampNeg)) → (∀ τ4 : Mem, τ4 = (w1 τ3 q 1 ((τ3.1 q 1) + 1)) → X none (d + 2) mX4_pickStairs 7 [.ref q, .ref f, .ref q2, .int (x3 + 1)] [] τ4 Q)))))))))))))) :
    X none (d + 2) mX4_pickStairs 7 [.ref q, .ref f, .ref q2, .int x3] [] σ Q := by
  refine x_iload_n (pc' := 8) dX4_pickStairs_7 rfl rfl rfl ?_
  refine x_aload_n (pc' := 9) dX4_pickStairs_8 rfl rfl rfl ?_
  refine x_geti (pc' := 12) dX4_pickStairs_9 rfl lfX4_15 (OKP.k hq2) rfl ?_
  refine x_icmp_ge (pc' := 15) (tgt := 45) dX4_pickStairs_12 (by decide) rfl (fun hc => ?_) (fun hc => ?_)
  · replace h := h.1 hc
    exact x_vret dX4_pickStairs_45 rfl h
  · replace h := h.2 hc
    refine x_aload_n (pc' := 16) dX4_pickStairs_15 rfl rfl rfl ?_
    refine x_aload_n (pc' := 17) dX4_pickStairs_16 rfl rfl rfl ?_
    refine x_aload_n (pc' := 18) dX4_pickStairs_17 rfl rfl rfl ?_
    refine x_getr (pc' := 21) dX4_pickStairs_18 rfl lfX4_9 (OKP.k hq2) rfl (OKP.r0 hq2) ?_
    refine x_iload_n (pc' := 22) dX4_pickStairs_21 rfl rfl rfl ?_
    obtain ⟨hb, h⟩ := h
    refine x_iald (pc' := 23) dX4_pickStairs_22 rfl (OKP.a0 hq2) (by rw [(OKP.n0 hq2)]; exact hb) ?_
    refine x_callV (pc' := 26) (As := [.ref f, .int (σ.1 (q2 + 1) x3.toNatClampNeg)]) dX4_pickStairs_23 rfl lmX4_44 (OKP.k hq2) rfl rfl (Nat.le_of_ble_eq_true rfl) (Nat.le_of_ble_eq_true rfl) ?_
    show X none (d + 1) mX4_tops 0 [.ref q2, .ref f, .int (σ.1 (q2 + 1) x3.toNatClampNeg), Unk] [] σ _
    refine X.mono h ?_
    rintro r τ1 ⟨u2, rfl, h⟩
    show X none (d + 2) mX4_pickStairs 26 [.ref q, .ref f, .ref q2, .int x3] [.int u2] τ1 _
    refine x_if_ne (pc' := 29) (tgt := 39) dX4_pickStairs_26 (by decide) rfl (fun hc => ?_) (fun hc => ?_)
    · replace h := h.1 hc
      refine x_iinc (pc' := 42) (v := 1) dX4_pickStairs_39 rfl (by decide) rfl rfl (by decide) (ls' := [.ref q, .ref f, .ref q2, .int (x3 + 1)]) rfl ?_
      refine x_goto (pc' := 7) dX4_pickStairs_42 (by decide) ?_
      exact h
    · replace h := h.2 hc
      refine x_aload_n (pc' := 30) dX4_pickStairs_29 rfl rfl rfl ?_
      refine x_aload_n (pc' := 31) dX4_pickStairs_30 rfl rfl rfl ?_
      refine x_getr (pc' := 34) dX4_pickStairs_31 rfl lfX4_9 (OKP.k hq2) rfl (OKP.r0 hq2) ?_
      refine x_iload_n (pc' := 35) dX4_pickStairs_34 rfl rfl rfl ?_
      obtain ⟨hb, h⟩ := h
      refine x_iald (pc' := 36) dX4_pickStairs_35 rfl (OKP.a0 hq2) (by rw [(OKP.n0 hq2)]; exact hb) ?_
      refine x_callV (pc' := 39) (As := [.int (τ1.1 (q2 + 1) x3.toNatClampNeg)]) dX4_pickStairs_36 rfl lmX4_28 (OKP.k hq) rfl rfl (Nat.le_of_ble_eq_true rfl) (Nat.le_of_ble_eq_true rfl) ?_
      show X none (d + 1) mX4_add 0 [.ref q, .int (τ1.1 (q2 + 1) x3.toNatClampNeg)] [] τ1 _
      refine x_aload_n (pc' := 1) dX4_add_0 rfl rfl rfl ?_
      refine x_geti (pc' := 4) dX4_add_1 rfl lfX4_15 (OKP.k hq) rfl ?_
      refine x_bipush (pc' := 6) (v := 60) dX4_add_4 rfl (by decide) ?_
      refine x_icmp_ge (pc' := 9) (tgt := 29) dX4_add_6 (by decide) rfl (fun hc => ?_) (fun hc => ?_)
      · replace h := h.1 hc
        refine x_vret dX4_add_29 rfl ?_
        show X none (d + 2) mX4_pickStairs 39 [.ref q, .ref f, .ref q2, .int x3] [] τ1 _
        refine x_iinc (pc' := 42) (v := 1) dX4_pickStairs_39 rfl (by decide) rfl rfl (by decide) (ls' := [.ref q, .ref f, .ref q2, .int (x3 + 1)]) rfl ?_
        refine x_goto (pc' := 7) dX4_pickStairs_42 (by decide) ?_
        exact h
      · replace h := h.2 hc
        refine x_aload_n (pc' := 10) dX4_add_9 rfl rfl rfl ?_
        refine x_getr (pc' := 13) dX4_add_10 rfl lfX4_9 (OKP.k hq) rfl (OKP.r0 hq) ?_
        refine x_aload_n (pc' := 14) dX4_add_13 rfl rfl rfl ?_
        refine x_geti (pc' := 17) dX4_add_14 rfl lfX4_15 (OKP.k hq) rfl ?_
        refine x_iload_n (pc' := 18) dX4_add_17 rfl rfl rfl ?_
        obtain ⟨hb, h⟩ := h
        refine x_iast (pc' := 19) dX4_add_18 rfl (OKP.a0 hq) (by rw [(OKP.n0 hq)]; exact hb) ?_
        obtain ⟨τ3, eτ3⟩ : ∃ τ : Mem, τ = (w1 τ1 (q + 1) (τ1.1 q 1).toNatClampNeg (τ1.1 (q2 + 1) x3.toNatClampNeg)) := ⟨_, rfl⟩
        show X none (d + 1) mX4_add 19 [.ref q, .int (τ1.1 (q2 + 1) x3.toNatClampNeg)] [] (w1 τ1 (q + 1) (τ1.1 q 1).toNatClampNeg (τ1.1 (q2 + 1) x3.toNatClampNeg)) _
        rw [← eτ3]
        replace h := h τ3 eτ3
        refine x_aload_n (pc' := 20) dX4_add_19 rfl rfl rfl ?_
        refine x_dup (pc' := 21) dX4_add_20 rfl rfl ?_
        refine x_geti (pc' := 24) dX4_add_21 rfl lfX4_15 (OKP.k hq) rfl ?_
        refine x_iconst (pc' := 25) (v := 1) dX4_add_24 rfl (by decide) ?_
        refine x_iadd (pc' := 26) dX4_add_25 rfl ?_
        refine x_puti (pc' := 29) dX4_add_26 rfl lfX4_15 (OKP.k hq) rfl rfl rfl ?_
        obtain ⟨τ4, eτ4⟩ : ∃ τ : Mem, τ = (w1 τ3 q 1 ((τ3.1 q 1) + 1)) := ⟨_, rfl⟩
        show X none (d + 1) mX4_add 29 [.ref q, .int (τ1.1 (q2 + 1) x3.toNatClampNeg)] [] (w1 τ3 q 1 ((τ3.1 q 1) + 1)) _
        rw [← eτ4]
        replace h := h τ4 eτ4
        refine x_vret dX4_add_29 rfl ?_
        show X none (d + 2) mX4_pickStairs 39 [.ref q, .ref f, .ref q2, .int x3] [] τ4 _
        refine x_iinc (pc' := 42) (v := 1) dX4_pickStairs_39 rfl (by decide) rfl rfl (by decide) (ls' := [.ref q, .ref f, .ref q2, .int (x3 + 1)]) rfl ?_
        refine x_goto (pc' := 7) dX4_pickStairs_42 (by decide) ?_
        exact h
set_option maxRecDepth 100000 in
set_option maxHeartbeats 4000000 in
theorem vX4_tops_0 {d : Nat} {σ : Mem} {Q : Option Value → Mem → Prop} {q f : Nat} {x2 : Int32} (hq : OKP q) (hf : OKF f)
    (h : X none (d + 1) mX4_tops 2 [.ref q, .ref f, .int x2, .int 0] [] σ Q) :
    X none (d + 1) mX4_tops 0 [.ref q, .ref f, .int x2, Unk] [] σ Q := by
  refine x_iconst (pc' := 1) (v := 0) dX4_tops_0 rfl (by decide) ?_
  refine x_istore_n (pc' := 2) dX4_tops_1 rfl rfl (by decide) rfl (ls' := [.ref q, .ref f, .int x2, .int 0]) rfl ?_
  exact h
set_option maxRecDepth 100000 in
set_option maxHeartbeats 4000000 in
theorem vX4_tops_2 {d : Nat} {σ : Mem} {Q : Option Value → Mem → Prop} {q f : Nat} {x2 x3 : Int32} (hq : OKP q) (hf : OKF f)
    (h : (((σ.1 q 1) ≤ x3 → Q (some (.int 0)) σ) ∧ (¬ (σ.1 q 1) ≤ x3 → (vp_in x3 60 ∧ (X none d mX0_isTopped 0 [.ref f, .int x2, .int (σ.1 (q + 1) x3.toNatClampNeg)] [] σ (fun r τ1 => ∃ u2 : Int32, r = some (.int u2) ∧ ((u2 = 0 → X none (d + 1) mX4_tops 2 [.ref q, .ref f, .int x2, .int (x3 + 1)] [] τ1 Q) ∧ (¬ u2 = 0 → Q (some (.int 1)) τ1)))))))) :
    X none (d + 1) mX4_tops 2 [.ref q, .ref f, .int x2, .int x3] [] σ Q := by
  refine x_iload_n (pc' := 3) dX4_tops_2 rfl rfl rfl ?_
  refine x_aload_n (pc' := 4) dX4_tops_3 rfl rfl rfl ?_
  refine x_geti (pc' := 7) dX4_tops_4 rfl lfX4_15 (OKP.k hq) rfl ?_
  refine x_icmp_ge (pc' := 10) (tgt := 32) dX4_tops_7 (by decide) rfl (fun hc => ?_) (fun hc => ?_)
  · replace h := h.1 hc
    refine x_iconst (pc' := 33) (v := 0) dX4_tops_32 rfl (by decide) ?_
    exact x_iret dX4_tops_33 rfl rfl h
  · replace h := h.2 hc
    refine x_aload_n (pc' := 11) dX4_tops_10 rfl rfl rfl ?_
    refine x_iload_n (pc' := 12) dX4_tops_11 rfl rfl rfl ?_
    refine x_aload_n (pc' := 13) dX4_tops_12 rfl rfl rfl ?_
    refine x_getr (pc' := 16) dX4_tops_13 rfl lfX4_9 (OKP.k hq) rfl (OKP.r0 hq) ?_
    refine x_iload_n (pc' := 17) dX4_tops_16 rfl rfl rfl ?_
    obtain ⟨hb, h⟩ := h
    refine x_iald (pc' := 18) dX4_tops_17 rfl (OKP.a0 hq) (by rw [(OKP.n0 hq)]; exact hb) ?_
    refine x_callV (pc' := 21) (As := [.int x2, .int (σ.1 (q + 1) x3.toNatClampNeg)]) dX4_tops_18 rfl lmX4_48 (OKF.k hf) rfl rfl (Nat.le_of_ble_eq_true rfl) (Nat.le_of_ble_eq_true rfl) ?_
    show X none d mX0_isTopped 0 [.ref f, .int x2, .int (σ.1 (q + 1) x3.toNatClampNeg)] [] σ _
    refine X.mono h ?_
    rintro r τ1 ⟨u2, rfl, h⟩
    show X none (d + 1) mX4_tops 21 [.ref q, .ref f, .int x2, .int x3] [.int u2] τ1 _
    refine x_if_eq (pc' := 24) (tgt := 26) dX4_tops_21 (by decide) rfl (fun hc => ?_) (fun hc => ?_)
    · replace h := h.1 hc
      refine x_iinc (pc' := 29) (v := 1) dX4_tops_26 rfl (by decide) rfl rfl (by decide) (ls' := [.ref q, .ref f, .int x2, .int (x3 + 1)]) rfl ?_
      refine x_goto (pc' := 2) dX4_tops_29 (by decide) ?_
      exact h
    · replace h := h.2 hc
      refine x_iconst (pc' := 25) (v := 1) dX4_tops_24 rfl (by decide) ?_
      exact x_iret dX4_tops_25 rfl rfl h
set_option maxRecDepth 100000 in
set_option maxHeartbeats 4000000 in
theorem vX4_sortByPlace_0 {d : Nat} {σ : Mem} {Q : Option Value → Mem → Prop} {q f : Nat} (hq : OKP q) (hf : OKF f)
    (h : (X none (d + 2) mX4_sort 0 [.ref q, .ref f, .int 0, Unk, Unk, Unk] [] σ (fun r τ1 => r = none ∧ Q (none) τ1))) :
    X none (d + 3) mX4_sortByPlace 0 [.ref q, .ref f] [] σ Q := by
  refine x_aload_n (pc' := 1) dX4_sortByPlace_0 rfl rfl rfl ?_
  refine x_aload_n (pc' := 2) dX4_sortByPlace_1 rfl rfl rfl ?_
  refine x_iconst (pc' := 3) (v := 0) dX4_sortByPlace_2 rfl (by decide) ?_
  refine x_callV (pc' := 6) (As := [.ref f, .int 0]) dX4_sortByPlace_3 rfl lmX4_51 (OKP.k hq) rfl rfl (Nat.le_of_ble_eq_true rfl) (Nat.le_of_ble_eq_true rfl) ?_
  show X none (d + 2) mX4_sort 0 [.ref q, .ref f, .int 0, Unk, Unk, Unk] [] σ _
  refine X.mono h ?_
  rintro r τ1 ⟨rfl, h⟩
  show X none (d + 3) mX4_sortByPlace 6 [.ref q, .ref f] [] τ1 _
  exact x_vret dX4_sortByPlace_6 rfl h
set_option maxRecDepth 100000 in
set_option maxHeartbeats 4000000 in
theorem vX4_sortByHeight_0 {d : Nat} {σ : Mem} {Q : Option Value → Mem → Prop} {q f : Nat} (hq : OKP q) (hf : OKF f)
    (h : (X none (d + 2) mX4_sort 0 [.ref q, .ref f, .int 1, Unk, Unk, Unk] [] σ (fun r τ1 => r = none ∧ Q (none) τ1))) :
    X none (d + 3) mX4_sortByHeight 0 [.ref q, .ref f] [] σ Q := by
  refine x_aload_n (pc' := 1) dX4_sortByHeight_0 rfl rfl rfl ?_
  refine x_aload_n (pc' := 2) dX4_sortByHeight_1 rfl rfl rfl ?_
  refine x_iconst (pc' := 3) (v := 1) dX4_sortByHeight_2 rfl (by decide) ?_
  refine x_callV (pc' := 6) (As := [.ref f, .int 1]) dX4_sortByHeight_3 rfl lmX4_51 (OKP.k hq) rfl rfl (Nat.le_of_ble_eq_true rfl) (Nat.le_of_ble_eq_true rfl) ?_
  show X none (d + 2) mX4_sort 0 [.ref q, .ref f, .int 1, Unk, Unk, Unk] [] σ _
  refine X.mono h ?_
  rintro r τ1 ⟨rfl, h⟩
  show X none (d + 3) mX4_sortByHeight 6 [.ref q, .ref f] [] τ1 _
  exact x_vret dX4_sortByHeight_6 rfl h
set_option maxRecDepth 100000 in
set_option maxHeartbeats 4000000 in
theorem vX4_sort_0 {d : Nat} {σ : Mem} {Q : Option Value → Mem → Prop} {q f : Nat} {x2 : Int32} (hq : OKP q) (hf : OKF f)
    (h : X none (d + 2) mX4_sort 2 [.ref q, .ref f, .int x2, .int 1, Unk, Unk] [] σ Q) :
    X none (d + 2) mX4_sort 0 [.ref q, .ref f, .int x2, Unk, Unk, Unk] [] σ Q := by
  refine x_iconst (pc' := 1) (v := 1) dX4_sort_0 rfl (by decide) ?_
  refine x_istore_n (pc' := 2) dX4_sort_1 rfl rfl (by decide) rfl (ls' := [.ref q, .ref f, .int x2, .int 1, Unk, Unk]) rfl ?_
  exact h
set_option maxRecDepth 100000 in
set_option maxHeartbeats 4000000 in
theorem vX4_sort_2 {d : Nat} {σ : Mem} {Q : Option Value → Mem → Prop} {q f : Nat} {x2 x3 : Int32} (hq : OKP q) (hf : OKF f)
    (h : (((σ.1 q 1) ≤ x3 → Q (none) σ) ∧ (¬ (σ.1 q 1) ≤ x3 → (vp_in x3 60 ∧ X none (d + 2) mX4_sort 21 [.ref q, .ref f, .int x2, .int x3, .int (σ.1 (q + 1) x3.toNatClampNeg), .int x3] [] σ Q)))) :
    X none (d + 2) mX4_sort 2 [.ref q, .ref f, .int x2, .int x3, Unk, Unk] [] σ Q := by
  refine x_iload_n (pc' := 3) dX4_sort_2 rfl rfl rfl ?_
  refine x_aload_n (pc' := 4) dX4_sort_3 rfl rfl rfl ?_
  refine x_geti (pc' := 7) dX4_sort_4 rfl lfX4_15 (OKP.k hq) rfl ?_
  refine x_icmp_ge (pc' := 10) (tgt := 82) dX4_sort_7 (by decide) rfl (fun hc => ?_) (fun hc => ?_)
  · replace h := h.1 hc
    exact x_vret dX4_sort_82 rfl h
  · replace h := h.2 hc
    refine x_aload_n (pc' := 11) dX4_sort_10 rfl rfl rfl ?_
    refine x_getr (pc' := 14) dX4_sort_11 rfl lfX4_9 (OKP.k hq) rfl (OKP.r0 hq) ?_
    refine x_iload_n (pc' := 15) dX4_sort_14 rfl rfl rfl ?_
    obtain ⟨hb, h⟩ := h
    refine x_iald (pc' := 16) dX4_sort_15 rfl (OKP.a0 hq) (by rw [(OKP.n0 hq)]; exact hb) ?_
    refine x_istore (pc' := 18) dX4_sort_16 rfl (by decide) rfl (ls' := [.ref q, .ref f, .int x2, .int x3, .int (σ.1 (q + 1) x3.toNatClampNeg), Unk]) rfl ?_
    refine x_iload_n (pc' := 19) dX4_sort_18 rfl rfl rfl ?_
    refine x_istore (pc' := 21) dX4_sort_19 rfl (by decide) rfl (ls' := [.ref q, .ref f, .int x2, .int x3, .int (σ.1 (q + 1) x3.toNatClampNeg), .int x3]) rfl ?_
    exact h
set_option maxRecDepth 100000 in
set_option maxHeartbeats 4000000 in
theorem vX4_sort_21 {d : Nat} {σ : Mem} {Q : Option Value → Mem → Prop} {q f : Nat} {x2 x3 x4 x5 : Int32} (hq : OKP q) (hf : OKF f)
    (h : ((x5 ≤ 0 → (vp_in x5 60 ∧ (∀ τ1 : Mem, τ1 = (w1 σ (q + 1) x5.toNatClampNeg x4) → X none (d + 2) mX4_sort 2 [.ref q, .ref f, .int x2, .int (x3 + 1), Unk, Unk] [] τ1 Q))) ∧ (¬ x5 ≤ 0 → (vp_in (x5 - 1) 60 ∧ (X none (d + 1) mX4_isBefore 0 [.ref f, .int x4, .int (σ.1 (q + 1) (x5 - 1).toNatClampNeg), .int x2] [] σ (fun r τ2 => ∃ u3 : Int32, r = some (.int u3) ∧ ((u3 = 0 → (vp_in x5 60 ∧ (∀ τ4 : Mem, τ4 = (w1 τ2 (q + 1) x5.toNatClampNeg x4) → X none (d + 2) mX4_sort 2 [.ref q, .ref f, .int x2, .int (x3 + 1), Unk, Unk] [] τ4 Q))) ∧ (¬ u3 = 0 → (vp_in (x5 - 1) 60 ∧ (vp_in x5 60 ∧ (∀ τ5 : Mem, τ5 = (w1 τ2 (q + 1) x5.toNatClampNeg (τ2.1 (q + 1) (x5 - 1).toNatClampNeg)) → X none (d + 2) mX4_sort 21 [.ref q, .ref f, .int x2, .int x3, .int x4, .int (x5 + (-1))] [] τ5 Q))))))))))) :
    X none (d + 2) mX4_sort 21 [.ref q, .ref f, .int x2, .int x3, .int x4, .int x5] [] σ Q := by
  refine x_iload (pc' := 23) dX4_sort_21 rfl rfl ?_
  refine x_if_le (pc' := 26) (tgt := 67) dX4_sort_23 (by decide) rfl (fun hc => ?_) (fun hc => ?_)
  · replace h := h.1 hc
    refine x_aload_n (pc' := 68) dX4_sort_67 rfl rfl rfl ?_
    refine x_getr (pc' := 71) dX4_sort_68 rfl lfX4_9 (OKP.k hq) rfl (OKP.r0 hq) ?_
    refine x_iload (pc' := 73) dX4_sort_71 rfl rfl ?_
    refine x_iload (pc' := 75) dX4_sort_73 rfl rfl ?_
    obtain ⟨hb, h⟩ := h
    refine x_iast (pc' := 76) dX4_sort_75 rfl (OKP.a0 hq) (by rw [(OKP.n0 hq)]; exact hb) ?_
    obtain ⟨τ1, eτ1⟩ : ∃ τ : Mem, τ = (w1 σ (q + 1) x5.toNatClampNeg x4) := ⟨_, rfl⟩
    show X none (d + 2) mX4_sort 76 [.ref q, .ref f, .int x2, .int x3, .int x4, .int x5] [] (w1 σ (q + 1) x5.toNatClampNeg x4) _
    rw [← eτ1]
    replace h := h τ1 eτ1
    refine x_iinc (pc' := 79) (v := 1) dX4_sort_76 rfl (by decide) rfl rfl (by decide) (ls' := [.ref q, .ref f, .int x2, .int (x3 + 1), .int x4, .int x5]) rfl ?_
    refine x_goto (pc' := 2) dX4_sort_79 (by decide) ?_
    refine x_forget 4 (ls' := [.ref q, .ref f, .int x2, .int (x3 + 1), Unk, .int x5]) rfl ?_
    refine x_forget 5 (ls' := [.ref q, .ref f, .int x2, .int (x3 + 1), Unk, Unk]) rfl ?_
    exact h
  · replace h := h.2 hc
    refine x_aload_n (pc' := 27) dX4_sort_26 rfl rfl rfl ?_
    refine x_iload (pc' := 29) dX4_sort_27 rfl rfl ?_
    refine x_aload_n (pc' := 30) dX4_sort_29 rfl rfl rfl ?_
    refine x_getr (pc' := 33) dX4_sort_30 rfl lfX4_9 (OKP.k hq) rfl (OKP.r0 hq) ?_
    refine x_iload (pc' := 35) dX4_sort_33 rfl rfl ?_
    refine x_iconst (pc' := 36) (v := 1) dX4_sort_35 rfl (by decide) ?_
    refine x_isub (pc' := 37) dX4_sort_36 rfl ?_
    obtain ⟨hb, h⟩ := h
    refine x_iald (pc' := 38) dX4_sort_37 rfl (OKP.a0 hq) (by rw [(OKP.n0 hq)]; exact hb) ?_
    refine x_iload_n (pc' := 39) dX4_sort_38 rfl rfl rfl ?_
    refine x_callS (pc' := 42) (As := [.ref f, .int x4, .int (σ.1 (q + 1) (x5 - 1).toNatClampNeg), .int x2]) dX4_sort_39 rfl lmX4_55 rfl rfl (Nat.le_of_ble_eq_true rfl) (Nat.le_of_ble_eq_true rfl) ?_
    show X none (d + 1) mX4_isBefore 0 [.ref f, .int x4, .int (σ.1 (q + 1) (x5 - 1).toNatClampNeg), .int x2] [] σ _
    refine X.mono h ?_
    rintro r τ2 ⟨u3, rfl, h⟩
    show X none (d + 2) mX4_sort 42 [.ref q, .ref f, .int x2, .int x3, .int x4, .int x5] [.int u3] τ2 _
    refine x_if_eq (pc' := 45) (tgt := 67) dX4_sort_42 (by decide) rfl (fun hc => ?_) (fun hc => ?_)
    · replace h := h.1 hc
      refine x_aload_n (pc' := 68) dX4_sort_67 rfl rfl rfl ?_
      refine x_getr (pc' := 71) dX4_sort_68 rfl lfX4_9 (OKP.k hq) rfl (OKP.r0 hq) ?_
      refine x_iload (pc' := 73) dX4_sort_71 rfl rfl ?_
      refine x_iload (pc' := 75) dX4_sort_73 rfl rfl ?_
      obtain ⟨hb, h⟩ := h
      refine x_iast (pc' := 76) dX4_sort_75 rfl (OKP.a0 hq) (by rw [(OKP.n0 hq)]; exact hb) ?_
      obtain ⟨τ4, eτ4⟩ : ∃ τ : Mem, τ = (w1 τ2 (q + 1) x5.toNatClampNeg x4) := ⟨_, rfl⟩
      show X none (d + 2) mX4_sort 76 [.ref q, .ref f, .int x2, .int x3, .int x4, .int x5] [] (w1 τ2 (q + 1) x5.toNatClampNeg x4) _
      rw [← eτ4]
      replace h := h τ4 eτ4
      refine x_iinc (pc' := 79) (v := 1) dX4_sort_76 rfl (by decide) rfl rfl (by decide) (ls' := [.ref q, .ref f, .int x2, .int (x3 + 1), .int x4, .int x5]) rfl ?_
      refine x_goto (pc' := 2) dX4_sort_79 (by decide) ?_
      refine x_forget 4 (ls' := [.ref q, .ref f, .int x2, .int (x3 + 1), Unk, .int x5]) rfl ?_
      refine x_forget 5 (ls' := [.ref q, .ref f, .int x2, .int (x3 + 1), Unk, Unk]) rfl ?_
      exact h
    · replace h := h.2 hc
      refine x_aload_n (pc' := 46) dX4_sort_45 rfl rfl rfl ?_
      refine x_getr (pc' := 49) dX4_sort_46 rfl lfX4_9 (OKP.k hq) rfl (OKP.r0 hq) ?_
      refine x_iload (pc' := 51) dX4_sort_49 rfl rfl ?_
      refine x_aload_n (pc' := 52) dX4_sort_51 rfl rfl rfl ?_
      refine x_getr (pc' := 55) dX4_sort_52 rfl lfX4_9 (OKP.k hq) rfl (OKP.r0 hq) ?_
      refine x_iload (pc' := 57) dX4_sort_55 rfl rfl ?_
      refine x_iconst (pc' := 58) (v := 1) dX4_sort_57 rfl (by decide) ?_
      refine x_isub (pc' := 59) dX4_sort_58 rfl ?_
      obtain ⟨hb, h⟩ := h
      refine x_iald (pc' := 60) dX4_sort_59 rfl (OKP.a0 hq) (by rw [(OKP.n0 hq)]; exact hb) ?_
      obtain ⟨hb, h⟩ := h
      refine x_iast (pc' := 61) dX4_sort_60 rfl (OKP.a0 hq) (by rw [(OKP.n0 hq)]; exact hb) ?_
      obtain ⟨τ5, eτ5⟩ : ∃ τ : Mem, τ = (w1 τ2 (q + 1) x5.toNatClampNeg (τ2.1 (q + 1) (x5 - 1).toNatClampNeg)) := ⟨_, rfl⟩
      show X none (d + 2) mX4_sort 61 [.ref q, .ref f, .int x2, .int x3, .int x4, .int x5] [] (w1 τ2 (q + 1) x5.toNatClampNeg (τ2.1 (q + 1) (x5 - 1).toNatClampNeg)) _
      rw [← eτ5]
      replace h := h τ5 eτ5
      refine x_iinc (pc' := 64) (v := (-1)) dX4_sort_61 rfl (by decide) rfl rfl (by decide) (ls' := [.ref q, .ref f, .int x2, .int x3, .int x4, .int (x5 + (-1))]) rfl ?_
      refine x_goto (pc' := 21) dX4_sort_64 (by decide) ?_
      exact h
set_option maxRecDepth 100000 in
set_option maxHeartbeats 4000000 in
theorem vX4_isBefore_0 {d : Nat} {σ : Mem} {Q : Option Value → Mem → Prop} {f : Nat} {x1 x2 x3 : Int32} (hf : OKF f)
    (h : ((x3 = 0 → (X none d mX0_isBeforeByPlace 0 [.ref f, .int x1, .int x2] [] σ (fun r τ1 => ∃ u2 : Int32, r = some (.int u2) ∧ (narrow .boolean (.int u2) = .int u2 ∧ Q (some (.int u2)) τ1)))) ∧ (¬ x3 = 0 → (vp_in x1 121 ∧ (vp_in x2 121 ∧ (((σ.1 (f + 3) x2.toNatClampNeg) ≤ (σ.1 (f + 3) x1.toNatClampNeg) → Q (some (.int 0)) σ) ∧ (¬ (σ.1 (f + 3) x2.toNatClampNeg) ≤ (σ.1 (f + 3) x1.toNatClampNeg) → Q (some (.int 1)) σ))))))) :
    X none (d + 1) mX4_isBefore 0 [.ref f, .int x1, .int x2, .int x3] [] σ Q := by
  refine x_iload_n (pc' := 1) dX4_isBefore_0 rfl rfl rfl ?_
  refine x_if_eq (pc' := 4) (tgt := 27) dX4_isBefore_1 (by decide) rfl (fun hc => ?_) (fun hc => ?_)
  · replace h := h.1 hc
    refine x_aload_n (pc' := 28) dX4_isBefore_27 rfl rfl rfl ?_
    refine x_iload_n (pc' := 29) dX4_isBefore_28 rfl rfl rfl ?_
    refine x_iload_n (pc' := 30) dX4_isBefore_29 rfl rfl rfl ?_
    refine x_callV (pc' := 33) (As := [.int x1, .int x2]) dX4_isBefore_30 rfl lmX4_59 (OKF.k hf) rfl rfl (Nat.le_of_ble_eq_true rfl) (Nat.le_of_ble_eq_true rfl) ?_
    show X none d mX0_isBeforeByPlace 0 [.ref f, .int x1, .int x2] [] σ _
    refine X.mono h ?_
    rintro r τ1 ⟨u2, rfl, h⟩
    show X none (d + 1) mX4_isBefore 33 [.ref f, .int x1, .int x2, .int x3] [.int u2] τ1 _
    exact x_iret dX4_isBefore_33 rfl h.1 h.2
  · replace h := h.2 hc
    refine x_aload_n (pc' := 5) dX4_isBefore_4 rfl rfl rfl ?_
    refine x_getr (pc' := 8) dX4_isBefore_5 rfl lfX4_35 (OKF.k hf) rfl (OKF.r2 hf) ?_
    refine x_iload_n (pc' := 9) dX4_isBefore_8 rfl rfl rfl ?_
    obtain ⟨hb, h⟩ := h
    refine x_iald (pc' := 10) dX4_isBefore_9 rfl (OKF.a2 hf) (by rw [(OKF.n2 hf)]; exact hb) ?_
    refine x_aload_n (pc' := 11) dX4_isBefore_10 rfl rfl rfl ?_
    refine x_getr (pc' := 14) dX4_isBefore_11 rfl lfX4_35 (OKF.k hf) rfl (OKF.r2 hf) ?_
    refine x_iload_n (pc' := 15) dX4_isBefore_14 rfl rfl rfl ?_
    obtain ⟨hb, h⟩ := h
    refine x_iald (pc' := 16) dX4_isBefore_15 rfl (OKF.a2 hf) (by rw [(OKF.n2 hf)]; exact hb) ?_
    refine x_icmp_ge (pc' := 19) (tgt := 23) dX4_isBefore_16 (by decide) rfl (fun hc => ?_) (fun hc => ?_)
    · replace h := h.1 hc
      refine x_iconst (pc' := 24) (v := 0) dX4_isBefore_23 rfl (by decide) ?_
      refine x_goto (pc' := 33) dX4_isBefore_24 (by decide) ?_
      exact x_iret dX4_isBefore_33 rfl rfl h
    · replace h := h.2 hc
      refine x_iconst (pc' := 20) (v := 1) dX4_isBefore_19 rfl (by decide) ?_
      refine x_goto (pc' := 33) dX4_isBefore_20 (by decide) ?_
      exact x_iret dX4_isBefore_33 rfl rfl h
set_option maxRecDepth 100000 in
set_option maxHeartbeats 4000000 in
theorem vX4_turnToNumbers_0 {d : Nat} {σ : Mem} {Q : Option Value → Mem → Prop} {q f : Nat} (hq : OKP q) (hf : OKF f)
    (h : X none d mX4_turnToNumbers 2 [.ref q, .ref f, .int 0] [] σ Q) :
    X none d mX4_turnToNumbers 0 [.ref q, .ref f, Unk] [] σ Q := by
  refine x_iconst (pc' := 1) (v := 0) dX4_turnToNumbers_0 rfl (by decide) ?_
  refine x_istore_n (pc' := 2) dX4_turnToNumbers_1 rfl rfl (by decide) rfl (ls' := [.ref q, .ref f, .int 0]) rfl ?_
  exact h
set_option maxRecDepth 100000 in
set_option maxHeartbeats 4000000 in
theorem vX4_turnToNumbers_2 {d : Nat} {σ : Mem} {Q : Option Value → Mem → Prop} {q f : Nat} {x2 : Int32} (hq : OKP q) (hf : OKF f)
    (h : (((σ.1 q 1) ≤ x2 → Q (none) σ) ∧ (¬ (σ.1 q 1) ≤ x2 → (vp_in x2 60 ∧ (vp_in (σ.1 (q + 1) x2.toNatClampNeg) 121 ∧ (vp_in x2 60 ∧ (∀ τ1 : Mem, τ1 = (w1 σ (q + 1) x2.toNatClampNeg (σ.1 (f + 1) (σ.1 (q + 1) x2.toNatClampNeg).toNatClampNeg)) → X none d mX4_turnToNumbers 2 [.ref q, .ref f, .int (x2 + 1)] [] τ1 Q))))))) :
    X none d mX4_turnToNumbers 2 [.ref q, .ref f, .int x2] [] σ Q := by
  refine x_iload_n (pc' := 3) dX4_turnToNumbers_2 rfl rfl rfl ?_
  refine x_aload_n (pc' := 4) dX4_turnToNumbers_3 rfl rfl rfl ?_
  refine x_geti (pc' := 7) dX4_turnToNumbers_4 rfl lfX4_15 (OKP.k hq) rfl ?_
  refine x_icmp_ge (pc' := 10) (tgt := 33) dX4_turnToNumbers_7 (by decide) rfl (fun hc => ?_) (fun hc => ?_)
  · replace h := h.1 hc
    exact x_vret dX4_turnToNumbers_33 rfl h
  · replace h := h.2 hc
    refine x_aload_n (pc' := 11) dX4_turnToNumbers_10 rfl rfl rfl ?_
    refine x_getr (pc' := 14) dX4_turnToNumbers_11 rfl lfX4_9 (OKP.k hq) rfl (OKP.r0 hq) ?_
    refine x_iload_n (pc' := 15) dX4_turnToNumbers_14 rfl rfl rfl ?_
    refine x_aload_n (pc' := 16) dX4_turnToNumbers_15 rfl rfl rfl ?_
    refine x_getr (pc' := 19) dX4_turnToNumbers_16 rfl lfX4_62 (OKF.k hf) rfl (OKF.r0 hf) ?_
    refine x_aload_n (pc' := 20) dX4_turnToNumbers_19 rfl rfl rfl ?_
    refine x_getr (pc' := 23) dX4_turnToNumbers_20 rfl lfX4_9 (OKP.k hq) rfl (OKP.r0 hq) ?_
    refine x_iload_n (pc' := 24) dX4_turnToNumbers_23 rfl rfl rfl ?_
    obtain ⟨hb, h⟩ := h
    refine x_iald (pc' := 25) dX4_turnToNumbers_24 rfl (OKP.a0 hq) (by rw [(OKP.n0 hq)]; exact hb) ?_
    obtain ⟨hb, h⟩ := h
    refine x_iald (pc' := 26) dX4_turnToNumbers_25 rfl (OKF.a0 hf) (by rw [(OKF.n0 hf)]; exact hb) ?_
    obtain ⟨hb, h⟩ := h
    refine x_iast (pc' := 27) dX4_turnToNumbers_26 rfl (OKP.a0 hq) (by rw [(OKP.n0 hq)]; exact hb) ?_
    obtain ⟨τ1, eτ1⟩ : ∃ τ : Mem, τ = (w1 σ (q + 1) x2.toNatClampNeg (σ.1 (f + 1) (σ.1 (q + 1) x2.toNatClampNeg).toNatClampNeg)) := ⟨_, rfl⟩
    show X none d mX4_turnToNumbers 27 [.ref q, .ref f, .int x2] [] (w1 σ (q + 1) x2.toNatClampNeg (σ.1 (f + 1) (σ.1 (q + 1) x2.toNatClampNeg).toNatClampNeg)) _
    rw [← eτ1]
    replace h := h τ1 eτ1
    refine x_iinc (pc' := 30) (v := 1) dX4_turnToNumbers_27 rfl (by decide) rfl rfl (by decide) (ls' := [.ref q, .ref f, .int (x2 + 1)]) rfl ?_
    refine x_goto (pc' := 2) dX4_turnToNumbers_30 (by decide) ?_
    exact h
set_option maxRecDepth 100000 in
set_option maxHeartbeats 4000000 in
theorem vX4_numberOf_0 {d : Nat} {σ : Mem} {Q : Option Value → Mem → Prop} {q f : Nat} {x2 : Int32} (hq : OKP q) (hf : OKF f)
    (h : ((x2 < 0 → Q (some (.int (-2000000001))) σ) ∧ (¬ x2 < 0 → (((σ.1 q 1) ≤ x2 → Q (some (.int (-2000000001))) σ) ∧ (¬ (σ.1 q 1) ≤ x2 → (vp_in x2 60 ∧ (vp_in (σ.1 (q + 1) x2.toNatClampNeg) 121 ∧ Q (some (.int (σ.1 (f + 1) (σ.1 (q + 1) x2.toNatClampNeg).toNatClampNeg))) σ))))))) :
    X none d mX4_numberOf 0 [.ref q, .ref f, .int x2] [] σ Q := by
  refine x_iload_n (pc' := 1) dX4_numberOf_0 rfl rfl rfl ?_
  refine x_if_lt (pc' := 4) (tgt := 26) dX4_numberOf_1 (by decide) rfl (fun hc => ?_) (fun hc => ?_)
  · replace h := h.1 hc
    refine x_ldc (pc' := 28) dX4_numberOf_26 rfl lcX4_65 ?_
    exact x_iret dX4_numberOf_28 rfl rfl h
  · replace h := h.2 hc
    refine x_iload_n (pc' := 5) dX4_numberOf_4 rfl rfl rfl ?_
    refine x_aload_n (pc' := 6) dX4_numberOf_5 rfl rfl rfl ?_
    refine x_geti (pc' := 9) dX4_numberOf_6 rfl lfX4_15 (OKP.k hq) rfl ?_
    refine x_icmp_ge (pc' := 12) (tgt := 26) dX4_numberOf_9 (by decide) rfl (fun hc => ?_) (fun hc => ?_)
    · replace h := h.1 hc
      refine x_ldc (pc' := 28) dX4_numberOf_26 rfl lcX4_65 ?_
      exact x_iret dX4_numberOf_28 rfl rfl h
    · replace h := h.2 hc
      refine x_aload_n (pc' := 13) dX4_numberOf_12 rfl rfl rfl ?_
      refine x_getr (pc' := 16) dX4_numberOf_13 rfl lfX4_62 (OKF.k hf) rfl (OKF.r0 hf) ?_
      refine x_aload_n (pc' := 17) dX4_numberOf_16 rfl rfl rfl ?_
      refine x_getr (pc' := 20) dX4_numberOf_17 rfl lfX4_9 (OKP.k hq) rfl (OKP.r0 hq) ?_
      refine x_iload_n (pc' := 21) dX4_numberOf_20 rfl rfl rfl ?_
      obtain ⟨hb, h⟩ := h
      refine x_iald (pc' := 22) dX4_numberOf_21 rfl (OKP.a0 hq) (by rw [(OKP.n0 hq)]; exact hb) ?_
      obtain ⟨hb, h⟩ := h
      refine x_iald (pc' := 23) dX4_numberOf_22 rfl (OKF.a0 hf) (by rw [(OKF.n0 hf)]; exact hb) ?_
      refine x_goto (pc' := 28) dX4_numberOf_23 (by decide) ?_
      exact x_iret dX4_numberOf_28 rfl rfl h
set_option maxRecDepth 100000 in
set_option maxHeartbeats 4000000 in
theorem vX4_worthOfAll_0 {d : Nat} {σ : Mem} {Q : Option Value → Mem → Prop} {q f : Nat} (hq : OKP q) (hf : OKF f)
    (h : X none (d + 2) mX4_worthOfAll 4 [.ref q, .ref f, .int 0, .int 0] [] σ Q) :
    X none (d + 2) mX4_worthOfAll 0 [.ref q, .ref f, Unk, Unk] [] σ Q := by
  refine x_iconst (pc' := 1) (v := 0) dX4_worthOfAll_0 rfl (by decide) ?_
  refine x_istore_n (pc' := 2) dX4_worthOfAll_1 rfl rfl (by decide) rfl (ls' := [.ref q, .ref f, .int 0, Unk]) rfl ?_
  refine x_iconst (pc' := 3) (v := 0) dX4_worthOfAll_2 rfl (by decide) ?_
  refine x_istore_n (pc' := 4) dX4_worthOfAll_3 rfl rfl (by decide) rfl (ls' := [.ref q, .ref f, .int 0, .int 0]) rfl ?_
  exact h
set_option maxRecDepth 100000 in
set_option maxHeartbeats 4000000 in
theorem vX4_worthOfAll_4 {d : Nat} {σ : Mem} {Q : Option Value → Mem → Prop} {q f : Nat} {x2 x3 : Int32} (hq : OKP q) (hf : OKF f)
    (h : (((σ.1 q 1) ≤ x3 → Q (some (.int x2)) σ) ∧ (¬ (σ.1 q 1) ≤ x3 → (vp_in x3 60 ∧ (X none (d + 1) mX0_worth 0 [.ref f, .int (σ.1 (q + 1) x3.toNatClampNeg)] [] σ (fun r τ1 => ∃ u2 : Int32, r = some (.int u2) ∧ X none (d + 2) mX4_worthOfAll 4 [.ref q, .ref f, .int (x2 + u2), .int (x3 + 1)] [] τ1 Q)))))) :
    X none (d + 2) mX4_worthOfAll 4 [.ref q, .ref f, .int x2, .int x3] [] σ Q := by
  refine x_iload_n (pc' := 5) dX4_worthOfAll_4 rfl rfl rfl ?_
  refine x_aload_n (pc' := 6) dX4_worthOfAll_5 rfl rfl rfl ?_
  refine x_geti (pc' := 9) dX4_worthOfAll_6 rfl lfX4_15 (OKP.k hq) rfl ?_
  refine x_icmp_ge (pc' := 12) (tgt := 31) dX4_worthOfAll_9 (by decide) rfl (fun hc => ?_) (fun hc => ?_)
  · replace h := h.1 hc
    refine x_iload_n (pc' := 32) dX4_worthOfAll_31 rfl rfl rfl ?_
    exact x_iret dX4_worthOfAll_32 rfl rfl h
  · replace h := h.2 hc
    refine x_iload_n (pc' := 13) dX4_worthOfAll_12 rfl rfl rfl ?_
    refine x_aload_n (pc' := 14) dX4_worthOfAll_13 rfl rfl rfl ?_
    refine x_aload_n (pc' := 15) dX4_worthOfAll_14 rfl rfl rfl ?_
    refine x_getr (pc' := 18) dX4_worthOfAll_15 rfl lfX4_9 (OKP.k hq) rfl (OKP.r0 hq) ?_
    refine x_iload_n (pc' := 19) dX4_worthOfAll_18 rfl rfl rfl ?_
    obtain ⟨hb, h⟩ := h
    refine x_iald (pc' := 20) dX4_worthOfAll_19 rfl (OKP.a0 hq) (by rw [(OKP.n0 hq)]; exact hb) ?_
    refine x_callV (pc' := 23) (As := [.int (σ.1 (q + 1) x3.toNatClampNeg)]) dX4_worthOfAll_20 rfl lmX4_66 (OKF.k hf) rfl rfl (Nat.le_of_ble_eq_true rfl) (Nat.le_of_ble_eq_true rfl) ?_
    show X none (d + 1) mX0_worth 0 [.ref f, .int (σ.1 (q + 1) x3.toNatClampNeg)] [] σ _
    refine X.mono h ?_
    rintro r τ1 ⟨u2, rfl, h⟩
    show X none (d + 2) mX4_worthOfAll 23 [.ref q, .ref f, .int x2, .int x3] [.int u2, .int x2] τ1 _
    refine x_iadd (pc' := 24) dX4_worthOfAll_23 rfl ?_
    refine x_istore_n (pc' := 25) dX4_worthOfAll_24 rfl rfl (by decide) rfl (ls' := [.ref q, .ref f, .int (x2 + u2), .int x3]) rfl ?_
    refine x_iinc (pc' := 28) (v := 1) dX4_worthOfAll_25 rfl (by decide) rfl rfl (by decide) (ls' := [.ref q, .ref f, .int (x2 + u2), .int (x3 + 1)]) rfl ?_
    refine x_goto (pc' := 4) dX4_worthOfAll_28 (by decide) ?_
    exact h
set_option maxRecDepth 100000 in
set_option maxHeartbeats 4000000 in
theorem vX4_within_0 {d : Nat} {σ : Mem} {Q : Option Value → Mem → Prop} {q f : Nat} {x2 x3 x4 : Int32} (hq : OKP q) (hf : OKF f)
    (h : X none (d + 2) mX4_within 6 [.ref q, .ref f, .int x2, .int x3, .int x4, .int 0, .int 0] [] σ Q) :
    X none (d + 2) mX4_within 0 [.ref q, .ref f, .int x2, .int x3, .int x4, Unk, Unk] [] σ Q := by
  refine x_iconst (pc' := 1) (v := 0) dX4_within_0 rfl (by decide) ?_
  refine x_istore (pc' := 3) dX4_within_1 rfl (by decide) rfl (ls' := [.ref q, .ref f, .int x2, .int x3, .int x4, .int 0, Unk]) rfl ?_
  refine x_iconst (pc' := 4) (v := 0) dX4_within_3 rfl (by decide) ?_
  refine x_istore (pc' := 6) dX4_within_4 rfl (by decide) rfl (ls' := [.ref q, .ref f, .int x2, .int x3, .int x4, .int 0, .int 0]) rfl ?_
  exact h
set_option maxRecDepth 100000 in
set_option maxHeartbeats 4000000 in
theorem vX4_within_6 {d : Nat} {σ : Mem} {Q : Option Value → Mem → Prop} {q f : Nat} {x2 x3 x4 x5 x6 : Int32} (hq : OKP q) (hf : OKF f)
    (h : (((σ.1 q 1) ≤ x6 → Q (some (.int x5)) σ) ∧ (¬ (σ.1 q 1) ≤ x6 → (vp_in x6 60 ∧ (X none (d + 1) mX0_distance 0 [.ref f, .int (σ.1 (q + 1) x6.toNatClampNeg), .int x2, .int x3] [] σ (fun r τ1 => ∃ u2 : Int32, r = some (.int u2) ∧ ((x4 < u2 → X none (d + 2) mX4_within 6 [.ref q, .ref f, .int x2, .int x3, .int x4, .int x5, .int (x6 + 1)] [] τ1 Q) ∧ (¬ x4 < u2 → X none (d + 2) mX4_within 6 [.ref q, .ref f, .int x2, .int x3, .int x4, .int (x5 + 1), .int (x6 + 1)] [] τ1 Q)))))))) :
    X none (d + 2) mX4_within 6 [.ref q, .ref f, .int x2, .int x3, .int x4, .int x5, .int x6] [] σ Q := by
  refine x_iload (pc' := 8) dX4_within_6 rfl rfl ?_
  refine x_aload_n (pc' := 9) dX4_within_8 rfl rfl rfl ?_
  refine x_geti (pc' := 12) dX4_within_9 rfl lfX4_15 (OKP.k hq) rfl ?_
  refine x_icmp_ge (pc' := 15) (tgt := 42) dX4_within_12 (by decide) rfl (fun hc => ?_) (fun hc => ?_)
  · replace h := h.1 hc
    refine x_iload (pc' := 44) dX4_within_42 rfl rfl ?_
    exact x_iret dX4_within_44 rfl rfl h
  · replace h := h.2 hc
    refine x_aload_n (pc' := 16) dX4_within_15 rfl rfl rfl ?_
    refine x_aload_n (pc' := 17) dX4_within_16 rfl rfl rfl ?_
    refine x_getr (pc' := 20) dX4_within_17 rfl lfX4_9 (OKP.k hq) rfl (OKP.r0 hq) ?_
    refine x_iload (pc' := 22) dX4_within_20 rfl rfl ?_
    obtain ⟨hb, h⟩ := h
    refine x_iald (pc' := 23) dX4_within_22 rfl (OKP.a0 hq) (by rw [(OKP.n0 hq)]; exact hb) ?_
    refine x_iload_n (pc' := 24) dX4_within_23 rfl rfl rfl ?_
    refine x_iload_n (pc' := 25) dX4_within_24 rfl rfl rfl ?_
    refine x_callV (pc' := 28) (As := [.int (σ.1 (q + 1) x6.toNatClampNeg), .int x2, .int x3]) dX4_within_25 rfl lmX4_70 (OKF.k hf) rfl rfl (Nat.le_of_ble_eq_true rfl) (Nat.le_of_ble_eq_true rfl) ?_
    show X none (d + 1) mX0_distance 0 [.ref f, .int (σ.1 (q + 1) x6.toNatClampNeg), .int x2, .int x3] [] σ _
    refine X.mono h ?_
    rintro r τ1 ⟨u2, rfl, h⟩
    show X none (d + 2) mX4_within 28 [.ref q, .ref f, .int x2, .int x3, .int x4, .int x5, .int x6] [.int u2] τ1 _
    refine x_iload (pc' := 30) dX4_within_28 rfl rfl ?_
    refine x_icmp_gt (pc' := 33) (tgt := 36) dX4_within_30 (by decide) rfl (fun hc => ?_) (fun hc => ?_)
    · replace h := h.1 hc
      refine x_iinc (pc' := 39) (v := 1) dX4_within_36 rfl (by decide) rfl rfl (by decide) (ls' := [.ref q, .ref f, .int x2, .int x3, .int x4, .int x5, .int (x6 + 1)]) rfl ?_
      refine x_goto (pc' := 6) dX4_within_39 (by decide) ?_
      exact h
    · replace h := h.2 hc
      refine x_iinc (pc' := 36) (v := 1) dX4_within_33 rfl (by decide) rfl rfl (by decide) (ls' := [.ref q, .ref f, .int x2, .int x3, .int x4, .int (x5 + 1), .int x6]) rfl ?_
      refine x_iinc (pc' := 39) (v := 1) dX4_within_36 rfl (by decide) rfl rfl (by decide) (ls' := [.ref q, .ref f, .int x2, .int x3, .int x4, .int (x5 + 1), .int (x6 + 1)]) rfl ?_
      refine x_goto (pc' := 6) dX4_within_39 (by decide) ?_
      exact h
set_option maxRecDepth 100000 in
set_option maxHeartbeats 4000000 in
theorem vX4_inSquare_0 {d : Nat} {σ : Mem} {Q : Option Value → Mem → Prop} {q f : Nat} {x2 x3 x4 : Int32} (hq : OKP q) (hf : OKF f)
    (h : X none d mX4_inSquare 6 [.ref q, .ref f, .int x2, .int x3, .int x4, .int 0, .int 0, Unk, Unk] [] σ Q) :
    X none d mX4_inSquare 0 [.ref q, .ref f, .int x2, .int x3, .int x4, Unk, Unk, Unk, Unk] [] σ Q := by
  refine x_iconst (pc' := 1) (v := 0) dX4_inSquare_0 rfl (by decide) ?_
  refine x_istore (pc' := 3) dX4_inSquare_1 rfl (by decide) rfl (ls' := [.ref q, .ref f, .int x2, .int x3, .int x4, .int 0, Unk, Unk, Unk]) rfl ?_
  refine x_iconst (pc' := 4) (v := 0) dX4_inSquare_3 rfl (by decide) ?_
  refine x_istore (pc' := 6) dX4_inSquare_4 rfl (by decide) rfl (ls' := [.ref q, .ref f, .int x2, .int x3, .int x4, .int 0, .int 0, Unk, Unk]) rfl ?_
  exact h
set_option maxRecDepth 100000 in
set_option maxHeartbeats 4000000 in
theorem vX4_inSquare_6 {d : Nat} {σ : Mem} {Q : Option Value → Mem → Prop} {q f : Nat} {x2 x3 x4 x5 x6 : Int32} (hq : OKP q) (hf : OKF f)
    (h : (((σ.1 q 1) ≤ x6 → Q (some (.int x5)) σ) ∧ (¬ (σ.1 q 1) ≤ x6 → (vp_in x6 60 ∧ (vp_in (σ.1 (q + 1) x6.toNatClampNeg) 121 ∧ (vp_in x6 60 ∧ (vp_in (σ.1 (q + 1) x6.toNatClampNeg) 121 ∧ (((σ.1 (f + 2) (σ.1 (q + 1) x6.toNatClampNeg).toNatClampNeg) < x2 → X none d mX4_inSquare 6 [.ref q, .ref f, .int x2, .int x3, .int x4, .int x5, .int (x6 + 1), Unk, Unk] [] σ Q) ∧ (¬ (σ.1 (f + 2) (σ.1 (q + 1) x6.toNatClampNeg).toNatClampNeg) < x2 → (((x2 + x4) < (σ.1 (f + 2) (σ.1 (q + 1) x6.toNatClampNeg).toNatClampNeg) → X none d mX4_inSquare 6 [.ref q, .ref f, .int x2, .int x3, .int x4, .int x5, .int (x6 + 1), Unk, Unk] [] σ Q) ∧ (¬ (x2 + x4) < (σ.1 (f + 2) (σ.1 (q + 1) x6.toNatClampNeg).toNatClampNeg) → (((σ.1 (f + 3) (σ.1 (q + 1) x6.toNatClampNeg).toNatClampNeg) < x3 → X none d mX4_inSquare 6 [.ref q, .ref f, .int x2, .int x3, .int x4, .int x5, .int (x6 + 1), Unk, Unk] [] σ Q) ∧ (¬ (σ.1 (f + 3) (σ.1 (q + 1) x6.toNatClampNeg).toNatClampNeg) < x3 → (((x3 + x4) < (σ.1 (f + 3) (σ.1 (q + 1) x6.toNatClampNeg).toNatClampNeg) → X none d mX4_inSquare 6 [.ref q, .ref f, .int x2, .int x3, .int x4, .int x5, .int (x6 + 1), Unk, Unk] [] σ Q) ∧ (¬ (x3 + x4) < (σ.1 (f + 3) (σ.1 (q + 1) x6.toNatClampNeg).toNatClampNeg) → X none d mX4_inSquare 6 [.ref q, .ref f, .int x2, .int x3, .int x4, .int (x5 + 1), .int (x6 + 1), Unk, Unk] [] σ Q))))))))))))))) :
    X none d mX4_inSquare 6 [.ref q, .ref f, .int x2, .int x3, .int x4, .int x5, .int x6, Unk, Unk] [] σ Q := by
  refine x_iload (pc' := 8) dX4_inSquare_6 rfl rfl ?_
  refine x_aload_n (pc' := 9) dX4_inSquare_8 rfl rfl rfl ?_
  refine x_geti (pc' := 12) dX4_inSquare_9 rfl lfX4_15 (OKP.k hq) rfl ?_
  refine x_icmp_ge (pc' := 15) (tgt := 82) dX4_inSquare_12 (by decide) rfl (fun hc => ?_) (fun hc => ?_)
  · replace h := h.1 hc
    refine x_iload (pc' := 84) dX4_inSquare_82 rfl rfl ?_
    exact x_iret dX4_inSquare_84 rfl rfl h
  · replace h := h.2 hc
    refine x_aload_n (pc' := 16) dX4_inSquare_15 rfl rfl rfl ?_
    refine x_getr (pc' := 19) dX4_inSquare_16 rfl lfX4_32 (OKF.k hf) rfl (OKF.r1 hf) ?_
    refine x_aload_n (pc' := 20) dX4_inSquare_19 rfl rfl rfl ?_
    refine x_getr (pc' := 23) dX4_inSquare_20 rfl lfX4_9 (OKP.k hq) rfl (OKP.r0 hq) ?_
    refine x_iload (pc' := 25) dX4_inSquare_23 rfl rfl ?_
    obtain ⟨hb, h⟩ := h
    refine x_iald (pc' := 26) dX4_inSquare_25 rfl (OKP.a0 hq) (by rw [(OKP.n0 hq)]; exact hb) ?_
    obtain ⟨hb, h⟩ := h
    refine x_iald (pc' := 27) dX4_inSquare_26 rfl (OKF.a1 hf) (by rw [(OKF.n1 hf)]; exact hb) ?_
    refine x_istore (pc' := 29) dX4_inSquare_27 rfl (by decide) rfl (ls' := [.ref q, .ref f, .int x2, .int x3, .int x4, .int x5, .int x6, .int (σ.1 (f + 2) (σ.1 (q + 1) x6.toNatClampNeg).toNatClampNeg), Unk]) rfl ?_
    refine x_aload_n (pc' := 30) dX4_inSquare_29 rfl rfl rfl ?_
    refine x_getr (pc' := 33) dX4_inSquare_30 rfl lfX4_35 (OKF.k hf) rfl (OKF.r2 hf) ?_
    refine x_aload_n (pc' := 34) dX4_inSquare_33 rfl rfl rfl ?_
    refine x_getr (pc' := 37) dX4_inSquare_34 rfl lfX4_9 (OKP.k hq) rfl (OKP.r0 hq) ?_
    refine x_iload (pc' := 39) dX4_inSquare_37 rfl rfl ?_
    obtain ⟨hb, h⟩ := h
    refine x_iald (pc' := 40) dX4_inSquare_39 rfl (OKP.a0 hq) (by rw [(OKP.n0 hq)]; exact hb) ?_
    obtain ⟨hb, h⟩ := h
    refine x_iald (pc' := 41) dX4_inSquare_40 rfl (OKF.a2 hf) (by rw [(OKF.n2 hf)]; exact hb) ?_
    refine x_istore (pc' := 43) dX4_inSquare_41 rfl (by decide) rfl (ls' := [.ref q, .ref f, .int x2, .int x3, .int x4, .int x5, .int x6, .int (σ.1 (f + 2) (σ.1 (q + 1) x6.toNatClampNeg).toNatClampNeg), .int (σ.1 (f + 3) (σ.1 (q + 1) x6.toNatClampNeg).toNatClampNeg)]) rfl ?_
    refine x_iload (pc' := 45) dX4_inSquare_43 rfl rfl ?_
    refine x_iload_n (pc' := 46) dX4_inSquare_45 rfl rfl rfl ?_
    refine x_icmp_lt (pc' := 49) (tgt := 76) dX4_inSquare_46 (by decide) rfl (fun hc => ?_) (fun hc => ?_)
    · replace h := h.1 hc
      refine x_iinc (pc' := 79) (v := 1) dX4_inSquare_76 rfl (by decide) rfl rfl (by decide) (ls' := [.ref q, .ref f, .int x2, .int x3, .int x4, .int x5, .int (x6 + 1), .int (σ.1 (f + 2) (σ.1 (q + 1) x6.toNatClampNeg).toNatClampNeg), .int (σ.1 (f + 3) (σ.1 (q + 1) x6.toNatClampNeg).toNatClampNeg)]) rfl ?_
      refine x_goto (pc' := 6) dX4_inSquare_79 (by decide) ?_
      refine x_forget 7 (ls' := [.ref q, .ref f, .int x2, .int x3, .int x4, .int x5, .int (x6 + 1), Unk, .int (σ.1 (f + 3) (σ.1 (q + 1) x6.toNatClampNeg).toNatClampNeg)]) rfl ?_
      refine x_forget 8 (ls' := [.ref q, .ref f, .int x2, .int x3, .int x4, .int x5, .int (x6 + 1), Unk, Unk]) rfl ?_
      exact h
    · replace h := h.2 hc
      refine x_iload (pc' := 51) dX4_inSquare_49 rfl rfl ?_
      refine x_iload_n (pc' := 52) dX4_inSquare_51 rfl rfl rfl ?_
      refine x_iload (pc' := 54) dX4_inSquare_52 rfl rfl ?_
      refine x_iadd (pc' := 55) dX4_inSquare_54 rfl ?_
      refine x_icmp_gt (pc' := 58) (tgt := 76) dX4_inSquare_55 (by decide) rfl (fun hc => ?_) (fun hc => ?_)
      · replace h := h.1 hc
        refine x_iinc (pc' := 79) (v := 1) dX4_inSquare_76 rfl (by decide) rfl rfl (by decide) (ls' := [.ref q, .ref f, .int x2, .int x3, .int x4, .int x5, .int (x6 + 1), .int (σ.1 (f + 2) (σ.1 (q + 1) x6.toNatClampNeg).toNatClampNeg), .int (σ.1 (f + 3) (σ.1 (q + 1) x6.toNatClampNeg).toNatClampNeg)]) rfl ?_
        refine x_goto (pc' := 6) dX4_inSquare_79 (by decide) ?_
        refine x_forget 7 (ls' := [.ref q, .ref f, .int x2, .int x3, .int x4, .int x5, .int (x6 + 1), Unk, .int (σ.1 (f + 3) (σ.1 (q + 1) x6.toNatClampNeg).toNatClampNeg)]) rfl ?_
        refine x_forget 8 (ls' := [.ref q, .ref f, .int x2, .int x3, .int x4, .int x5, .int (x6 + 1), Unk, Unk]) rfl ?_
        exact h
      · replace h := h.2 hc
        refine x_iload (pc' := 60) dX4_inSquare_58 rfl rfl ?_
        refine x_iload_n (pc' := 61) dX4_inSquare_60 rfl rfl rfl ?_
        refine x_icmp_lt (pc' := 64) (tgt := 76) dX4_inSquare_61 (by decide) rfl (fun hc => ?_) (fun hc => ?_)
        · replace h := h.1 hc
          refine x_iinc (pc' := 79) (v := 1) dX4_inSquare_76 rfl (by decide) rfl rfl (by decide) (ls' := [.ref q, .ref f, .int x2, .int x3, .int x4, .int x5, .int (x6 + 1), .int (σ.1 (f + 2) (σ.1 (q + 1) x6.toNatClampNeg).toNatClampNeg), .int (σ.1 (f + 3) (σ.1 (q + 1) x6.toNatClampNeg).toNatClampNeg)]) rfl ?_
          refine x_goto (pc' := 6) dX4_inSquare_79 (by decide) ?_
          refine x_forget 7 (ls' := [.ref q, .ref f, .int x2, .int x3, .int x4, .int x5, .int (x6 + 1), Unk, .int (σ.1 (f + 3) (σ.1 (q + 1) x6.toNatClampNeg).toNatClampNeg)]) rfl ?_
          refine x_forget 8 (ls' := [.ref q, .ref f, .int x2, .int x3, .int x4, .int x5, .int (x6 + 1), Unk, Unk]) rfl ?_
          exact h
        · replace h := h.2 hc
          refine x_iload (pc' := 66) dX4_inSquare_64 rfl rfl ?_
          refine x_iload_n (pc' := 67) dX4_inSquare_66 rfl rfl rfl ?_
          refine x_iload (pc' := 69) dX4_inSquare_67 rfl rfl ?_
          refine x_iadd (pc' := 70) dX4_inSquare_69 rfl ?_
          refine x_icmp_gt (pc' := 73) (tgt := 76) dX4_inSquare_70 (by decide) rfl (fun hc => ?_) (fun hc => ?_)
          · replace h := h.1 hc
            refine x_iinc (pc' := 79) (v := 1) dX4_inSquare_76 rfl (by decide) rfl rfl (by decide) (ls' := [.ref q, .ref f, .int x2, .int x3, .int x4, .int x5, .int (x6 + 1), .int (σ.1 (f + 2) (σ.1 (q + 1) x6.toNatClampNeg).toNatClampNeg), .int (σ.1 (f + 3) (σ.1 (q + 1) x6.toNatClampNeg).toNatClampNeg)]) rfl ?_
            refine x_goto (pc' := 6) dX4_inSquare_79 (by decide) ?_
            refine x_forget 7 (ls' := [.ref q, .ref f, .int x2, .int x3, .int x4, .int x5, .int (x6 + 1), Unk, .int (σ.1 (f + 3) (σ.1 (q + 1) x6.toNatClampNeg).toNatClampNeg)]) rfl ?_
            refine x_forget 8 (ls' := [.ref q, .ref f, .int x2, .int x3, .int x4, .int x5, .int (x6 + 1), Unk, Unk]) rfl ?_
            exact h
          · replace h := h.2 hc
            refine x_iinc (pc' := 76) (v := 1) dX4_inSquare_73 rfl (by decide) rfl rfl (by decide) (ls' := [.ref q, .ref f, .int x2, .int x3, .int x4, .int (x5 + 1), .int x6, .int (σ.1 (f + 2) (σ.1 (q + 1) x6.toNatClampNeg).toNatClampNeg), .int (σ.1 (f + 3) (σ.1 (q + 1) x6.toNatClampNeg).toNatClampNeg)]) rfl ?_
            refine x_iinc (pc' := 79) (v := 1) dX4_inSquare_76 rfl (by decide) rfl rfl (by decide) (ls' := [.ref q, .ref f, .int x2, .int x3, .int x4, .int (x5 + 1), .int (x6 + 1), .int (σ.1 (f + 2) (σ.1 (q + 1) x6.toNatClampNeg).toNatClampNeg), .int (σ.1 (f + 3) (σ.1 (q + 1) x6.toNatClampNeg).toNatClampNeg)]) rfl ?_
            refine x_goto (pc' := 6) dX4_inSquare_79 (by decide) ?_
            refine x_forget 7 (ls' := [.ref q, .ref f, .int x2, .int x3, .int x4, .int (x5 + 1), .int (x6 + 1), Unk, .int (σ.1 (f + 3) (σ.1 (q + 1) x6.toNatClampNeg).toNatClampNeg)]) rfl ?_
            refine x_forget 8 (ls' := [.ref q, .ref f, .int x2, .int x3, .int x4, .int (x5 + 1), .int (x6 + 1), Unk, Unk]) rfl ?_
            exact h
set_option maxRecDepth 100000 in
set_option maxHeartbeats 4000000 in
theorem vX4_fullestFrom_0 {d : Nat} {σ : Mem} {Q : Option Value → Mem → Prop} {q f : Nat} {x2 x3 : Int32} (hq : OKP q) (hf : OKF f)
    (h : X none (d + 1) mX4_fullestFrom 18 [.ref q, .ref f, .int x2, .int x3, .int (-1), .int 0, .int 0, .int 0, .int 0, .int 0, Unk] [] σ Q) :
    X none (d + 1) mX4_fullestFrom 0 [.ref q, .ref f, .int x2, .int x3, Unk, Unk, Unk, Unk, Unk, Unk, Unk] [] σ Q := by
  refine x_iconst (pc' := 1) (v := (-1)) dX4_fullestFrom_0 rfl (by decide) ?_
  refine x_istore (pc' := 3) dX4_fullestFrom_1 rfl (by decide) rfl (ls' := [.ref q, .ref f, .int x2, .int x3, .int (-1), Unk, Unk, Unk, Unk, Unk, Unk]) rfl ?_
  refine x_iconst (pc' := 4) (v := 0) dX4_fullestFrom_3 rfl (by decide) ?_
  refine x_istore (pc' := 6) dX4_fullestFrom_4 rfl (by decide) rfl (ls' := [.ref q, .ref f, .int x2, .int x3, .int (-1), .int 0, Unk, Unk, Unk, Unk, Unk]) rfl ?_
  refine x_iconst (pc' := 7) (v := 0) dX4_fullestFrom_6 rfl (by decide) ?_
  refine x_istore (pc' := 9) dX4_fullestFrom_7 rfl (by decide) rfl (ls' := [.ref q, .ref f, .int x2, .int x3, .int (-1), .int 0, .int 0, Unk, Unk, Unk, Unk]) rfl ?_
  refine x_iconst (pc' := 10) (v := 0) dX4_fullestFrom_9 rfl (by decide) ?_
  refine x_istore (pc' := 12) dX4_fullestFrom_10 rfl (by decide) rfl (ls' := [.ref q, .ref f, .int x2, .int x3, .int (-1), .int 0, .int 0, .int 0, Unk, Unk, Unk]) rfl ?_
  refine x_iconst (pc' := 13) (v := 0) dX4_fullestFrom_12 rfl (by decide) ?_
  refine x_istore (pc' := 15) dX4_fullestFrom_13 rfl (by decide) rfl (ls' := [.ref q, .ref f, .int x2, .int x3, .int (-1), .int 0, .int 0, .int 0, .int 0, Unk, Unk]) rfl ?_
  refine x_iconst (pc' := 16) (v := 0) dX4_fullestFrom_15 rfl (by decide) ?_
  refine x_istore (pc' := 18) dX4_fullestFrom_16 rfl (by decide) rfl (ls' := [.ref q, .ref f, .int x2, .int x3, .int (-1), .int 0, .int 0, .int 0, .int 0, .int 0, Unk]) rfl ?_
  exact h
set_option maxRecDepth 100000 in
set_option maxHeartbeats 4000000 in
theorem vX4_fullestFrom_18 {d : Nat} {σ : Mem} {Q : Option Value → Mem → Prop} {q f : Nat} {x2 x3 x4 x5 x6 x7 x8 x9 : Int32} (hq : OKP q) (hf : OKF f)
    (h : (((σ.1 q 1) ≤ x9 → Q (some (.int x5)) σ) ∧ (¬ (σ.1 q 1) ≤ x9 → (vp_in x9 60 ∧ (vp_in (σ.1 (q + 1) x9.toNatClampNeg) 121 ∧ X none (d + 1) mX4_fullestFrom 41 [.ref q, .ref f, .int x2, .int x3, .int x4, .int x5, .int x6, .int x7, .int x8, .int x9, .int (σ.1 (f + 3) (σ.1 (q + 1) x9.toNatClampNeg).toNatClampNeg)] [] σ Q))))) :
    X none (d + 1) mX4_fullestFrom 18 [.ref q, .ref f, .int x2, .int x3, .int x4, .int x5, .int x6, .int x7, .int x8, .int x9, Unk] [] σ Q := by
  refine x_iload (pc' := 20) dX4_fullestFrom_18 rfl rfl ?_
  refine x_aload_n (pc' := 21) dX4_fullestFrom_20 rfl rfl rfl ?_
  refine x_geti (pc' := 24) dX4_fullestFrom_21 rfl lfX4_15 (OKP.k hq) rfl ?_
  refine x_icmp_ge (pc' := 27) (tgt := 156) dX4_fullestFrom_24 (by decide) rfl (fun hc => ?_) (fun hc => ?_)
  · replace h := h.1 hc
    refine x_iload (pc' := 158) dX4_fullestFrom_156 rfl rfl ?_
    exact x_iret dX4_fullestFrom_158 rfl rfl h
  · replace h := h.2 hc
    refine x_aload_n (pc' := 28) dX4_fullestFrom_27 rfl rfl rfl ?_
    refine x_getr (pc' := 31) dX4_fullestFrom_28 rfl lfX4_35 (OKF.k hf) rfl (OKF.r2 hf) ?_
    refine x_aload_n (pc' := 32) dX4_fullestFrom_31 rfl rfl rfl ?_
    refine x_getr (pc' := 35) dX4_fullestFrom_32 rfl lfX4_9 (OKP.k hq) rfl (OKP.r0 hq) ?_
    refine x_iload (pc' := 37) dX4_fullestFrom_35 rfl rfl ?_
    obtain ⟨hb, h⟩ := h
    refine x_iald (pc' := 38) dX4_fullestFrom_37 rfl (OKP.a0 hq) (by rw [(OKP.n0 hq)]; exact hb) ?_
    obtain ⟨hb, h⟩ := h
    refine x_iald (pc' := 39) dX4_fullestFrom_38 rfl (OKF.a2 hf) (by rw [(OKF.n2 hf)]; exact hb) ?_
    refine x_istore (pc' := 41) dX4_fullestFrom_39 rfl (by decide) rfl (ls' := [.ref q, .ref f, .int x2, .int x3, .int x4, .int x5, .int x6, .int x7, .int x8, .int x9, .int (σ.1 (f + 3) (σ.1 (q + 1) x9.toNatClampNeg).toNatClampNeg)]) rfl ?_
    exact h
set_option maxRecDepth 100000 in
set_option maxHeartbeats 4000000 in
theorem vX4_fullestFrom_41 {d : Nat} {σ : Mem} {Q : Option Value → Mem → Prop} {q f : Nat} {x2 x3 x4 x5 x6 x7 x8 x9 x10 : Int32} (hq : OKP q) (hf : OKF f)
    (h : (((σ.1 q 1) ≤ x7 → X none (d + 1) mX4_fullestFrom 89 [.ref q, .ref f, .int x2, .int x3, .int x4, .int x5, .int x6, .int x7, .int x8, .int x9, .int x10] [] σ Q) ∧ (¬ (σ.1 q 1) ≤ x7 → (vp_in x7 60 ∧ (vp_in (σ.1 (q + 1) x7.toNatClampNeg) 121 ∧ (((x10 + x3) < (σ.1 (f + 3) (σ.1 (q + 1) x7.toNatClampNeg).toNatClampNeg) → X none (d + 1) mX4_fullestFrom 89 [.ref q, .ref f, .int x2, .int x3, .int x4, .int x5, .int x6, .int x7, .int x8, .int x9, .int x10] [] σ Q) ∧ (¬ (x10 + x3) < (σ.1 (f + 3) (σ.1 (q + 1) x7.toNatClampNeg).toNatClampNeg) → (X none d mX4_inColumn 0 [.ref q, .ref f, .int x7, .int x2, .int x3, Unk] [] σ (fun r τ1 => ∃ u2 : Int32, r = some (.int u2) ∧ X none (d + 1) mX4_fullestFrom 41 [.ref q, .ref f, .int x2, .int x3, .int x4, .int x5, .int (x6 + u2), .int (x7 + 1), .int x8, .int x9, .int x10] [] τ1 Q))))))))) :
    X none (d + 1) mX4_fullestFrom 41 [.ref q, .ref f, .int x2, .int x3, .int x4, .int x5, .int x6, .int x7, .int x8, .int x9, .int x10] [] σ Q := by
  refine x_iload (pc' := 43) dX4_fullestFrom_41 rfl rfl ?_
  refine x_aload_n (pc' := 44) dX4_fullestFrom_43 rfl rfl rfl ?_
  refine x_geti (pc' := 47) dX4_fullestFrom_44 rfl lfX4_15 (OKP.k hq) rfl ?_
  refine x_icmp_ge (pc' := 50) (tgt := 89) dX4_fullestFrom_47 (by decide) rfl (fun hc => ?_) (fun hc => ?_)
  · replace h := h.1 hc
    exact h
  · replace h := h.2 hc
    refine x_aload_n (pc' := 51) dX4_fullestFrom_50 rfl rfl rfl ?_
    refine x_getr (pc' := 54) dX4_fullestFrom_51 rfl lfX4_35 (OKF.k hf) rfl (OKF.r2 hf) ?_
    refine x_aload_n (pc' := 55) dX4_fullestFrom_54 rfl rfl rfl ?_
    refine x_getr (pc' := 58) dX4_fullestFrom_55 rfl lfX4_9 (OKP.k hq) rfl (OKP.r0 hq) ?_
    refine x_iload (pc' := 60) dX4_fullestFrom_58 rfl rfl ?_
    obtain ⟨hb, h⟩ := h
    refine x_iald (pc' := 61) dX4_fullestFrom_60 rfl (OKP.a0 hq) (by rw [(OKP.n0 hq)]; exact hb) ?_
    obtain ⟨hb, h⟩ := h
    refine x_iald (pc' := 62) dX4_fullestFrom_61 rfl (OKF.a2 hf) (by rw [(OKF.n2 hf)]; exact hb) ?_
    refine x_iload (pc' := 64) dX4_fullestFrom_62 rfl rfl ?_
    refine x_iload_n (pc' := 65) dX4_fullestFrom_64 rfl rfl rfl ?_
    refine x_iadd (pc' := 66) dX4_fullestFrom_65 rfl ?_
    refine x_icmp_gt (pc' := 69) (tgt := 89) dX4_fullestFrom_66 (by decide) rfl (fun hc => ?_) (fun hc => ?_)
    · replace h := h.1 hc
      exact h
    · replace h := h.2 hc
      refine x_iload (pc' := 71) dX4_fullestFrom_69 rfl rfl ?_
      refine x_aload_n (pc' := 72) dX4_fullestFrom_71 rfl rfl rfl ?_
      refine x_aload_n (pc' := 73) dX4_fullestFrom_72 rfl rfl rfl ?_
      refine x_iload (pc' := 75) dX4_fullestFrom_73 rfl rfl ?_
      refine x_iload_n (pc' := 76) dX4_fullestFrom_75 rfl rfl rfl ?_
      refine x_iload_n (pc' := 77) dX4_fullestFrom_76 rfl rfl rfl ?_
      refine x_callV (pc' := 80) (As := [.ref f, .int x7, .int x2, .int x3]) dX4_fullestFrom_77 rfl lmX4_74 (OKP.k hq) rfl rfl (Nat.le_of_ble_eq_true rfl) (Nat.le_of_ble_eq_true rfl) ?_
      show X none d mX4_inColumn 0 [.ref q, .ref f, .int x7, .int x2, .int x3, Unk] [] σ _
      refine X.mono h ?_
      rintro r τ1 ⟨u2, rfl, h⟩
      show X none (d + 1) mX4_fullestFrom 80 [.ref q, .ref f, .int x2, .int x3, .int x4, .int x5, .int x6, .int x7, .int x8, .int x9, .int x10] [.int u2, .int x6] τ1 _
      refine x_iadd (pc' := 81) dX4_fullestFrom_80 rfl ?_
      refine x_istore (pc' := 83) dX4_fullestFrom_81 rfl (by decide) rfl (ls' := [.ref q, .ref f, .int x2, .int x3, .int x4, .int x5, .int (x6 + u2), .int x7, .int x8, .int x9, .int x10]) rfl ?_
      refine x_iinc (pc' := 86) (v := 1) dX4_fullestFrom_83 rfl (by decide) rfl rfl (by decide) (ls' := [.ref q, .ref f, .int x2, .int x3, .int x4, .int x5, .int (x6 + u2), .int (x7 + 1), .int x8, .int x9, .int x10]) rfl ?_
      refine x_goto (pc' := 41) dX4_fullestFrom_86 (by decide) ?_
      exact h
set_option maxRecDepth 100000 in
set_option maxHeartbeats 4000000 in
theorem vX4_fullestFrom_89 {d : Nat} {σ : Mem} {Q : Option Value → Mem → Prop} {q f : Nat} {x2 x3 x4 x5 x6 x7 x8 x9 x10 : Int32} (hq : OKP q) (hf : OKF f)
    (h : (((σ.1 q 1) ≤ x8 → ((x6 ≤ x4 → X none (d + 1) mX4_fullestFrom 18 [.ref q, .ref f, .int x2, .int x3, .int x4, .int x5, .int x6, .int x7, .int x8, .int (x9 + 1), Unk] [] σ Q) ∧ (¬ x6 ≤ x4 → X none (d + 1) mX4_fullestFrom 18 [.ref q, .ref f, .int x2, .int x3, .int x6, .int x10, .int x6, .int x7, .int x8, .int (x9 + 1), Unk] [] σ Q))) ∧ (¬ (σ.1 q 1) ≤ x8 → (vp_in x8 60 ∧ (vp_in (σ.1 (q + 1) x8.toNatClampNeg) 121 ∧ ((x10 ≤ (σ.1 (f + 3) (σ.1 (q + 1) x8.toNatClampNeg).toNatClampNeg) → ((x6 ≤ x4 → X none (d + 1) mX4_fullestFrom 18 [.ref q, .ref f, .int x2, .int x3, .int x4, .int x5, .int x6, .int x7, .int x8, .int (x9 + 1), Unk] [] σ Q) ∧ (¬ x6 ≤ x4 → X none (d + 1) mX4_fullestFrom 18 [.ref q, .ref f, .int x2, .int x3, .int x6, .int x10, .int x6, .int x7, .int x8, .int (x9 + 1), Unk] [] σ Q))) ∧ (¬ x10 ≤ (σ.1 (f + 3) (σ.1 (q + 1) x8.toNatClampNeg).toNatClampNeg) → (X none d mX4_inColumn 0 [.ref q, .ref f, .int x8, .int x2, .int x3, Unk] [] σ (fun r τ1 => ∃ u2 : Int32, r = some (.int u2) ∧ X none (d + 1) mX4_fullestFrom 89 [.ref q, .ref f, .int x2, .int x3, .int x4, .int x5, .int (x6 - u2), .int x7, .int (x8 + 1), .int x9, .int x10] [] τ1 Q))))))))) :
    X none (d + 1) mX4_fullestFrom 89 [.ref q, .ref f, .int x2, .int x3, .int x4, .int x5, .int x6, .int x7, .int x8, .int x9, .int x10] [] σ Q := by
  refine x_iload (pc' := 91) dX4_fullestFrom_89 rfl rfl ?_
  refine x_aload_n (pc' := 92) dX4_fullestFrom_91 rfl rfl rfl ?_
  refine x_geti (pc' := 95) dX4_fullestFrom_92 rfl lfX4_15 (OKP.k hq) rfl ?_
  refine x_icmp_ge (pc' := 98) (tgt := 135) dX4_fullestFrom_95 (by decide) rfl (fun hc => ?_) (fun hc => ?_)
  · replace h := h.1 hc
    refine x_iload (pc' := 137) dX4_fullestFrom_135 rfl rfl ?_
    refine x_iload (pc' := 139) dX4_fullestFrom_137 rfl rfl ?_
    refine x_icmp_le (pc' := 142) (tgt := 150) dX4_fullestFrom_139 (by decide) rfl (fun hc => ?_) (fun hc => ?_)
    · replace h := h.1 hc
      refine x_iinc (pc' := 153) (v := 1) dX4_fullestFrom_150 rfl (by decide) rfl rfl (by decide) (ls' := [.ref q, .ref f, .int x2, .int x3, .int x4, .int x5, .int x6, .int x7, .int x8, .int (x9 + 1), .int x10]) rfl ?_
      refine x_goto (pc' := 18) dX4_fullestFrom_153 (by decide) ?_
      refine x_forget 10 (ls' := [.ref q, .ref f, .int x2, .int x3, .int x4, .int x5, .int x6, .int x7, .int x8, .int (x9 + 1), Unk]) rfl ?_
      exact h
    · replace h := h.2 hc
      refine x_iload (pc' := 144) dX4_fullestFrom_142 rfl rfl ?_
      refine x_istore (pc' := 146) dX4_fullestFrom_144 rfl (by decide) rfl (ls' := [.ref q, .ref f, .int x2, .int x3, .int x6, .int x5, .int x6, .int x7, .int x8, .int x9, .int x10]) rfl ?_
      refine x_iload (pc' := 148) dX4_fullestFrom_146 rfl rfl ?_
      refine x_istore (pc' := 150) dX4_fullestFrom_148 rfl (by decide) rfl (ls' := [.ref q, .ref f, .int x2, .int x3, .int x6, .int x10, .int x6, .int x7, .int x8, .int x9, .int x10]) rfl ?_
      refine x_iinc (pc' := 153) (v := 1) dX4_fullestFrom_150 rfl (by decide) rfl rfl (by decide) (ls' := [.ref q, .ref f, .int x2, .int x3, .int x6, .int x10, .int x6, .int x7, .int x8, .int (x9 + 1), .int x10]) rfl ?_
      refine x_goto (pc' := 18) dX4_fullestFrom_153 (by decide) ?_
      refine x_forget 10 (ls' := [.ref q, .ref f, .int x2, .int x3, .int x6, .int x10, .int x6, .int x7, .int x8, .int (x9 + 1), Unk]) rfl ?_
      exact h
  · replace h := h.2 hc
    refine x_aload_n (pc' := 99) dX4_fullestFrom_98 rfl rfl rfl ?_
    refine x_getr (pc' := 102) dX4_fullestFrom_99 rfl lfX4_35 (OKF.k hf) rfl (OKF.r2 hf) ?_
    refine x_aload_n (pc' := 103) dX4_fullestFrom_102 rfl rfl rfl ?_
    refine x_getr (pc' := 106) dX4_fullestFrom_103 rfl lfX4_9 (OKP.k hq) rfl (OKP.r0 hq) ?_
    refine x_iload (pc' := 108) dX4_fullestFrom_106 rfl rfl ?_
    obtain ⟨hb, h⟩ := h
    refine x_iald (pc' := 109) dX4_fullestFrom_108 rfl (OKP.a0 hq) (by rw [(OKP.n0 hq)]; exact hb) ?_
    obtain ⟨hb, h⟩ := h
    refine x_iald (pc' := 110) dX4_fullestFrom_109 rfl (OKF.a2 hf) (by rw [(OKF.n2 hf)]; exact hb) ?_
    refine x_iload (pc' := 112) dX4_fullestFrom_110 rfl rfl ?_
    refine x_icmp_ge (pc' := 115) (tgt := 135) dX4_fullestFrom_112 (by decide) rfl (fun hc => ?_) (fun hc => ?_)
    · replace h := h.1 hc
      refine x_iload (pc' := 137) dX4_fullestFrom_135 rfl rfl ?_
      refine x_iload (pc' := 139) dX4_fullestFrom_137 rfl rfl ?_
      refine x_icmp_le (pc' := 142) (tgt := 150) dX4_fullestFrom_139 (by decide) rfl (fun hc => ?_) (fun hc => ?_)
      · replace h := h.1 hc
        refine x_iinc (pc' := 153) (v := 1) dX4_fullestFrom_150 rfl (by decide) rfl rfl (by decide) (ls' := [.ref q, .ref f, .int x2, .int x3, .int x4, .int x5, .int x6, .int x7, .int x8, .int (x9 + 1), .int x10]) rfl ?_
        refine x_goto (pc' := 18) dX4_fullestFrom_153 (by decide) ?_
        refine x_forget 10 (ls' := [.ref q, .ref f, .int x2, .int x3, .int x4, .int x5, .int x6, .int x7, .int x8, .int (x9 + 1), Unk]) rfl ?_
        exact h
      · replace h := h.2 hc
        refine x_iload (pc' := 144) dX4_fullestFrom_142 rfl rfl ?_
        refine x_istore (pc' := 146) dX4_fullestFrom_144 rfl (by decide) rfl (ls' := [.ref q, .ref f, .int x2, .int x3, .int x6, .int x5, .int x6, .int x7, .int x8, .int x9, .int x10]) rfl ?_
        refine x_iload (pc' := 148) dX4_fullestFrom_146 rfl rfl ?_
        refine x_istore (pc' := 150) dX4_fullestFrom_148 rfl (by decide) rfl (ls' := [.ref q, .ref f, .int x2, .int x3, .int x6, .int x10, .int x6, .int x7, .int x8, .int x9, .int x10]) rfl ?_
        refine x_iinc (pc' := 153) (v := 1) dX4_fullestFrom_150 rfl (by decide) rfl rfl (by decide) (ls' := [.ref q, .ref f, .int x2, .int x3, .int x6, .int x10, .int x6, .int x7, .int x8, .int (x9 + 1), .int x10]) rfl ?_
        refine x_goto (pc' := 18) dX4_fullestFrom_153 (by decide) ?_
        refine x_forget 10 (ls' := [.ref q, .ref f, .int x2, .int x3, .int x6, .int x10, .int x6, .int x7, .int x8, .int (x9 + 1), Unk]) rfl ?_
        exact h
    · replace h := h.2 hc
      refine x_iload (pc' := 117) dX4_fullestFrom_115 rfl rfl ?_
      refine x_aload_n (pc' := 118) dX4_fullestFrom_117 rfl rfl rfl ?_
      refine x_aload_n (pc' := 119) dX4_fullestFrom_118 rfl rfl rfl ?_
      refine x_iload (pc' := 121) dX4_fullestFrom_119 rfl rfl ?_
      refine x_iload_n (pc' := 122) dX4_fullestFrom_121 rfl rfl rfl ?_
      refine x_iload_n (pc' := 123) dX4_fullestFrom_122 rfl rfl rfl ?_
      refine x_callV (pc' := 126) (As := [.ref f, .int x8, .int x2, .int x3]) dX4_fullestFrom_123 rfl lmX4_74 (OKP.k hq) rfl rfl (Nat.le_of_ble_eq_true rfl) (Nat.le_of_ble_eq_true rfl) ?_
      show X none d mX4_inColumn 0 [.ref q, .ref f, .int x8, .int x2, .int x3, Unk] [] σ _
      refine X.mono h ?_
      rintro r τ1 ⟨u2, rfl, h⟩
      show X none (d + 1) mX4_fullestFrom 126 [.ref q, .ref f, .int x2, .int x3, .int x4, .int x5, .int x6, .int x7, .int x8, .int x9, .int x10] [.int u2, .int x6] τ1 _
      refine x_isub (pc' := 127) dX4_fullestFrom_126 rfl ?_
      refine x_istore (pc' := 129) dX4_fullestFrom_127 rfl (by decide) rfl (ls' := [.ref q, .ref f, .int x2, .int x3, .int x4, .int x5, .int (x6 - u2), .int x7, .int x8, .int x9, .int x10]) rfl ?_
      refine x_iinc (pc' := 132) (v := 1) dX4_fullestFrom_129 rfl (by decide) rfl rfl (by decide) (ls' := [.ref q, .ref f, .int x2, .int x3, .int x4, .int x5, .int (x6 - u2), .int x7, .int (x8 + 1), .int x9, .int x10]) rfl ?_
      refine x_goto (pc' := 89) dX4_fullestFrom_132 (by decide) ?_
      exact h
set_option maxRecDepth 100000 in
set_option maxHeartbeats 4000000 in
theorem vX4_inColumn_0 {d : Nat} {σ : Mem} {Q : Option Value → Mem → Prop} {q f : Nat} {x2 x3 x4 : Int32} (hq : OKP q) (hf : OKF f)
    (h : (vp_in x2 60 ∧ (vp_in (σ.1 (q + 1) x2.toNatClampNeg) 121 ∧ (((σ.1 (f + 2) (σ.1 (q + 1) x2.toNatClampNeg).toNatClampNeg) < x3 → Q (some (.int 0)) σ) ∧ (¬ (σ.1 (f + 2) (σ.1 (q + 1) x2.toNatClampNeg).toNatClampNeg) < x3 → (((x3 + x4) < (σ.1 (f + 2) (σ.1 (q + 1) x2.toNatClampNeg).toNatClampNeg) → Q (some (.int 0)) σ) ∧ (¬ (x3 + x4) < (σ.1 (f + 2) (σ.1 (q + 1) x2.toNatClampNeg).toNatClampNeg) → Q (some (.int 1)) σ))))))) :
    X none d mX4_inColumn 0 [.ref q, .ref f, .int x2, .int x3, .int x4, Unk] [] σ Q := by
  refine x_aload_n (pc' := 1) dX4_inColumn_0 rfl rfl rfl ?_
  refine x_getr (pc' := 4) dX4_inColumn_1 rfl lfX4_32 (OKF.k hf) rfl (OKF.r1 hf) ?_
  refine x_aload_n (pc' := 5) dX4_inColumn_4 rfl rfl rfl ?_
  refine x_getr (pc' := 8) dX4_inColumn_5 rfl lfX4_9 (OKP.k hq) rfl (OKP.r0 hq) ?_
  refine x_iload_n (pc' := 9) dX4_inColumn_8 rfl rfl rfl ?_
  obtain ⟨hb, h⟩ := h
  refine x_iald (pc' := 10) dX4_inColumn_9 rfl (OKP.a0 hq) (by rw [(OKP.n0 hq)]; exact hb) ?_
  obtain ⟨hb, h⟩ := h
  refine x_iald (pc' := 11) dX4_inColumn_10 rfl (OKF.a1 hf) (by rw [(OKF.n1 hf)]; exact hb) ?_
  refine x_istore (pc' := 13) dX4_inColumn_11 rfl (by decide) rfl (ls' := [.ref q, .ref f, .int x2, .int x3, .int x4, .int (σ.1 (f + 2) (σ.1 (q + 1) x2.toNatClampNeg).toNatClampNeg)]) rfl ?_
  refine x_iload (pc' := 15) dX4_inColumn_13 rfl rfl ?_
  refine x_iload_n (pc' := 16) dX4_inColumn_15 rfl rfl rfl ?_
  refine x_icmp_lt (pc' := 19) (tgt := 32) dX4_inColumn_16 (by decide) rfl (fun hc => ?_) (fun hc => ?_)
  · replace h := h.1 hc
    refine x_iconst (pc' := 33) (v := 0) dX4_inColumn_32 rfl (by decide) ?_
    exact x_iret dX4_inColumn_33 rfl rfl h
  · replace h := h.2 hc
    refine x_iload (pc' := 21) dX4_inColumn_19 rfl rfl ?_
    refine x_iload_n (pc' := 22) dX4_inColumn_21 rfl rfl rfl ?_
    refine x_iload (pc' := 24) dX4_inColumn_22 rfl rfl ?_
    refine x_iadd (pc' := 25) dX4_inColumn_24 rfl ?_
    refine x_icmp_gt (pc' := 28) (tgt := 32) dX4_inColumn_25 (by decide) rfl (fun hc => ?_) (fun hc => ?_)
    · replace h := h.1 hc
      refine x_iconst (pc' := 33) (v := 0) dX4_inColumn_32 rfl (by decide) ?_
      exact x_iret dX4_inColumn_33 rfl rfl h
    · replace h := h.2 hc
      refine x_iconst (pc' := 29) (v := 1) dX4_inColumn_28 rfl (by decide) ?_
      refine x_goto (pc' := 33) dX4_inColumn_29 (by decide) ?_
      exact x_iret dX4_inColumn_33 rfl rfl h
set_option maxRecDepth 100000 in
set_option maxHeartbeats 4000000 in
theorem vX0_hasInLayer_0 {d : Nat} {σ : Mem} {Q : Option Value → Mem → Prop} {f b : Nat} {x1 x2 : Int32} (hf : OKF f) (hb0 : OKS b)
    (h : ((x2 = 0 → ((¬ ((σ.1 f 5) &&& x1) = 0 → X none (d + 2) mX0_hasInLayer 41 [.ref f, .int x1, .int x2, .ref b, .int (σ.1 f 5), .int ((σ.1 f 5) &&& (-(2 * x1))), .int 0, .int 0, Unk] [] σ Q) ∧ (((σ.1 f 5) &&& x1) = 0 → Q (some (.int (-2000000001))) σ))) ∧ (¬ x2 = 0 → ((¬ ((σ.1 f 6) &&& x1) = 0 → X none (d + 2) mX0_hasInLayer 41 [.ref f, .int x1, .int x2, .ref b, .int (σ.1 f 6), .int ((σ.1 f 6) &&& (-(2 * x1))), .int 0, .int 0, Unk] [] σ Q) ∧ (((σ.1 f 6) &&& x1) = 0 → Q (some (.int (-2000000001))) σ))))) :
    X none (d + 2) mX0_hasInLayer 0 [.ref f, .int x1, .int x2, .ref b, Unk, Unk, Unk, Unk, Unk] [] σ Q := by
  refine x_iload_n (pc' := 1) dX0_hasInLayer_0 rfl rfl rfl ?_
  refine x_if_eq (pc' := 4) (tgt := 11) dX0_hasInLayer_1 (by decide) rfl (fun hc => ?_) (fun hc => ?_)
  · replace h := h.1 hc
    refine x_aload_n (pc' := 12) dX0_hasInLayer_11 rfl rfl rfl ?_
    refine x_geti (pc' := 15) dX0_hasInLayer_12 rfl lfX0_27 (OKF.k hf) rfl ?_
    refine x_istore (pc' := 17) dX0_hasInLayer_15 rfl (by decide) rfl (ls' := [.ref f, .int x1, .int x2, .ref b, .int (σ.1 f 5), Unk, Unk, Unk, Unk]) rfl ?_
    refine x_iload (pc' := 19) dX0_hasInLayer_17 rfl rfl ?_
    refine x_iload_n (pc' := 20) dX0_hasInLayer_19 rfl rfl rfl ?_
    refine x_iand (pc' := 21) dX0_hasInLayer_20 rfl ?_
    refine x_if_ne (pc' := 24) (tgt := 27) dX0_hasInLayer_21 (by decide) rfl (fun hc => ?_) (fun hc => ?_)
    · replace h := h.1 hc
      refine x_iload (pc' := 29) dX0_hasInLayer_27 rfl rfl ?_
      refine x_iload_n (pc' := 30) dX0_hasInLayer_29 rfl rfl rfl ?_
      refine x_callS (pc' := 33) (As := [.int (σ.1 f 5), .int x1]) dX0_hasInLayer_30 rfl lmX0_81 rfl rfl (Nat.le_of_ble_eq_true rfl) (Nat.le_of_ble_eq_true rfl) ?_
      show X none (d + 1) mX0_layerStart 0 [.int (σ.1 f 5), .int x1] [] σ _
      refine x_iload_n (pc' := 1) dX0_layerStart_0 rfl rfl rfl ?_
      refine x_iconst (pc' := 2) (v := 2) dX0_layerStart_1 rfl (by decide) ?_
      refine x_iload_n (pc' := 3) dX0_layerStart_2 rfl rfl rfl ?_
      refine x_imul (pc' := 4) dX0_layerStart_3 rfl ?_
      refine x_ineg (pc' := 5) dX0_layerStart_4 rfl ?_
      refine x_iand (pc' := 6) dX0_layerStart_5 rfl ?_
      refine x_iret dX0_layerStart_6 rfl rfl ?_
      show X none (d + 2) mX0_hasInLayer 33 [.ref f, .int x1, .int x2, .ref b, .int (σ.1 f 5), Unk, Unk, Unk, Unk] [.int ((σ.1 f 5) &&& (-(2 * x1)))] σ _
      refine x_istore (pc' := 35) dX0_hasInLayer_33 rfl (by decide) rfl (ls' := [.ref f, .int x1, .int x2, .ref b, .int (σ.1 f 5), .int ((σ.1 f 5) &&& (-(2 * x1))), Unk, Unk, Unk]) rfl ?_
      refine x_iconst (pc' := 36) (v := 0) dX0_hasInLayer_35 rfl (by decide) ?_
      refine x_istore (pc' := 38) dX0_hasInLayer_36 rfl (by decide) rfl (ls' := [.ref f, .int x1, .int x2, .ref b, .int (σ.1 f 5), .int ((σ.1 f 5) &&& (-(2 * x1))), .int 0, Unk, Unk]) rfl ?_
      refine x_iconst (pc' := 39) (v := 0) dX0_hasInLayer_38 rfl (by decide) ?_
      refine x_istore (pc' := 41) dX0_hasInLayer_39 rfl (by decide) rfl (ls' := [.ref f, .int x1, .int x2, .ref b, .int (σ.1 f 5), .int ((σ.1 f 5) &&& (-(2 * x1))), .int 0, .int 0, Unk]) rfl ?_
      exact h
    · replace h := h.2 hc
      refine x_ldc (pc' := 26) dX0_hasInLayer_24 rfl lcX0_80 ?_
      exact x_iret dX0_hasInLayer_26 rfl rfl h
  · replace h := h.2 hc
    refine x_aload_n (pc' := 5) dX0_hasInLayer_4 rfl rfl rfl ?_
    refine x_geti (pc' := 8) dX0_hasInLayer_5 rfl lfX0_31 (OKF.k hf) rfl ?_
    refine x_goto (pc' := 15) dX0_hasInLayer_8 (by decide) ?_
    refine x_istore (pc' := 17) dX0_hasInLayer_15 rfl (by decide) rfl (ls' := [.ref f, .int x1, .int x2, .ref b, .int (σ.1 f 6), Unk, Unk, Unk, Unk]) rfl ?_
    refine x_iload (pc' := 19) dX0_hasInLayer_17 rfl rfl ?_
    refine x_iload_n (pc' := 20) dX0_hasInLayer_19 rfl rfl rfl ?_
    refine x_iand (pc' := 21) dX0_hasInLayer_20 rfl ?_
    refine x_if_ne (pc' := 24) (tgt := 27) dX0_hasInLayer_21 (by decide) rfl (fun hc => ?_) (fun hc => ?_)
    · replace h := h.1 hc
      refine x_iload (pc' := 29) dX0_hasInLayer_27 rfl rfl ?_
      refine x_iload_n (pc' := 30) dX0_hasInLayer_29 rfl rfl rfl ?_
      refine x_callS (pc' := 33) (As := [.int (σ.1 f 6), .int x1]) dX0_hasInLayer_30 rfl lmX0_81 rfl rfl (Nat.le_of_ble_eq_true rfl) (Nat.le_of_ble_eq_true rfl) ?_
      show X none (d + 1) mX0_layerStart 0 [.int (σ.1 f 6), .int x1] [] σ _
      refine x_iload_n (pc' := 1) dX0_layerStart_0 rfl rfl rfl ?_
      refine x_iconst (pc' := 2) (v := 2) dX0_layerStart_1 rfl (by decide) ?_
      refine x_iload_n (pc' := 3) dX0_layerStart_2 rfl rfl rfl ?_
      refine x_imul (pc' := 4) dX0_layerStart_3 rfl ?_
      refine x_ineg (pc' := 5) dX0_layerStart_4 rfl ?_
      refine x_iand (pc' := 6) dX0_layerStart_5 rfl ?_
      refine x_iret dX0_layerStart_6 rfl rfl ?_
      show X none (d + 2) mX0_hasInLayer 33 [.ref f, .int x1, .int x2, .ref b, .int (σ.1 f 6), Unk, Unk, Unk, Unk] [.int ((σ.1 f 6) &&& (-(2 * x1)))] σ _
      refine x_istore (pc' := 35) dX0_hasInLayer_33 rfl (by decide) rfl (ls' := [.ref f, .int x1, .int x2, .ref b, .int (σ.1 f 6), .int ((σ.1 f 6) &&& (-(2 * x1))), Unk, Unk, Unk]) rfl ?_
      refine x_iconst (pc' := 36) (v := 0) dX0_hasInLayer_35 rfl (by decide) ?_
      refine x_istore (pc' := 38) dX0_hasInLayer_36 rfl (by decide) rfl (ls' := [.ref f, .int x1, .int x2, .ref b, .int (σ.1 f 6), .int ((σ.1 f 6) &&& (-(2 * x1))), .int 0, Unk, Unk]) rfl ?_
      refine x_iconst (pc' := 39) (v := 0) dX0_hasInLayer_38 rfl (by decide) ?_
      refine x_istore (pc' := 41) dX0_hasInLayer_39 rfl (by decide) rfl (ls' := [.ref f, .int x1, .int x2, .ref b, .int (σ.1 f 6), .int ((σ.1 f 6) &&& (-(2 * x1))), .int 0, .int 0, Unk]) rfl ?_
      exact h
    · replace h := h.2 hc
      refine x_ldc (pc' := 26) dX0_hasInLayer_24 rfl lcX0_80 ?_
      exact x_iret dX0_hasInLayer_26 rfl rfl h
set_option maxRecDepth 100000 in
set_option maxHeartbeats 4000000 in
theorem vX0_hasInLayer_41 {d : Nat} {σ : Mem} {Q : Option Value → Mem → Prop} {f b : Nat} {x1 x2 x4 x5 x6 x7 : Int32} (hf : OKF f) (hb0 : OKS b)
    (h : (((σ.1 f 5) ≤ x7 → Q (some (.int x6)) σ) ∧ (¬ (σ.1 f 5) ≤ x7 → ((x2 = 0 → ((x7 < x5 → X none (d + 2) mX0_hasInLayer 41 [.ref f, .int x1, .int x2, .ref b, .int x4, .int x5, .int x6, .int (x7 + 1), Unk] [] σ Q) ∧ (¬ x7 < x5 → (((x5 + x1) ≤ x7 → X none (d + 2) mX0_hasInLayer 41 [.ref f, .int x1, .int x2, .ref b, .int x4, .int x5, .int x6, .int (x7 + 1), Unk] [] σ Q) ∧ (¬ (x5 + x1) ≤ x7 → (vp_in x7 121 ∧ (vp_in x7 121 ∧ (X none (d + 1) mX6_holds 0 [.ref b, .int (σ.1 (f + 2) x7.toNatClampNeg), .int (σ.1 (f + 3) x7.toNatClampNeg), Unk, Unk, Unk] [] σ (fun r τ1 => ∃ u2 : Int32, r = some (.int u2) ∧ ((u2 = 0 → X none (d + 2) mX0_hasInLayer 41 [.ref f, .int x1, .int x2, .ref b, .int x4, .int x5, .int x6, .int (x7 + 1), Unk] [] τ1 Q) ∧ (¬ u2 = 0 → X none (d + 2) mX0_hasInLayer 41 [.ref f, .int x1, .int x2, .ref b, .int x4, .int x5, .int (x6 + 1), .int (x7 + 1), Unk] [] τ1 Q))))))))))) ∧ (¬ x2 = 0 → (vp_in x7 121 ∧ ((((σ.1 (f + 5) x7.toNatClampNeg) - 1) < x5 → X none (d + 2) mX0_hasInLayer 41 [.ref f, .int x1, .int x2, .ref b, .int x4, .int x5, .int x6, .int (x7 + 1), Unk] [] σ Q) ∧ (¬ ((σ.1 (f + 5) x7.toNatClampNeg) - 1) < x5 → (((x5 + x1) ≤ ((σ.1 (f + 5) x7.toNatClampNeg) - 1) → X none (d + 2) mX0_hasInLayer 41 [.ref f, .int x1, .int x2, .ref b, .int x4, .int x5, .int x6, .int (x7 + 1), Unk] [] σ Q) ∧ (¬ (x5 + x1) ≤ ((σ.1 (f + 5) x7.toNatClampNeg) - 1) → (vp_in x7 121 ∧ (vp_in x7 121 ∧ (X none (d + 1) mX6_holds 0 [.ref b, .int (σ.1 (f + 2) x7.toNatClampNeg), .int (σ.1 (f + 3) x7.toNatClampNeg), Unk, Unk, Unk] [] σ (fun r τ3 => ∃ u4 : Int32, r = some (.int u4) ∧ ((u4 = 0 → X none (d + 2) mX0_hasInLayer 41 [.ref f, .int x1, .int x2, .ref b, .int x4, .int x5, .int x6, .int (x7 + 1), Unk] [] τ3 Q) ∧ (¬ u4 = 0 → X none (d + 2) mX0_hasInLayer 41 [.ref f, .int x1, .int x2, .ref b, .int x4, .int x5, .int (x6 + 1), .int (x7 + 1), Unk] [] τ3 Q)))))))))))))))) :
    X none (d + 2) mX0_hasInLayer 41 [.ref f, .int x1, .int x2, .ref b, .int x4, .int x5, .int x6, .int x7, Unk] [] σ Q := by
  refine x_iload (pc' := 43) dX0_hasInLayer_41 rfl rfl ?_
  refine x_aload_n (pc' := 44) dX0_hasInLayer_43 rfl rfl rfl ?_
  refine x_geti (pc' := 47) dX0_hasInLayer_44 rfl lfX0_27 (OKF.k hf) rfl ?_
  refine x_icmp_ge (pc' := 50) (tgt := 116) dX0_hasInLayer_47 (by decide) rfl (fun hc => ?_) (fun hc => ?_)
  · replace h := h.1 hc
    refine x_iload (pc' := 118) dX0_hasInLayer_116 rfl rfl ?_
    exact x_iret dX0_hasInLayer_118 rfl rfl h
  · replace h := h.2 hc
    refine x_iload_n (pc' := 51) dX0_hasInLayer_50 rfl rfl rfl ?_
    refine x_if_eq (pc' := 54) (tgt := 66) dX0_hasInLayer_51 (by decide) rfl (fun hc => ?_) (fun hc => ?_)
    · replace h := h.1 hc
      refine x_iload (pc' := 68) dX0_hasInLayer_66 rfl rfl ?_
      refine x_istore (pc' := 70) dX0_hasInLayer_68 rfl (by decide) rfl (ls' := [.ref f, .int x1, .int x2, .ref b, .int x4, .int x5, .int x6, .int x7, .int x7]) rfl ?_
      refine x_iload (pc' := 72) dX0_hasInLayer_70 rfl rfl ?_
      refine x_iload (pc' := 74) dX0_hasInLayer_72 rfl rfl ?_
      refine x_icmp_lt (pc' := 77) (tgt := 110) dX0_hasInLayer_74 (by decide) rfl (fun hc => ?_) (fun hc => ?_)
      · replace h := h.1 hc
        refine x_iinc (pc' := 113) (v := 1) dX0_hasInLayer_110 rfl (by decide) rfl rfl (by decide) (ls' := [.ref f, .int x1, .int x2, .ref b, .int x4, .int x5, .int x6, .int (x7 + 1), .int x7]) rfl ?_
        refine x_goto (pc' := 41) dX0_hasInLayer_113 (by decide) ?_
        refine x_forget 8 (ls' := [.ref f, .int x1, .int x2, .ref b, .int x4, .int x5, .int x6, .int (x7 + 1), Unk]) rfl ?_
        exact h
      · replace h := h.2 hc
        refine x_iload (pc' := 79) dX0_hasInLayer_77 rfl rfl ?_
        refine x_iload (pc' := 81) dX0_hasInLayer_79 rfl rfl ?_
        refine x_iload_n (pc' := 82) dX0_hasInLayer_81 rfl rfl rfl ?_
        refine x_iadd (pc' := 83) dX0_hasInLayer_82 rfl ?_
        refine x_icmp_ge (pc' := 86) (tgt := 110) dX0_hasInLayer_83 (by decide) rfl (fun hc => ?_) (fun hc => ?_)
        · replace h := h.1 hc
          refine x_iinc (pc' := 113) (v := 1) dX0_hasInLayer_110 rfl (by decide) rfl rfl (by decide) (ls' := [.ref f, .int x1, .int x2, .ref b, .int x4, .int x5, .int x6, .int (x7 + 1), .int x7]) rfl ?_
          refine x_goto (pc' := 41) dX0_hasInLayer_113 (by decide) ?_
          refine x_forget 8 (ls' := [.ref f, .int x1, .int x2, .ref b, .int x4, .int x5, .int x6, .int (x7 + 1), Unk]) rfl ?_
          exact h
        · replace h := h.2 hc
          refine x_aload_n (pc' := 87) dX0_hasInLayer_86 rfl rfl rfl ?_
          refine x_aload_n (pc' := 88) dX0_hasInLayer_87 rfl rfl rfl ?_
          refine x_getr (pc' := 91) dX0_hasInLayer_88 rfl lfX0_15 (OKF.k hf) rfl (OKF.r1 hf) ?_
          refine x_iload (pc' := 93) dX0_hasInLayer_91 rfl rfl ?_
          obtain ⟨hb, h⟩ := h
          refine x_iald (pc' := 94) dX0_hasInLayer_93 rfl (OKF.a1 hf) (by rw [(OKF.n1 hf)]; exact hb) ?_
          refine x_aload_n (pc' := 95) dX0_hasInLayer_94 rfl rfl rfl ?_
          refine x_getr (pc' := 98) dX0_hasInLayer_95 rfl lfX0_18 (OKF.k hf) rfl (OKF.r2 hf) ?_
          refine x_iload (pc' := 100) dX0_hasInLayer_98 rfl rfl ?_
          obtain ⟨hb, h⟩ := h
          refine x_iald (pc' := 101) dX0_hasInLayer_100 rfl (OKF.a2 hf) (by rw [(OKF.n2 hf)]; exact hb) ?_
          refine x_callV (pc' := 104) (As := [.int (σ.1 (f + 2) x7.toNatClampNeg), .int (σ.1 (f + 3) x7.toNatClampNeg)]) dX0_hasInLayer_101 rfl lmX0_84 (OKS.k hb0) rfl rfl (Nat.le_of_ble_eq_true rfl) (Nat.le_of_ble_eq_true rfl) ?_
          show X none (d + 1) mX6_holds 0 [.ref b, .int (σ.1 (f + 2) x7.toNatClampNeg), .int (σ.1 (f + 3) x7.toNatClampNeg), Unk, Unk, Unk] [] σ _
          refine X.mono h ?_
          rintro r τ1 ⟨u2, rfl, h⟩
          show X none (d + 2) mX0_hasInLayer 104 [.ref f, .int x1, .int x2, .ref b, .int x4, .int x5, .int x6, .int x7, .int x7] [.int u2] τ1 _
          refine x_if_eq (pc' := 107) (tgt := 110) dX0_hasInLayer_104 (by decide) rfl (fun hc => ?_) (fun hc => ?_)
          · replace h := h.1 hc
            refine x_iinc (pc' := 113) (v := 1) dX0_hasInLayer_110 rfl (by decide) rfl rfl (by decide) (ls' := [.ref f, .int x1, .int x2, .ref b, .int x4, .int x5, .int x6, .int (x7 + 1), .int x7]) rfl ?_
            refine x_goto (pc' := 41) dX0_hasInLayer_113 (by decide) ?_
            refine x_forget 8 (ls' := [.ref f, .int x1, .int x2, .ref b, .int x4, .int x5, .int x6, .int (x7 + 1), Unk]) rfl ?_
            exact h
          · replace h := h.2 hc
            refine x_iinc (pc' := 110) (v := 1) dX0_hasInLayer_107 rfl (by decide) rfl rfl (by decide) (ls' := [.ref f, .int x1, .int x2, .ref b, .int x4, .int x5, .int (x6 + 1), .int x7, .int x7]) rfl ?_
            refine x_iinc (pc' := 113) (v := 1) dX0_hasInLayer_110 rfl (by decide) rfl rfl (by decide) (ls' := [.ref f, .int x1, .int x2, .ref b, .int x4, .int x5, .int (x6 + 1), .int (x7 + 1), .int x7]) rfl ?_
            refine x_goto (pc' := 41) dX0_hasInLayer_113 (by decide) ?_
            refine x_forget 8 (ls' := [.ref f, .int x1, .int x2, .ref b, .int x4, .int x5, .int (x6 + 1), .int (x7 + 1), Unk]) rfl ?_
            exact h
    · replace h := h.2 hc
      refine x_aload_n (pc' := 55) dX0_hasInLayer_54 rfl rfl rfl ?_
      refine x_getr (pc' := 58) dX0_hasInLayer_55 rfl lfX0_24 (OKF.k hf) rfl (OKF.r4 hf) ?_
      refine x_iload (pc' := 60) dX0_hasInLayer_58 rfl rfl ?_
      obtain ⟨hb, h⟩ := h
      refine x_iald (pc' := 61) dX0_hasInLayer_60 rfl (OKF.a4 hf) (by rw [(OKF.n4 hf)]; exact hb) ?_
      refine x_iconst (pc' := 62) (v := 1) dX0_hasInLayer_61 rfl (by decide) ?_
      refine x_isub (pc' := 63) dX0_hasInLayer_62 rfl ?_
      refine x_goto (pc' := 68) dX0_hasInLayer_63 (by decide) ?_
      refine x_istore (pc' := 70) dX0_hasInLayer_68 rfl (by decide) rfl (ls' := [.ref f, .int x1, .int x2, .ref b, .int x4, .int x5, .int x6, .int x7, .int ((σ.1 (f + 5) x7.toNatClampNeg) - 1)]) rfl ?_
      refine x_iload (pc' := 72) dX0_hasInLayer_70 rfl rfl ?_
      refine x_iload (pc' := 74) dX0_hasInLayer_72 rfl rfl ?_
      refine x_icmp_lt (pc' := 77) (tgt := 110) dX0_hasInLayer_74 (by decide) rfl (fun hc => ?_) (fun hc => ?_)
      · replace h := h.1 hc
        refine x_iinc (pc' := 113) (v := 1) dX0_hasInLayer_110 rfl (by decide) rfl rfl (by decide) (ls' := [.ref f, .int x1, .int x2, .ref b, .int x4, .int x5, .int x6, .int (x7 + 1), .int ((σ.1 (f + 5) x7.toNatClampNeg) - 1)]) rfl ?_
        refine x_goto (pc' := 41) dX0_hasInLayer_113 (by decide) ?_
        refine x_forget 8 (ls' := [.ref f, .int x1, .int x2, .ref b, .int x4, .int x5, .int x6, .int (x7 + 1), Unk]) rfl ?_
        exact h
      · replace h := h.2 hc
        refine x_iload (pc' := 79) dX0_hasInLayer_77 rfl rfl ?_
        refine x_iload (pc' := 81) dX0_hasInLayer_79 rfl rfl ?_
        refine x_iload_n (pc' := 82) dX0_hasInLayer_81 rfl rfl rfl ?_
        refine x_iadd (pc' := 83) dX0_hasInLayer_82 rfl ?_
        refine x_icmp_ge (pc' := 86) (tgt := 110) dX0_hasInLayer_83 (by decide) rfl (fun hc => ?_) (fun hc => ?_)
        · replace h := h.1 hc
          refine x_iinc (pc' := 113) (v := 1) dX0_hasInLayer_110 rfl (by decide) rfl rfl (by decide) (ls' := [.ref f, .int x1, .int x2, .ref b, .int x4, .int x5, .int x6, .int (x7 + 1), .int ((σ.1 (f + 5) x7.toNatClampNeg) - 1)]) rfl ?_
          refine x_goto (pc' := 41) dX0_hasInLayer_113 (by decide) ?_
          refine x_forget 8 (ls' := [.ref f, .int x1, .int x2, .ref b, .int x4, .int x5, .int x6, .int (x7 + 1), Unk]) rfl ?_
          exact h
        · replace h := h.2 hc
          refine x_aload_n (pc' := 87) dX0_hasInLayer_86 rfl rfl rfl ?_
          refine x_aload_n (pc' := 88) dX0_hasInLayer_87 rfl rfl rfl ?_
          refine x_getr (pc' := 91) dX0_hasInLayer_88 rfl lfX0_15 (OKF.k hf) rfl (OKF.r1 hf) ?_
          refine x_iload (pc' := 93) dX0_hasInLayer_91 rfl rfl ?_
          obtain ⟨hb, h⟩ := h
          refine x_iald (pc' := 94) dX0_hasInLayer_93 rfl (OKF.a1 hf) (by rw [(OKF.n1 hf)]; exact hb) ?_
          refine x_aload_n (pc' := 95) dX0_hasInLayer_94 rfl rfl rfl ?_
          refine x_getr (pc' := 98) dX0_hasInLayer_95 rfl lfX0_18 (OKF.k hf) rfl (OKF.r2 hf) ?_
          refine x_iload (pc' := 100) dX0_hasInLayer_98 rfl rfl ?_
          obtain ⟨hb, h⟩ := h
          refine x_iald (pc' := 101) dX0_hasInLayer_100 rfl (OKF.a2 hf) (by rw [(OKF.n2 hf)]; exact hb) ?_
          refine x_callV (pc' := 104) (As := [.int (σ.1 (f + 2) x7.toNatClampNeg), .int (σ.1 (f + 3) x7.toNatClampNeg)]) dX0_hasInLayer_101 rfl lmX0_84 (OKS.k hb0) rfl rfl (Nat.le_of_ble_eq_true rfl) (Nat.le_of_ble_eq_true rfl) ?_
          show X none (d + 1) mX6_holds 0 [.ref b, .int (σ.1 (f + 2) x7.toNatClampNeg), .int (σ.1 (f + 3) x7.toNatClampNeg), Unk, Unk, Unk] [] σ _
          refine X.mono h ?_
          rintro r τ3 ⟨u4, rfl, h⟩
          show X none (d + 2) mX0_hasInLayer 104 [.ref f, .int x1, .int x2, .ref b, .int x4, .int x5, .int x6, .int x7, .int ((σ.1 (f + 5) x7.toNatClampNeg) - 1)] [.int u4] τ3 _
          refine x_if_eq (pc' := 107) (tgt := 110) dX0_hasInLayer_104 (by decide) rfl (fun hc => ?_) (fun hc => ?_)
          · replace h := h.1 hc
            refine x_iinc (pc' := 113) (v := 1) dX0_hasInLayer_110 rfl (by decide) rfl rfl (by decide) (ls' := [.ref f, .int x1, .int x2, .ref b, .int x4, .int x5, .int x6, .int (x7 + 1), .int ((σ.1 (f + 5) x7.toNatClampNeg) - 1)]) rfl ?_
            refine x_goto (pc' := 41) dX0_hasInLayer_113 (by decide) ?_
            refine x_forget 8 (ls' := [.ref f, .int x1, .int x2, .ref b, .int x4, .int x5, .int x6, .int (x7 + 1), Unk]) rfl ?_
            exact h
          · replace h := h.2 hc
            refine x_iinc (pc' := 110) (v := 1) dX0_hasInLayer_107 rfl (by decide) rfl rfl (by decide) (ls' := [.ref f, .int x1, .int x2, .ref b, .int x4, .int x5, .int (x6 + 1), .int x7, .int ((σ.1 (f + 5) x7.toNatClampNeg) - 1)]) rfl ?_
            refine x_iinc (pc' := 113) (v := 1) dX0_hasInLayer_110 rfl (by decide) rfl rfl (by decide) (ls' := [.ref f, .int x1, .int x2, .ref b, .int x4, .int x5, .int (x6 + 1), .int (x7 + 1), .int ((σ.1 (f + 5) x7.toNatClampNeg) - 1)]) rfl ?_
            refine x_goto (pc' := 41) dX0_hasInLayer_113 (by decide) ?_
            refine x_forget 8 (ls' := [.ref f, .int x1, .int x2, .ref b, .int x4, .int x5, .int (x6 + 1), .int (x7 + 1), Unk]) rfl ?_
            exact h
