/-! The law's loop. -/
section LOOP
variable {d n : Nat} {xs : Nat → Int32} {Q : Option Value → Mem → Prop}
set_option maxRecDepth 100000 in
set_option maxHeartbeats 4000000 in
theorem law_loop (hn : n ≤ 3584) (hQ : ∀ σ, Q (some (.int 1)) σ) : ∀ m i (σ : Mem) (S : Ab), n ≤ i + m → i ≤ n + 7 → CL σ S → MD σ S → WS VA0 S → X (some (n, xs)) (d + 60) mL_law 18 [.ref 200, .ref 0, .ref 94, .int (nI i)] [] σ Q := by
  intro m
  induction m using Nat.strongRecOn with
  | _ m ih =>
    intro i σ S hm hi7 hC hM hw
    refine x_iload_n (pc' := 19) dL_law_18 rfl rfl rfl ?_
    refine x_aload_n (pc' := 20) dL_law_19 rfl rfl rfl ?_
    refine x_slen (pc' := 21) dL_law_20 rfl ?_
    refine x_bipush (pc' := 23) (v := 7) dL_law_21 rfl (by decide) ?_
    refine x_isub (pc' := 24) dL_law_23 rfl ?_
    have e7 : (nI n - 7).toInt = (n : Int) - 7 := pk_sub_toInt (b := 7) (by omega) (by decide)
    have ei : (nI i).toInt = (i : Int) := nI_toInt (by omega)
    refine x_icmp_gt (pc' := 27) (tgt := 1342) dL_law_24 (by decide) rfl (fun _ => ?_) (fun c => ?_)
    · refine x_iconst (pc' := 1343) (v := 1) dL_law_1342 rfl (by decide) ?_
      exact x_iret dL_law_1343 rfl rfl (hQ σ)
    · have hi : i + 7 ≤ n := by
        have c2 := le_I.mp (Int32.not_lt.mp c)
        rw [e7, ei] at c2
        omega
      have hv : ∀ k, k < 7 → vp_in (nI i + nI k) n := fun k hk => by rw [nI_add]; exact vp_in_nI (by omega) (by omega)
      have hv0 : vp_in (nI i) n := vp_in_nI (by omega) (by omega)
      have kk : ∀ τ S', CL τ S' → MD τ S' → WS VA0 S' → X (some (n, xs)) (d + 60) mL_law 1336 [.ref 200, .ref 0, .ref 94, .int (nI i)] [] τ Q := fun τ S' q1 q2 q3 => by
        refine x_iinc (pc' := 1339) (v := 7) dL_law_1336 rfl (by decide) rfl rfl (by decide) (ls' := [.ref 200, .ref 0, .ref 94, .int (nI i + 7)]) rfl ?_
        refine x_goto (pc' := 18) dL_law_1339 (by decide) ?_
        rw [show nI i + 7 = nI (i + 7) from nI_add i 7]
        exact ih (m - 7) (by omega) (i + 7) τ S' (by omega) (by omega) q1 q2 q3
      refine x_aload_n (pc' := 28) dL_law_27 rfl rfl rfl ?_
      refine x_iload_n (pc' := 29) dL_law_28 rfl rfl rfl ?_
      refine x_sld (pc' := 30) dL_law_29 rfl hv0 ?_
      refine x_bipush (pc' := 32) (v := 63) dL_law_30 rfl (by decide) ?_
      refine x_iand (pc' := 33) dL_law_32 rfl ?_
      generalize (xs (nI i).toNatClampNeg &&& 63) = z
      by_cases hc : z.toInt < 0 ∨ 35 < z.toInt
      · exact x_tblOut (pc' := 1336) dL_law_33 hc (by decide) (kk σ S hC hM hw)
      · have hr : z.toInt = 0 ∨ z.toInt = 1 ∨ z.toInt = 2 ∨ z.toInt = 3 ∨ z.toInt = 4 ∨ z.toInt = 5 ∨ z.toInt = 6 ∨ z.toInt = 7 ∨ z.toInt = 8 ∨ z.toInt = 9 ∨ z.toInt = 10 ∨ z.toInt = 11 ∨ z.toInt = 12 ∨ z.toInt = 13 ∨ z.toInt = 14 ∨ z.toInt = 15 ∨ z.toInt = 16 ∨ z.toInt = 17 ∨ z.toInt = 18 ∨ z.toInt = 19 ∨ z.toInt = 20 ∨ z.toInt = 21 ∨ z.toInt = 22 ∨ z.toInt = 23 ∨ z.toInt = 24 ∨ z.toInt = 25 ∨ z.toInt = 26 ∨ z.toInt = 27 ∨ z.toInt = 28 ∨ z.toInt = 29 ∨ z.toInt = 30 ∨ z.toInt = 31 ∨ z.toInt = 32 ∨ z.toInt = 33 ∨ z.toInt = 34 ∨ z.toInt = 35 := by omega
        rcases hr with hr | hr | hr | hr | hr | hr | hr | hr | hr | hr | hr | hr | hr | hr | hr | hr | hr | hr | hr | hr | hr | hr | hr | hr | hr | hr | hr | hr | hr | hr | hr | hr | hr | hr | hr | hr
        · exact x_tblIn (pc' := 192) dL_law_33 (by omega) (by omega) (off := 159) (by rw [hr]; rfl) (by decide) (lc_0 hC hM hw hv kk)
        · exact x_tblIn (pc' := 235) dL_law_33 (by omega) (by omega) (off := 202) (by rw [hr]; rfl) (by decide) (lc_1 hC hM hw hv kk)
        · exact x_tblIn (pc' := 258) dL_law_33 (by omega) (by omega) (off := 225) (by rw [hr]; rfl) (by decide) (lc_2 hC hM hw hv kk)
        · exact x_tblIn (pc' := 301) dL_law_33 (by omega) (by omega) (off := 268) (by rw [hr]; rfl) (by decide) (lc_3 hC hM hw hv kk)
        · exact x_tblIn (pc' := 334) dL_law_33 (by omega) (by omega) (off := 301) (by rw [hr]; rfl) (by decide) (lc_4 hC hM hw hv kk)
        · exact x_tblIn (pc' := 387) dL_law_33 (by omega) (by omega) (off := 354) (by rw [hr]; rfl) (by decide) (lc_5 hC hM hw hv kk)
        · exact x_tblIn (pc' := 410) dL_law_33 (by omega) (by omega) (off := 377) (by rw [hr]; rfl) (by decide) (lc_6 hC hM hw hv kk)
        · exact x_tblIn (pc' := 423) dL_law_33 (by omega) (by omega) (off := 390) (by rw [hr]; rfl) (by decide) (lc_7 hC hM hw hv kk)
        · exact x_tblIn (pc' := 456) dL_law_33 (by omega) (by omega) (off := 423) (by rw [hr]; rfl) (by decide) (lc_8 hC hM hw hv kk)
        · exact x_tblIn (pc' := 479) dL_law_33 (by omega) (by omega) (off := 446) (by rw [hr]; rfl) (by decide) (lc_9 hC hM hw hv kk)
        · exact x_tblIn (pc' := 532) dL_law_33 (by omega) (by omega) (off := 499) (by rw [hr]; rfl) (by decide) (lc_10 hC hM hw hv kk)
        · exact x_tblIn (pc' := 585) dL_law_33 (by omega) (by omega) (off := 552) (by rw [hr]; rfl) (by decide) (lc_11 hC hM hw hv kk)
        · exact x_tblIn (pc' := 648) dL_law_33 (by omega) (by omega) (off := 615) (by rw [hr]; rfl) (by decide) (lc_12 hC hM hw hv kk)
        · exact x_tblIn (pc' := 701) dL_law_33 (by omega) (by omega) (off := 668) (by rw [hr]; rfl) (by decide) (lc_13 hC hM hw hv kk)
        · exact x_tblIn (pc' := 734) dL_law_33 (by omega) (by omega) (off := 701) (by rw [hr]; rfl) (by decide) (lc_14 hC hM hw hv kk)
        · exact x_tblIn (pc' := 777) dL_law_33 (by omega) (by omega) (off := 744) (by rw [hr]; rfl) (by decide) (lc_15 hC hM hw hv kk)
        · exact x_tblIn (pc' := 810) dL_law_33 (by omega) (by omega) (off := 777) (by rw [hr]; rfl) (by decide) (lc_16 hC hM hw hv kk)
        · exact x_tblIn (pc' := 833) dL_law_33 (by omega) (by omega) (off := 800) (by rw [hr]; rfl) (by decide) (lc_17 hC hM hw hv kk)
        · exact x_tblIn (pc' := 866) dL_law_33 (by omega) (by omega) (off := 833) (by rw [hr]; rfl) (by decide) (lc_18 hC hM hw hv kk)
        · exact x_tblIn (pc' := 879) dL_law_33 (by omega) (by omega) (off := 846) (by rw [hr]; rfl) (by decide) (lc_19 hC hM hw hv kk)
        · exact x_tblIn (pc' := 902) dL_law_33 (by omega) (by omega) (off := 869) (by rw [hr]; rfl) (by decide) (lc_20 hC hM hw hv kk)
        · exact x_tblIn (pc' := 925) dL_law_33 (by omega) (by omega) (off := 892) (by rw [hr]; rfl) (by decide) (lc_21 hC hM hw hv kk)
        · exact x_tblIn (pc' := 1000) dL_law_33 (by omega) (by omega) (off := 967) (by rw [hr]; rfl) (by decide) (lc_22 hC hM hw hv kk)
        · exact x_tblIn (pc' := 1023) dL_law_33 (by omega) (by omega) (off := 990) (by rw [hr]; rfl) (by decide) (lc_23 hC hM hw hv kk)
        · exact x_tblIn (pc' := 1036) dL_law_33 (by omega) (by omega) (off := 1003) (by rw [hr]; rfl) (by decide) (lc_24 hC hM hw hv kk)
        · exact x_tblIn (pc' := 1049) dL_law_33 (by omega) (by omega) (off := 1016) (by rw [hr]; rfl) (by decide) (lc_25 hC hM hw hv kk)
        · exact x_tblIn (pc' := 1062) dL_law_33 (by omega) (by omega) (off := 1029) (by rw [hr]; rfl) (by decide) (lc_26 hC hM hw hv kk)
        · exact x_tblIn (pc' := 1095) dL_law_33 (by omega) (by omega) (off := 1062) (by rw [hr]; rfl) (by decide) (lc_27 hC hM hw hv kk)
        · exact x_tblIn (pc' := 1118) dL_law_33 (by omega) (by omega) (off := 1085) (by rw [hr]; rfl) (by decide) (lc_28 hC hM hw hv kk)
        · exact x_tblIn (pc' := 1131) dL_law_33 (by omega) (by omega) (off := 1098) (by rw [hr]; rfl) (by decide) (lc_29 hC hM hw hv kk)
        · exact x_tblIn (pc' := 1206) dL_law_33 (by omega) (by omega) (off := 1173) (by rw [hr]; rfl) (by decide) (lc_30 hC hM hw hv kk)
        · exact x_tblIn (pc' := 1230) dL_law_33 (by omega) (by omega) (off := 1197) (by rw [hr]; rfl) (by decide) (lc_31 hC hM hw hv kk)
        · exact x_tblIn (pc' := 1253) dL_law_33 (by omega) (by omega) (off := 1220) (by rw [hr]; rfl) (by decide) (lc_32 hC hM hw hv kk)
        · exact x_tblIn (pc' := 1276) dL_law_33 (by omega) (by omega) (off := 1243) (by rw [hr]; rfl) (by decide) (lc_33 hC hM hw hv kk)
        · exact x_tblIn (pc' := 1299) dL_law_33 (by omega) (by omega) (off := 1266) (by rw [hr]; rfl) (by decide) (lc_34 hC hM hw hv kk)
        · exact x_tblIn (pc' := 1322) dL_law_33 (by omega) (by omega) (off := 1289) (by rw [hr]; rfl) (by decide) (lc_35 hC hM hw hv kk)
end LOOP
