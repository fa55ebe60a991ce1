section LAW
variable {d n i : Nat} {xs : Nat → Int32} {σ : Mem} {Q : Option Value → Mem → Prop} {S : Ab}
set_option maxRecDepth 100000 in
set_option maxHeartbeats 4000000 in
theorem lc_18 (hC : CL σ S) (hM : MD σ S) (hw : WS VA0 S) (hv : ∀ k, k < 7 → vp_in (nI i + nI k) n) (kk : ∀ τ S', CL τ S' → MD τ S' → WS VA0 S' → X (some (n, xs)) (d + 60) mL_law 1336 [.ref 200, .ref 0, .ref 94, .int (nI i)] [] τ Q) : X (some (n, xs)) (d + 60) mL_law 866 [.ref 200, .ref 0, .ref 94, .int (nI i)] [] σ Q := by
  refine x_aload_n (pc' := 867) dL_law_866 rfl rfl rfl ?_
  refine x_callV (d := d + 59) (pc' := 870) (As := []) dL_law_867 rfl lmL_91 kd_0 rfl rfl (Nat.le_of_ble_eq_true rfl) (Nat.le_of_ble_eq_true rfl) ?_
  show X none (d + 59) mX7_pairs 0 [.ref 0, Unk, Unk, Unk] [] σ _
  refine p_pairs hC hw (fun τ1 hC1 hs1 => ?_)
  show X (some (n, xs)) (d + 60) mL_law 870 [.ref 200, .ref 0, .ref 94, .int (nI i)] [.int (o_pairs S).1] τ1 Q
  have hM1 : MD τ1 S := hM.sm va_w hw hs1 (fun i k q => by unfold S94 at q; unfold SCM; omega)
  refine x_aload_n (pc' := 871) dL_law_870 rfl rfl rfl ?_
  refine x_callV (d := d + 59) (pc' := 874) (As := []) dL_law_871 rfl lmL_94 kd_94 rfl rfl (Nat.le_of_ble_eq_true rfl) (Nat.le_of_ble_eq_true rfl) ?_
  show X none (d + 59) mX8_pairs 0 [.ref 94, Unk, Unk, Unk] [] τ1 _
  refine q_pairs hM1 hw (fun τ2 hM2 hs2 => ?_)
  show X (some (n, xs)) (d + 60) mL_law 874 [.ref 200, .ref 0, .ref 94, .int (nI i)] [.int (o_pairs S).1, .int (o_pairs S).1] τ2 Q
  have hC2 := hC1.sm hs2 (fun i k q => by unfold SM94 at q; unfold SCR; omega)
  exact x_icmp_eq (pc' := 877) (tgt := 1336) dL_law_874 (by decide) rfl (fun _ => kk τ2 (o_pairs S).2 hC2 hM2 ((by unfold o_pairs; (repeat' split) <;> exact hw))) (fun c => absurd rfl c)
set_option maxRecDepth 100000 in
set_option maxHeartbeats 4000000 in
theorem lc_19 (hC : CL σ S) (hM : MD σ S) (hw : WS VA0 S) (hv : ∀ k, k < 7 → vp_in (nI i + nI k) n) (kk : ∀ τ S', CL τ S' → MD τ S' → WS VA0 S' → X (some (n, xs)) (d + 60) mL_law 1336 [.ref 200, .ref 0, .ref 94, .int (nI i)] [] τ Q) : X (some (n, xs)) (d + 60) mL_law 879 [.ref 200, .ref 0, .ref 94, .int (nI i)] [] σ Q := by
  refine x_aload_n (pc' := 880) dL_law_879 rfl rfl rfl ?_
  refine x_aload_n (pc' := 881) dL_law_880 rfl rfl rfl ?_
  refine x_iload_n (pc' := 882) dL_law_881 rfl rfl rfl ?_
  refine x_iconst (pc' := 883) (v := 1) dL_law_882 rfl (by decide) ?_
  refine x_iadd (pc' := 884) dL_law_883 rfl ?_
  refine x_sld (pc' := 885) dL_law_884 rfl (hv 1 (by omega)) ?_
  refine x_callV (d := d + 59) (pc' := 888) (As := [.int (xs (nI i + 1).toNatClampNeg)]) dL_law_885 rfl lmL_95 kd_0 rfl rfl (Nat.le_of_ble_eq_true rfl) (Nat.le_of_ble_eq_true rfl) ?_
  show X none (d + 59) mX7_stair 0 [.ref 0, .int (xs (nI i + 1).toNatClampNeg)] [] σ _
  refine p_stair hC hw (fun τ1 hC1 hs1 => ?_)
  show X (some (n, xs)) (d + 60) mL_law 888 [.ref 200, .ref 0, .ref 94, .int (nI i)] [.int (o_stair S (xs (nI i + 1).toNatClampNeg)).1] τ1 Q
  have hM1 : MD τ1 S := hM.sm va_w hw hs1 (fun i k q => by unfold S94 at q; unfold SCM; omega)
  refine x_aload_n (pc' := 889) dL_law_888 rfl rfl rfl ?_
  refine x_aload_n (pc' := 890) dL_law_889 rfl rfl rfl ?_
  refine x_iload_n (pc' := 891) dL_law_890 rfl rfl rfl ?_
  refine x_iconst (pc' := 892) (v := 1) dL_law_891 rfl (by decide) ?_
  refine x_iadd (pc' := 893) dL_law_892 rfl ?_
  refine x_sld (pc' := 894) dL_law_893 rfl (hv 1 (by omega)) ?_
  refine x_callV (d := d + 59) (pc' := 897) (As := [.int (xs (nI i + 1).toNatClampNeg)]) dL_law_894 rfl lmL_98 kd_94 rfl rfl (Nat.le_of_ble_eq_true rfl) (Nat.le_of_ble_eq_true rfl) ?_
  show X none (d + 59) mX8_stair 0 [.ref 94, .int (xs (nI i + 1).toNatClampNeg), Unk] [] τ1 _
  refine q_stair va_w hM1 hw (fun τ2 hM2 hs2 => ?_)
  show X (some (n, xs)) (d + 60) mL_law 897 [.ref 200, .ref 0, .ref 94, .int (nI i)] [.int (o_stair S (xs (nI i + 1).toNatClampNeg)).1, .int (o_stair S (xs (nI i + 1).toNatClampNeg)).1] τ2 Q
  have hC2 := hC1.sm hs2 (fun i k q => by unfold SM94 at q; unfold SCR; omega)
  exact x_icmp_eq (pc' := 900) (tgt := 1336) dL_law_897 (by decide) rfl (fun _ => kk τ2 (o_stair S (xs (nI i + 1).toNatClampNeg)).2 hC2 hM2 ((by unfold o_stair; (repeat' split) <;> exact hw))) (fun c => absurd rfl c)
set_option maxRecDepth 100000 in
set_option maxHeartbeats 4000000 in
theorem lc_20 (hC : CL σ S) (hM : MD σ S) (hw : WS VA0 S) (hv : ∀ k, k < 7 → vp_in (nI i + nI k) n) (kk : ∀ τ S', CL τ S' → MD τ S' → WS VA0 S' → X (some (n, xs)) (d + 60) mL_law 1336 [.ref 200, .ref 0, .ref 94, .int (nI i)] [] τ Q) : X (some (n, xs)) (d + 60) mL_law 902 [.ref 200, .ref 0, .ref 94, .int (nI i)] [] σ Q := by
  refine x_aload_n (pc' := 903) dL_law_902 rfl rfl rfl ?_
  refine x_aload_n (pc' := 904) dL_law_903 rfl rfl rfl ?_
  refine x_iload_n (pc' := 905) dL_law_904 rfl rfl rfl ?_
  refine x_iconst (pc' := 906) (v := 1) dL_law_905 rfl (by decide) ?_
  refine x_iadd (pc' := 907) dL_law_906 rfl ?_
  refine x_sld (pc' := 908) dL_law_907 rfl (hv 1 (by omega)) ?_
  refine x_callV (d := d + 59) (pc' := 911) (As := [.int (xs (nI i + 1).toNatClampNeg)]) dL_law_908 rfl lmL_99 kd_0 rfl rfl (Nat.le_of_ble_eq_true rfl) (Nat.le_of_ble_eq_true rfl) ?_
  show X none (d + 59) mX7_layers 0 [.ref 0, .int (xs (nI i + 1).toNatClampNeg)] [] σ _
  refine p_layers hC (fun τ1 hC1 hs1 => ?_)
  show X (some (n, xs)) (d + 60) mL_law 911 [.ref 200, .ref 0, .ref 94, .int (nI i)] [.int (o_layers S (xs (nI i + 1).toNatClampNeg)).1] τ1 Q
  have hM1 : MD τ1 S := hM.sm va_w hw hs1 (fun i k q => by unfold S94 at q; unfold SCM; omega)
  refine x_aload_n (pc' := 912) dL_law_911 rfl rfl rfl ?_
  refine x_aload_n (pc' := 913) dL_law_912 rfl rfl rfl ?_
  refine x_iload_n (pc' := 914) dL_law_913 rfl rfl rfl ?_
  refine x_iconst (pc' := 915) (v := 1) dL_law_914 rfl (by decide) ?_
  refine x_iadd (pc' := 916) dL_law_915 rfl ?_
  refine x_sld (pc' := 917) dL_law_916 rfl (hv 1 (by omega)) ?_
  refine x_callV (d := d + 59) (pc' := 920) (As := [.int (xs (nI i + 1).toNatClampNeg)]) dL_law_917 rfl lmL_102 kd_94 rfl rfl (Nat.le_of_ble_eq_true rfl) (Nat.le_of_ble_eq_true rfl) ?_
  show X none (d + 59) mX8_layers 0 [.ref 94, .int (xs (nI i + 1).toNatClampNeg)] [] τ1 _
  refine q_layers va_w hM1 hw (fun τ2 hM2 hs2 => ?_)
  show X (some (n, xs)) (d + 60) mL_law 920 [.ref 200, .ref 0, .ref 94, .int (nI i)] [.int (o_layers S (xs (nI i + 1).toNatClampNeg)).1, .int (o_layers S (xs (nI i + 1).toNatClampNeg)).1] τ2 Q
  have hC2 := hC1.sm hs2 (fun i k q => by unfold SM94 at q; unfold SCR; omega)
  exact x_icmp_eq (pc' := 923) (tgt := 1336) dL_law_920 (by decide) rfl (fun _ => kk τ2 (o_layers S (xs (nI i + 1).toNatClampNeg)).2 hC2 hM2 ((by unfold o_layers; (repeat' split) <;> exact hw))) (fun c => absurd rfl c)
set_option maxRecDepth 100000 in
set_option maxHeartbeats 4000000 in
theorem lc_21 (hC : CL σ S) (hM : MD σ S) (hw : WS VA0 S) (hv : ∀ k, k < 7 → vp_in (nI i + nI k) n) (kk : ∀ τ S', CL τ S' → MD τ S' → WS VA0 S' → X (some (n, xs)) (d + 60) mL_law 1336 [.ref 200, .ref 0, .ref 94, .int (nI i)] [] τ Q) : X (some (n, xs)) (d + 60) mL_law 925 [.ref 200, .ref 0, .ref 94, .int (nI i)] [] σ Q := by
  refine x_aload_n (pc' := 926) dL_law_925 rfl rfl rfl ?_
  refine x_aload_n (pc' := 927) dL_law_926 rfl rfl rfl ?_
  refine x_iload_n (pc' := 928) dL_law_927 rfl rfl rfl ?_
  refine x_iconst (pc' := 929) (v := 1) dL_law_928 rfl (by decide) ?_
  refine x_iadd (pc' := 930) dL_law_929 rfl ?_
  refine x_sld (pc' := 931) dL_law_930 rfl (hv 1 (by omega)) ?_
  refine x_aload_n (pc' := 932) dL_law_931 rfl rfl rfl ?_
  refine x_iload_n (pc' := 933) dL_law_932 rfl rfl rfl ?_
  refine x_iconst (pc' := 934) (v := 2) dL_law_933 rfl (by decide) ?_
  refine x_iadd (pc' := 935) dL_law_934 rfl ?_
  refine x_sld (pc' := 936) dL_law_935 rfl (hv 2 (by omega)) ?_
  refine x_aload_n (pc' := 937) dL_law_936 rfl rfl rfl ?_
  refine x_iload_n (pc' := 938) dL_law_937 rfl rfl rfl ?_
  refine x_iconst (pc' := 939) (v := 3) dL_law_938 rfl (by decide) ?_
  refine x_iadd (pc' := 940) dL_law_939 rfl ?_
  refine x_sld (pc' := 941) dL_law_940 rfl (hv 3 (by omega)) ?_
  refine x_aload_n (pc' := 942) dL_law_941 rfl rfl rfl ?_
  refine x_iload_n (pc' := 943) dL_law_942 rfl rfl rfl ?_
  refine x_iconst (pc' := 944) (v := 4) dL_law_943 rfl (by decide) ?_
  refine x_iadd (pc' := 945) dL_law_944 rfl ?_
  refine x_sld (pc' := 946) dL_law_945 rfl (hv 4 (by omega)) ?_
  refine x_aload_n (pc' := 947) dL_law_946 rfl rfl rfl ?_
  refine x_iload_n (pc' := 948) dL_law_947 rfl rfl rfl ?_
  refine x_iconst (pc' := 949) (v := 5) dL_law_948 rfl (by decide) ?_
  refine x_iadd (pc' := 950) dL_law_949 rfl ?_
  refine x_sld (pc' := 951) dL_law_950 rfl (hv 5 (by omega)) ?_
  refine x_aload_n (pc' := 952) dL_law_951 rfl rfl rfl ?_
  refine x_iload_n (pc' := 953) dL_law_952 rfl rfl rfl ?_
  refine x_bipush (pc' := 955) (v := 6) dL_law_953 rfl (by decide) ?_
  refine x_iadd (pc' := 956) dL_law_955 rfl ?_
  refine x_sld (pc' := 957) dL_law_956 rfl (hv 6 (by omega)) ?_
  refine x_callV (d := d + 59) (pc' := 960) (As := [.int (xs (nI i + 1).toNatClampNeg), .int (xs (nI i + 2).toNatClampNeg), .int (xs (nI i + 3).toNatClampNeg), .int (xs (nI i + 4).toNatClampNeg), .int (xs (nI i + 5).toNatClampNeg), .int (xs (nI i + 6).toNatClampNeg)]) dL_law_957 rfl lmL_103 kd_0 rfl rfl (Nat.le_of_ble_eq_true rfl) (Nat.le_of_ble_eq_true rfl) ?_
  show X none (d + 59) mX7_inLayer 0 [.ref 0, .int (xs (nI i + 1).toNatClampNeg), .int (xs (nI i + 2).toNatClampNeg), .int (xs (nI i + 3).toNatClampNeg), .int (xs (nI i + 4).toNatClampNeg), .int (xs (nI i + 5).toNatClampNeg), .int (xs (nI i + 6).toNatClampNeg), Unk] [] σ _
  refine p_inLayer hC hw (fun τ1 hC1 hs1 => ?_)
  show X (some (n, xs)) (d + 60) mL_law 960 [.ref 200, .ref 0, .ref 94, .int (nI i)] [.int (o_inLayer S (xs (nI i + 1).toNatClampNeg) (xs (nI i + 2).toNatClampNeg) (xs (nI i + 3).toNatClampNeg) (xs (nI i + 4).toNatClampNeg) (xs (nI i + 5).toNatClampNeg) (xs (nI i + 6).toNatClampNeg)).1] τ1 Q
  have hM1 : MD τ1 S := hM.sm va_w hw hs1 (fun i k q => by unfold S94 at q; unfold SCM; omega)
  refine x_aload_n (pc' := 961) dL_law_960 rfl rfl rfl ?_
  refine x_aload_n (pc' := 962) dL_law_961 rfl rfl rfl ?_
  refine x_iload_n (pc' := 963) dL_law_962 rfl rfl rfl ?_
  refine x_iconst (pc' := 964) (v := 1) dL_law_963 rfl (by decide) ?_
  refine x_iadd (pc' := 965) dL_law_964 rfl ?_
  refine x_sld (pc' := 966) dL_law_965 rfl (hv 1 (by omega)) ?_
  refine x_aload_n (pc' := 967) dL_law_966 rfl rfl rfl ?_
  refine x_iload_n (pc' := 968) dL_law_967 rfl rfl rfl ?_
  refine x_iconst (pc' := 969) (v := 2) dL_law_968 rfl (by decide) ?_
  refine x_iadd (pc' := 970) dL_law_969 rfl ?_
  refine x_sld (pc' := 971) dL_law_970 rfl (hv 2 (by omega)) ?_
  refine x_aload_n (pc' := 972) dL_law_971 rfl rfl rfl ?_
  refine x_iload_n (pc' := 973) dL_law_972 rfl rfl rfl ?_
  refine x_iconst (pc' := 974) (v := 3) dL_law_973 rfl (by decide) ?_
  refine x_iadd (pc' := 975) dL_law_974 rfl ?_
  refine x_sld (pc' := 976) dL_law_975 rfl (hv 3 (by omega)) ?_
  refine x_aload_n (pc' := 977) dL_law_976 rfl rfl rfl ?_
  refine x_iload_n (pc' := 978) dL_law_977 rfl rfl rfl ?_
  refine x_iconst (pc' := 979) (v := 4) dL_law_978 rfl (by decide) ?_
  refine x_iadd (pc' := 980) dL_law_979 rfl ?_
  refine x_sld (pc' := 981) dL_law_980 rfl (hv 4 (by omega)) ?_
  refine x_aload_n (pc' := 982) dL_law_981 rfl rfl rfl ?_
  refine x_iload_n (pc' := 983) dL_law_982 rfl rfl rfl ?_
  refine x_iconst (pc' := 984) (v := 5) dL_law_983 rfl (by decide) ?_
  refine x_iadd (pc' := 985) dL_law_984 rfl ?_
  refine x_sld (pc' := 986) dL_law_985 rfl (hv 5 (by omega)) ?_
  refine x_aload_n (pc' := 987) dL_law_986 rfl rfl rfl ?_
  refine x_iload_n (pc' := 988) dL_law_987 rfl rfl rfl ?_
  refine x_bipush (pc' := 990) (v := 6) dL_law_988 rfl (by decide) ?_
  refine x_iadd (pc' := 991) dL_law_990 rfl ?_
  refine x_sld (pc' := 992) dL_law_991 rfl (hv 6 (by omega)) ?_
  refine x_callV (d := d + 59) (pc' := 995) (As := [.int (xs (nI i + 1).toNatClampNeg), .int (xs (nI i + 2).toNatClampNeg), .int (xs (nI i + 3).toNatClampNeg), .int (xs (nI i + 4).toNatClampNeg), .int (xs (nI i + 5).toNatClampNeg), .int (xs (nI i + 6).toNatClampNeg)]) dL_law_992 rfl lmL_107 kd_94 rfl rfl (Nat.le_of_ble_eq_true rfl) (Nat.le_of_ble_eq_true rfl) ?_
  show X none (d + 59) mX8_inLayer 0 [.ref 94, .int (xs (nI i + 1).toNatClampNeg), .int (xs (nI i + 2).toNatClampNeg), .int (xs (nI i + 3).toNatClampNeg), .int (xs (nI i + 4).toNatClampNeg), .int (xs (nI i + 5).toNatClampNeg), .int (xs (nI i + 6).toNatClampNeg), Unk, Unk, Unk, Unk] [] τ1 _
  refine q_inLayer va_w hM1 hw (fun τ2 hM2 hs2 => ?_)
  show X (some (n, xs)) (d + 60) mL_law 995 [.ref 200, .ref 0, .ref 94, .int (nI i)] [.int (o_inLayer S (xs (nI i + 1).toNatClampNeg) (xs (nI i + 2).toNatClampNeg) (xs (nI i + 3).toNatClampNeg) (xs (nI i + 4).toNatClampNeg) (xs (nI i + 5).toNatClampNeg) (xs (nI i + 6).toNatClampNeg)).1, .int (o_inLayer S (xs (nI i + 1).toNatClampNeg) (xs (nI i + 2).toNatClampNeg) (xs (nI i + 3).toNatClampNeg) (xs (nI i + 4).toNatClampNeg) (xs (nI i + 5).toNatClampNeg) (xs (nI i + 6).toNatClampNeg)).1] τ2 Q
  have hC2 := hC1.sm hs2 (fun i k q => by unfold SM94 at q; unfold SCR; omega)
  exact x_icmp_eq (pc' := 998) (tgt := 1336) dL_law_995 (by decide) rfl (fun _ => kk τ2 (o_inLayer S (xs (nI i + 1).toNatClampNeg) (xs (nI i + 2).toNatClampNeg) (xs (nI i + 3).toNatClampNeg) (xs (nI i + 4).toNatClampNeg) (xs (nI i + 5).toNatClampNeg) (xs (nI i + 6).toNatClampNeg)).2 hC2 hM2 ((by unfold o_inLayer; (repeat' split) <;> exact hw))) (fun c => absurd rfl c)
set_option maxRecDepth 100000 in
set_option maxHeartbeats 4000000 in
theorem lc_22 (hC : CL σ S) (hM : MD σ S) (hw : WS VA0 S) (hv : ∀ k, k < 7 → vp_in (nI i + nI k) n) (kk : ∀ τ S', CL τ S' → MD τ S' → WS VA0 S' → X (some (n, xs)) (d + 60) mL_law 1336 [.ref 200, .ref 0, .ref 94, .int (nI i)] [] τ Q) : X (some (n, xs)) (d + 60) mL_law 1000 [.ref 200, .ref 0, .ref 94, .int (nI i)] [] σ Q := by
  refine x_aload_n (pc' := 1001) dL_law_1000 rfl rfl rfl ?_
  refine x_aload_n (pc' := 1002) dL_law_1001 rfl rfl rfl ?_
  refine x_iload_n (pc' := 1003) dL_law_1002 rfl rfl rfl ?_
  refine x_iconst (pc' := 1004) (v := 1) dL_law_1003 rfl (by decide) ?_
  refine x_iadd (pc' := 1005) dL_law_1004 rfl ?_
  refine x_sld (pc' := 1006) dL_law_1005 rfl (hv 1 (by omega)) ?_
  refine x_callV (d := d + 59) (pc' := 1009) (As := [.int (xs (nI i + 1).toNatClampNeg)]) dL_law_1006 rfl lmL_108 kd_0 rfl rfl (Nat.le_of_ble_eq_true rfl) (Nat.le_of_ble_eq_true rfl) ?_
  show X none (d + 59) mX7_type 0 [.ref 0, .int (xs (nI i + 1).toNatClampNeg)] [] σ _
  refine p_type hC hw (fun τ1 hC1 hs1 => ?_)
  show X (some (n, xs)) (d + 60) mL_law 1009 [.ref 200, .ref 0, .ref 94, .int (nI i)] [.int (o_type S (xs (nI i + 1).toNatClampNeg)).1] τ1 Q
  have hM1 : MD τ1 S := hM.sm va_w hw hs1 (fun i k q => by unfold S94 at q; unfold SCM; omega)
  refine x_aload_n (pc' := 1010) dL_law_1009 rfl rfl rfl ?_
  refine x_aload_n (pc' := 1011) dL_law_1010 rfl rfl rfl ?_
  refine x_iload_n (pc' := 1012) dL_law_1011 rfl rfl rfl ?_
  refine x_iconst (pc' := 1013) (v := 1) dL_law_1012 rfl (by decide) ?_
  refine x_iadd (pc' := 1014) dL_law_1013 rfl ?_
  refine x_sld (pc' := 1015) dL_law_1014 rfl (hv 1 (by omega)) ?_
  refine x_callV (d := d + 59) (pc' := 1018) (As := [.int (xs (nI i + 1).toNatClampNeg)]) dL_law_1015 rfl lmL_111 kd_94 rfl rfl (Nat.le_of_ble_eq_true rfl) (Nat.le_of_ble_eq_true rfl) ?_
  show X none (d + 59) mX8_type 0 [.ref 94, .int (xs (nI i + 1).toNatClampNeg)] [] τ1 _
  refine q_type va_w hM1 hw (fun τ2 hM2 hs2 => ?_)
  show X (some (n, xs)) (d + 60) mL_law 1018 [.ref 200, .ref 0, .ref 94, .int (nI i)] [.int (o_type S (xs (nI i + 1).toNatClampNeg)).1, .int (o_type S (xs (nI i + 1).toNatClampNeg)).1] τ2 Q
  have hC2 := hC1.sm hs2 (fun i k q => by unfold SM94 at q; unfold SCR; omega)
  exact x_icmp_eq (pc' := 1021) (tgt := 1336) dL_law_1018 (by decide) rfl (fun _ => kk τ2 (o_type S (xs (nI i + 1).toNatClampNeg)).2 hC2 hM2 (ws_type hw)) (fun c => absurd rfl c)
set_option maxRecDepth 100000 in
set_option maxHeartbeats 4000000 in
theorem lc_23 (hC : CL σ S) (hM : MD σ S) (hw : WS VA0 S) (hv : ∀ k, k < 7 → vp_in (nI i + nI k) n) (kk : ∀ τ S', CL τ S' → MD τ S' → WS VA0 S' → X (some (n, xs)) (d + 60) mL_law 1336 [.ref 200, .ref 0, .ref 94, .int (nI i)] [] τ Q) : X (some (n, xs)) (d + 60) mL_law 1023 [.ref 200, .ref 0, .ref 94, .int (nI i)] [] σ Q := by
  refine x_aload_n (pc' := 1024) dL_law_1023 rfl rfl rfl ?_
  refine x_callV (d := d + 59) (pc' := 1027) (As := []) dL_law_1024 rfl lmL_112 kd_0 rfl rfl (Nat.le_of_ble_eq_true rfl) (Nat.le_of_ble_eq_true rfl) ?_
  show X none (d + 59) mX7_clear 0 [.ref 0, Unk] [] σ _
  refine p_clear hC (fun τ1 hC1 hs1 => ?_)
  show X (some (n, xs)) (d + 60) mL_law 1027 [.ref 200, .ref 0, .ref 94, .int (nI i)] [.int (o_clear S).1] τ1 Q
  have hM1 : MD τ1 S := hM.sm va_w hw hs1 (fun i k q => by unfold S94 at q; unfold SCM; omega)
  refine x_aload_n (pc' := 1028) dL_law_1027 rfl rfl rfl ?_
  refine x_callV (d := d + 59) (pc' := 1031) (As := []) dL_law_1028 rfl lmL_115 kd_94 rfl rfl (Nat.le_of_ble_eq_true rfl) (Nat.le_of_ble_eq_true rfl) ?_
  show X none (d + 59) mX8_clear 0 [.ref 94, Unk] [] τ1 _
  refine q_clear va_w hM1 hw (fun τ2 hM2 hs2 => ?_)
  show X (some (n, xs)) (d + 60) mL_law 1031 [.ref 200, .ref 0, .ref 94, .int (nI i)] [.int (o_clear S).1, .int (o_clear S).1] τ2 Q
  have hC2 := hC1.sm hs2 (fun i k q => by unfold SM94 at q; unfold SCR; omega)
  exact x_icmp_eq (pc' := 1034) (tgt := 1336) dL_law_1031 (by decide) rfl (fun _ => kk τ2 (o_clear S).2 hC2 hM2 (ws_clear hw)) (fun c => absurd rfl c)
set_option maxRecDepth 100000 in
set_option maxHeartbeats 4000000 in
theorem lc_24 (hC : CL σ S) (hM : MD σ S) (hw : WS VA0 S) (hv : ∀ k, k < 7 → vp_in (nI i + nI k) n) (kk : ∀ τ S', CL τ S' → MD τ S' → WS VA0 S' → X (some (n, xs)) (d + 60) mL_law 1336 [.ref 200, .ref 0, .ref 94, .int (nI i)] [] τ Q) : X (some (n, xs)) (d + 60) mL_law 1036 [.ref 200, .ref 0, .ref 94, .int (nI i)] [] σ Q := by
  refine x_aload_n (pc' := 1037) dL_law_1036 rfl rfl rfl ?_
  refine x_callV (d := d + 59) (pc' := 1040) (As := []) dL_law_1037 rfl lmL_116 kd_0 rfl rfl (Nat.le_of_ble_eq_true rfl) (Nat.le_of_ble_eq_true rfl) ?_
  show X none (d + 59) mX7_area 0 [.ref 0, Unk] [] σ _
  refine p_area hC hw (fun τ1 hC1 hs1 => ?_)
  show X (some (n, xs)) (d + 60) mL_law 1040 [.ref 200, .ref 0, .ref 94, .int (nI i)] [.int (o_area S).1] τ1 Q
  have hM1 : MD τ1 S := hM.sm va_w hw hs1 (fun i k q => by unfold S94 at q; unfold SCM; omega)
  refine x_aload_n (pc' := 1041) dL_law_1040 rfl rfl rfl ?_
  refine x_callV (d := d + 59) (pc' := 1044) (As := []) dL_law_1041 rfl lmL_119 kd_94 rfl rfl (Nat.le_of_ble_eq_true rfl) (Nat.le_of_ble_eq_true rfl) ?_
  show X none (d + 59) mX8_area 0 [.ref 94, Unk] [] τ1 _
  refine q_area hM1 hw (fun τ2 hM2 hs2 => ?_)
  show X (some (n, xs)) (d + 60) mL_law 1044 [.ref 200, .ref 0, .ref 94, .int (nI i)] [.int (o_area S).1, .int (o_area S).1] τ2 Q
  have hC2 := hC1.sm hs2 (fun i k q => by unfold SM94 at q; unfold SCR; omega)
  exact x_icmp_eq (pc' := 1047) (tgt := 1336) dL_law_1044 (by decide) rfl (fun _ => kk τ2 (o_area S).2 hC2 hM2 (ws_area hw)) (fun c => absurd rfl c)
set_option maxRecDepth 100000 in
set_option maxHeartbeats 4000000 in
theorem lc_25 (hC : CL σ S) (hM : MD σ S) (hw : WS VA0 S) (hv : ∀ k, k < 7 → vp_in (nI i + nI k) n) (kk : ∀ τ S', CL τ S' → MD τ S' → WS VA0 S' → X (some (n, xs)) (d + 60) mL_law 1336 [.ref 200, .ref 0, .ref 94, .int (nI i)] [] τ Q) : X (some (n, xs)) (d + 60) mL_law 1049 [.ref 200, .ref 0, .ref 94, .int (nI i)] [] σ Q := by
  refine x_aload_n (pc' := 1050) dL_law_1049 rfl rfl rfl ?_
  refine x_callV (d := d + 59) (pc' := 1053) (As := []) dL_law_1050 rfl lmL_120 kd_0 rfl rfl (Nat.le_of_ble_eq_true rfl) (Nat.le_of_ble_eq_true rfl) ?_
  show X none (d + 59) mX7_inside 0 [.ref 0] [] σ _
  refine p_inside va_w hC hw (fun τ1 hC1 hs1 => ?_)
  show X (some (n, xs)) (d + 60) mL_law 1053 [.ref 200, .ref 0, .ref 94, .int (nI i)] [.int (o_inside S).1] τ1 Q
  have hM1 : MD τ1 S := hM.sm va_w hw hs1 (fun i k q => by unfold S94 at q; unfold SCM; omega)
  refine x_aload_n (pc' := 1054) dL_law_1053 rfl rfl rfl ?_
  refine x_callV (d := d + 59) (pc' := 1057) (As := []) dL_law_1054 rfl lmL_123 kd_94 rfl rfl (Nat.le_of_ble_eq_true rfl) (Nat.le_of_ble_eq_true rfl) ?_
  show X none (d + 59) mX8_inside 0 [.ref 94, Unk, Unk] [] τ1 _
  refine q_inside va_w va_v hM1 hw (fun τ2 hM2 hs2 => ?_)
  show X (some (n, xs)) (d + 60) mL_law 1057 [.ref 200, .ref 0, .ref 94, .int (nI i)] [.int (o_inside S).1, .int (o_inside S).1] τ2 Q
  have hC2 := hC1.sm hs2 (fun i k q => by unfold SM94 at q; unfold SCR; omega)
  exact x_icmp_eq (pc' := 1060) (tgt := 1336) dL_law_1057 (by decide) rfl (fun _ => kk τ2 (o_inside S).2 hC2 hM2 ((by unfold o_inside; (repeat' split) <;> exact hw))) (fun c => absurd rfl c)
set_option maxRecDepth 100000 in
set_option maxHeartbeats 4000000 in
theorem lc_26 (hC : CL σ S) (hM : MD σ S) (hw : WS VA0 S) (hv : ∀ k, k < 7 → vp_in (nI i + nI k) n) (kk : ∀ τ S', CL τ S' → MD τ S' → WS VA0 S' → X (some (n, xs)) (d + 60) mL_law 1336 [.ref 200, .ref 0, .ref 94, .int (nI i)] [] τ Q) : X (some (n, xs)) (d + 60) mL_law 1062 [.ref 200, .ref 0, .ref 94, .int (nI i)] [] σ Q := by
  refine x_aload_n (pc' := 1063) dL_law_1062 rfl rfl rfl ?_
  refine x_aload_n (pc' := 1064) dL_law_1063 rfl rfl rfl ?_
  refine x_iload_n (pc' := 1065) dL_law_1064 rfl rfl rfl ?_
  refine x_iconst (pc' := 1066) (v := 1) dL_law_1065 rfl (by decide) ?_
  refine x_iadd (pc' := 1067) dL_law_1066 rfl ?_
  refine x_sld (pc' := 1068) dL_law_1067 rfl (hv 1 (by omega)) ?_
  refine x_aload_n (pc' := 1069) dL_law_1068 rfl rfl rfl ?_
  refine x_iload_n (pc' := 1070) dL_law_1069 rfl rfl rfl ?_
  refine x_iconst (pc' := 1071) (v := 2) dL_law_1070 rfl (by decide) ?_
  refine x_iadd (pc' := 1072) dL_law_1071 rfl ?_
  refine x_sld (pc' := 1073) dL_law_1072 rfl (hv 2 (by omega)) ?_
  refine x_callV (d := d + 59) (pc' := 1076) (As := [.int (xs (nI i + 1).toNatClampNeg), .int (xs (nI i + 2).toNatClampNeg)]) dL_law_1073 rfl lmL_124 kd_0 rfl rfl (Nat.le_of_ble_eq_true rfl) (Nat.le_of_ble_eq_true rfl) ?_
  show X none (d + 59) mX7_covers 0 [.ref 0, .int (xs (nI i + 1).toNatClampNeg), .int (xs (nI i + 2).toNatClampNeg)] [] σ _
  refine p_covers va_w hC hw (fun τ1 hC1 hs1 => ?_)
  show X (some (n, xs)) (d + 60) mL_law 1076 [.ref 200, .ref 0, .ref 94, .int (nI i)] [.int (o_covers S (xs (nI i + 1).toNatClampNeg) (xs (nI i + 2).toNatClampNeg)).1] τ1 Q
  have hM1 : MD τ1 S := hM.sm va_w hw hs1 (fun i k q => by unfold S94 at q; unfold SCM; omega)
  refine x_aload_n (pc' := 1077) dL_law_1076 rfl rfl rfl ?_
  refine x_aload_n (pc' := 1078) dL_law_1077 rfl rfl rfl ?_
  refine x_iload_n (pc' := 1079) dL_law_1078 rfl rfl rfl ?_
  refine x_iconst (pc' := 1080) (v := 1) dL_law_1079 rfl (by decide) ?_
  refine x_iadd (pc' := 1081) dL_law_1080 rfl ?_
  refine x_sld (pc' := 1082) dL_law_1081 rfl (hv 1 (by omega)) ?_
  refine x_aload_n (pc' := 1083) dL_law_1082 rfl rfl rfl ?_
  refine x_iload_n (pc' := 1084) dL_law_1083 rfl rfl rfl ?_
  refine x_iconst (pc' := 1085) (v := 2) dL_law_1084 rfl (by decide) ?_
  refine x_iadd (pc' := 1086) dL_law_1085 rfl ?_
  refine x_sld (pc' := 1087) dL_law_1086 rfl (hv 2 (by omega)) ?_
  refine x_callV (d := d + 59) (pc' := 1090) (As := [.int (xs (nI i + 1).toNatClampNeg), .int (xs (nI i + 2).toNatClampNeg)]) dL_law_1087 rfl lmL_127 kd_94 rfl rfl (Nat.le_of_ble_eq_true rfl) (Nat.le_of_ble_eq_true rfl) ?_
  show X none (d + 59) mX8_covers 0 [.ref 94, .int (xs (nI i + 1).toNatClampNeg), .int (xs (nI i + 2).toNatClampNeg)] [] τ1 _
  refine q_covers va_w va_v hM1 hw (fun τ2 hM2 hs2 => ?_)
  show X (some (n, xs)) (d + 60) mL_law 1090 [.ref 200, .ref 0, .ref 94, .int (nI i)] [.int (o_covers S (xs (nI i + 1).toNatClampNeg) (xs (nI i + 2).toNatClampNeg)).1, .int (o_covers S (xs (nI i + 1).toNatClampNeg) (xs (nI i + 2).toNatClampNeg)).1] τ2 Q
  have hC2 := hC1.sm hs2 (fun i k q => by unfold SM94 at q; unfold SCR; omega)
  exact x_icmp_eq (pc' := 1093) (tgt := 1336) dL_law_1090 (by decide) rfl (fun _ => kk τ2 (o_covers S (xs (nI i + 1).toNatClampNeg) (xs (nI i + 2).toNatClampNeg)).2 hC2 hM2 ((by unfold o_covers; (repeat' split) <;> exact hw))) (fun c => absurd rfl c)
set_option maxRecDepth 100000 in
set_option maxHeartbeats 4000000 in
theorem lc_27 (hC : CL σ S) (hM : MD σ S) (hw : WS VA0 S) (hv : ∀ k, k < 7 → vp_in (nI i + nI k) n) (kk : ∀ τ S', CL τ S' → MD τ S' → WS VA0 S' → X (some (n, xs)) (d + 60) mL_law 1336 [.ref 200, .ref 0, .ref 94, .int (nI i)] [] τ Q) : X (some (n, xs)) (d + 60) mL_law 1095 [.ref 200, .ref 0, .ref 94, .int (nI i)] [] σ Q := by
  refine x_aload_n (pc' := 1096) dL_law_1095 rfl rfl rfl ?_
  refine x_aload_n (pc' := 1097) dL_law_1096 rfl rfl rfl ?_
  refine x_iload_n (pc' := 1098) dL_law_1097 rfl rfl rfl ?_
  refine x_iconst (pc' := 1099) (v := 1) dL_law_1098 rfl (by decide) ?_
  refine x_iadd (pc' := 1100) dL_law_1099 rfl ?_
  refine x_sld (pc' := 1101) dL_law_1100 rfl (hv 1 (by omega)) ?_
  refine x_callV (d := d + 59) (pc' := 1104) (As := [.int (xs (nI i + 1).toNatClampNeg)]) dL_law_1101 rfl lmL_128 kd_0 rfl rfl (Nat.le_of_ble_eq_true rfl) (Nat.le_of_ble_eq_true rfl) ?_
  show X none (d + 59) mX7_found 0 [.ref 0, .int (xs (nI i + 1).toNatClampNeg)] [] σ _
  refine p_found va_w hC hw (fun τ1 hC1 hs1 => ?_)
  show X (some (n, xs)) (d + 60) mL_law 1104 [.ref 200, .ref 0, .ref 94, .int (nI i)] [.int (o_found S (xs (nI i + 1).toNatClampNeg)).1] τ1 Q
  have hM1 : MD τ1 S := hM.sm va_w hw hs1 (fun i k q => by unfold S94 at q; unfold SCM; omega)
  refine x_aload_n (pc' := 1105) dL_law_1104 rfl rfl rfl ?_
  refine x_aload_n (pc' := 1106) dL_law_1105 rfl rfl rfl ?_
  refine x_iload_n (pc' := 1107) dL_law_1106 rfl rfl rfl ?_
  refine x_iconst (pc' := 1108) (v := 1) dL_law_1107 rfl (by decide) ?_
  refine x_iadd (pc' := 1109) dL_law_1108 rfl ?_
  refine x_sld (pc' := 1110) dL_law_1109 rfl (hv 1 (by omega)) ?_
  refine x_callV (d := d + 59) (pc' := 1113) (As := [.int (xs (nI i + 1).toNatClampNeg)]) dL_law_1110 rfl lmL_131 kd_94 rfl rfl (Nat.le_of_ble_eq_true rfl) (Nat.le_of_ble_eq_true rfl) ?_
  show X none (d + 59) mX8_found 0 [.ref 94, .int (xs (nI i + 1).toNatClampNeg)] [] τ1 _
  refine q_found va_w va_v hM1 hw (fun τ2 hM2 hs2 => ?_)
  show X (some (n, xs)) (d + 60) mL_law 1113 [.ref 200, .ref 0, .ref 94, .int (nI i)] [.int (o_found S (xs (nI i + 1).toNatClampNeg)).1, .int (o_found S (xs (nI i + 1).toNatClampNeg)).1] τ2 Q
  have hC2 := hC1.sm hs2 (fun i k q => by unfold SM94 at q; unfold SCR; omega)
  exact x_icmp_eq (pc' := 1116) (tgt := 1336) dL_law_1113 (by decide) rfl (fun _ => kk τ2 (o_found S (xs (nI i + 1).toNatClampNeg)).2 hC2 hM2 ((by unfold o_found; (repeat' split) <;> exact hw))) (fun c => absurd rfl c)
set_option maxRecDepth 100000 in
set_option maxHeartbeats 4000000 in
theorem lc_28 (hC : CL σ S) (hM : MD σ S) (hw : WS VA0 S) (hv : ∀ k, k < 7 → vp_in (nI i + nI k) n) (kk : ∀ τ S', CL τ S' → MD τ S' → WS VA0 S' → X (some (n, xs)) (d + 60) mL_law 1336 [.ref 200, .ref 0, .ref 94, .int (nI i)] [] τ Q) : X (some (n, xs)) (d + 60) mL_law 1118 [.ref 200, .ref 0, .ref 94, .int (nI i)] [] σ Q := by
  refine x_aload_n (pc' := 1119) dL_law_1118 rfl rfl rfl ?_
  refine x_callV (d := d + 59) (pc' := 1122) (As := []) dL_law_1119 rfl lmL_132 kd_0 rfl rfl (Nat.le_of_ble_eq_true rfl) (Nat.le_of_ble_eq_true rfl) ?_
  show X none (d + 59) mX7_mow 0 [.ref 0] [] σ _
  refine p_mow va_w hC hw (fun τ1 hC1 hs1 => ?_)
  show X (some (n, xs)) (d + 60) mL_law 1122 [.ref 200, .ref 0, .ref 94, .int (nI i)] [.int (o_mow S).1] τ1 Q
  have hM1 : MD τ1 S := hM.sm va_w hw hs1 (fun i k q => by unfold S94 at q; unfold SCM; omega)
  refine x_aload_n (pc' := 1123) dL_law_1122 rfl rfl rfl ?_
  refine x_callV (d := d + 59) (pc' := 1126) (As := []) dL_law_1123 rfl lmL_135 kd_94 rfl rfl (Nat.le_of_ble_eq_true rfl) (Nat.le_of_ble_eq_true rfl) ?_
  show X none (d + 59) mX8_mow 0 [.ref 94] [] τ1 _
  refine q_mow va_w va_v hM1 hw (fun τ2 hM2 hs2 => ?_)
  show X (some (n, xs)) (d + 60) mL_law 1126 [.ref 200, .ref 0, .ref 94, .int (nI i)] [.int (o_mow S).1, .int (o_mow S).1] τ2 Q
  have hC2 := hC1.sm hs2 (fun i k q => by unfold SM94 at q; unfold SCR; omega)
  exact x_icmp_eq (pc' := 1129) (tgt := 1336) dL_law_1126 (by decide) rfl (fun _ => kk τ2 (o_mow S).2 hC2 hM2 (ws_mow hw)) (fun c => absurd rfl c)
set_option maxRecDepth 100000 in
set_option maxHeartbeats 4000000 in
theorem lc_29 (hC : CL σ S) (hM : MD σ S) (hw : WS VA0 S) (hv : ∀ k, k < 7 → vp_in (nI i + nI k) n) (kk : ∀ τ S', CL τ S' → MD τ S' → WS VA0 S' → X (some (n, xs)) (d + 60) mL_law 1336 [.ref 200, .ref 0, .ref 94, .int (nI i)] [] τ Q) : X (some (n, xs)) (d + 60) mL_law 1131 [.ref 200, .ref 0, .ref 94, .int (nI i)] [] σ Q := by
  refine x_aload_n (pc' := 1132) dL_law_1131 rfl rfl rfl ?_
  refine x_aload_n (pc' := 1133) dL_law_1132 rfl rfl rfl ?_
  refine x_iload_n (pc' := 1134) dL_law_1133 rfl rfl rfl ?_
  refine x_iconst (pc' := 1135) (v := 1) dL_law_1134 rfl (by decide) ?_
  refine x_iadd (pc' := 1136) dL_law_1135 rfl ?_
  refine x_sld (pc' := 1137) dL_law_1136 rfl (hv 1 (by omega)) ?_
  refine x_aload_n (pc' := 1138) dL_law_1137 rfl rfl rfl ?_
  refine x_iload_n (pc' := 1139) dL_law_1138 rfl rfl rfl ?_
  refine x_iconst (pc' := 1140) (v := 2) dL_law_1139 rfl (by decide) ?_
  refine x_iadd (pc' := 1141) dL_law_1140 rfl ?_
  refine x_sld (pc' := 1142) dL_law_1141 rfl (hv 2 (by omega)) ?_
  refine x_aload_n (pc' := 1143) dL_law_1142 rfl rfl rfl ?_
  refine x_iload_n (pc' := 1144) dL_law_1143 rfl rfl rfl ?_
  refine x_iconst (pc' := 1145) (v := 3) dL_law_1144 rfl (by decide) ?_
  refine x_iadd (pc' := 1146) dL_law_1145 rfl ?_
  refine x_sld (pc' := 1147) dL_law_1146 rfl (hv 3 (by omega)) ?_
  refine x_aload_n (pc' := 1148) dL_law_1147 rfl rfl rfl ?_
  refine x_iload_n (pc' := 1149) dL_law_1148 rfl rfl rfl ?_
  refine x_iconst (pc' := 1150) (v := 4) dL_law_1149 rfl (by decide) ?_
  refine x_iadd (pc' := 1151) dL_law_1150 rfl ?_
  refine x_sld (pc' := 1152) dL_law_1151 rfl (hv 4 (by omega)) ?_
  refine x_aload_n (pc' := 1153) dL_law_1152 rfl rfl rfl ?_
  refine x_iload_n (pc' := 1154) dL_law_1153 rfl rfl rfl ?_
  refine x_iconst (pc' := 1155) (v := 5) dL_law_1154 rfl (by decide) ?_
  refine x_iadd (pc' := 1156) dL_law_1155 rfl ?_
  refine x_sld (pc' := 1157) dL_law_1156 rfl (hv 5 (by omega)) ?_
  refine x_aload_n (pc' := 1158) dL_law_1157 rfl rfl rfl ?_
  refine x_iload_n (pc' := 1159) dL_law_1158 rfl rfl rfl ?_
  refine x_bipush (pc' := 1161) (v := 6) dL_law_1159 rfl (by decide) ?_
  refine x_iadd (pc' := 1162) dL_law_1161 rfl ?_
  refine x_sld (pc' := 1163) dL_law_1162 rfl (hv 6 (by omega)) ?_
  refine x_callV (d := d + 59) (pc' := 1166) (As := [.int (xs (nI i + 1).toNatClampNeg), .int (xs (nI i + 2).toNatClampNeg), .int (xs (nI i + 3).toNatClampNeg), .int (xs (nI i + 4).toNatClampNeg), .int (xs (nI i + 5).toNatClampNeg), .int (xs (nI i + 6).toNatClampNeg)]) dL_law_1163 rfl lmL_136 kd_0 rfl rfl (Nat.le_of_ble_eq_true rfl) (Nat.le_of_ble_eq_true rfl) ?_
  show X none (d + 59) mX7_odds 0 [.ref 0, .int (xs (nI i + 1).toNatClampNeg), .int (xs (nI i + 2).toNatClampNeg), .int (xs (nI i + 3).toNatClampNeg), .int (xs (nI i + 4).toNatClampNeg), .int (xs (nI i + 5).toNatClampNeg), .int (xs (nI i + 6).toNatClampNeg)] [] σ _
  refine p_odds hC hw (fun τ1 hC1 hs1 => ?_)
  show X (some (n, xs)) (d + 60) mL_law 1166 [.ref 200, .ref 0, .ref 94, .int (nI i)] [.int (o_odds S (xs (nI i + 1).toNatClampNeg) (xs (nI i + 2).toNatClampNeg) (xs (nI i + 3).toNatClampNeg) (xs (nI i + 4).toNatClampNeg) (xs (nI i + 5).toNatClampNeg) (xs (nI i + 6).toNatClampNeg)).1] τ1 Q
  have hM1 : MD τ1 S := hM.sm va_w hw hs1 (fun i k q => by unfold S94 at q; unfold SCM; omega)
  refine x_aload_n (pc' := 1167) dL_law_1166 rfl rfl rfl ?_
  refine x_aload_n (pc' := 1168) dL_law_1167 rfl rfl rfl ?_
  refine x_iload_n (pc' := 1169) dL_law_1168 rfl rfl rfl ?_
  refine x_iconst (pc' := 1170) (v := 1) dL_law_1169 rfl (by decide) ?_
  refine x_iadd (pc' := 1171) dL_law_1170 rfl ?_
  refine x_sld (pc' := 1172) dL_law_1171 rfl (hv 1 (by omega)) ?_
  refine x_aload_n (pc' := 1173) dL_law_1172 rfl rfl rfl ?_
  refine x_iload_n (pc' := 1174) dL_law_1173 rfl rfl rfl ?_
  refine x_iconst (pc' := 1175) (v := 2) dL_law_1174 rfl (by decide) ?_
  refine x_iadd (pc' := 1176) dL_law_1175 rfl ?_
  refine x_sld (pc' := 1177) dL_law_1176 rfl (hv 2 (by omega)) ?_
  refine x_aload_n (pc' := 1178) dL_law_1177 rfl rfl rfl ?_
  refine x_iload_n (pc' := 1179) dL_law_1178 rfl rfl rfl ?_
  refine x_iconst (pc' := 1180) (v := 3) dL_law_1179 rfl (by decide) ?_
  refine x_iadd (pc' := 1181) dL_law_1180 rfl ?_
  refine x_sld (pc' := 1182) dL_law_1181 rfl (hv 3 (by omega)) ?_
  refine x_aload_n (pc' := 1183) dL_law_1182 rfl rfl rfl ?_
  refine x_iload_n (pc' := 1184) dL_law_1183 rfl rfl rfl ?_
  refine x_iconst (pc' := 1185) (v := 4) dL_law_1184 rfl (by decide) ?_
  refine x_iadd (pc' := 1186) dL_law_1185 rfl ?_
  refine x_sld (pc' := 1187) dL_law_1186 rfl (hv 4 (by omega)) ?_
  refine x_aload_n (pc' := 1188) dL_law_1187 rfl rfl rfl ?_
  refine x_iload_n (pc' := 1189) dL_law_1188 rfl rfl rfl ?_
  refine x_iconst (pc' := 1190) (v := 5) dL_law_1189 rfl (by decide) ?_
  refine x_iadd (pc' := 1191) dL_law_1190 rfl ?_
  refine x_sld (pc' := 1192) dL_law_1191 rfl (hv 5 (by omega)) ?_
  refine x_aload_n (pc' := 1193) dL_law_1192 rfl rfl rfl ?_
  refine x_iload_n (pc' := 1194) dL_law_1193 rfl rfl rfl ?_
  refine x_bipush (pc' := 1196) (v := 6) dL_law_1194 rfl (by decide) ?_
  refine x_iadd (pc' := 1197) dL_law_1196 rfl ?_
  refine x_sld (pc' := 1198) dL_law_1197 rfl (hv 6 (by omega)) ?_
  refine x_callV (d := d + 59) (pc' := 1201) (As := [.int (xs (nI i + 1).toNatClampNeg), .int (xs (nI i + 2).toNatClampNeg), .int (xs (nI i + 3).toNatClampNeg), .int (xs (nI i + 4).toNatClampNeg), .int (xs (nI i + 5).toNatClampNeg), .int (xs (nI i + 6).toNatClampNeg)]) dL_law_1198 rfl lmL_139 kd_94 rfl rfl (Nat.le_of_ble_eq_true rfl) (Nat.le_of_ble_eq_true rfl) ?_
  show X none (d + 59) mX8_odds 0 [.ref 94, .int (xs (nI i + 1).toNatClampNeg), .int (xs (nI i + 2).toNatClampNeg), .int (xs (nI i + 3).toNatClampNeg), .int (xs (nI i + 4).toNatClampNeg), .int (xs (nI i + 5).toNatClampNeg), .int (xs (nI i + 6).toNatClampNeg), Unk, Unk, Unk, Unk, Unk, Unk, Unk, Unk, Unk, Unk, Unk] [] τ1 _
  refine q_odds va_w hM1 hw (fun τ2 hM2 hs2 => ?_)
  show X (some (n, xs)) (d + 60) mL_law 1201 [.ref 200, .ref 0, .ref 94, .int (nI i)] [.int (o_odds S (xs (nI i + 1).toNatClampNeg) (xs (nI i + 2).toNatClampNeg) (xs (nI i + 3).toNatClampNeg) (xs (nI i + 4).toNatClampNeg) (xs (nI i + 5).toNatClampNeg) (xs (nI i + 6).toNatClampNeg)).1, .int (o_odds S (xs (nI i + 1).toNatClampNeg) (xs (nI i + 2).toNatClampNeg) (xs (nI i + 3).toNatClampNeg) (xs (nI i + 4).toNatClampNeg) (xs (nI i + 5).toNatClampNeg) (xs (nI i + 6).toNatClampNeg)).1] τ2 Q
  have hC2 := hC1.sm hs2 (fun i k q => by unfold SM94 at q; unfold SCR; omega)
  exact x_icmp_eq (pc' := 1204) (tgt := 1336) dL_law_1201 (by decide) rfl (fun _ => kk τ2 (o_odds S (xs (nI i + 1).toNatClampNeg) (xs (nI i + 2).toNatClampNeg) (xs (nI i + 3).toNatClampNeg) (xs (nI i + 4).toNatClampNeg) (xs (nI i + 5).toNatClampNeg) (xs (nI i + 6).toNatClampNeg)).2 hC2 hM2 ((by unfold o_odds; (repeat' split) <;> exact hw))) (fun c => absurd rfl c)
set_option maxRecDepth 100000 in
set_option maxHeartbeats 4000000 in
theorem lc_30 (hC : CL σ S) (hM : MD σ S) (hw : WS VA0 S) (hv : ∀ k, k < 7 → vp_in (nI i + nI k) n) (kk : ∀ τ S', CL τ S' → MD τ S' → WS VA0 S' → X (some (n, xs)) (d + 60) mL_law 1336 [.ref 200, .ref 0, .ref 94, .int (nI i)] [] τ Q) : X (some (n, xs)) (d + 60) mL_law 1206 [.ref 200, .ref 0, .ref 94, .int (nI i)] [] σ Q := by
  refine x_aload_n (pc' := 1207) dL_law_1206 rfl rfl rfl ?_
  refine x_aload_n (pc' := 1208) dL_law_1207 rfl rfl rfl ?_
  refine x_iload_n (pc' := 1209) dL_law_1208 rfl rfl rfl ?_
  refine x_iconst (pc' := 1210) (v := 1) dL_law_1209 rfl (by decide) ?_
  refine x_iadd (pc' := 1211) dL_law_1210 rfl ?_
  refine x_sld (pc' := 1212) dL_law_1211 rfl (hv 1 (by omega)) ?_
  refine x_callV (d := d + 59) (pc' := 1215) (As := [.int (xs (nI i + 1).toNatClampNeg)]) dL_law_1212 rfl lmL_140 kd_0 rfl rfl (Nat.le_of_ble_eq_true rfl) (Nat.le_of_ble_eq_true rfl) ?_
  show X none (d + 59) mX7_part 0 [.ref 0, .int (xs (nI i + 1).toNatClampNeg)] [] σ _
  refine p_part hC (fun τ1 hC1 hs1 => ?_)
  show X (some (n, xs)) (d + 60) mL_law 1215 [.ref 200, .ref 0, .ref 94, .int (nI i)] [.long (o_part S (xs (nI i + 1).toNatClampNeg)).1] τ1 Q
  have hM1 : MD τ1 S := hM.sm va_w hw hs1 (fun i k q => by unfold S94 at q; unfold SCM; omega)
  refine x_aload_n (pc' := 1216) dL_law_1215 rfl rfl rfl ?_
  refine x_aload_n (pc' := 1217) dL_law_1216 rfl rfl rfl ?_
  refine x_iload_n (pc' := 1218) dL_law_1217 rfl rfl rfl ?_
  refine x_iconst (pc' := 1219) (v := 1) dL_law_1218 rfl (by decide) ?_
  refine x_iadd (pc' := 1220) dL_law_1219 rfl ?_
  refine x_sld (pc' := 1221) dL_law_1220 rfl (hv 1 (by omega)) ?_
  refine x_callV (d := d + 59) (pc' := 1224) (As := [.int (xs (nI i + 1).toNatClampNeg)]) dL_law_1221 rfl lmL_144 kd_94 rfl rfl (Nat.le_of_ble_eq_true rfl) (Nat.le_of_ble_eq_true rfl) ?_
  show X none (d + 59) mX8_part 0 [.ref 94, .int (xs (nI i + 1).toNatClampNeg)] [] τ1 _
  refine q_part va_w hM1 hw (fun τ2 hM2 hs2 => ?_)
  show X (some (n, xs)) (d + 60) mL_law 1224 [.ref 200, .ref 0, .ref 94, .int (nI i)] [.long (o_part S (xs (nI i + 1).toNatClampNeg)).1, .long (o_part S (xs (nI i + 1).toNatClampNeg)).1] τ2 Q
  have hC2 := hC1.sm hs2 (fun i k q => by unfold SM94 at q; unfold SCR; omega)
  refine x_lcmp (pc' := 1225) dL_law_1224 rfl ?_
  exact x_if_eq (pc' := 1228) (tgt := 1336) dL_law_1225 (by decide) rfl (fun _ => kk τ2 (o_part S (xs (nI i + 1).toNatClampNeg)).2 hC2 hM2 ((by unfold o_part; (repeat' split) <;> exact hw))) (fun c => absurd ((lg_cmp_eq _ _).mpr rfl) c)
set_option maxRecDepth 100000 in
set_option maxHeartbeats 4000000 in
theorem lc_31 (hC : CL σ S) (hM : MD σ S) (hw : WS VA0 S) (hv : ∀ k, k < 7 → vp_in (nI i + nI k) n) (kk : ∀ τ S', CL τ S' → MD τ S' → WS VA0 S' → X (some (n, xs)) (d + 60) mL_law 1336 [.ref 200, .ref 0, .ref 94, .int (nI i)] [] τ Q) : X (some (n, xs)) (d + 60) mL_law 1230 [.ref 200, .ref 0, .ref 94, .int (nI i)] [] σ Q := by
  refine x_aload_n (pc' := 1231) dL_law_1230 rfl rfl rfl ?_
  refine x_aload_n (pc' := 1232) dL_law_1231 rfl rfl rfl ?_
  refine x_iload_n (pc' := 1233) dL_law_1232 rfl rfl rfl ?_
  refine x_iconst (pc' := 1234) (v := 1) dL_law_1233 rfl (by decide) ?_
  refine x_iadd (pc' := 1235) dL_law_1234 rfl ?_
  refine x_sld (pc' := 1236) dL_law_1235 rfl (hv 1 (by omega)) ?_
  refine x_callV (d := d + 59) (pc' := 1239) (As := [.int (xs (nI i + 1).toNatClampNeg)]) dL_law_1236 rfl lmL_145 kd_0 rfl rfl (Nat.le_of_ble_eq_true rfl) (Nat.le_of_ble_eq_true rfl) ?_
  show X none (d + 59) mX7_image 0 [.ref 0, .int (xs (nI i + 1).toNatClampNeg)] [] σ _
  refine p_image va_w hC hw (fun τ1 hC1 hs1 => ?_)
  show X (some (n, xs)) (d + 60) mL_law 1239 [.ref 200, .ref 0, .ref 94, .int (nI i)] [.int (o_image S (xs (nI i + 1).toNatClampNeg)).1] τ1 Q
  have hM1 : MD τ1 S := hM.sm va_w hw hs1 (fun i k q => by unfold S94 at q; unfold SCM; omega)
  refine x_aload_n (pc' := 1240) dL_law_1239 rfl rfl rfl ?_
  refine x_aload_n (pc' := 1241) dL_law_1240 rfl rfl rfl ?_
  refine x_iload_n (pc' := 1242) dL_law_1241 rfl rfl rfl ?_
  refine x_iconst (pc' := 1243) (v := 1) dL_law_1242 rfl (by decide) ?_
  refine x_iadd (pc' := 1244) dL_law_1243 rfl ?_
  refine x_sld (pc' := 1245) dL_law_1244 rfl (hv 1 (by omega)) ?_
  refine x_callV (d := d + 59) (pc' := 1248) (As := [.int (xs (nI i + 1).toNatClampNeg)]) dL_law_1245 rfl lmL_148 kd_94 rfl rfl (Nat.le_of_ble_eq_true rfl) (Nat.le_of_ble_eq_true rfl) ?_
  show X none (d + 59) mX8_image 0 [.ref 94, .int (xs (nI i + 1).toNatClampNeg)] [] τ1 _
  refine q_image va_w hM1 hw (fun τ2 hM2 hs2 => ?_)
  show X (some (n, xs)) (d + 60) mL_law 1248 [.ref 200, .ref 0, .ref 94, .int (nI i)] [.int (o_image S (xs (nI i + 1).toNatClampNeg)).1, .int (o_image S (xs (nI i + 1).toNatClampNeg)).1] τ2 Q
  have hC2 := hC1.sm hs2 (fun i k q => by unfold SM94 at q; unfold SCR; omega)
  exact x_icmp_eq (pc' := 1251) (tgt := 1336) dL_law_1248 (by decide) rfl (fun _ => kk τ2 (o_image S (xs (nI i + 1).toNatClampNeg)).2 hC2 hM2 (ws_image hw)) (fun c => absurd rfl c)
set_option maxRecDepth 100000 in
set_option maxHeartbeats 4000000 in
theorem lc_32 (hC : CL σ S) (hM : MD σ S) (hw : WS VA0 S) (hv : ∀ k, k < 7 → vp_in (nI i + nI k) n) (kk : ∀ τ S', CL τ S' → MD τ S' → WS VA0 S' → X (some (n, xs)) (d + 60) mL_law 1336 [.ref 200, .ref 0, .ref 94, .int (nI i)] [] τ Q) : X (some (n, xs)) (d + 60) mL_law 1253 [.ref 200, .ref 0, .ref 94, .int (nI i)] [] σ Q := by
  refine x_aload_n (pc' := 1254) dL_law_1253 rfl rfl rfl ?_
  refine x_aload_n (pc' := 1255) dL_law_1254 rfl rfl rfl ?_
  refine x_iload_n (pc' := 1256) dL_law_1255 rfl rfl rfl ?_
  refine x_iconst (pc' := 1257) (v := 1) dL_law_1256 rfl (by decide) ?_
  refine x_iadd (pc' := 1258) dL_law_1257 rfl ?_
  refine x_sld (pc' := 1259) dL_law_1258 rfl (hv 1 (by omega)) ?_
  refine x_callV (d := d + 59) (pc' := 1262) (As := [.int (xs (nI i + 1).toNatClampNeg)]) dL_law_1259 rfl lmL_149 kd_0 rfl rfl (Nat.le_of_ble_eq_true rfl) (Nat.le_of_ble_eq_true rfl) ?_
  show X none (d + 59) mX7_from 0 [.ref 0, .int (xs (nI i + 1).toNatClampNeg)] [] σ _
  refine p_from va_w hC hw (fun τ1 hC1 hs1 => ?_)
  show X (some (n, xs)) (d + 60) mL_law 1262 [.ref 200, .ref 0, .ref 94, .int (nI i)] [.int (o_from S (xs (nI i + 1).toNatClampNeg)).1] τ1 Q
  have hM1 : MD τ1 S := hM.sm va_w hw hs1 (fun i k q => by unfold S94 at q; unfold SCM; omega)
  refine x_aload_n (pc' := 1263) dL_law_1262 rfl rfl rfl ?_
  refine x_aload_n (pc' := 1264) dL_law_1263 rfl rfl rfl ?_
  refine x_iload_n (pc' := 1265) dL_law_1264 rfl rfl rfl ?_
  refine x_iconst (pc' := 1266) (v := 1) dL_law_1265 rfl (by decide) ?_
  refine x_iadd (pc' := 1267) dL_law_1266 rfl ?_
  refine x_sld (pc' := 1268) dL_law_1267 rfl (hv 1 (by omega)) ?_
  refine x_callV (d := d + 59) (pc' := 1271) (As := [.int (xs (nI i + 1).toNatClampNeg)]) dL_law_1268 rfl lmL_152 kd_94 rfl rfl (Nat.le_of_ble_eq_true rfl) (Nat.le_of_ble_eq_true rfl) ?_
  show X none (d + 59) mX8_from 0 [.ref 94, .int (xs (nI i + 1).toNatClampNeg)] [] τ1 _
  refine q_from va_w hM1 hw (fun τ2 hM2 hs2 => ?_)
  show X (some (n, xs)) (d + 60) mL_law 1271 [.ref 200, .ref 0, .ref 94, .int (nI i)] [.int (o_from S (xs (nI i + 1).toNatClampNeg)).1, .int (o_from S (xs (nI i + 1).toNatClampNeg)).1] τ2 Q
  have hC2 := hC1.sm hs2 (fun i k q => by unfold SM94 at q; unfold SCR; omega)
  exact x_icmp_eq (pc' := 1274) (tgt := 1336) dL_law_1271 (by decide) rfl (fun _ => kk τ2 (o_from S (xs (nI i + 1).toNatClampNeg)).2 hC2 hM2 (ws_from hw)) (fun c => absurd rfl c)
set_option maxRecDepth 100000 in
set_option maxHeartbeats 4000000 in
theorem lc_33 (hC : CL σ S) (hM : MD σ S) (hw : WS VA0 S) (hv : ∀ k, k < 7 → vp_in (nI i + nI k) n) (kk : ∀ τ S', CL τ S' → MD τ S' → WS VA0 S' → X (some (n, xs)) (d + 60) mL_law 1336 [.ref 200, .ref 0, .ref 94, .int (nI i)] [] τ Q) : X (some (n, xs)) (d + 60) mL_law 1276 [.ref 200, .ref 0, .ref 94, .int (nI i)] [] σ Q := by
  refine x_aload_n (pc' := 1277) dL_law_1276 rfl rfl rfl ?_
  refine x_aload_n (pc' := 1278) dL_law_1277 rfl rfl rfl ?_
  refine x_iload_n (pc' := 1279) dL_law_1278 rfl rfl rfl ?_
  refine x_iconst (pc' := 1280) (v := 1) dL_law_1279 rfl (by decide) ?_
  refine x_iadd (pc' := 1281) dL_law_1280 rfl ?_
  refine x_sld (pc' := 1282) dL_law_1281 rfl (hv 1 (by omega)) ?_
  refine x_callV (d := d + 59) (pc' := 1285) (As := [.int (xs (nI i + 1).toNatClampNeg)]) dL_law_1282 rfl lmL_153 kd_0 rfl rfl (Nat.le_of_ble_eq_true rfl) (Nat.le_of_ble_eq_true rfl) ?_
  show X none (d + 59) mX7_status 0 [.ref 0, .int (xs (nI i + 1).toNatClampNeg)] [] σ _
  refine p_status hC (fun τ1 hC1 hs1 => ?_)
  show X (some (n, xs)) (d + 60) mL_law 1285 [.ref 200, .ref 0, .ref 94, .int (nI i)] [.int (o_status S (xs (nI i + 1).toNatClampNeg)).1] τ1 Q
  have hM1 : MD τ1 S := hM.sm va_w hw hs1 (fun i k q => by unfold S94 at q; unfold SCM; omega)
  refine x_aload_n (pc' := 1286) dL_law_1285 rfl rfl rfl ?_
  refine x_aload_n (pc' := 1287) dL_law_1286 rfl rfl rfl ?_
  refine x_iload_n (pc' := 1288) dL_law_1287 rfl rfl rfl ?_
  refine x_iconst (pc' := 1289) (v := 1) dL_law_1288 rfl (by decide) ?_
  refine x_iadd (pc' := 1290) dL_law_1289 rfl ?_
  refine x_sld (pc' := 1291) dL_law_1290 rfl (hv 1 (by omega)) ?_
  refine x_callV (d := d + 59) (pc' := 1294) (As := [.int (xs (nI i + 1).toNatClampNeg)]) dL_law_1291 rfl lmL_156 kd_94 rfl rfl (Nat.le_of_ble_eq_true rfl) (Nat.le_of_ble_eq_true rfl) ?_
  show X none (d + 59) mX8_status 0 [.ref 94, .int (xs (nI i + 1).toNatClampNeg)] [] τ1 _
  refine q_status va_w hM1 hw (fun τ2 hM2 hs2 => ?_)
  show X (some (n, xs)) (d + 60) mL_law 1294 [.ref 200, .ref 0, .ref 94, .int (nI i)] [.int (o_status S (xs (nI i + 1).toNatClampNeg)).1, .int (o_status S (xs (nI i + 1).toNatClampNeg)).1] τ2 Q
  have hC2 := hC1.sm hs2 (fun i k q => by unfold SM94 at q; unfold SCR; omega)
  exact x_icmp_eq (pc' := 1297) (tgt := 1336) dL_law_1294 (by decide) rfl (fun _ => kk τ2 (o_status S (xs (nI i + 1).toNatClampNeg)).2 hC2 hM2 ((by unfold o_status; (repeat' split) <;> exact hw))) (fun c => absurd rfl c)
set_option maxRecDepth 100000 in
set_option maxHeartbeats 4000000 in
theorem lc_34 (hC : CL σ S) (hM : MD σ S) (hw : WS VA0 S) (hv : ∀ k, k < 7 → vp_in (nI i + nI k) n) (kk : ∀ τ S', CL τ S' → MD τ S' → WS VA0 S' → X (some (n, xs)) (d + 60) mL_law 1336 [.ref 200, .ref 0, .ref 94, .int (nI i)] [] τ Q) : X (some (n, xs)) (d + 60) mL_law 1299 [.ref 200, .ref 0, .ref 94, .int (nI i)] [] σ Q := by
  refine x_aload_n (pc' := 1300) dL_law_1299 rfl rfl rfl ?_
  refine x_aload_n (pc' := 1301) dL_law_1300 rfl rfl rfl ?_
  refine x_iload_n (pc' := 1302) dL_law_1301 rfl rfl rfl ?_
  refine x_iconst (pc' := 1303) (v := 1) dL_law_1302 rfl (by decide) ?_
  refine x_iadd (pc' := 1304) dL_law_1303 rfl ?_
  refine x_sld (pc' := 1305) dL_law_1304 rfl (hv 1 (by omega)) ?_
  refine x_callV (d := d + 59) (pc' := 1308) (As := [.int (xs (nI i + 1).toNatClampNeg)]) dL_law_1305 rfl lmL_157 kd_0 rfl rfl (Nat.le_of_ble_eq_true rfl) (Nat.le_of_ble_eq_true rfl) ?_
  show X none (d + 59) mX7_size 0 [.ref 0, .int (xs (nI i + 1).toNatClampNeg)] [] σ _
  refine p_size hC hw (fun τ1 hC1 hs1 => ?_)
  show X (some (n, xs)) (d + 60) mL_law 1308 [.ref 200, .ref 0, .ref 94, .int (nI i)] [.int (o_size S (xs (nI i + 1).toNatClampNeg)).1] τ1 Q
  have hM1 : MD τ1 S := hM.sm va_w hw hs1 (fun i k q => by unfold S94 at q; unfold SCM; omega)
  refine x_aload_n (pc' := 1309) dL_law_1308 rfl rfl rfl ?_
  refine x_aload_n (pc' := 1310) dL_law_1309 rfl rfl rfl ?_
  refine x_iload_n (pc' := 1311) dL_law_1310 rfl rfl rfl ?_
  refine x_iconst (pc' := 1312) (v := 1) dL_law_1311 rfl (by decide) ?_
  refine x_iadd (pc' := 1313) dL_law_1312 rfl ?_
  refine x_sld (pc' := 1314) dL_law_1313 rfl (hv 1 (by omega)) ?_
  refine x_callV (d := d + 59) (pc' := 1317) (As := [.int (xs (nI i + 1).toNatClampNeg)]) dL_law_1314 rfl lmL_160 kd_94 rfl rfl (Nat.le_of_ble_eq_true rfl) (Nat.le_of_ble_eq_true rfl) ?_
  show X none (d + 59) mX8_size 0 [.ref 94, .int (xs (nI i + 1).toNatClampNeg)] [] τ1 _
  refine q_size va_w hM1 hw (fun τ2 hM2 hs2 => ?_)
  show X (some (n, xs)) (d + 60) mL_law 1317 [.ref 200, .ref 0, .ref 94, .int (nI i)] [.int (o_size S (xs (nI i + 1).toNatClampNeg)).1, .int (o_size S (xs (nI i + 1).toNatClampNeg)).1] τ2 Q
  have hC2 := hC1.sm hs2 (fun i k q => by unfold SM94 at q; unfold SCR; omega)
  exact x_icmp_eq (pc' := 1320) (tgt := 1336) dL_law_1317 (by decide) rfl (fun _ => kk τ2 (o_size S (xs (nI i + 1).toNatClampNeg)).2 hC2 hM2 ((by unfold o_size; (repeat' split) <;> exact hw))) (fun c => absurd rfl c)
set_option maxRecDepth 100000 in
set_option maxHeartbeats 4000000 in
theorem lc_35 (hC : CL σ S) (hM : MD σ S) (hw : WS VA0 S) (hv : ∀ k, k < 7 → vp_in (nI i + nI k) n) (kk : ∀ τ S', CL τ S' → MD τ S' → WS VA0 S' → X (some (n, xs)) (d + 60) mL_law 1336 [.ref 200, .ref 0, .ref 94, .int (nI i)] [] τ Q) : X (some (n, xs)) (d + 60) mL_law 1322 [.ref 200, .ref 0, .ref 94, .int (nI i)] [] σ Q := by
  refine x_aload_n (pc' := 1323) dL_law_1322 rfl rfl rfl ?_
  refine x_callV (d := d + 59) (pc' := 1326) (As := []) dL_law_1323 rfl lmL_161 kd_0 rfl rfl (Nat.le_of_ble_eq_true rfl) (Nat.le_of_ble_eq_true rfl) ?_
  show X none (d + 59) mX7_digest 0 [.ref 0, Unk, Unk, Unk] [] σ _
  refine p_digest hC hw (fun τ1 hC1 hs1 => ?_)
  show X (some (n, xs)) (d + 60) mL_law 1326 [.ref 200, .ref 0, .ref 94, .int (nI i)] [.long (o_digest S).1] τ1 Q
  have hM1 : MD τ1 S := hM.sm va_w hw hs1 (fun i k q => by unfold S94 at q; unfold SCM; omega)
  refine x_aload_n (pc' := 1327) dL_law_1326 rfl rfl rfl ?_
  refine x_callV (d := d + 59) (pc' := 1330) (As := []) dL_law_1327 rfl lmL_165 kd_94 rfl rfl (Nat.le_of_ble_eq_true rfl) (Nat.le_of_ble_eq_true rfl) ?_
  show X none (d + 59) mX8_digest 0 [.ref 94, Unk, Unk] [] τ1 _
  refine q_digest va_w hM1 hw (fun τ2 hM2 hs2 => ?_)
  show X (some (n, xs)) (d + 60) mL_law 1330 [.ref 200, .ref 0, .ref 94, .int (nI i)] [.long (o_digest S).1, .long (o_digest S).1] τ2 Q
  have hC2 := hC1.sm hs2 (fun i k q => by unfold SM94 at q; unfold SCR; omega)
  refine x_lcmp (pc' := 1331) dL_law_1330 rfl ?_
  exact x_if_eq (pc' := 1334) (tgt := 1336) dL_law_1331 (by decide) rfl (fun _ => kk τ2 (o_digest S).2 hC2 hM2 ((by unfold o_digest; (repeat' split) <;> exact hw))) (fun c => absurd ((lg_cmp_eq _ _).mpr rfl) c)
end LAW
