/-! The constructors. -/
def Fz (g : Cg) (q : Nat → Nat) : va_W := [(q 0, .inr (0, [.ref (q 1), .ref (q 2), .ref (q 3), .ref (q 4), .ref (q 5), .int 0, .int 0, .int 0, .int 0, .int 0, .int 0])), (q 1, zI g 121), (q 2, zI g 121), (q 3, zI g 121), (q 4, zI g 121), (q 5, zI g 121)]
def Xz (_ : Cg) (q : Nat → Nat) : va_W := [(q 0, .inr (1, [.long 0, .long 1]))]
def Kz (g : Cg) (q : Nat → Nat) : va_W := [(q 0, .inr (4, [.ref (q 1), .int 0])), (q 1, zI g 60)]
def Sz (g : Cg) (q : Nat → Nat) : va_W := [(q 0, .inr (6, [.ref (q 1), .ref (q 2), .int 0, .int 0])), (q 1, zI g 120), (q 2, zI g 48)]
def Rz (g : Cg) (q : Nat → Nat) : va_W := (q 0, .inr (5, [.ref (q 1), .ref (q 2), .int 0, .int 0, .int 0])) :: (q 1, zI g 120) :: Sz g (fun k => q (2 + k))
def Iz (g : Cg) (q : Nat → Nat) : va_W := (q 0, .inr (3, [.ref (q 1), .ref (q 7), .int 0])) :: (Fz g (fun k => q (1 + k)) ++ Sz g (fun k => q (7 + k)))
def Hz (g : Cg) (q : Nat → Nat) : va_W := (q 0, .inr (2, [.ref (q 1), .int 0, .int 0])) :: (q 1, rA g.2.2.2.1 8 (fun k => some (q (2 + 6 * k)))) :: (Fz g (fun k => q (2 + k)) ++ Fz g (fun k => q (8 + k)) ++ Fz g (fun k => q (14 + k)) ++ Fz g (fun k => q (20 + k)) ++ Fz g (fun k => q (26 + k)) ++ Fz g (fun k => q (32 + k)) ++ Fz g (fun k => q (38 + k)) ++ Fz g (fun k => q (44 + k)))
def Mz (g : Cg) (q : Nat → Nat) : va_W := [(q 0, .inr (8, [.ref (q 1), .ref (q 2), .int 0, .int 0, .ref (q 3), .ref (q 4), .int 0, .long 0, .long 1, .ref (q 5), .int 0, .ref (q 6), .int 0, .int 0, .int 0, .ref (q 7), .int 0, .int 0, .ref (q 8), .long 0])), (q 1, zI g 7458), (q 2, zI g 728), (q 3, zZ g 2), (q 4, zI g 120), (q 5, zI g 3), (q 6, zI g 60), (q 7, zI g 128), (q 8, zZ g 64)]
set_option maxRecDepth 100000 in
set_option maxHeartbeats 8000000 in
theorem mX0_init_met {d : Nat} : MetN mX0_init (d + 1) 5 605 (.inr (0, [.null, .null, .null, .null, .null, .int 0, .int 0, .int 0, .int 0, .int 0, .int 0])) Fz := by
  refine met_of_NX rfl rfl rfl (by decide) (fun g h0 => ?_)
  show NX g (d + 1) mX0_init true 5 605 _ 0 0 0 [.ref h0] [] [(h0, .inr (0, [.null, .null, .null, .null, .null, .int 0, .int 0, .int 0, .int 0, .int 0, .int 0]))]
  refine nx_aload_n (pc' := 1) dX0_init_0 rfl rfl rfl ?_
  refine nx_objInit (pc' := 4) dX0_init_1 rfl (by omega) (tG 26 (by decide +kernel) rfl) (tG 19 (by decide +kernel) rfl) (tG 20 (by decide +kernel) rfl) ?_
  refine nx_aload_n (pc' := 5) dX0_init_4 rfl rfl rfl ?_
  refine nx_bipush (pc' := 7) (x := 121) dX0_init_5 rfl (by decide) ?_
  refine nx_newi (pc' := 9) (N := 121) (k' := 1) (n' := 121) dX0_init_7 rfl (tG 75 (by decide +kernel) rfl) (by decide) (by decide) (by decide) rfl rfl (Nat.le_of_ble_eq_true rfl) (Nat.le_of_ble_eq_true rfl) (fun q0 => ?_)
  show NX g _ _ _ _ _ _ 1 121 9 [.ref h0] [.ref q0, .ref h0] ((h0, .inr (0, [.null, .null, .null, .null, .null, .int 0, .int 0, .int 0, .int 0, .int 0, .int 0])) :: ([(q0, zI g 121)]))
  refine nx_putF (pc' := 12) (f := 0) (ci := 0) (C := RX0) (T := TX0) (N := 11) (ty0 := tyX0) (ws' := (h0, .inr (0, [.ref q0, .null, .null, .null, .null, .int 0, .int 0, .int 0, .int 0, .int 0, .int 0])) :: ([(q0, zI g 121)])) rfl dX0_init_9 rfl rfl rfl inGX0 tyX0_ok nmX0 (by decide) (tG 27 (by decide +kernel) rfl) rfl rfl (tyX0_ok 0 (by decide)) rfl rfl (Nat.le_of_ble_eq_true rfl) rfl ?_
  refine nx_aload_n (pc' := 13) dX0_init_12 rfl rfl rfl ?_
  refine nx_bipush (pc' := 15) (x := 121) dX0_init_13 rfl (by decide) ?_
  refine nx_newi (pc' := 17) (N := 121) (k' := 2) (n' := 242) dX0_init_15 rfl (tG 75 (by decide +kernel) rfl) (by decide) (by decide) (by decide) rfl rfl (Nat.le_of_ble_eq_true rfl) (Nat.le_of_ble_eq_true rfl) (fun q1 => ?_)
  show NX g _ _ _ _ _ _ 2 242 17 [.ref h0] [.ref q1, .ref h0] ((h0, .inr (0, [.ref q0, .null, .null, .null, .null, .int 0, .int 0, .int 0, .int 0, .int 0, .int 0])) :: ([(q0, zI g 121)] ++ [(q1, zI g 121)]))
  refine nx_putF (pc' := 20) (f := 1) (ci := 0) (C := RX0) (T := TX0) (N := 11) (ty0 := tyX0) (ws' := (h0, .inr (0, [.ref q0, .ref q1, .null, .null, .null, .int 0, .int 0, .int 0, .int 0, .int 0, .int 0])) :: ([(q0, zI g 121)] ++ [(q1, zI g 121)])) rfl dX0_init_17 rfl rfl rfl inGX0 tyX0_ok nmX0 (by decide) (tG 30 (by decide +kernel) rfl) rfl rfl (tyX0_ok 1 (by decide)) rfl rfl (Nat.le_of_ble_eq_true rfl) rfl ?_
  refine nx_aload_n (pc' := 21) dX0_init_20 rfl rfl rfl ?_
  refine nx_bipush (pc' := 23) (x := 121) dX0_init_21 rfl (by decide) ?_
  refine nx_newi (pc' := 25) (N := 121) (k' := 3) (n' := 363) dX0_init_23 rfl (tG 75 (by decide +kernel) rfl) (by decide) (by decide) (by decide) rfl rfl (Nat.le_of_ble_eq_true rfl) (Nat.le_of_ble_eq_true rfl) (fun q2 => ?_)
  show NX g _ _ _ _ _ _ 3 363 25 [.ref h0] [.ref q2, .ref h0] ((h0, .inr (0, [.ref q0, .ref q1, .null, .null, .null, .int 0, .int 0, .int 0, .int 0, .int 0, .int 0])) :: ([(q0, zI g 121)] ++ [(q1, zI g 121)] ++ [(q2, zI g 121)]))
  refine nx_putF (pc' := 28) (f := 2) (ci := 0) (C := RX0) (T := TX0) (N := 11) (ty0 := tyX0) (ws' := (h0, .inr (0, [.ref q0, .ref q1, .ref q2, .null, .null, .int 0, .int 0, .int 0, .int 0, .int 0, .int 0])) :: ([(q0, zI g 121)] ++ [(q1, zI g 121)] ++ [(q2, zI g 121)])) rfl dX0_init_25 rfl rfl rfl inGX0 tyX0_ok nmX0 (by decide) (tG 33 (by decide +kernel) rfl) rfl rfl (tyX0_ok 2 (by decide)) rfl rfl (Nat.le_of_ble_eq_true rfl) rfl ?_
  refine nx_aload_n (pc' := 29) dX0_init_28 rfl rfl rfl ?_
  refine nx_bipush (pc' := 31) (x := 121) dX0_init_29 rfl (by decide) ?_
  refine nx_newi (pc' := 33) (N := 121) (k' := 4) (n' := 484) dX0_init_31 rfl (tG 75 (by decide +kernel) rfl) (by decide) (by decide) (by decide) rfl rfl (Nat.le_of_ble_eq_true rfl) (Nat.le_of_ble_eq_true rfl) (fun q3 => ?_)
  show NX g _ _ _ _ _ _ 4 484 33 [.ref h0] [.ref q3, .ref h0] ((h0, .inr (0, [.ref q0, .ref q1, .ref q2, .null, .null, .int 0, .int 0, .int 0, .int 0, .int 0, .int 0])) :: ([(q0, zI g 121)] ++ [(q1, zI g 121)] ++ [(q2, zI g 121)] ++ [(q3, zI g 121)]))
  refine nx_putF (pc' := 36) (f := 3) (ci := 0) (C := RX0) (T := TX0) (N := 11) (ty0 := tyX0) (ws' := (h0, .inr (0, [.ref q0, .ref q1, .ref q2, .ref q3, .null, .int 0, .int 0, .int 0, .int 0, .int 0, .int 0])) :: ([(q0, zI g 121)] ++ [(q1, zI g 121)] ++ [(q2, zI g 121)] ++ [(q3, zI g 121)])) rfl dX0_init_33 rfl rfl rfl inGX0 tyX0_ok nmX0 (by decide) (tG 36 (by decide +kernel) rfl) rfl rfl (tyX0_ok 3 (by decide)) rfl rfl (Nat.le_of_ble_eq_true rfl) rfl ?_
  refine nx_aload_n (pc' := 37) dX0_init_36 rfl rfl rfl ?_
  refine nx_bipush (pc' := 39) (x := 121) dX0_init_37 rfl (by decide) ?_
  refine nx_newi (pc' := 41) (N := 121) (k' := 5) (n' := 605) dX0_init_39 rfl (tG 75 (by decide +kernel) rfl) (by decide) (by decide) (by decide) rfl rfl (Nat.le_of_ble_eq_true rfl) (Nat.le_of_ble_eq_true rfl) (fun q4 => ?_)
  show NX g _ _ _ _ _ _ 5 605 41 [.ref h0] [.ref q4, .ref h0] ((h0, .inr (0, [.ref q0, .ref q1, .ref q2, .ref q3, .null, .int 0, .int 0, .int 0, .int 0, .int 0, .int 0])) :: ([(q0, zI g 121)] ++ [(q1, zI g 121)] ++ [(q2, zI g 121)] ++ [(q3, zI g 121)] ++ [(q4, zI g 121)]))
  refine nx_putF (pc' := 44) (f := 4) (ci := 0) (C := RX0) (T := TX0) (N := 11) (ty0 := tyX0) (ws' := (h0, .inr (0, [.ref q0, .ref q1, .ref q2, .ref q3, .ref q4, .int 0, .int 0, .int 0, .int 0, .int 0, .int 0])) :: ([(q0, zI g 121)] ++ [(q1, zI g 121)] ++ [(q2, zI g 121)] ++ [(q3, zI g 121)] ++ [(q4, zI g 121)])) rfl dX0_init_41 rfl rfl rfl inGX0 tyX0_ok nmX0 (by decide) (tG 38 (by decide +kernel) rfl) rfl rfl (tyX0_ok 4 (by decide)) rfl rfl (Nat.le_of_ble_eq_true rfl) rfl ?_
  exact nx_end ⟨dX0_init_44, fun z => if z = 0 then h0 else if z = 1 then q0 else if z = 2 then q1 else if z = 3 then q2 else if z = 4 then q3 else if z = 5 then q4 else 0, rfl, rfl⟩ (Nat.le_refl _) (Nat.le_refl _)
set_option maxRecDepth 100000 in
set_option maxHeartbeats 8000000 in
theorem mX1_init_met {d : Nat} : MetN mX1_init (d + 1) 0 0 (.inr (1, [.long 0, .long 0])) Xz := by
  refine met_of_NX rfl rfl rfl (by decide) (fun g h0 => ?_)
  show NX g (d + 1) mX1_init true 0 0 _ 0 0 0 [.ref h0] [] [(h0, .inr (1, [.long 0, .long 0]))]
  refine nx_aload_n (pc' := 1) dX1_init_0 rfl rfl rfl ?_
  refine nx_objInit (pc' := 4) dX1_init_1 rfl (by omega) (tG 162 (by decide +kernel) rfl) (tG 19 (by decide +kernel) rfl) (tG 20 (by decide +kernel) rfl) ?_
  refine nx_aload_n (pc' := 5) dX1_init_4 rfl rfl rfl ?_
  refine nx_lconst (pc' := 6) (x := 0) dX1_init_5 rfl (by decide) ?_
  refine nx_put (pc' := 9) (f := 0) (ci := 1) (C := RX1) (T := TX1) (N := 2) (ty0 := tyX1) (ws' := [(h0, .inr (1, [.long 0, .long 0]))]) dX1_init_6 rfl rfl rfl inGX1 tyX1_ok nmX1 (by decide) (tG 163 (by decide +kernel) rfl) rfl (tyX1_ok 0 (by decide)) rfl rfl (Nat.le_of_ble_eq_true rfl) rfl ?_
  refine nx_aload_n (pc' := 10) dX1_init_9 rfl rfl rfl ?_
  refine nx_lconst (pc' := 11) (x := 1) dX1_init_10 rfl (by decide) ?_
  refine nx_put (pc' := 14) (f := 1) (ci := 1) (C := RX1) (T := TX1) (N := 2) (ty0 := tyX1) (ws' := [(h0, .inr (1, [.long 0, .long 1]))]) dX1_init_11 rfl rfl rfl inGX1 tyX1_ok nmX1 (by decide) (tG 165 (by decide +kernel) rfl) rfl (tyX1_ok 1 (by decide)) rfl rfl (Nat.le_of_ble_eq_true rfl) rfl ?_
  exact nx_end ⟨dX1_init_14, fun z => if z = 0 then h0 else 0, rfl, rfl⟩ (Nat.le_refl _) (Nat.le_refl _)
set_option maxRecDepth 100000 in
set_option maxHeartbeats 8000000 in
theorem mX4_init_met {d : Nat} : MetN mX4_init (d + 1) 1 60 (.inr (4, [.null, .int 0])) Kz := by
  refine met_of_NX rfl rfl rfl (by decide) (fun g h0 => ?_)
  show NX g (d + 1) mX4_init true 1 60 _ 0 0 0 [.ref h0] [] [(h0, .inr (4, [.null, .int 0]))]
  refine nx_aload_n (pc' := 1) dX4_init_0 rfl rfl rfl ?_
  refine nx_objInit (pc' := 4) dX4_init_1 rfl (by omega) (tG 101 (by decide +kernel) rfl) (tG 19 (by decide +kernel) rfl) (tG 20 (by decide +kernel) rfl) ?_
  refine nx_aload_n (pc' := 5) dX4_init_4 rfl rfl rfl ?_
  refine nx_bipush (pc' := 7) (x := 60) dX4_init_5 rfl (by decide) ?_
  refine nx_newi (pc' := 9) (N := 60) (k' := 1) (n' := 60) dX4_init_7 rfl (tG 75 (by decide +kernel) rfl) (by decide) (by decide) (by decide) rfl rfl (Nat.le_of_ble_eq_true rfl) (Nat.le_of_ble_eq_true rfl) (fun q0 => ?_)
  show NX g _ _ _ _ _ _ 1 60 9 [.ref h0] [.ref q0, .ref h0] ((h0, .inr (4, [.null, .int 0])) :: ([(q0, zI g 60)]))
  refine nx_putF (pc' := 12) (f := 0) (ci := 4) (C := RX4) (T := TX4) (N := 2) (ty0 := tyX4) (ws' := (h0, .inr (4, [.ref q0, .int 0])) :: ([(q0, zI g 60)])) rfl dX4_init_9 rfl rfl rfl inGX4 tyX4_ok nmX4 (by decide) (tG 102 (by decide +kernel) rfl) rfl rfl (tyX4_ok 0 (by decide)) rfl rfl (Nat.le_of_ble_eq_true rfl) rfl ?_
  exact nx_end ⟨dX4_init_12, fun z => if z = 0 then h0 else if z = 1 then q0 else 0, rfl, rfl⟩ (Nat.le_refl _) (Nat.le_refl _)
set_option maxRecDepth 100000 in
set_option maxHeartbeats 8000000 in
theorem mX6_init_met {d : Nat} : MetN mX6_init (d + 1) 2 168 (.inr (6, [.null, .null, .int 0, .int 0])) Sz := by
  refine met_of_NX rfl rfl rfl (by decide) (fun g h0 => ?_)
  show NX g (d + 1) mX6_init true 2 168 _ 0 0 0 [.ref h0] [] [(h0, .inr (6, [.null, .null, .int 0, .int 0]))]
  refine nx_aload_n (pc' := 1) dX6_init_0 rfl rfl rfl ?_
  refine nx_objInit (pc' := 4) dX6_init_1 rfl (by omega) (tG 116 (by decide +kernel) rfl) (tG 19 (by decide +kernel) rfl) (tG 20 (by decide +kernel) rfl) ?_
  refine nx_aload_n (pc' := 5) dX6_init_4 rfl rfl rfl ?_
  refine nx_bipush (pc' := 7) (x := 120) dX6_init_5 rfl (by decide) ?_
  refine nx_newi (pc' := 9) (N := 120) (k' := 1) (n' := 120) dX6_init_7 rfl (tG 75 (by decide +kernel) rfl) (by decide) (by decide) (by decide) rfl rfl (Nat.le_of_ble_eq_true rfl) (Nat.le_of_ble_eq_true rfl) (fun q0 => ?_)
  show NX g _ _ _ _ _ _ 1 120 9 [.ref h0] [.ref q0, .ref h0] ((h0, .inr (6, [.null, .null, .int 0, .int 0])) :: ([(q0, zI g 120)]))
  refine nx_putF (pc' := 12) (f := 0) (ci := 6) (C := RX6) (T := TX6) (N := 4) (ty0 := tyX6) (ws' := (h0, .inr (6, [.ref q0, .null, .int 0, .int 0])) :: ([(q0, zI g 120)])) rfl dX6_init_9 rfl rfl rfl inGX6 tyX6_ok nmX6 (by decide) (tG 117 (by decide +kernel) rfl) rfl rfl (tyX6_ok 0 (by decide)) rfl rfl (Nat.le_of_ble_eq_true rfl) rfl ?_
  refine nx_aload_n (pc' := 13) dX6_init_12 rfl rfl rfl ?_
  refine nx_bipush (pc' := 15) (x := 48) dX6_init_13 rfl (by decide) ?_
  refine nx_newi (pc' := 17) (N := 48) (k' := 2) (n' := 168) dX6_init_15 rfl (tG 75 (by decide +kernel) rfl) (by decide) (by decide) (by decide) rfl rfl (Nat.le_of_ble_eq_true rfl) (Nat.le_of_ble_eq_true rfl) (fun q1 => ?_)
  show NX g _ _ _ _ _ _ 2 168 17 [.ref h0] [.ref q1, .ref h0] ((h0, .inr (6, [.ref q0, .null, .int 0, .int 0])) :: ([(q0, zI g 120)] ++ [(q1, zI g 48)]))
  refine nx_putF (pc' := 20) (f := 1) (ci := 6) (C := RX6) (T := TX6) (N := 4) (ty0 := tyX6) (ws' := (h0, .inr (6, [.ref q0, .ref q1, .int 0, .int 0])) :: ([(q0, zI g 120)] ++ [(q1, zI g 48)])) rfl dX6_init_17 rfl rfl rfl inGX6 tyX6_ok nmX6 (by decide) (tG 118 (by decide +kernel) rfl) rfl rfl (tyX6_ok 1 (by decide)) rfl rfl (Nat.le_of_ble_eq_true rfl) rfl ?_
  exact nx_end ⟨dX6_init_20, fun z => if z = 0 then h0 else if z = 1 then q0 else if z = 2 then q1 else 0, rfl, rfl⟩ (Nat.le_refl _) (Nat.le_refl _)
theorem liX5_17 : LkI RX5 17 mX6_init := ⟨⟨(tG 5 (by decide +kernel) rfl), (tG 114 (by decide +kernel) rfl), (tG 115 (by decide +kernel) rfl)⟩, Or.inr ⟨"PointLayers", tM 138 (by decide +kernel) rfl⟩, rfl, ⟨by decide, by decide, by decide⟩, by decide⟩
set_option maxRecDepth 100000 in
set_option maxHeartbeats 8000000 in
theorem mX5_init_met {d : Nat} : MetN mX5_init (d + 2) 4 292 (.inr (5, [.null, .null, .int 0, .int 0, .int 0])) Rz := by
  refine met_of_NX rfl rfl rfl (by decide) (fun g h0 => ?_)
  show NX g (d + 2) mX5_init true 4 292 _ 0 0 0 [.ref h0] [] [(h0, .inr (5, [.null, .null, .int 0, .int 0, .int 0]))]
  refine nx_aload_n (pc' := 1) dX5_init_0 rfl rfl rfl ?_
  refine nx_objInit (pc' := 4) dX5_init_1 rfl (by omega) (tG 136 (by decide +kernel) rfl) (tG 19 (by decide +kernel) rfl) (tG 20 (by decide +kernel) rfl) ?_
  refine nx_aload_n (pc' := 5) dX5_init_4 rfl rfl rfl ?_
  refine nx_bipush (pc' := 7) (x := 120) dX5_init_5 rfl (by decide) ?_
  refine nx_newi (pc' := 9) (N := 120) (k' := 1) (n' := 120) dX5_init_7 rfl (tG 75 (by decide +kernel) rfl) (by decide) (by decide) (by decide) rfl rfl (Nat.le_of_ble_eq_true rfl) (Nat.le_of_ble_eq_true rfl) (fun q0 => ?_)
  show NX g _ _ _ _ _ _ 1 120 9 [.ref h0] [.ref q0, .ref h0] ((h0, .inr (5, [.null, .null, .int 0, .int 0, .int 0])) :: ([(q0, zI g 120)]))
  refine nx_putF (pc' := 12) (f := 0) (ci := 5) (C := RX5) (T := TX5) (N := 5) (ty0 := tyX5) (ws' := (h0, .inr (5, [.ref q0, .null, .int 0, .int 0, .int 0])) :: ([(q0, zI g 120)])) rfl dX5_init_9 rfl rfl rfl inGX5 tyX5_ok nmX5 (by decide) (tG 139 (by decide +kernel) rfl) rfl rfl (tyX5_ok 0 (by decide)) rfl rfl (Nat.le_of_ble_eq_true rfl) rfl ?_
  refine nx_aload_n (pc' := 13) dX5_init_12 rfl rfl rfl ?_
  refine nx_new (pc' := 16) (ci := 6) (fs := [.null, .null, .int 0, .int 0]) (k' := 2) (n' := 124) (C := RX6) (T := TX6) (N := 4) (ty := tyX6) dX5_init_13 rfl rfl inGX6 tyX6_ok (tG 137 (by decide +kernel) rfl) (tG 112 (by decide +kernel) rfl) (tG 5 (by decide +kernel) rfl) (fun j hj => by rcases (show j = 0 ∨ j = 1 ∨ j = 2 ∨ j = 3 by omega) with rfl | rfl | rfl | rfl <;> rfl) rfl rfl (Nat.le_of_ble_eq_true rfl) (Nat.le_of_ble_eq_true rfl) (fun q1 => ?_)
  show NX g _ _ _ _ _ _ 2 124 16 [.ref h0] [.ref q1, .ref h0] ((h0, .inr (5, [.ref q0, .null, .int 0, .int 0, .int 0])) :: ([(q0, zI g 120)] ++ [(q1, .inr (6, [.null, .null, .int 0, .int 0]))]))
  refine nx_dup (pc' := 17) dX5_init_16 rfl rfl ?_
  refine nx_call (pc' := 20) (pre := (h0, .inr (5, [.ref q0, .null, .int 0, .int 0, .int 0])) :: ([(q0, zI g 120)])) (k' := 4) (n' := 292) (Wf := Sz) mX6_init_met dX5_init_17 rfl liX5_17 (Nat.le_of_ble_eq_true rfl) rfl rfl (Nat.le_of_ble_eq_true rfl) (Nat.le_of_ble_eq_true rfl) (fun u1 eu1 => ?_)
  subst eu1
  show NX g _ _ _ _ _ _ 4 292 20 [.ref h0] [.ref (u1 0), .ref h0] ((h0, .inr (5, [.ref q0, .null, .int 0, .int 0, .int 0])) :: ([(q0, zI g 120)] ++ Sz g u1))
  refine nx_putF (pc' := 23) (f := 1) (ci := 5) (C := RX5) (T := TX5) (N := 5) (ty0 := tyX5) (ws' := (h0, .inr (5, [.ref q0, .ref (u1 0), .int 0, .int 0, .int 0])) :: ([(q0, zI g 120)] ++ Sz g u1)) rfl dX5_init_20 rfl rfl rfl inGX5 tyX5_ok nmX5 (by decide) (tG 140 (by decide +kernel) rfl) rfl rfl (tyX5_ok 1 (by decide)) rfl rfl (Nat.le_of_ble_eq_true rfl) rfl ?_
  exact nx_end ⟨dX5_init_23, fun z => if z = 0 then h0 else if z = 1 then q0 else if z < 5 then u1 (z - 2) else 0, rfl, rfl⟩ (Nat.le_refl _) (Nat.le_refl _)
theorem liX3_9 : LkI RX3 9 mX0_init := ⟨⟨(tG 2 (by decide +kernel) rfl), (tG 24 (by decide +kernel) rfl), (tG 25 (by decide +kernel) rfl)⟩, Or.inr ⟨"PointLayers", tM 180 (by decide +kernel) rfl⟩, rfl, ⟨by decide, by decide, by decide⟩, by decide⟩
theorem liX3_18 : LkI RX3 18 mX6_init := ⟨⟨(tG 5 (by decide +kernel) rfl), (tG 114 (by decide +kernel) rfl), (tG 115 (by decide +kernel) rfl)⟩, Or.inr ⟨"PointLayers", tM 182 (by decide +kernel) rfl⟩, rfl, ⟨by decide, by decide, by decide⟩, by decide⟩
set_option maxRecDepth 100000 in
set_option maxHeartbeats 8000000 in
theorem mX3_init_met {d : Nat} : MetN mX3_init (d + 2) 9 788 (.inr (3, [.null, .null, .int 0])) Iz := by
  refine met_of_NX rfl rfl rfl (by decide) (fun g h0 => ?_)
  show NX g (d + 2) mX3_init true 9 788 _ 0 0 0 [.ref h0] [] [(h0, .inr (3, [.null, .null, .int 0]))]
  refine nx_aload_n (pc' := 1) dX3_init_0 rfl rfl rfl ?_
  refine nx_objInit (pc' := 4) dX3_init_1 rfl (by omega) (tG 178 (by decide +kernel) rfl) (tG 19 (by decide +kernel) rfl) (tG 20 (by decide +kernel) rfl) ?_
  refine nx_aload_n (pc' := 5) dX3_init_4 rfl rfl rfl ?_
  refine nx_new (pc' := 8) (ci := 0) (fs := [.null, .null, .null, .null, .null, .int 0, .int 0, .int 0, .int 0, .int 0, .int 0]) (k' := 1) (n' := 11) (C := RX0) (T := TX0) (N := 11) (ty := tyX0) dX3_init_5 rfl rfl inGX0 tyX0_ok (tG 179 (by decide +kernel) rfl) (tG 22 (by decide +kernel) rfl) (tG 2 (by decide +kernel) rfl) (fun j hj => by rcases (show j = 0 ∨ j = 1 ∨ j = 2 ∨ j = 3 ∨ j = 4 ∨ j = 5 ∨ j = 6 ∨ j = 7 ∨ j = 8 ∨ j = 9 ∨ j = 10 by omega) with rfl | rfl | rfl | rfl | rfl | rfl | rfl | rfl | rfl | rfl | rfl <;> rfl) rfl rfl (Nat.le_of_ble_eq_true rfl) (Nat.le_of_ble_eq_true rfl) (fun q0 => ?_)
  show NX g _ _ _ _ _ _ 1 11 8 [.ref h0] [.ref q0, .ref h0] ((h0, .inr (3, [.null, .null, .int 0])) :: ([(q0, .inr (0, [.null, .null, .null, .null, .null, .int 0, .int 0, .int 0, .int 0, .int 0, .int 0]))]))
  refine nx_dup (pc' := 9) dX3_init_8 rfl rfl ?_
  refine nx_call (pc' := 12) (pre := [(h0, .inr (3, [.null, .null, .int 0]))]) (k' := 6) (n' := 616) (Wf := Fz) mX0_init_met dX3_init_9 rfl liX3_9 (Nat.le_of_ble_eq_true rfl) rfl rfl (Nat.le_of_ble_eq_true rfl) (Nat.le_of_ble_eq_true rfl) (fun u0 eu0 => ?_)
  subst eu0
  show NX g _ _ _ _ _ _ 6 616 12 [.ref h0] [.ref (u0 0), .ref h0] ((h0, .inr (3, [.null, .null, .int 0])) :: (Fz g u0))
  refine nx_putF (pc' := 15) (f := 0) (ci := 3) (C := RX3) (T := TX3) (N := 3) (ty0 := tyX3) (ws' := (h0, .inr (3, [.ref (u0 0), .null, .int 0])) :: (Fz g u0)) rfl dX3_init_12 rfl rfl rfl inGX3 tyX3_ok nmX3 (by decide) (tG 183 (by decide +kernel) rfl) rfl rfl (tyX3_ok 0 (by decide)) rfl rfl (Nat.le_of_ble_eq_true rfl) rfl ?_
  refine nx_aload_n (pc' := 16) dX3_init_15 rfl rfl rfl ?_
  refine nx_new (pc' := 19) (ci := 6) (fs := [.null, .null, .int 0, .int 0]) (k' := 7) (n' := 620) (C := RX6) (T := TX6) (N := 4) (ty := tyX6) dX3_init_16 rfl rfl inGX6 tyX6_ok (tG 181 (by decide +kernel) rfl) (tG 112 (by decide +kernel) rfl) (tG 5 (by decide +kernel) rfl) (fun j hj => by rcases (show j = 0 ∨ j = 1 ∨ j = 2 ∨ j = 3 by omega) with rfl | rfl | rfl | rfl <;> rfl) rfl rfl (Nat.le_of_ble_eq_true rfl) (Nat.le_of_ble_eq_true rfl) (fun q1 => ?_)
  show NX g _ _ _ _ _ _ 7 620 19 [.ref h0] [.ref q1, .ref h0] ((h0, .inr (3, [.ref (u0 0), .null, .int 0])) :: (Fz g u0 ++ [(q1, .inr (6, [.null, .null, .int 0, .int 0]))]))
  refine nx_dup (pc' := 20) dX3_init_19 rfl rfl ?_
  refine nx_call (pc' := 23) (pre := (h0, .inr (3, [.ref (u0 0), .null, .int 0])) :: (Fz g u0)) (k' := 9) (n' := 788) (Wf := Sz) mX6_init_met dX3_init_20 rfl liX3_18 (Nat.le_of_ble_eq_true rfl) rfl rfl (Nat.le_of_ble_eq_true rfl) (Nat.le_of_ble_eq_true rfl) (fun u1 eu1 => ?_)
  subst eu1
  show NX g _ _ _ _ _ _ 9 788 23 [.ref h0] [.ref (u1 0), .ref h0] ((h0, .inr (3, [.ref (u0 0), .null, .int 0])) :: (Fz g u0 ++ Sz g u1))
  refine nx_putF (pc' := 26) (f := 1) (ci := 3) (C := RX3) (T := TX3) (N := 3) (ty0 := tyX3) (ws' := (h0, .inr (3, [.ref (u0 0), .ref (u1 0), .int 0])) :: (Fz g u0 ++ Sz g u1)) rfl dX3_init_23 rfl rfl rfl inGX3 tyX3_ok nmX3 (by decide) (tG 184 (by decide +kernel) rfl) rfl rfl (tyX3_ok 1 (by decide)) rfl rfl (Nat.le_of_ble_eq_true rfl) rfl ?_
  exact nx_end ⟨dX3_init_26, fun z => if z = 0 then h0 else if z < 7 then u0 (z - 1) else if z < 10 then u1 (z - 7) else 0, rfl, rfl⟩ (Nat.le_refl _) (Nat.le_refl _)
theorem liX2_17 : LkI RX2 17 mX0_init := ⟨⟨(tG 2 (by decide +kernel) rfl), (tG 24 (by decide +kernel) rfl), (tG 25 (by decide +kernel) rfl)⟩, Or.inr ⟨"PointLayers", tM 84 (by decide +kernel) rfl⟩, rfl, ⟨by decide, by decide, by decide⟩, by decide⟩
set_option maxRecDepth 100000 in
set_option maxHeartbeats 8000000 in
theorem mX2_init_met {d : Nat} : MetN mX2_init (d + 2) 49 4936 (.inr (2, [.null, .int 0, .int 0])) Hz := by
  refine met_of_NX rfl rfl rfl (by decide) (fun g h0 => ?_)
  show NX g (d + 2) mX2_init true 49 4936 _ 0 0 0 [.ref h0, Unk] [] [(h0, .inr (2, [.null, .int 0, .int 0]))]
  refine nx_aload_n (pc' := 1) dX2_init_0 rfl rfl rfl ?_
  refine nx_objInit (pc' := 4) dX2_init_1 rfl (by omega) (tG 81 (by decide +kernel) rfl) (tG 19 (by decide +kernel) rfl) (tG 20 (by decide +kernel) rfl) ?_
  refine nx_aload_n (pc' := 5) dX2_init_4 rfl rfl rfl ?_
  refine nx_bipush (pc' := 7) (x := 8) dX2_init_5 rfl (by decide) ?_
  refine nx_newF (pc' := 10) (N := 8) (k' := 1) (n' := 8) dX2_init_7 rfl (tG 82 (by decide +kernel) rfl) (by decide) (by decide) (by decide) rfl rfl (Nat.le_of_ble_eq_true rfl) (Nat.le_of_ble_eq_true rfl) (fun q0 => ?_)
  show NX g _ _ _ _ _ _ 1 8 10 [.ref h0, Unk] [.ref q0, .ref h0] ((h0, .inr (2, [.null, .int 0, .int 0])) :: ([(q0, rA g.2.2.2.1 8 (fun _ => none))]))
  refine nx_putF (pc' := 13) (f := 0) (ci := 2) (C := RX2) (T := TX2) (N := 3) (ty0 := tyX2) (ws' := (h0, .inr (2, [.ref q0, .int 0, .int 0])) :: ([(q0, rA g.2.2.2.1 8 (fun _ => none))])) rfl dX2_init_10 rfl rfl rfl inGX2 tyX2_ok nmX2 (by decide) (tG 85 (by decide +kernel) rfl) rfl rfl (tyX2_ok 0 (by decide)) rfl rfl (Nat.le_of_ble_eq_true rfl) rfl ?_
  refine nx_iconst (pc' := 14) (x := 0) dX2_init_13 rfl (by decide) ?_
  refine nx_istore_n (pc' := 15) dX2_init_14 rfl rfl (by decide) rfl (ls' := [.ref h0, .int 0]) rfl ?_
  refine nx_iload_n (pc' := 16) dX2_init_15 rfl rfl rfl ?_
  refine nx_bipush (pc' := 18) (x := 8) dX2_init_16 rfl (by decide) ?_
  refine nx_icmp_ge (pc' := 21) (tgt := 40) dX2_init_18 (by decide) rfl (fun hc => absurd hc (by decide)) (fun _ => ?_)
  refine nx_aload_n (pc' := 22) dX2_init_21 rfl rfl rfl ?_
  refine nx_get (pc' := 25) (f := 0) (ci := 2) (C := RX2) (T := TX2) (N := 3) (v := .ref q0) dX2_init_22 rfl rfl rfl inGX2 (by decide) (tG 85 (by decide +kernel) rfl) rfl ?_
  refine nx_iload_n (pc' := 26) dX2_init_25 rfl rfl rfl ?_
  refine nx_new (pc' := 29) (ci := 0) (fs := [.null, .null, .null, .null, .null, .int 0, .int 0, .int 0, .int 0, .int 0, .int 0]) (k' := 2) (n' := 19) (C := RX0) (T := TX0) (N := 11) (ty := tyX0) dX2_init_26 rfl rfl inGX0 tyX0_ok (tG 82 (by decide +kernel) rfl) (tG 22 (by decide +kernel) rfl) (tG 2 (by decide +kernel) rfl) (fun j hj => by rcases (show j = 0 ∨ j = 1 ∨ j = 2 ∨ j = 3 ∨ j = 4 ∨ j = 5 ∨ j = 6 ∨ j = 7 ∨ j = 8 ∨ j = 9 ∨ j = 10 by omega) with rfl | rfl | rfl | rfl | rfl | rfl | rfl | rfl | rfl | rfl | rfl <;> rfl) rfl rfl (Nat.le_of_ble_eq_true rfl) (Nat.le_of_ble_eq_true rfl) (fun q1 => ?_)
  show NX g _ _ _ _ _ _ 2 19 29 [.ref h0, .int 0] [.ref q1, .int 0, .ref q0] ((h0, .inr (2, [.ref q0, .int 0, .int 0])) :: ([(q0, rA g.2.2.2.1 8 (fun _ => none))] ++ [(q1, .inr (0, [.null, .null, .null, .null, .null, .int 0, .int 0, .int 0, .int 0, .int 0, .int 0]))]))
  refine nx_dup (pc' := 30) dX2_init_29 rfl rfl ?_
  refine nx_call (pc' := 33) (pre := (h0, .inr (2, [.ref q0, .int 0, .int 0])) :: ([(q0, rA g.2.2.2.1 8 (fun _ => none))])) (k' := 7) (n' := 624) (Wf := Fz) mX0_init_met dX2_init_30 rfl liX2_17 (Nat.le_of_ble_eq_true rfl) rfl rfl (Nat.le_of_ble_eq_true rfl) (Nat.le_of_ble_eq_true rfl) (fun u1 eu1 => ?_)
  subst eu1
  show NX g _ _ _ _ _ _ 7 624 33 [.ref h0, .int 0] [.ref (u1 0), .int 0, .ref q0] ((h0, .inr (2, [.ref q0, .int 0, .int 0])) :: ([(q0, rA g.2.2.2.1 8 (fun _ => none))] ++ Fz g u1))
  refine nx_aast (pc' := 34) (q0 := 1) (t0 := 2) (qk := 2) (ci := 0) (N := 8) (cA := g.2.2.2.1) (f := (fun _ => none)) (j := 0) (r := (RX0, TX0, 11)) (ws' := (h0, .inr (2, [.ref q0, .int 0, .int 0])) :: ([(q0, rA g.2.2.2.1 8 (va_up (fun _ => none) 0 (some (u1 0))))] ++ Fz g u1)) dX2_init_33 rfl rfl rfl rfl rfl (by unfold vp_in; decide) (by decide) rfl ?_
  refine nx_iinc (pc' := 37) (v := 1) dX2_init_34 rfl (by decide) rfl rfl (by decide) (ls' := [.ref h0, .int 1]) rfl ?_
  refine nx_goto (pc' := 15) dX2_init_37 (by decide) ?_
  refine nx_iload_n (pc' := 16) dX2_init_15 rfl rfl rfl ?_
  refine nx_bipush (pc' := 18) (x := 8) dX2_init_16 rfl (by decide) ?_
  refine nx_icmp_ge (pc' := 21) (tgt := 40) dX2_init_18 (by decide) rfl (fun hc => absurd hc (by decide)) (fun _ => ?_)
  refine nx_aload_n (pc' := 22) dX2_init_21 rfl rfl rfl ?_
  refine nx_get (pc' := 25) (f := 0) (ci := 2) (C := RX2) (T := TX2) (N := 3) (v := .ref q0) dX2_init_22 rfl rfl rfl inGX2 (by decide) (tG 85 (by decide +kernel) rfl) rfl ?_
  refine nx_iload_n (pc' := 26) dX2_init_25 rfl rfl rfl ?_
  refine nx_new (pc' := 29) (ci := 0) (fs := [.null, .null, .null, .null, .null, .int 0, .int 0, .int 0, .int 0, .int 0, .int 0]) (k' := 8) (n' := 635) (C := RX0) (T := TX0) (N := 11) (ty := tyX0) dX2_init_26 rfl rfl inGX0 tyX0_ok (tG 82 (by decide +kernel) rfl) (tG 22 (by decide +kernel) rfl) (tG 2 (by decide +kernel) rfl) (fun j hj => by rcases (show j = 0 ∨ j = 1 ∨ j = 2 ∨ j = 3 ∨ j = 4 ∨ j = 5 ∨ j = 6 ∨ j = 7 ∨ j = 8 ∨ j = 9 ∨ j = 10 by omega) with rfl | rfl | rfl | rfl | rfl | rfl | rfl | rfl | rfl | rfl | rfl <;> rfl) rfl rfl (Nat.le_of_ble_eq_true rfl) (Nat.le_of_ble_eq_true rfl) (fun q2 => ?_)
  show NX g _ _ _ _ _ _ 8 635 29 [.ref h0, .int 1] [.ref q2, .int 1, .ref q0] ((h0, .inr (2, [.ref q0, .int 0, .int 0])) :: ([(q0, rA g.2.2.2.1 8 (va_up (fun _ => none) 0 (some (u1 0))))] ++ Fz g u1 ++ [(q2, .inr (0, [.null, .null, .null, .null, .null, .int 0, .int 0, .int 0, .int 0, .int 0, .int 0]))]))
  refine nx_dup (pc' := 30) dX2_init_29 rfl rfl ?_
  refine nx_call (pc' := 33) (pre := (h0, .inr (2, [.ref q0, .int 0, .int 0])) :: ([(q0, rA g.2.2.2.1 8 (va_up (fun _ => none) 0 (some (u1 0))))] ++ Fz g u1)) (k' := 13) (n' := 1240) (Wf := Fz) mX0_init_met dX2_init_30 rfl liX2_17 (Nat.le_of_ble_eq_true rfl) rfl rfl (Nat.le_of_ble_eq_true rfl) (Nat.le_of_ble_eq_true rfl) (fun u2 eu2 => ?_)
  subst eu2
  show NX g _ _ _ _ _ _ 13 1240 33 [.ref h0, .int 1] [.ref (u2 0), .int 1, .ref q0] ((h0, .inr (2, [.ref q0, .int 0, .int 0])) :: ([(q0, rA g.2.2.2.1 8 (va_up (fun _ => none) 0 (some (u1 0))))] ++ Fz g u1 ++ Fz g u2))
  refine nx_aast (pc' := 34) (q0 := 1) (t0 := 2) (qk := 8) (ci := 0) (N := 8) (cA := g.2.2.2.1) (f := (va_up (fun _ => none) 0 (some (u1 0)))) (j := 1) (r := (RX0, TX0, 11)) (ws' := (h0, .inr (2, [.ref q0, .int 0, .int 0])) :: ([(q0, rA g.2.2.2.1 8 (va_up (va_up (fun _ => none) 0 (some (u1 0))) 1 (some (u2 0))))] ++ Fz g u1 ++ Fz g u2)) dX2_init_33 rfl rfl rfl rfl rfl (by unfold vp_in; decide) (by decide) rfl ?_
  refine nx_iinc (pc' := 37) (v := 2) dX2_init_34 rfl (by decide) rfl rfl (by decide) (ls' := [.ref h0, .int 2]) rfl ?_
  refine nx_goto (pc' := 15) dX2_init_37 (by decide) ?_
  refine nx_iload_n (pc' := 16) dX2_init_15 rfl rfl rfl ?_
  refine nx_bipush (pc' := 18) (x := 8) dX2_init_16 rfl (by decide) ?_
  refine nx_icmp_ge (pc' := 21) (tgt := 40) dX2_init_18 (by decide) rfl (fun hc => absurd hc (by decide)) (fun _ => ?_)
  refine nx_aload_n (pc' := 22) dX2_init_21 rfl rfl rfl ?_
  refine nx_get (pc' := 25) (f := 0) (ci := 2) (C := RX2) (T := TX2) (N := 3) (v := .ref q0) dX2_init_22 rfl rfl rfl inGX2 (by decide) (tG 85 (by decide +kernel) rfl) rfl ?_
  refine nx_iload_n (pc' := 26) dX2_init_25 rfl rfl rfl ?_
  refine nx_new (pc' := 29) (ci := 0) (fs := [.null, .null, .null, .null, .null, .int 0, .int 0, .int 0, .int 0, .int 0, .int 0]) (k' := 14) (n' := 1251) (C := RX0) (T := TX0) (N := 11) (ty := tyX0) dX2_init_26 rfl rfl inGX0 tyX0_ok (tG 82 (by decide +kernel) rfl) (tG 22 (by decide +kernel) rfl) (tG 2 (by decide +kernel) rfl) (fun j hj => by rcases (show j = 0 ∨ j = 1 ∨ j = 2 ∨ j = 3 ∨ j = 4 ∨ j = 5 ∨ j = 6 ∨ j = 7 ∨ j = 8 ∨ j = 9 ∨ j = 10 by omega) with rfl | rfl | rfl | rfl | rfl | rfl | rfl | rfl | rfl | rfl | rfl <;> rfl) rfl rfl (Nat.le_of_ble_eq_true rfl) (Nat.le_of_ble_eq_true rfl) (fun q3 => ?_)
  show NX g _ _ _ _ _ _ 14 1251 29 [.ref h0, .int 2] [.ref q3, .int 2, .ref q0] ((h0, .inr (2, [.ref q0, .int 0, .int 0])) :: ([(q0, rA g.2.2.2.1 8 (va_up (va_up (fun _ => none) 0 (some (u1 0))) 1 (some (u2 0))))] ++ Fz g u1 ++ Fz g u2 ++ [(q3, .inr (0, [.null, .null, .null, .null, .null, .int 0, .int 0, .int 0, .int 0, .int 0, .int 0]))]))
  refine nx_dup (pc' := 30) dX2_init_29 rfl rfl ?_
  refine nx_call (pc' := 33) (pre := (h0, .inr (2, [.ref q0, .int 0, .int 0])) :: ([(q0, rA g.2.2.2.1 8 (va_up (va_up (fun _ => none) 0 (some (u1 0))) 1 (some (u2 0))))] ++ Fz g u1 ++ Fz g u2)) (k' := 19) (n' := 1856) (Wf := Fz) mX0_init_met dX2_init_30 rfl liX2_17 (Nat.le_of_ble_eq_true rfl) rfl rfl (Nat.le_of_ble_eq_true rfl) (Nat.le_of_ble_eq_true rfl) (fun u3 eu3 => ?_)
  subst eu3
  show NX g _ _ _ _ _ _ 19 1856 33 [.ref h0, .int 2] [.ref (u3 0), .int 2, .ref q0] ((h0, .inr (2, [.ref q0, .int 0, .int 0])) :: ([(q0, rA g.2.2.2.1 8 (va_up (va_up (fun _ => none) 0 (some (u1 0))) 1 (some (u2 0))))] ++ Fz g u1 ++ Fz g u2 ++ Fz g u3))
  refine nx_aast (pc' := 34) (q0 := 1) (t0 := 2) (qk := 14) (ci := 0) (N := 8) (cA := g.2.2.2.1) (f := (va_up (va_up (fun _ => none) 0 (some (u1 0))) 1 (some (u2 0)))) (j := 2) (r := (RX0, TX0, 11)) (ws' := (h0, .inr (2, [.ref q0, .int 0, .int 0])) :: ([(q0, rA g.2.2.2.1 8 (va_up (va_up (va_up (fun _ => none) 0 (some (u1 0))) 1 (some (u2 0))) 2 (some (u3 0))))] ++ Fz g u1 ++ Fz g u2 ++ Fz g u3)) dX2_init_33 rfl rfl rfl rfl rfl (by unfold vp_in; decide) (by decide) rfl ?_
  refine nx_iinc (pc' := 37) (v := 3) dX2_init_34 rfl (by decide) rfl rfl (by decide) (ls' := [.ref h0, .int 3]) rfl ?_
  refine nx_goto (pc' := 15) dX2_init_37 (by decide) ?_
  refine nx_iload_n (pc' := 16) dX2_init_15 rfl rfl rfl ?_
  refine nx_bipush (pc' := 18) (x := 8) dX2_init_16 rfl (by decide) ?_
  refine nx_icmp_ge (pc' := 21) (tgt := 40) dX2_init_18 (by decide) rfl (fun hc => absurd hc (by decide)) (fun _ => ?_)
  refine nx_aload_n (pc' := 22) dX2_init_21 rfl rfl rfl ?_
  refine nx_get (pc' := 25) (f := 0) (ci := 2) (C := RX2) (T := TX2) (N := 3) (v := .ref q0) dX2_init_22 rfl rfl rfl inGX2 (by decide) (tG 85 (by decide +kernel) rfl) rfl ?_
  refine nx_iload_n (pc' := 26) dX2_init_25 rfl rfl rfl ?_
  refine nx_new (pc' := 29) (ci := 0) (fs := [.null, .null, .null, .null, .null, .int 0, .int 0, .int 0, .int 0, .int 0, .int 0]) (k' := 20) (n' := 1867) (C := RX0) (T := TX0) (N := 11) (ty := tyX0) dX2_init_26 rfl rfl inGX0 tyX0_ok (tG 82 (by decide +kernel) rfl) (tG 22 (by decide +kernel) rfl) (tG 2 (by decide +kernel) rfl) (fun j hj => by rcases (show j = 0 ∨ j = 1 ∨ j = 2 ∨ j = 3 ∨ j = 4 ∨ j = 5 ∨ j = 6 ∨ j = 7 ∨ j = 8 ∨ j = 9 ∨ j = 10 by omega) with rfl | rfl | rfl | rfl | rfl | rfl | rfl | rfl | rfl | rfl | rfl <;> rfl) rfl rfl (Nat.le_of_ble_eq_true rfl) (Nat.le_of_ble_eq_true rfl) (fun q4 => ?_)
  show NX g _ _ _ _ _ _ 20 1867 29 [.ref h0, .int 3] [.ref q4, .int 3, .ref q0] ((h0, .inr (2, [.ref q0, .int 0, .int 0])) :: ([(q0, rA g.2.2.2.1 8 (va_up (va_up (va_up (fun _ => none) 0 (some (u1 0))) 1 (some (u2 0))) 2 (some (u3 0))))] ++ Fz g u1 ++ Fz g u2 ++ Fz g u3 ++ [(q4, .inr (0, [.null, .null, .null, .null, .null, .int 0, .int 0, .int 0, .int 0, .int 0, .int 0]))]))
  refine nx_dup (pc' := 30) dX2_init_29 rfl rfl ?_
  refine nx_call (pc' := 33) (pre := (h0, .inr (2, [.ref q0, .int 0, .int 0])) :: ([(q0, rA g.2.2.2.1 8 (va_up (va_up (va_up (fun _ => none) 0 (some (u1 0))) 1 (some (u2 0))) 2 (some (u3 0))))] ++ Fz g u1 ++ Fz g u2 ++ Fz g u3)) (k' := 25) (n' := 2472) (Wf := Fz) mX0_init_met dX2_init_30 rfl liX2_17 (Nat.le_of_ble_eq_true rfl) rfl rfl (Nat.le_of_ble_eq_true rfl) (Nat.le_of_ble_eq_true rfl) (fun u4 eu4 => ?_)
  subst eu4
  show NX g _ _ _ _ _ _ 25 2472 33 [.ref h0, .int 3] [.ref (u4 0), .int 3, .ref q0] ((h0, .inr (2, [.ref q0, .int 0, .int 0])) :: ([(q0, rA g.2.2.2.1 8 (va_up (va_up (va_up (fun _ => none) 0 (some (u1 0))) 1 (some (u2 0))) 2 (some (u3 0))))] ++ Fz g u1 ++ Fz g u2 ++ Fz g u3 ++ Fz g u4))
  refine nx_aast (pc' := 34) (q0 := 1) (t0 := 2) (qk := 20) (ci := 0) (N := 8) (cA := g.2.2.2.1) (f := (va_up (va_up (va_up (fun _ => none) 0 (some (u1 0))) 1 (some (u2 0))) 2 (some (u3 0)))) (j := 3) (r := (RX0, TX0, 11)) (ws' := (h0, .inr (2, [.ref q0, .int 0, .int 0])) :: ([(q0, rA g.2.2.2.1 8 (va_up (va_up (va_up (va_up (fun _ => none) 0 (some (u1 0))) 1 (some (u2 0))) 2 (some (u3 0))) 3 (some (u4 0))))] ++ Fz g u1 ++ Fz g u2 ++ Fz g u3 ++ Fz g u4)) dX2_init_33 rfl rfl rfl rfl rfl (by unfold vp_in; decide) (by decide) rfl ?_
  refine nx_iinc (pc' := 37) (v := 4) dX2_init_34 rfl (by decide) rfl rfl (by decide) (ls' := [.ref h0, .int 4]) rfl ?_
  refine nx_goto (pc' := 15) dX2_init_37 (by decide) ?_
  refine nx_iload_n (pc' := 16) dX2_init_15 rfl rfl rfl ?_
  refine nx_bipush (pc' := 18) (x := 8) dX2_init_16 rfl (by decide) ?_
  refine nx_icmp_ge (pc' := 21) (tgt := 40) dX2_init_18 (by decide) rfl (fun hc => absurd hc (by decide)) (fun _ => ?_)
  refine nx_aload_n (pc' := 22) dX2_init_21 rfl rfl rfl ?_
  refine nx_get (pc' := 25) (f := 0) (ci := 2) (C := RX2) (T := TX2) (N := 3) (v := .ref q0) dX2_init_22 rfl rfl rfl inGX2 (by decide) (tG 85 (by decide +kernel) rfl) rfl ?_
  refine nx_iload_n (pc' := 26) dX2_init_25 rfl rfl rfl ?_
  refine nx_new (pc' := 29) (ci := 0) (fs := [.null, .null, .null, .null, .null, .int 0, .int 0, .int 0, .int 0, .int 0, .int 0]) (k' := 26) (n' := 2483) (C := RX0) (T := TX0) (N := 11) (ty := tyX0) dX2_init_26 rfl rfl inGX0 tyX0_ok (tG 82 (by decide +kernel) rfl) (tG 22 (by decide +kernel) rfl) (tG 2 (by decide +kernel) rfl) (fun j hj => by rcases (show j = 0 ∨ j = 1 ∨ j = 2 ∨ j = 3 ∨ j = 4 ∨ j = 5 ∨ j = 6 ∨ j = 7 ∨ j = 8 ∨ j = 9 ∨ j = 10 by omega) with rfl | rfl | rfl | rfl | rfl | rfl | rfl | rfl | rfl | rfl | rfl <;> rfl) rfl rfl (Nat.le_of_ble_eq_true rfl) (Nat.le_of_ble_eq_true rfl) (fun q5 => ?_)
  show NX g _ _ _ _ _ _ 26 2483 29 [.ref h0, .int 4] [.ref q5, .int 4, .ref q0] ((h0, .inr (2, [.ref q0, .int 0, .int 0])) :: ([(q0, rA g.2.2.2.1 8 (va_up (va_up (va_up (va_up (fun _ => none) 0 (some (u1 0))) 1 (some (u2 0))) 2 (some (u3 0))) 3 (some (u4 0))))] ++ Fz g u1 ++ Fz g u2 ++ Fz g u3 ++ Fz g u4 ++ [(q5, .inr (0, [.null, .null, .null, .null, .null, .int 0, .int 0, .int 0, .int 0, .int 0, .int 0]))]))
  refine nx_dup (pc' := 30) dX2_init_29 rfl rfl ?_
  refine nx_call (pc' := 33) (pre := (h0, .inr (2, [.ref q0, .int 0, .int 0])) :: ([(q0, rA g.2.2.2.1 8 (va_up (va_up (va_up (va_up (fun _ => none) 0 (some (u1 0))) 1 (some (u2 0))) 2 (some (u3 0))) 3 (some (u4 0))))] ++ Fz g u1 ++ Fz g u2 ++ Fz g u3 ++ Fz g u4)) (k' := 31) (n' := 3088) (Wf := Fz) mX0_init_met dX2_init_30 rfl liX2_17 (Nat.le_of_ble_eq_true rfl) rfl rfl (Nat.le_of_ble_eq_true rfl) (Nat.le_of_ble_eq_true rfl) (fun u5 eu5 => ?_)
  subst eu5
  show NX g _ _ _ _ _ _ 31 3088 33 [.ref h0, .int 4] [.ref (u5 0), .int 4, .ref q0] ((h0, .inr (2, [.ref q0, .int 0, .int 0])) :: ([(q0, rA g.2.2.2.1 8 (va_up (va_up (va_up (va_up (fun _ => none) 0 (some (u1 0))) 1 (some (u2 0))) 2 (some (u3 0))) 3 (some (u4 0))))] ++ Fz g u1 ++ Fz g u2 ++ Fz g u3 ++ Fz g u4 ++ Fz g u5))
  refine nx_aast (pc' := 34) (q0 := 1) (t0 := 2) (qk := 26) (ci := 0) (N := 8) (cA := g.2.2.2.1) (f := (va_up (va_up (va_up (va_up (fun _ => none) 0 (some (u1 0))) 1 (some (u2 0))) 2 (some (u3 0))) 3 (some (u4 0)))) (j := 4) (r := (RX0, TX0, 11)) (ws' := (h0, .inr (2, [.ref q0, .int 0, .int 0])) :: ([(q0, rA g.2.2.2.1 8 (va_up (va_up (va_up (va_up (va_up (fun _ => none) 0 (some (u1 0))) 1 (some (u2 0))) 2 (some (u3 0))) 3 (some (u4 0))) 4 (some (u5 0))))] ++ Fz g u1 ++ Fz g u2 ++ Fz g u3 ++ Fz g u4 ++ Fz g u5)) dX2_init_33 rfl rfl rfl rfl rfl (by unfold vp_in; decide) (by decide) rfl ?_
  refine nx_iinc (pc' := 37) (v := 5) dX2_init_34 rfl (by decide) rfl rfl (by decide) (ls' := [.ref h0, .int 5]) rfl ?_
  refine nx_goto (pc' := 15) dX2_init_37 (by decide) ?_
  refine nx_iload_n (pc' := 16) dX2_init_15 rfl rfl rfl ?_
  refine nx_bipush (pc' := 18) (x := 8) dX2_init_16 rfl (by decide) ?_
  refine nx_icmp_ge (pc' := 21) (tgt := 40) dX2_init_18 (by decide) rfl (fun hc => absurd hc (by decide)) (fun _ => ?_)
  refine nx_aload_n (pc' := 22) dX2_init_21 rfl rfl rfl ?_
  refine nx_get (pc' := 25) (f := 0) (ci := 2) (C := RX2) (T := TX2) (N := 3) (v := .ref q0) dX2_init_22 rfl rfl rfl inGX2 (by decide) (tG 85 (by decide +kernel) rfl) rfl ?_
  refine nx_iload_n (pc' := 26) dX2_init_25 rfl rfl rfl ?_
  refine nx_new (pc' := 29) (ci := 0) (fs := [.null, .null, .null, .null, .null, .int 0, .int 0, .int 0, .int 0, .int 0, .int 0]) (k' := 32) (n' := 3099) (C := RX0) (T := TX0) (N := 11) (ty := tyX0) dX2_init_26 rfl rfl inGX0 tyX0_ok (tG 82 (by decide +kernel) rfl) (tG 22 (by decide +kernel) rfl) (tG 2 (by decide +kernel) rfl) (fun j hj => by rcases (show j = 0 ∨ j = 1 ∨ j = 2 ∨ j = 3 ∨ j = 4 ∨ j = 5 ∨ j = 6 ∨ j = 7 ∨ j = 8 ∨ j = 9 ∨ j = 10 by omega) with rfl | rfl | rfl | rfl | rfl | rfl | rfl | rfl | rfl | rfl | rfl <;> rfl) rfl rfl (Nat.le_of_ble_eq_true rfl) (Nat.le_of_ble_eq_true rfl) (fun q6 => ?_)
  show NX g _ _ _ _ _ _ 32 3099 29 [.ref h0, .int 5] [.ref q6, .int 5, .ref q0] ((h0, .inr (2, [.ref q0, .int 0, .int 0])) :: ([(q0, rA g.2.2.2.1 8 (va_up (va_up (va_up (va_up (va_up (fun _ => none) 0 (some (u1 0))) 1 (some (u2 0))) 2 (some (u3 0))) 3 (some (u4 0))) 4 (some (u5 0))))] ++ Fz g u1 ++ Fz g u2 ++ Fz g u3 ++ Fz g u4 ++ Fz g u5 ++ [(q6, .inr (0, [.null, .null, .null, .null, .null, .int 0, .int 0, .int 0, .int 0, .int 0, .int 0]))]))
  refine nx_dup (pc' := 30) dX2_init_29 rfl rfl ?_
  refine nx_call (pc' := 33) (pre := (h0, .inr (2, [.ref q0, .int 0, .int 0])) :: ([(q0, rA g.2.2.2.1 8 (va_up (va_up (va_up (va_up (va_up (fun _ => none) 0 (some (u1 0))) 1 (some (u2 0))) 2 (some (u3 0))) 3 (some (u4 0))) 4 (some (u5 0))))] ++ Fz g u1 ++ Fz g u2 ++ Fz g u3 ++ Fz g u4 ++ Fz g u5)) (k' := 37) (n' := 3704) (Wf := Fz) mX0_init_met dX2_init_30 rfl liX2_17 (Nat.le_of_ble_eq_true rfl) rfl rfl (Nat.le_of_ble_eq_true rfl) (Nat.le_of_ble_eq_true rfl) (fun u6 eu6 => ?_)
  subst eu6
  show NX g _ _ _ _ _ _ 37 3704 33 [.ref h0, .int 5] [.ref (u6 0), .int 5, .ref q0] ((h0, .inr (2, [.ref q0, .int 0, .int 0])) :: ([(q0, rA g.2.2.2.1 8 (va_up (va_up (va_up (va_up (va_up (fun _ => none) 0 (some (u1 0))) 1 (some (u2 0))) 2 (some (u3 0))) 3 (some (u4 0))) 4 (some (u5 0))))] ++ Fz g u1 ++ Fz g u2 ++ Fz g u3 ++ Fz g u4 ++ Fz g u5 ++ Fz g u6))
  refine nx_aast (pc' := 34) (q0 := 1) (t0 := 2) (qk := 32) (ci := 0) (N := 8) (cA := g.2.2.2.1) (f := (va_up (va_up (va_up (va_up (va_up (fun _ => none) 0 (some (u1 0))) 1 (some (u2 0))) 2 (some (u3 0))) 3 (some (u4 0))) 4 (some (u5 0)))) (j := 5) (r := (RX0, TX0, 11)) (ws' := (h0, .inr (2, [.ref q0, .int 0, .int 0])) :: ([(q0, rA g.2.2.2.1 8 (va_up (va_up (va_up (va_up (va_up (va_up (fun _ => none) 0 (some (u1 0))) 1 (some (u2 0))) 2 (some (u3 0))) 3 (some (u4 0))) 4 (some (u5 0))) 5 (some (u6 0))))] ++ Fz g u1 ++ Fz g u2 ++ Fz g u3 ++ Fz g u4 ++ Fz g u5 ++ Fz g u6)) dX2_init_33 rfl rfl rfl rfl rfl (by unfold vp_in; decide) (by decide) rfl ?_
  refine nx_iinc (pc' := 37) (v := 6) dX2_init_34 rfl (by decide) rfl rfl (by decide) (ls' := [.ref h0, .int 6]) rfl ?_
  refine nx_goto (pc' := 15) dX2_init_37 (by decide) ?_
  refine nx_iload_n (pc' := 16) dX2_init_15 rfl rfl rfl ?_
  refine nx_bipush (pc' := 18) (x := 8) dX2_init_16 rfl (by decide) ?_
  refine nx_icmp_ge (pc' := 21) (tgt := 40) dX2_init_18 (by decide) rfl (fun hc => absurd hc (by decide)) (fun _ => ?_)
  refine nx_aload_n (pc' := 22) dX2_init_21 rfl rfl rfl ?_
  refine nx_get (pc' := 25) (f := 0) (ci := 2) (C := RX2) (T := TX2) (N := 3) (v := .ref q0) dX2_init_22 rfl rfl rfl inGX2 (by decide) (tG 85 (by decide +kernel) rfl) rfl ?_
  refine nx_iload_n (pc' := 26) dX2_init_25 rfl rfl rfl ?_
  refine nx_new (pc' := 29) (ci := 0) (fs := [.null, .null, .null, .null, .null, .int 0, .int 0, .int 0, .int 0, .int 0, .int 0]) (k' := 38) (n' := 3715) (C := RX0) (T := TX0) (N := 11) (ty := tyX0) dX2_init_26 rfl rfl inGX0 tyX0_ok (tG 82 (by decide +kernel) rfl) (tG 22 (by decide +kernel) rfl) (tG 2 (by decide +kernel) rfl) (fun j hj => by rcases (show j = 0 ∨ j = 1 ∨ j = 2 ∨ j = 3 ∨ j = 4 ∨ j = 5 ∨ j = 6 ∨ j = 7 ∨ j = 8 ∨ j = 9 ∨ j = 10 by omega) with rfl | rfl | rfl | rfl | rfl | rfl | rfl | rfl | rfl | rfl | rfl <;> rfl) rfl rfl (Nat.le_of_ble_eq_true rfl) (Nat.le_of_ble_eq_true rfl) (fun q7 => ?_)
  show NX g _ _ _ _ _ _ 38 3715 29 [.ref h0, .int 6] [.ref q7, .int 6, .ref q0] ((h0, .inr (2, [.ref q0, .int 0, .int 0])) :: ([(q0, rA g.2.2.2.1 8 (va_up (va_up (va_up (va_up (va_up (va_up (fun _ => none) 0 (some (u1 0))) 1 (some (u2 0))) 2 (some (u3 0))) 3 (some (u4 0))) 4 (some (u5 0))) 5 (some (u6 0))))] ++ Fz g u1 ++ Fz g u2 ++ Fz g u3 ++ Fz g u4 ++ Fz g u5 ++ Fz g u6 ++ [(q7, .inr (0, [.null, .null, .null, .null, .null, .int 0, .int 0, .int 0, .int 0, .int 0, .int 0]))]))
  refine nx_dup (pc' := 30) dX2_init_29 rfl rfl ?_
  refine nx_call (pc' := 33) (pre := (h0, .inr (2, [.ref q0, .int 0, .int 0])) :: ([(q0, rA g.2.2.2.1 8 (va_up (va_up (va_up (va_up (va_up (va_up (fun _ => none) 0 (some (u1 0))) 1 (some (u2 0))) 2 (some (u3 0))) 3 (some (u4 0))) 4 (some (u5 0))) 5 (some (u6 0))))] ++ Fz g u1 ++ Fz g u2 ++ Fz g u3 ++ Fz g u4 ++ Fz g u5 ++ Fz g u6)) (k' := 43) (n' := 4320) (Wf := Fz) mX0_init_met dX2_init_30 rfl liX2_17 (Nat.le_of_ble_eq_true rfl) rfl rfl (Nat.le_of_ble_eq_true rfl) (Nat.le_of_ble_eq_true rfl) (fun u7 eu7 => ?_)
  subst eu7
  show NX g _ _ _ _ _ _ 43 4320 33 [.ref h0, .int 6] [.ref (u7 0), .int 6, .ref q0] ((h0, .inr (2, [.ref q0, .int 0, .int 0])) :: ([(q0, rA g.2.2.2.1 8 (va_up (va_up (va_up (va_up (va_up (va_up (fun _ => none) 0 (some (u1 0))) 1 (some (u2 0))) 2 (some (u3 0))) 3 (some (u4 0))) 4 (some (u5 0))) 5 (some (u6 0))))] ++ Fz g u1 ++ Fz g u2 ++ Fz g u3 ++ Fz g u4 ++ Fz g u5 ++ Fz g u6 ++ Fz g u7))
  refine nx_aast (pc' := 34) (q0 := 1) (t0 := 2) (qk := 38) (ci := 0) (N := 8) (cA := g.2.2.2.1) (f := (va_up (va_up (va_up (va_up (va_up (va_up (fun _ => none) 0 (some (u1 0))) 1 (some (u2 0))) 2 (some (u3 0))) 3 (some (u4 0))) 4 (some (u5 0))) 5 (some (u6 0)))) (j := 6) (r := (RX0, TX0, 11)) (ws' := (h0, .inr (2, [.ref q0, .int 0, .int 0])) :: ([(q0, rA g.2.2.2.1 8 (va_up (va_up (va_up (va_up (va_up (va_up (va_up (fun _ => none) 0 (some (u1 0))) 1 (some (u2 0))) 2 (some (u3 0))) 3 (some (u4 0))) 4 (some (u5 0))) 5 (some (u6 0))) 6 (some (u7 0))))] ++ Fz g u1 ++ Fz g u2 ++ Fz g u3 ++ Fz g u4 ++ Fz g u5 ++ Fz g u6 ++ Fz g u7)) dX2_init_33 rfl rfl rfl rfl rfl (by unfold vp_in; decide) (by decide) rfl ?_
  refine nx_iinc (pc' := 37) (v := 7) dX2_init_34 rfl (by decide) rfl rfl (by decide) (ls' := [.ref h0, .int 7]) rfl ?_
  refine nx_goto (pc' := 15) dX2_init_37 (by decide) ?_
  refine nx_iload_n (pc' := 16) dX2_init_15 rfl rfl rfl ?_
  refine nx_bipush (pc' := 18) (x := 8) dX2_init_16 rfl (by decide) ?_
  refine nx_icmp_ge (pc' := 21) (tgt := 40) dX2_init_18 (by decide) rfl (fun hc => absurd hc (by decide)) (fun _ => ?_)
  refine nx_aload_n (pc' := 22) dX2_init_21 rfl rfl rfl ?_
  refine nx_get (pc' := 25) (f := 0) (ci := 2) (C := RX2) (T := TX2) (N := 3) (v := .ref q0) dX2_init_22 rfl rfl rfl inGX2 (by decide) (tG 85 (by decide +kernel) rfl) rfl ?_
  refine nx_iload_n (pc' := 26) dX2_init_25 rfl rfl rfl ?_
  refine nx_new (pc' := 29) (ci := 0) (fs := [.null, .null, .null, .null, .null, .int 0, .int 0, .int 0, .int 0, .int 0, .int 0]) (k' := 44) (n' := 4331) (C := RX0) (T := TX0) (N := 11) (ty := tyX0) dX2_init_26 rfl rfl inGX0 tyX0_ok (tG 82 (by decide +kernel) rfl) (tG 22 (by decide +kernel) rfl) (tG 2 (by decide +kernel) rfl) (fun j hj => by rcases (show j = 0 ∨ j = 1 ∨ j = 2 ∨ j = 3 ∨ j = 4 ∨ j = 5 ∨ j = 6 ∨ j = 7 ∨ j = 8 ∨ j = 9 ∨ j = 10 by omega) with rfl | rfl | rfl | rfl | rfl | rfl | rfl | rfl | rfl | rfl | rfl <;> rfl) rfl rfl (Nat.le_of_ble_eq_true rfl) (Nat.le_of_ble_eq_true rfl) (fun q8 => ?_)
  show NX g _ _ _ _ _ _ 44 4331 29 [.ref h0, .int 7] [.ref q8, .int 7, .ref q0] ((h0, .inr (2, [.ref q0, .int 0, .int 0])) :: ([(q0, rA g.2.2.2.1 8 (va_up (va_up (va_up (va_up (va_up (va_up (va_up (fun _ => none) 0 (some (u1 0))) 1 (some (u2 0))) 2 (some (u3 0))) 3 (some (u4 0))) 4 (some (u5 0))) 5 (some (u6 0))) 6 (some (u7 0))))] ++ Fz g u1 ++ Fz g u2 ++ Fz g u3 ++ Fz g u4 ++ Fz g u5 ++ Fz g u6 ++ Fz g u7 ++ [(q8, .inr (0, [.null, .null, .null, .null, .null, .int 0, .int 0, .int 0, .int 0, .int 0, .int 0]))]))
  refine nx_dup (pc' := 30) dX2_init_29 rfl rfl ?_
  refine nx_call (pc' := 33) (pre := (h0, .inr (2, [.ref q0, .int 0, .int 0])) :: ([(q0, rA g.2.2.2.1 8 (va_up (va_up (va_up (va_up (va_up (va_up (va_up (fun _ => none) 0 (some (u1 0))) 1 (some (u2 0))) 2 (some (u3 0))) 3 (some (u4 0))) 4 (some (u5 0))) 5 (some (u6 0))) 6 (some (u7 0))))] ++ Fz g u1 ++ Fz g u2 ++ Fz g u3 ++ Fz g u4 ++ Fz g u5 ++ Fz g u6 ++ Fz g u7)) (k' := 49) (n' := 4936) (Wf := Fz) mX0_init_met dX2_init_30 rfl liX2_17 (Nat.le_of_ble_eq_true rfl) rfl rfl (Nat.le_of_ble_eq_true rfl) (Nat.le_of_ble_eq_true rfl) (fun u8 eu8 => ?_)
  subst eu8
  show NX g _ _ _ _ _ _ 49 4936 33 [.ref h0, .int 7] [.ref (u8 0), .int 7, .ref q0] ((h0, .inr (2, [.ref q0, .int 0, .int 0])) :: ([(q0, rA g.2.2.2.1 8 (va_up (va_up (va_up (va_up (va_up (va_up (va_up (fun _ => none) 0 (some (u1 0))) 1 (some (u2 0))) 2 (some (u3 0))) 3 (some (u4 0))) 4 (some (u5 0))) 5 (some (u6 0))) 6 (some (u7 0))))] ++ Fz g u1 ++ Fz g u2 ++ Fz g u3 ++ Fz g u4 ++ Fz g u5 ++ Fz g u6 ++ Fz g u7 ++ Fz g u8))
  refine nx_aast (pc' := 34) (q0 := 1) (t0 := 2) (qk := 44) (ci := 0) (N := 8) (cA := g.2.2.2.1) (f := (va_up (va_up (va_up (va_up (va_up (va_up (va_up (fun _ => none) 0 (some (u1 0))) 1 (some (u2 0))) 2 (some (u3 0))) 3 (some (u4 0))) 4 (some (u5 0))) 5 (some (u6 0))) 6 (some (u7 0)))) (j := 7) (r := (RX0, TX0, 11)) (ws' := (h0, .inr (2, [.ref q0, .int 0, .int 0])) :: ([(q0, rA g.2.2.2.1 8 (va_up (va_up (va_up (va_up (va_up (va_up (va_up (va_up (fun _ => none) 0 (some (u1 0))) 1 (some (u2 0))) 2 (some (u3 0))) 3 (some (u4 0))) 4 (some (u5 0))) 5 (some (u6 0))) 6 (some (u7 0))) 7 (some (u8 0))))] ++ Fz g u1 ++ Fz g u2 ++ Fz g u3 ++ Fz g u4 ++ Fz g u5 ++ Fz g u6 ++ Fz g u7 ++ Fz g u8)) dX2_init_33 rfl rfl rfl rfl rfl (by unfold vp_in; decide) (by decide) rfl ?_
  refine nx_iinc (pc' := 37) (v := 8) dX2_init_34 rfl (by decide) rfl rfl (by decide) (ls' := [.ref h0, .int 8]) rfl ?_
  refine nx_goto (pc' := 15) dX2_init_37 (by decide) ?_
  refine nx_iload_n (pc' := 16) dX2_init_15 rfl rfl rfl ?_
  refine nx_bipush (pc' := 18) (x := 8) dX2_init_16 rfl (by decide) ?_
  refine nx_icmp_ge (pc' := 21) (tgt := 40) dX2_init_18 (by decide) rfl (fun _ => ?_) (fun hc => absurd (by decide) hc)
  refine nx_recell (q0 := 1) (N := 8) (cA := g.2.2.2.1) (f := (va_up (va_up (va_up (va_up (va_up (va_up (va_up (va_up (fun _ => none) 0 (some (u1 0))) 1 (some (u2 0))) 2 (some (u3 0))) 3 (some (u4 0))) 4 (some (u5 0))) 5 (some (u6 0))) 6 (some (u7 0))) 7 (some (u8 0)))) (f' := (fun z => some ((fun z => if z = 0 then h0 else if z = 1 then q0 else if z < 8 then u1 (z - 2) else if z < 14 then u2 (z - 8) else if z < 20 then u3 (z - 14) else if z < 26 then u4 (z - 20) else if z < 32 then u5 (z - 26) else if z < 38 then u6 (z - 32) else if z < 44 then u7 (z - 38) else if z < 50 then u8 (z - 44) else 0) (2 + 6 * z)))) (ws' := (h0, .inr (2, [.ref q0, .int 0, .int 0])) :: ([(q0, rA g.2.2.2.1 8 (fun z => some ((fun z => if z = 0 then h0 else if z = 1 then q0 else if z < 8 then u1 (z - 2) else if z < 14 then u2 (z - 8) else if z < 20 then u3 (z - 14) else if z < 26 then u4 (z - 20) else if z < 32 then u5 (z - 26) else if z < 38 then u6 (z - 32) else if z < 44 then u7 (z - 38) else if z < 50 then u8 (z - 44) else 0) (2 + 6 * z))))] ++ Fz g u1 ++ Fz g u2 ++ Fz g u3 ++ Fz g u4 ++ Fz g u5 ++ Fz g u6 ++ Fz g u7 ++ Fz g u8)) rfl (fun j hj => by rcases (show j = 0 ∨ j = 1 ∨ j = 2 ∨ j = 3 ∨ j = 4 ∨ j = 5 ∨ j = 6 ∨ j = 7 by omega) with rfl | rfl | rfl | rfl | rfl | rfl | rfl | rfl <;> rfl) rfl ?_
  exact nx_end ⟨dX2_init_40, fun z => if z = 0 then h0 else if z = 1 then q0 else if z < 8 then u1 (z - 2) else if z < 14 then u2 (z - 8) else if z < 20 then u3 (z - 14) else if z < 26 then u4 (z - 20) else if z < 32 then u5 (z - 26) else if z < 38 then u6 (z - 32) else if z < 44 then u7 (z - 38) else if z < 50 then u8 (z - 44) else 0, rfl, rfl⟩ (Nat.le_refl _) (Nat.le_refl _)
set_option maxRecDepth 100000 in
set_option maxHeartbeats 8000000 in
theorem mX8_init_met {d : Nat} : MetN mX8_init (d + 1) 8 8563 (.inr (8, [.null, .null, .int 0, .int 0, .null, .null, .int 0, .long 0, .long 0, .null, .int 0, .null, .int 0, .int 0, .int 0, .null, .int 0, .int 0, .null, .long 0])) Mz := by
  refine met_of_NX rfl rfl rfl (by decide) (fun g h0 => ?_)
  show NX g (d + 1) mX8_init true 8 8563 _ 0 0 0 [.ref h0] [] [(h0, .inr (8, [.null, .null, .int 0, .int 0, .null, .null, .int 0, .long 0, .long 0, .null, .int 0, .null, .int 0, .int 0, .int 0, .null, .int 0, .int 0, .null, .long 0]))]
  refine nx_aload_n (pc' := 1) dX8_init_0 rfl rfl rfl ?_
  refine nx_objInit (pc' := 4) dX8_init_1 rfl (by omega) (tG 698 (by decide +kernel) rfl) (tG 19 (by decide +kernel) rfl) (tG 20 (by decide +kernel) rfl) ?_
  refine nx_aload_n (pc' := 5) dX8_init_4 rfl rfl rfl ?_
  refine nx_sipush (pc' := 8) (x := 7458) dX8_init_5 rfl (by decide) ?_
  refine nx_newi (pc' := 10) (N := 7458) (k' := 1) (n' := 7458) dX8_init_8 rfl (tG 75 (by decide +kernel) rfl) (by decide) (by decide) (by decide) rfl rfl (Nat.le_of_ble_eq_true rfl) (Nat.le_of_ble_eq_true rfl) (fun q0 => ?_)
  show NX g _ _ _ _ _ _ 1 7458 10 [.ref h0] [.ref q0, .ref h0] ((h0, .inr (8, [.null, .null, .int 0, .int 0, .null, .null, .int 0, .long 0, .long 0, .null, .int 0, .null, .int 0, .int 0, .int 0, .null, .int 0, .int 0, .null, .long 0])) :: ([(q0, zI g 7458)]))
  refine nx_putF (pc' := 13) (f := 0) (ci := 8) (C := RX8) (T := TX8) (N := 20) (ty0 := tyX8) (ws' := (h0, .inr (8, [.ref q0, .null, .int 0, .int 0, .null, .null, .int 0, .long 0, .long 0, .null, .int 0, .null, .int 0, .int 0, .int 0, .null, .int 0, .int 0, .null, .long 0])) :: ([(q0, zI g 7458)])) rfl dX8_init_10 rfl rfl rfl inGX8 tyX8_ok nmX8 (by decide) (tG 699 (by decide +kernel) rfl) rfl rfl (tyX8_ok 0 (by decide)) rfl rfl (Nat.le_of_ble_eq_true rfl) rfl ?_
  refine nx_aload_n (pc' := 14) dX8_init_13 rfl rfl rfl ?_
  refine nx_sipush (pc' := 17) (x := 728) dX8_init_14 rfl (by decide) ?_
  refine nx_newi (pc' := 19) (N := 728) (k' := 2) (n' := 8186) dX8_init_17 rfl (tG 75 (by decide +kernel) rfl) (by decide) (by decide) (by decide) rfl rfl (Nat.le_of_ble_eq_true rfl) (Nat.le_of_ble_eq_true rfl) (fun q1 => ?_)
  show NX g _ _ _ _ _ _ 2 8186 19 [.ref h0] [.ref q1, .ref h0] ((h0, .inr (8, [.ref q0, .null, .int 0, .int 0, .null, .null, .int 0, .long 0, .long 0, .null, .int 0, .null, .int 0, .int 0, .int 0, .null, .int 0, .int 0, .null, .long 0])) :: ([(q0, zI g 7458)] ++ [(q1, zI g 728)]))
  refine nx_putF (pc' := 22) (f := 1) (ci := 8) (C := RX8) (T := TX8) (N := 20) (ty0 := tyX8) (ws' := (h0, .inr (8, [.ref q0, .ref q1, .int 0, .int 0, .null, .null, .int 0, .long 0, .long 0, .null, .int 0, .null, .int 0, .int 0, .int 0, .null, .int 0, .int 0, .null, .long 0])) :: ([(q0, zI g 7458)] ++ [(q1, zI g 728)])) rfl dX8_init_19 rfl rfl rfl inGX8 tyX8_ok nmX8 (by decide) (tG 700 (by decide +kernel) rfl) rfl rfl (tyX8_ok 1 (by decide)) rfl rfl (Nat.le_of_ble_eq_true rfl) rfl ?_
  refine nx_aload_n (pc' := 23) dX8_init_22 rfl rfl rfl ?_
  refine nx_iconst (pc' := 24) (x := 2) dX8_init_23 rfl (by decide) ?_
  refine nx_newz (pc' := 26) (N := 2) (k' := 3) (n' := 8188) dX8_init_24 rfl (tG 760 (by decide +kernel) rfl) (by decide) (by decide) (by decide) rfl rfl (Nat.le_of_ble_eq_true rfl) (Nat.le_of_ble_eq_true rfl) (fun q2 => ?_)
  show NX g _ _ _ _ _ _ 3 8188 26 [.ref h0] [.ref q2, .ref h0] ((h0, .inr (8, [.ref q0, .ref q1, .int 0, .int 0, .null, .null, .int 0, .long 0, .long 0, .null, .int 0, .null, .int 0, .int 0, .int 0, .null, .int 0, .int 0, .null, .long 0])) :: ([(q0, zI g 7458)] ++ [(q1, zI g 728)] ++ [(q2, zZ g 2)]))
  refine nx_putF (pc' := 29) (f := 4) (ci := 8) (C := RX8) (T := TX8) (N := 20) (ty0 := tyX8) (ws' := (h0, .inr (8, [.ref q0, .ref q1, .int 0, .int 0, .ref q2, .null, .int 0, .long 0, .long 0, .null, .int 0, .null, .int 0, .int 0, .int 0, .null, .int 0, .int 0, .null, .long 0])) :: ([(q0, zI g 7458)] ++ [(q1, zI g 728)] ++ [(q2, zZ g 2)])) rfl dX8_init_26 rfl rfl rfl inGX8 tyX8_ok nmX8 (by decide) (tG 703 (by decide +kernel) rfl) rfl rfl (tyX8_ok 4 (by decide)) rfl rfl (Nat.le_of_ble_eq_true rfl) rfl ?_
  refine nx_aload_n (pc' := 30) dX8_init_29 rfl rfl rfl ?_
  refine nx_bipush (pc' := 32) (x := 120) dX8_init_30 rfl (by decide) ?_
  refine nx_newi (pc' := 34) (N := 120) (k' := 4) (n' := 8308) dX8_init_32 rfl (tG 75 (by decide +kernel) rfl) (by decide) (by decide) (by decide) rfl rfl (Nat.le_of_ble_eq_true rfl) (Nat.le_of_ble_eq_true rfl) (fun q3 => ?_)
  show NX g _ _ _ _ _ _ 4 8308 34 [.ref h0] [.ref q3, .ref h0] ((h0, .inr (8, [.ref q0, .ref q1, .int 0, .int 0, .ref q2, .null, .int 0, .long 0, .long 0, .null, .int 0, .null, .int 0, .int 0, .int 0, .null, .int 0, .int 0, .null, .long 0])) :: ([(q0, zI g 7458)] ++ [(q1, zI g 728)] ++ [(q2, zZ g 2)] ++ [(q3, zI g 120)]))
  refine nx_putF (pc' := 37) (f := 5) (ci := 8) (C := RX8) (T := TX8) (N := 20) (ty0 := tyX8) (ws' := (h0, .inr (8, [.ref q0, .ref q1, .int 0, .int 0, .ref q2, .ref q3, .int 0, .long 0, .long 0, .null, .int 0, .null, .int 0, .int 0, .int 0, .null, .int 0, .int 0, .null, .long 0])) :: ([(q0, zI g 7458)] ++ [(q1, zI g 728)] ++ [(q2, zZ g 2)] ++ [(q3, zI g 120)])) rfl dX8_init_34 rfl rfl rfl inGX8 tyX8_ok nmX8 (by decide) (tG 704 (by decide +kernel) rfl) rfl rfl (tyX8_ok 5 (by decide)) rfl rfl (Nat.le_of_ble_eq_true rfl) rfl ?_
  refine nx_aload_n (pc' := 38) dX8_init_37 rfl rfl rfl ?_
  refine nx_lconst (pc' := 39) (x := 0) dX8_init_38 rfl (by decide) ?_
  refine nx_put (pc' := 42) (f := 7) (ci := 8) (C := RX8) (T := TX8) (N := 20) (ty0 := tyX8) (ws' := (h0, .inr (8, [.ref q0, .ref q1, .int 0, .int 0, .ref q2, .ref q3, .int 0, .long 0, .long 0, .null, .int 0, .null, .int 0, .int 0, .int 0, .null, .int 0, .int 0, .null, .long 0])) :: ([(q0, zI g 7458)] ++ [(q1, zI g 728)] ++ [(q2, zZ g 2)] ++ [(q3, zI g 120)])) dX8_init_39 rfl rfl rfl inGX8 tyX8_ok nmX8 (by decide) (tG 706 (by decide +kernel) rfl) rfl (tyX8_ok 7 (by decide)) rfl rfl (Nat.le_of_ble_eq_true rfl) rfl ?_
  refine nx_aload_n (pc' := 43) dX8_init_42 rfl rfl rfl ?_
  refine nx_lconst (pc' := 44) (x := 1) dX8_init_43 rfl (by decide) ?_
  refine nx_put (pc' := 47) (f := 8) (ci := 8) (C := RX8) (T := TX8) (N := 20) (ty0 := tyX8) (ws' := (h0, .inr (8, [.ref q0, .ref q1, .int 0, .int 0, .ref q2, .ref q3, .int 0, .long 0, .long 1, .null, .int 0, .null, .int 0, .int 0, .int 0, .null, .int 0, .int 0, .null, .long 0])) :: ([(q0, zI g 7458)] ++ [(q1, zI g 728)] ++ [(q2, zZ g 2)] ++ [(q3, zI g 120)])) dX8_init_44 rfl rfl rfl inGX8 tyX8_ok nmX8 (by decide) (tG 707 (by decide +kernel) rfl) rfl (tyX8_ok 8 (by decide)) rfl rfl (Nat.le_of_ble_eq_true rfl) rfl ?_
  refine nx_aload_n (pc' := 48) dX8_init_47 rfl rfl rfl ?_
  refine nx_iconst (pc' := 49) (x := 3) dX8_init_48 rfl (by decide) ?_
  refine nx_newi (pc' := 51) (N := 3) (k' := 5) (n' := 8311) dX8_init_49 rfl (tG 75 (by decide +kernel) rfl) (by decide) (by decide) (by decide) rfl rfl (Nat.le_of_ble_eq_true rfl) (Nat.le_of_ble_eq_true rfl) (fun q4 => ?_)
  show NX g _ _ _ _ _ _ 5 8311 51 [.ref h0] [.ref q4, .ref h0] ((h0, .inr (8, [.ref q0, .ref q1, .int 0, .int 0, .ref q2, .ref q3, .int 0, .long 0, .long 1, .null, .int 0, .null, .int 0, .int 0, .int 0, .null, .int 0, .int 0, .null, .long 0])) :: ([(q0, zI g 7458)] ++ [(q1, zI g 728)] ++ [(q2, zZ g 2)] ++ [(q3, zI g 120)] ++ [(q4, zI g 3)]))
  refine nx_putF (pc' := 54) (f := 9) (ci := 8) (C := RX8) (T := TX8) (N := 20) (ty0 := tyX8) (ws' := (h0, .inr (8, [.ref q0, .ref q1, .int 0, .int 0, .ref q2, .ref q3, .int 0, .long 0, .long 1, .ref q4, .int 0, .null, .int 0, .int 0, .int 0, .null, .int 0, .int 0, .null, .long 0])) :: ([(q0, zI g 7458)] ++ [(q1, zI g 728)] ++ [(q2, zZ g 2)] ++ [(q3, zI g 120)] ++ [(q4, zI g 3)])) rfl dX8_init_51 rfl rfl rfl inGX8 tyX8_ok nmX8 (by decide) (tG 708 (by decide +kernel) rfl) rfl rfl (tyX8_ok 9 (by decide)) rfl rfl (Nat.le_of_ble_eq_true rfl) rfl ?_
  refine nx_aload_n (pc' := 55) dX8_init_54 rfl rfl rfl ?_
  refine nx_bipush (pc' := 57) (x := 60) dX8_init_55 rfl (by decide) ?_
  refine nx_newi (pc' := 59) (N := 60) (k' := 6) (n' := 8371) dX8_init_57 rfl (tG 75 (by decide +kernel) rfl) (by decide) (by decide) (by decide) rfl rfl (Nat.le_of_ble_eq_true rfl) (Nat.le_of_ble_eq_true rfl) (fun q5 => ?_)
  show NX g _ _ _ _ _ _ 6 8371 59 [.ref h0] [.ref q5, .ref h0] ((h0, .inr (8, [.ref q0, .ref q1, .int 0, .int 0, .ref q2, .ref q3, .int 0, .long 0, .long 1, .ref q4, .int 0, .null, .int 0, .int 0, .int 0, .null, .int 0, .int 0, .null, .long 0])) :: ([(q0, zI g 7458)] ++ [(q1, zI g 728)] ++ [(q2, zZ g 2)] ++ [(q3, zI g 120)] ++ [(q4, zI g 3)] ++ [(q5, zI g 60)]))
  refine nx_putF (pc' := 62) (f := 11) (ci := 8) (C := RX8) (T := TX8) (N := 20) (ty0 := tyX8) (ws' := (h0, .inr (8, [.ref q0, .ref q1, .int 0, .int 0, .ref q2, .ref q3, .int 0, .long 0, .long 1, .ref q4, .int 0, .ref q5, .int 0, .int 0, .int 0, .null, .int 0, .int 0, .null, .long 0])) :: ([(q0, zI g 7458)] ++ [(q1, zI g 728)] ++ [(q2, zZ g 2)] ++ [(q3, zI g 120)] ++ [(q4, zI g 3)] ++ [(q5, zI g 60)])) rfl dX8_init_59 rfl rfl rfl inGX8 tyX8_ok nmX8 (by decide) (tG 710 (by decide +kernel) rfl) rfl rfl (tyX8_ok 11 (by decide)) rfl rfl (Nat.le_of_ble_eq_true rfl) rfl ?_
  refine nx_aload_n (pc' := 63) dX8_init_62 rfl rfl rfl ?_
  refine nx_sipush (pc' := 66) (x := 128) dX8_init_63 rfl (by decide) ?_
  refine nx_newi (pc' := 68) (N := 128) (k' := 7) (n' := 8499) dX8_init_66 rfl (tG 75 (by decide +kernel) rfl) (by decide) (by decide) (by decide) rfl rfl (Nat.le_of_ble_eq_true rfl) (Nat.le_of_ble_eq_true rfl) (fun q6 => ?_)
  show NX g _ _ _ _ _ _ 7 8499 68 [.ref h0] [.ref q6, .ref h0] ((h0, .inr (8, [.ref q0, .ref q1, .int 0, .int 0, .ref q2, .ref q3, .int 0, .long 0, .long 1, .ref q4, .int 0, .ref q5, .int 0, .int 0, .int 0, .null, .int 0, .int 0, .null, .long 0])) :: ([(q0, zI g 7458)] ++ [(q1, zI g 728)] ++ [(q2, zZ g 2)] ++ [(q3, zI g 120)] ++ [(q4, zI g 3)] ++ [(q5, zI g 60)] ++ [(q6, zI g 128)]))
  refine nx_putF (pc' := 71) (f := 15) (ci := 8) (C := RX8) (T := TX8) (N := 20) (ty0 := tyX8) (ws' := (h0, .inr (8, [.ref q0, .ref q1, .int 0, .int 0, .ref q2, .ref q3, .int 0, .long 0, .long 1, .ref q4, .int 0, .ref q5, .int 0, .int 0, .int 0, .ref q6, .int 0, .int 0, .null, .long 0])) :: ([(q0, zI g 7458)] ++ [(q1, zI g 728)] ++ [(q2, zZ g 2)] ++ [(q3, zI g 120)] ++ [(q4, zI g 3)] ++ [(q5, zI g 60)] ++ [(q6, zI g 128)])) rfl dX8_init_68 rfl rfl rfl inGX8 tyX8_ok nmX8 (by decide) (tG 714 (by decide +kernel) rfl) rfl rfl (tyX8_ok 15 (by decide)) rfl rfl (Nat.le_of_ble_eq_true rfl) rfl ?_
  refine nx_aload_n (pc' := 72) dX8_init_71 rfl rfl rfl ?_
  refine nx_bipush (pc' := 74) (x := 64) dX8_init_72 rfl (by decide) ?_
  refine nx_newz (pc' := 76) (N := 64) (k' := 8) (n' := 8563) dX8_init_74 rfl (tG 760 (by decide +kernel) rfl) (by decide) (by decide) (by decide) rfl rfl (Nat.le_of_ble_eq_true rfl) (Nat.le_of_ble_eq_true rfl) (fun q7 => ?_)
  show NX g _ _ _ _ _ _ 8 8563 76 [.ref h0] [.ref q7, .ref h0] ((h0, .inr (8, [.ref q0, .ref q1, .int 0, .int 0, .ref q2, .ref q3, .int 0, .long 0, .long 1, .ref q4, .int 0, .ref q5, .int 0, .int 0, .int 0, .ref q6, .int 0, .int 0, .null, .long 0])) :: ([(q0, zI g 7458)] ++ [(q1, zI g 728)] ++ [(q2, zZ g 2)] ++ [(q3, zI g 120)] ++ [(q4, zI g 3)] ++ [(q5, zI g 60)] ++ [(q6, zI g 128)] ++ [(q7, zZ g 64)]))
  refine nx_putF (pc' := 79) (f := 18) (ci := 8) (C := RX8) (T := TX8) (N := 20) (ty0 := tyX8) (ws' := (h0, .inr (8, [.ref q0, .ref q1, .int 0, .int 0, .ref q2, .ref q3, .int 0, .long 0, .long 1, .ref q4, .int 0, .ref q5, .int 0, .int 0, .int 0, .ref q6, .int 0, .int 0, .ref q7, .long 0])) :: ([(q0, zI g 7458)] ++ [(q1, zI g 728)] ++ [(q2, zZ g 2)] ++ [(q3, zI g 120)] ++ [(q4, zI g 3)] ++ [(q5, zI g 60)] ++ [(q6, zI g 128)] ++ [(q7, zZ g 64)])) rfl dX8_init_76 rfl rfl rfl inGX8 tyX8_ok nmX8 (by decide) (tG 717 (by decide +kernel) rfl) rfl rfl (tyX8_ok 18 (by decide)) rfl rfl (Nat.le_of_ble_eq_true rfl) rfl ?_
  refine nx_aload_n (pc' := 80) dX8_init_79 rfl rfl rfl ?_
  refine nx_get (pc' := 83) (f := 0) (ci := 8) (C := RX8) (T := TX8) (N := 20) (v := .ref q0) dX8_init_80 rfl rfl rfl inGX8 (by decide) (tG 699 (by decide +kernel) rfl) rfl ?_
  refine nx_iconst (pc' := 84) (x := 2) dX8_init_83 rfl (by decide) ?_
  refine nx_iconst (pc' := 85) (x := 0) dX8_init_84 rfl (by decide) ?_
  refine nx_iast0 (pc' := 86) (q0 := 1) (N := 7458) (ws' := (h0, .inr (8, [.ref q0, .ref q1, .int 0, .int 0, .ref q2, .ref q3, .int 0, .long 0, .long 1, .ref q4, .int 0, .ref q5, .int 0, .int 0, .int 0, .ref q6, .int 0, .int 0, .ref q7, .long 0])) :: ([(q0, zI g 7458)] ++ [(q1, zI g 728)] ++ [(q2, zZ g 2)] ++ [(q3, zI g 120)] ++ [(q4, zI g 3)] ++ [(q5, zI g 60)] ++ [(q6, zI g 128)] ++ [(q7, zZ g 64)])) dX8_init_85 rfl rfl (by unfold vp_in; decide) rfl ?_
  exact nx_end ⟨dX8_init_86, fun z => if z = 0 then h0 else if z = 1 then q0 else if z = 2 then q1 else if z = 3 then q2 else if z = 4 then q3 else if z = 5 then q4 else if z = 6 then q5 else if z = 7 then q6 else if z = 8 then q7 else 0, rfl, rfl⟩ (Nat.le_refl _) (Nat.le_refl _)
