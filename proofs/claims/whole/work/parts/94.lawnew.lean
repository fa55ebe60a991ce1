/-! The law from its entry to its loop. -/
theorem liL_9 : LkI RL 9 mX7_init := ⟨⟨(tG 1 (by decide +kernel) rfl), (tG 16 (by decide +kernel) rfl), (tG 17 (by decide +kernel) rfl)⟩, Or.inl (tG 15 (by decide +kernel) rfl), rfl, ⟨by decide, by decide, by decide⟩, by decide⟩
theorem liL_12 : LkI RL 12 mX8_init := ⟨⟨(tG 9 (by decide +kernel) rfl), (tG 696 (by decide +kernel) rfl), (tG 697 (by decide +kernel) rfl)⟩, Or.inl (tG 695 (by decide +kernel) rfl), rfl, ⟨by decide, by decide, by decide⟩, by decide⟩
set_option maxRecDepth 100000 in
set_option maxHeartbeats 8000000 in
theorem law_new {g : Cg} {d b : Nat} : NX g (d + 4) mL_law false 103 16502 (fun pc' ls' ws' => pc' = 18 ∧ ∃ u v : Nat → Nat, ls' = [.ref b, .ref (u 0), .ref (v 0), .int 0] ∧ ws' = Pz g u ++ Mz g v) 0 0 0 [.ref b, Unk, Unk, Unk] [] [] := by
  refine nx_new (pc' := 3) (ci := 7) (fs := [.null, .null, .null, .null, .null, .null, .null, .null, .null, .int 0, .int 0, .int 0, .int 0]) (k' := 1) (n' := 13) (C := RX7) (T := TX7) (N := 13) (ty := tyX7) dL_law_0 rfl rfl inGX7 tyX7_ok (tG 13 (by decide +kernel) rfl) (tG 14 (by decide +kernel) rfl) (tG 1 (by decide +kernel) rfl) (fun j hj => by rcases (show j = 0 ∨ j = 1 ∨ j = 2 ∨ j = 3 ∨ j = 4 ∨ j = 5 ∨ j = 6 ∨ j = 7 ∨ j = 8 ∨ j = 9 ∨ j = 10 ∨ j = 11 ∨ j = 12 by omega) with rfl | rfl | rfl | rfl | rfl | rfl | rfl | rfl | rfl | rfl | rfl | rfl | rfl <;> rfl) rfl rfl (Nat.le_of_ble_eq_true rfl) (Nat.le_of_ble_eq_true rfl) (fun q0 => ?_)
  show NX g _ _ _ _ _ _ 1 13 3 [.ref b, Unk, Unk, Unk] [.ref q0] ([(q0, .inr (7, [.null, .null, .null, .null, .null, .null, .null, .null, .null, .int 0, .int 0, .int 0, .int 0]))])
  refine nx_dup (pc' := 4) dL_law_3 rfl rfl ?_
  refine nx_call (pc' := 7) (pre := []) (k' := 94) (n' := 7919) (Wf := Pz) mX7_init_met dL_law_4 rfl liL_9 (Nat.le_of_ble_eq_true rfl) rfl rfl (Nat.le_of_ble_eq_true rfl) (Nat.le_of_ble_eq_true rfl) (fun u0 eu0 => ?_)
  subst eu0
  show NX g _ _ _ _ _ _ 94 7919 7 [.ref b, Unk, Unk, Unk] [.ref (u0 0)] (Pz g u0)
  refine nx_astore_n (pc' := 8) dL_law_7 rfl rfl (by decide) rfl (ls' := [.ref b, .ref (u0 0), Unk, Unk]) rfl ?_
  refine nx_new (pc' := 11) (ci := 8) (fs := [.null, .null, .int 0, .int 0, .null, .null, .int 0, .long 0, .long 0, .null, .int 0, .null, .int 0, .int 0, .int 0, .null, .int 0, .int 0, .null, .long 0]) (k' := 95) (n' := 7939) (C := RX8) (T := TX8) (N := 20) (ty := tyX8) dL_law_8 rfl rfl inGX8 tyX8_ok (tG 693 (by decide +kernel) rfl) (tG 694 (by decide +kernel) rfl) (tG 9 (by decide +kernel) rfl) (fun j hj => by rcases (show j = 0 ∨ j = 1 ∨ j = 2 ∨ j = 3 ∨ j = 4 ∨ j = 5 ∨ j = 6 ∨ j = 7 ∨ j = 8 ∨ j = 9 ∨ j = 10 ∨ j = 11 ∨ j = 12 ∨ j = 13 ∨ j = 14 ∨ j = 15 ∨ j = 16 ∨ j = 17 ∨ j = 18 ∨ j = 19 by omega) with rfl | rfl | rfl | rfl | rfl | rfl | rfl | rfl | rfl | rfl | rfl | rfl | rfl | rfl | rfl | rfl | rfl | rfl | rfl | rfl <;> rfl) rfl rfl (Nat.le_of_ble_eq_true rfl) (Nat.le_of_ble_eq_true rfl) (fun q1 => ?_)
  show NX g _ _ _ _ _ _ 95 7939 11 [.ref b, .ref (u0 0), Unk, Unk] [.ref q1] (Pz g u0 ++ [(q1, .inr (8, [.null, .null, .int 0, .int 0, .null, .null, .int 0, .long 0, .long 0, .null, .int 0, .null, .int 0, .int 0, .int 0, .null, .int 0, .int 0, .null, .long 0]))])
  refine nx_dup (pc' := 12) dL_law_11 rfl rfl ?_
  refine nx_call (pc' := 15) (pre := Pz g u0) (k' := 103) (n' := 16502) (Wf := Mz) mX8_init_met dL_law_12 rfl liL_12 (Nat.le_of_ble_eq_true rfl) rfl rfl (Nat.le_of_ble_eq_true rfl) (Nat.le_of_ble_eq_true rfl) (fun u1 eu1 => ?_)
  subst eu1
  show NX g _ _ _ _ _ _ 103 16502 15 [.ref b, .ref (u0 0), Unk, Unk] [.ref (u1 0)] (Pz g u0 ++ Mz g u1)
  refine nx_astore_n (pc' := 16) dL_law_15 rfl rfl (by decide) rfl (ls' := [.ref b, .ref (u0 0), .ref (u1 0), Unk]) rfl ?_
  refine nx_iconst (pc' := 17) (x := 0) dL_law_16 rfl (by decide) ?_
  refine nx_istore_n (pc' := 18) dL_law_17 rfl rfl (by decide) rfl (ls' := [.ref b, .ref (u0 0), .ref (u1 0), .int 0]) rfl ?_
  exact nx_end ⟨rfl, u0, u1, rfl, rfl⟩ (Nat.le_refl _) (Nat.le_refl _)
