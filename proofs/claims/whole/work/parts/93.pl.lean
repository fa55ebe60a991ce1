/-! The class's own constructor. -/
def blk (q : Nat → Nat) (i : Nat) : Nat → Nat := fun k => q (16 * k + i)
def Pzf (g : Cg) (q : Nat → Nat) (f : Nat → Option Nat) : va_W := (q 0, .inr (7, [.ref (q 1), .ref (q 2), .ref (q 3), .ref (q 4), .ref (q 5), .ref (q 6), .ref (q 7), .ref (q 8), .ref (q 9), .int 0, .int 0, .int 0, .int 0])) :: (Fz g (blk q 1) ++ Hz g (blk q 2) ++ Kz g (blk q 3) ++ Kz g (blk q 4) ++ Sz g (blk q 5) ++ Sz g (blk q 6) ++ Rz g (blk q 7) ++ Xz g (blk q 8) ++ [(q 9, rA g.2.2.2.2 2 f)] ++ Iz g (blk q 10) ++ Iz g (blk q 11))
def Pz (g : Cg) (q : Nat → Nat) : va_W := Pzf g q (fun k => some (q (10 + k)))
def us12 (h0 kq : Nat) (u1 u2 u3 u4 u5 u6 u7 u8 u10 u11 : Nat → Nat) (i k : Nat) : Nat := match i with
  | 0 => h0
  | 1 => u1 k
  | 2 => u2 k
  | 3 => u3 k
  | 4 => u4 k
  | 5 => u5 k
  | 6 => u6 k
  | 7 => u7 k
  | 8 => u8 k
  | 9 => kq
  | 10 => u10 k
  | _ => u11 k
def qPl (h0 kq : Nat) (u1 u2 u3 u4 u5 u6 u7 u8 u10 u11 : Nat → Nat) : Nat → Nat := fun z => us12 h0 kq u1 u2 u3 u4 u5 u6 u7 u8 u10 u11 (z % 16) (z / 16)
theorem blk_q {h0 kq : Nat} {u1 u2 u3 u4 u5 u6 u7 u8 u10 u11 : Nat → Nat} (i : Nat) (hi : i < 16) : blk (qPl h0 kq u1 u2 u3 u4 u5 u6 u7 u8 u10 u11) i = us12 h0 kq u1 u2 u3 u4 u5 u6 u7 u8 u10 u11 i := by
  funext k
  unfold blk qPl
  rw [show (16 * k + i) % 16 = i by omega, show (16 * k + i) / 16 = k by omega]
theorem va_P_mem {D : va_G} {cl : List vw_C} {ws : va_W} {H : Heap} : va_P D cl ws H ↔ ∀ q ∈ ws, va_at D cl q H := by
  constructor
  · intro h q hq
    obtain ⟨i, hi⟩ := List.getElem?_of_mem hq
    exact h i q hi
  · intro h i q hi
    exact h q (List.mem_of_getElem? hi)
theorem va_D_mem {A : Nat → Prop} {ws : va_W} : va_D A ws ↔ (ws.map (fun q => q.1)).Nodup ∧ ∀ q ∈ ws, A q.1 := by
  constructor
  · intro h
    refine ⟨?_, fun q hq => ?_⟩
    · rw [List.Nodup, List.pairwise_iff_getElem]
      intro i j hi hj hij he
      rw [List.length_map] at hi hj
      rw [List.getElem_map, List.getElem_map] at he
      have := h.1 i j _ _ (List.getElem?_eq_getElem hi) (List.getElem?_eq_getElem hj) he
      omega
    · obtain ⟨i, hi⟩ := List.getElem?_of_mem hq
      exact h.2 i q hi
  · intro h
    refine ⟨fun i j p q hp hq he => ?_, fun i q hi => h.2 q (List.mem_of_getElem? hi)⟩
    have hn := h.1
    rw [List.Nodup, List.pairwise_iff_getElem] at hn
    obtain ⟨li, ei⟩ := List.getElem?_eq_some_iff.mp hp
    obtain ⟨lj, ej⟩ := List.getElem?_eq_some_iff.mp hq
    rcases Nat.lt_trichotomy i j with c | c | c
    · exact absurd (by rw [List.getElem_map, List.getElem_map, ei, ej]; exact he) (hn i j (by rw [List.length_map]; exact li) (by rw [List.length_map]; exact lj) c)
    · exact c
    · exact absurd (by rw [List.getElem_map, List.getElem_map, ei, ej]; exact he.symm) (hn j i (by rw [List.length_map]; exact lj) (by rw [List.length_map]; exact li) c)
theorem nx_perm {g : Cg} {d : Nat} {mt : Mt} {ini : Bool} {mc ms : Nat} {E : Nat → List Value → va_W → Prop} {k n pc : Nat} {ls st : List Value} {ws ws' : va_W} (hp : ws.Perm ws') (kk : NX g d mt ini mc ms E k n pc ls st ws') : NX g d mt ini mc ms E k n pc ls st ws := by
  intro p l e R s m args below meth c A Z H locs L C hR hi hA rt P D S hl
  refine kk p l e R s m args below meth c A Z H locs L C hR hi hA rt (va_P_mem.mpr (fun q hq => va_P_mem.mp P q (hp.mem_iff.mpr hq))) (va_D_mem.mpr ?_) S hl
  obtain ⟨h1, h2⟩ := va_D_mem.mp D
  exact ⟨(hp.map _).nodup_iff.mp h1, fun q hq => h2 q (hp.mem_iff.mpr hq)⟩
theorem perm_fin {R I1 I2 : va_W} {k : Nat × va_E} : (k :: (I2 ++ (I1 ++ R))).Perm (R ++ [k] ++ I1 ++ I2) := by
  refine List.Perm.symm (List.Perm.trans List.perm_append_comm (List.Perm.trans (List.Perm.append_left I2 (List.Perm.trans List.perm_append_comm (List.Perm.append_left I1 List.perm_append_comm))) ?_))
  show (I2 ++ (I1 ++ (k :: R))).Perm _
  exact List.Perm.trans (List.Perm.append_left I2 List.perm_middle) List.perm_middle
theorem liX7_9 : LkI RX7 9 mX0_init := ⟨⟨(tG 2 (by decide +kernel) rfl), (tG 24 (by decide +kernel) rfl), (tG 25 (by decide +kernel) rfl)⟩, Or.inr ⟨"PointLayers", tM 23 (by decide +kernel) rfl⟩, rfl, ⟨by decide, by decide, by decide⟩, by decide⟩
theorem liX7_18 : LkI RX7 18 mX2_init := ⟨⟨(tG 3 (by decide +kernel) rfl), (tG 79 (by decide +kernel) rfl), (tG 80 (by decide +kernel) rfl)⟩, Or.inl (tG 78 (by decide +kernel) rfl), rfl, ⟨by decide, by decide, by decide⟩, by decide⟩
theorem liX7_25 : LkI RX7 25 mX4_init := ⟨⟨(tG 4 (by decide +kernel) rfl), (tG 99 (by decide +kernel) rfl), (tG 100 (by decide +kernel) rfl)⟩, Or.inr ⟨"PointLayers", tM 98 (by decide +kernel) rfl⟩, rfl, ⟨by decide, by decide, by decide⟩, by decide⟩
theorem liX7_35 : LkI RX7 35 mX6_init := ⟨⟨(tG 5 (by decide +kernel) rfl), (tG 114 (by decide +kernel) rfl), (tG 115 (by decide +kernel) rfl)⟩, Or.inr ⟨"PointLayers", tM 113 (by decide +kernel) rfl⟩, rfl, ⟨by decide, by decide, by decide⟩, by decide⟩
theorem liX7_45 : LkI RX7 45 mX5_init := ⟨⟨(tG 6 (by decide +kernel) rfl), (tG 134 (by decide +kernel) rfl), (tG 135 (by decide +kernel) rfl)⟩, Or.inr ⟨"PointLayers", tM 133 (by decide +kernel) rfl⟩, rfl, ⟨by decide, by decide, by decide⟩, by decide⟩
theorem liX7_52 : LkI RX7 52 mX1_init := ⟨⟨(tG 7 (by decide +kernel) rfl), (tG 160 (by decide +kernel) rfl), (tG 161 (by decide +kernel) rfl)⟩, Or.inr ⟨"PointLayers", tM 159 (by decide +kernel) rfl⟩, rfl, ⟨by decide, by decide, by decide⟩, by decide⟩
theorem liX7_63 : LkI RX7 63 mX3_init := ⟨⟨(tG 8 (by decide +kernel) rfl), (tG 176 (by decide +kernel) rfl), (tG 177 (by decide +kernel) rfl)⟩, Or.inr ⟨"PointLayers", tM 175 (by decide +kernel) rfl⟩, rfl, ⟨by decide, by decide, by decide⟩, by decide⟩
set_option maxRecDepth 100000 in
set_option maxHeartbeats 8000000 in
theorem mX7_init_met {d : Nat} : MetN mX7_init (d + 3) 93 7906 (.inr (7, [.null, .null, .null, .null, .null, .null, .null, .null, .null, .int 0, .int 0, .int 0, .int 0])) Pz := by
  refine met_of_NX rfl rfl rfl (by decide) (fun g h0 => ?_)
  show NX g (d + 3) mX7_init true 93 7906 _ 0 0 0 [.ref h0, Unk] [] [(h0, .inr (7, [.null, .null, .null, .null, .null, .null, .null, .null, .null, .int 0, .int 0, .int 0, .int 0]))]
  refine nx_aload_n (pc' := 1) dX7_init_0 rfl rfl rfl ?_
  refine nx_objInit (pc' := 4) dX7_init_1 rfl (by omega) (tG 18 (by decide +kernel) rfl) (tG 19 (by decide +kernel) rfl) (tG 20 (by decide +kernel) rfl) ?_
  refine nx_aload_n (pc' := 5) dX7_init_4 rfl rfl rfl ?_
  refine nx_new (pc' := 8) (ci := 0) (fs := [.null, .null, .null, .null, .null, .int 0, .int 0, .int 0, .int 0, .int 0, .int 0]) (k' := 1) (n' := 11) (C := RX0) (T := TX0) (N := 11) (ty := tyX0) dX7_init_5 rfl rfl inGX0 tyX0_ok (tG 21 (by decide +kernel) rfl) (tG 22 (by decide +kernel) rfl) (tG 2 (by decide +kernel) rfl) (fun j hj => by rcases (show j = 0 ∨ j = 1 ∨ j = 2 ∨ j = 3 ∨ j = 4 ∨ j = 5 ∨ j = 6 ∨ j = 7 ∨ j = 8 ∨ j = 9 ∨ j = 10 by omega) with rfl | rfl | rfl | rfl | rfl | rfl | rfl | rfl | rfl | rfl | rfl <;> rfl) rfl rfl (Nat.le_of_ble_eq_true rfl) (Nat.le_of_ble_eq_true rfl) (fun q0 => ?_)
  show NX g _ _ _ _ _ _ 1 11 8 [.ref h0, Unk] [.ref q0, .ref h0] ((h0, .inr (7, [.null, .null, .null, .null, .null, .null, .null, .null, .null, .int 0, .int 0, .int 0, .int 0])) :: ([(q0, .inr (0, [.null, .null, .null, .null, .null, .int 0, .int 0, .int 0, .int 0, .int 0, .int 0]))]))
  refine nx_dup (pc' := 9) dX7_init_8 rfl rfl ?_
  refine nx_call (pc' := 12) (pre := [(h0, .inr (7, [.null, .null, .null, .null, .null, .null, .null, .null, .null, .int 0, .int 0, .int 0, .int 0]))]) (k' := 6) (n' := 616) (Wf := Fz) mX0_init_met dX7_init_9 rfl liX7_9 (Nat.le_of_ble_eq_true rfl) rfl rfl (Nat.le_of_ble_eq_true rfl) (Nat.le_of_ble_eq_true rfl) (fun u0 eu0 => ?_)
  subst eu0
  show NX g _ _ _ _ _ _ 6 616 12 [.ref h0, Unk] [.ref (u0 0), .ref h0] ((h0, .inr (7, [.null, .null, .null, .null, .null, .null, .null, .null, .null, .int 0, .int 0, .int 0, .int 0])) :: (Fz g u0))
  obtain ⟨t1, ht1⟩ : ∃ z : va_W, z = Fz g u0 := ⟨_, rfl⟩
  rw [← ht1]
  refine nx_putF (pc' := 15) (f := 0) (ci := 7) (C := RX7) (T := TX7) (N := 13) (ty0 := tyX7) (ws' := (h0, .inr (7, [.ref (u0 0), .null, .null, .null, .null, .null, .null, .null, .null, .int 0, .int 0, .int 0, .int 0])) :: (t1)) rfl dX7_init_12 rfl rfl rfl inGX7 tyX7_ok nmX7 (by decide) (tG 194 (by decide +kernel) rfl) rfl rfl (tyX7_ok 0 (by decide)) rfl rfl (Nat.le_of_ble_eq_true rfl) rfl ?_
  refine nx_aload_n (pc' := 16) dX7_init_15 rfl rfl rfl ?_
  refine nx_new (pc' := 19) (ci := 2) (fs := [.null, .int 0, .int 0]) (k' := 7) (n' := 619) (C := RX2) (T := TX2) (N := 3) (ty := tyX2) dX7_init_16 rfl rfl inGX2 tyX2_ok (tG 76 (by decide +kernel) rfl) (tG 77 (by decide +kernel) rfl) (tG 3 (by decide +kernel) rfl) (fun j hj => by rcases (show j = 0 ∨ j = 1 ∨ j = 2 by omega) with rfl | rfl | rfl <;> rfl) rfl rfl (Nat.le_of_ble_eq_true rfl) (Nat.le_of_ble_eq_true rfl) (fun q1 => ?_)
  show NX g _ _ _ _ _ _ 7 619 19 [.ref h0, Unk] [.ref q1, .ref h0] ((h0, .inr (7, [.ref (u0 0), .null, .null, .null, .null, .null, .null, .null, .null, .int 0, .int 0, .int 0, .int 0])) :: (t1 ++ [(q1, .inr (2, [.null, .int 0, .int 0]))]))
  refine nx_dup (pc' := 20) dX7_init_19 rfl rfl ?_
  refine nx_call (pc' := 23) (pre := (h0, .inr (7, [.ref (u0 0), .null, .null, .null, .null, .null, .null, .null, .null, .int 0, .int 0, .int 0, .int 0])) :: (t1)) (k' := 56) (n' := 5555) (Wf := Hz) mX2_init_met dX7_init_20 rfl liX7_18 (Nat.le_of_ble_eq_true rfl) rfl rfl (Nat.le_of_ble_eq_true rfl) (Nat.le_of_ble_eq_true rfl) (fun u1 eu1 => ?_)
  subst eu1
  show NX g _ _ _ _ _ _ 56 5555 23 [.ref h0, Unk] [.ref (u1 0), .ref h0] ((h0, .inr (7, [.ref (u0 0), .null, .null, .null, .null, .null, .null, .null, .null, .int 0, .int 0, .int 0, .int 0])) :: (t1 ++ Hz g u1))
  obtain ⟨t2, ht2⟩ : ∃ z : va_W, z = t1 ++ Hz g u1 := ⟨_, rfl⟩
  rw [← ht2]
  refine nx_putF (pc' := 26) (f := 1) (ci := 7) (C := RX7) (T := TX7) (N := 13) (ty0 := tyX7) (ws' := (h0, .inr (7, [.ref (u0 0), .ref (u1 0), .null, .null, .null, .null, .null, .null, .null, .int 0, .int 0, .int 0, .int 0])) :: (t2)) rfl dX7_init_23 rfl rfl rfl inGX7 tyX7_ok nmX7 (by decide) (tG 195 (by decide +kernel) rfl) rfl rfl (tyX7_ok 1 (by decide)) rfl rfl (Nat.le_of_ble_eq_true rfl) rfl ?_
  refine nx_aload_n (pc' := 27) dX7_init_26 rfl rfl rfl ?_
  refine nx_new (pc' := 30) (ci := 4) (fs := [.null, .int 0]) (k' := 57) (n' := 5557) (C := RX4) (T := TX4) (N := 2) (ty := tyX4) dX7_init_27 rfl rfl inGX4 tyX4_ok (tG 96 (by decide +kernel) rfl) (tG 97 (by decide +kernel) rfl) (tG 4 (by decide +kernel) rfl) (fun j hj => by rcases (show j = 0 ∨ j = 1 by omega) with rfl | rfl <;> rfl) rfl rfl (Nat.le_of_ble_eq_true rfl) (Nat.le_of_ble_eq_true rfl) (fun q2 => ?_)
  show NX g _ _ _ _ _ _ 57 5557 30 [.ref h0, Unk] [.ref q2, .ref h0] ((h0, .inr (7, [.ref (u0 0), .ref (u1 0), .null, .null, .null, .null, .null, .null, .null, .int 0, .int 0, .int 0, .int 0])) :: (t2 ++ [(q2, .inr (4, [.null, .int 0]))]))
  refine nx_dup (pc' := 31) dX7_init_30 rfl rfl ?_
  refine nx_call (pc' := 34) (pre := (h0, .inr (7, [.ref (u0 0), .ref (u1 0), .null, .null, .null, .null, .null, .null, .null, .int 0, .int 0, .int 0, .int 0])) :: (t2)) (k' := 58) (n' := 5617) (Wf := Kz) mX4_init_met dX7_init_31 rfl liX7_25 (Nat.le_of_ble_eq_true rfl) rfl rfl (Nat.le_of_ble_eq_true rfl) (Nat.le_of_ble_eq_true rfl) (fun u2 eu2 => ?_)
  subst eu2
  show NX g _ _ _ _ _ _ 58 5617 34 [.ref h0, Unk] [.ref (u2 0), .ref h0] ((h0, .inr (7, [.ref (u0 0), .ref (u1 0), .null, .null, .null, .null, .null, .null, .null, .int 0, .int 0, .int 0, .int 0])) :: (t2 ++ Kz g u2))
  obtain ⟨t3, ht3⟩ : ∃ z : va_W, z = t2 ++ Kz g u2 := ⟨_, rfl⟩
  rw [← ht3]
  refine nx_putF (pc' := 37) (f := 2) (ci := 7) (C := RX7) (T := TX7) (N := 13) (ty0 := tyX7) (ws' := (h0, .inr (7, [.ref (u0 0), .ref (u1 0), .ref (u2 0), .null, .null, .null, .null, .null, .null, .int 0, .int 0, .int 0, .int 0])) :: (t3)) rfl dX7_init_34 rfl rfl rfl inGX7 tyX7_ok nmX7 (by decide) (tG 196 (by decide +kernel) rfl) rfl rfl (tyX7_ok 2 (by decide)) rfl rfl (Nat.le_of_ble_eq_true rfl) rfl ?_
  refine nx_aload_n (pc' := 38) dX7_init_37 rfl rfl rfl ?_
  refine nx_new (pc' := 41) (ci := 4) (fs := [.null, .int 0]) (k' := 59) (n' := 5619) (C := RX4) (T := TX4) (N := 2) (ty := tyX4) dX7_init_38 rfl rfl inGX4 tyX4_ok (tG 96 (by decide +kernel) rfl) (tG 97 (by decide +kernel) rfl) (tG 4 (by decide +kernel) rfl) (fun j hj => by rcases (show j = 0 ∨ j = 1 by omega) with rfl | rfl <;> rfl) rfl rfl (Nat.le_of_ble_eq_true rfl) (Nat.le_of_ble_eq_true rfl) (fun q3 => ?_)
  show NX g _ _ _ _ _ _ 59 5619 41 [.ref h0, Unk] [.ref q3, .ref h0] ((h0, .inr (7, [.ref (u0 0), .ref (u1 0), .ref (u2 0), .null, .null, .null, .null, .null, .null, .int 0, .int 0, .int 0, .int 0])) :: (t3 ++ [(q3, .inr (4, [.null, .int 0]))]))
  refine nx_dup (pc' := 42) dX7_init_41 rfl rfl ?_
  refine nx_call (pc' := 45) (pre := (h0, .inr (7, [.ref (u0 0), .ref (u1 0), .ref (u2 0), .null, .null, .null, .null, .null, .null, .int 0, .int 0, .int 0, .int 0])) :: (t3)) (k' := 60) (n' := 5679) (Wf := Kz) mX4_init_met dX7_init_42 rfl liX7_25 (Nat.le_of_ble_eq_true rfl) rfl rfl (Nat.le_of_ble_eq_true rfl) (Nat.le_of_ble_eq_true rfl) (fun u3 eu3 => ?_)
  subst eu3
  show NX g _ _ _ _ _ _ 60 5679 45 [.ref h0, Unk] [.ref (u3 0), .ref h0] ((h0, .inr (7, [.ref (u0 0), .ref (u1 0), .ref (u2 0), .null, .null, .null, .null, .null, .null, .int 0, .int 0, .int 0, .int 0])) :: (t3 ++ Kz g u3))
  obtain ⟨t4, ht4⟩ : ∃ z : va_W, z = t3 ++ Kz g u3 := ⟨_, rfl⟩
  rw [← ht4]
  refine nx_putF (pc' := 48) (f := 3) (ci := 7) (C := RX7) (T := TX7) (N := 13) (ty0 := tyX7) (ws' := (h0, .inr (7, [.ref (u0 0), .ref (u1 0), .ref (u2 0), .ref (u3 0), .null, .null, .null, .null, .null, .int 0, .int 0, .int 0, .int 0])) :: (t4)) rfl dX7_init_45 rfl rfl rfl inGX7 tyX7_ok nmX7 (by decide) (tG 197 (by decide +kernel) rfl) rfl rfl (tyX7_ok 3 (by decide)) rfl rfl (Nat.le_of_ble_eq_true rfl) rfl ?_
  refine nx_aload_n (pc' := 49) dX7_init_48 rfl rfl rfl ?_
  refine nx_new (pc' := 52) (ci := 6) (fs := [.null, .null, .int 0, .int 0]) (k' := 61) (n' := 5683) (C := RX6) (T := TX6) (N := 4) (ty := tyX6) dX7_init_49 rfl rfl inGX6 tyX6_ok (tG 111 (by decide +kernel) rfl) (tG 112 (by decide +kernel) rfl) (tG 5 (by decide +kernel) rfl) (fun j hj => by rcases (show j = 0 ∨ j = 1 ∨ j = 2 ∨ j = 3 by omega) with rfl | rfl | rfl | rfl <;> rfl) rfl rfl (Nat.le_of_ble_eq_true rfl) (Nat.le_of_ble_eq_true rfl) (fun q4 => ?_)
  show NX g _ _ _ _ _ _ 61 5683 52 [.ref h0, Unk] [.ref q4, .ref h0] ((h0, .inr (7, [.ref (u0 0), .ref (u1 0), .ref (u2 0), .ref (u3 0), .null, .null, .null, .null, .null, .int 0, .int 0, .int 0, .int 0])) :: (t4 ++ [(q4, .inr (6, [.null, .null, .int 0, .int 0]))]))
  refine nx_dup (pc' := 53) dX7_init_52 rfl rfl ?_
  refine nx_call (pc' := 56) (pre := (h0, .inr (7, [.ref (u0 0), .ref (u1 0), .ref (u2 0), .ref (u3 0), .null, .null, .null, .null, .null, .int 0, .int 0, .int 0, .int 0])) :: (t4)) (k' := 63) (n' := 5851) (Wf := Sz) mX6_init_met dX7_init_53 rfl liX7_35 (Nat.le_of_ble_eq_true rfl) rfl rfl (Nat.le_of_ble_eq_true rfl) (Nat.le_of_ble_eq_true rfl) (fun u4 eu4 => ?_)
  subst eu4
  show NX g _ _ _ _ _ _ 63 5851 56 [.ref h0, Unk] [.ref (u4 0), .ref h0] ((h0, .inr (7, [.ref (u0 0), .ref (u1 0), .ref (u2 0), .ref (u3 0), .null, .null, .null, .null, .null, .int 0, .int 0, .int 0, .int 0])) :: (t4 ++ Sz g u4))
  obtain ⟨t5, ht5⟩ : ∃ z : va_W, z = t4 ++ Sz g u4 := ⟨_, rfl⟩
  rw [← ht5]
  refine nx_putF (pc' := 59) (f := 4) (ci := 7) (C := RX7) (T := TX7) (N := 13) (ty0 := tyX7) (ws' := (h0, .inr (7, [.ref (u0 0), .ref (u1 0), .ref (u2 0), .ref (u3 0), .ref (u4 0), .null, .null, .null, .null, .int 0, .int 0, .int 0, .int 0])) :: (t5)) rfl dX7_init_56 rfl rfl rfl inGX7 tyX7_ok nmX7 (by decide) (tG 198 (by decide +kernel) rfl) rfl rfl (tyX7_ok 4 (by decide)) rfl rfl (Nat.le_of_ble_eq_true rfl) rfl ?_
  refine nx_aload_n (pc' := 60) dX7_init_59 rfl rfl rfl ?_
  refine nx_new (pc' := 63) (ci := 6) (fs := [.null, .null, .int 0, .int 0]) (k' := 64) (n' := 5855) (C := RX6) (T := TX6) (N := 4) (ty := tyX6) dX7_init_60 rfl rfl inGX6 tyX6_ok (tG 111 (by decide +kernel) rfl) (tG 112 (by decide +kernel) rfl) (tG 5 (by decide +kernel) rfl) (fun j hj => by rcases (show j = 0 ∨ j = 1 ∨ j = 2 ∨ j = 3 by omega) with rfl | rfl | rfl | rfl <;> rfl) rfl rfl (Nat.le_of_ble_eq_true rfl) (Nat.le_of_ble_eq_true rfl) (fun q5 => ?_)
  show NX g _ _ _ _ _ _ 64 5855 63 [.ref h0, Unk] [.ref q5, .ref h0] ((h0, .inr (7, [.ref (u0 0), .ref (u1 0), .ref (u2 0), .ref (u3 0), .ref (u4 0), .null, .null, .null, .null, .int 0, .int 0, .int 0, .int 0])) :: (t5 ++ [(q5, .inr (6, [.null, .null, .int 0, .int 0]))]))
  refine nx_dup (pc' := 64) dX7_init_63 rfl rfl ?_
  refine nx_call (pc' := 67) (pre := (h0, .inr (7, [.ref (u0 0), .ref (u1 0), .ref (u2 0), .ref (u3 0), .ref (u4 0), .null, .null, .null, .null, .int 0, .int 0, .int 0, .int 0])) :: (t5)) (k' := 66) (n' := 6023) (Wf := Sz) mX6_init_met dX7_init_64 rfl liX7_35 (Nat.le_of_ble_eq_true rfl) rfl rfl (Nat.le_of_ble_eq_true rfl) (Nat.le_of_ble_eq_true rfl) (fun u5 eu5 => ?_)
  subst eu5
  show NX g _ _ _ _ _ _ 66 6023 67 [.ref h0, Unk] [.ref (u5 0), .ref h0] ((h0, .inr (7, [.ref (u0 0), .ref (u1 0), .ref (u2 0), .ref (u3 0), .ref (u4 0), .null, .null, .null, .null, .int 0, .int 0, .int 0, .int 0])) :: (t5 ++ Sz g u5))
  obtain ⟨t6, ht6⟩ : ∃ z : va_W, z = t5 ++ Sz g u5 := ⟨_, rfl⟩
  rw [← ht6]
  refine nx_putF (pc' := 70) (f := 5) (ci := 7) (C := RX7) (T := TX7) (N := 13) (ty0 := tyX7) (ws' := (h0, .inr (7, [.ref (u0 0), .ref (u1 0), .ref (u2 0), .ref (u3 0), .ref (u4 0), .ref (u5 0), .null, .null, .null, .int 0, .int 0, .int 0, .int 0])) :: (t6)) rfl dX7_init_67 rfl rfl rfl inGX7 tyX7_ok nmX7 (by decide) (tG 199 (by decide +kernel) rfl) rfl rfl (tyX7_ok 5 (by decide)) rfl rfl (Nat.le_of_ble_eq_true rfl) rfl ?_
  refine nx_aload_n (pc' := 71) dX7_init_70 rfl rfl rfl ?_
  refine nx_new (pc' := 74) (ci := 5) (fs := [.null, .null, .int 0, .int 0, .int 0]) (k' := 67) (n' := 6028) (C := RX5) (T := TX5) (N := 5) (ty := tyX5) dX7_init_71 rfl rfl inGX5 tyX5_ok (tG 131 (by decide +kernel) rfl) (tG 132 (by decide +kernel) rfl) (tG 6 (by decide +kernel) rfl) (fun j hj => by rcases (show j = 0 ∨ j = 1 ∨ j = 2 ∨ j = 3 ∨ j = 4 by omega) with rfl | rfl | rfl | rfl | rfl <;> rfl) rfl rfl (Nat.le_of_ble_eq_true rfl) (Nat.le_of_ble_eq_true rfl) (fun q6 => ?_)
  show NX g _ _ _ _ _ _ 67 6028 74 [.ref h0, Unk] [.ref q6, .ref h0] ((h0, .inr (7, [.ref (u0 0), .ref (u1 0), .ref (u2 0), .ref (u3 0), .ref (u4 0), .ref (u5 0), .null, .null, .null, .int 0, .int 0, .int 0, .int 0])) :: (t6 ++ [(q6, .inr (5, [.null, .null, .int 0, .int 0, .int 0]))]))
  refine nx_dup (pc' := 75) dX7_init_74 rfl rfl ?_
  refine nx_call (pc' := 78) (pre := (h0, .inr (7, [.ref (u0 0), .ref (u1 0), .ref (u2 0), .ref (u3 0), .ref (u4 0), .ref (u5 0), .null, .null, .null, .int 0, .int 0, .int 0, .int 0])) :: (t6)) (k' := 71) (n' := 6320) (Wf := Rz) mX5_init_met dX7_init_75 rfl liX7_45 (Nat.le_of_ble_eq_true rfl) rfl rfl (Nat.le_of_ble_eq_true rfl) (Nat.le_of_ble_eq_true rfl) (fun u6 eu6 => ?_)
  subst eu6
  show NX g _ _ _ _ _ _ 71 6320 78 [.ref h0, Unk] [.ref (u6 0), .ref h0] ((h0, .inr (7, [.ref (u0 0), .ref (u1 0), .ref (u2 0), .ref (u3 0), .ref (u4 0), .ref (u5 0), .null, .null, .null, .int 0, .int 0, .int 0, .int 0])) :: (t6 ++ Rz g u6))
  obtain ⟨t7, ht7⟩ : ∃ z : va_W, z = t6 ++ Rz g u6 := ⟨_, rfl⟩
  rw [← ht7]
  refine nx_putF (pc' := 81) (f := 6) (ci := 7) (C := RX7) (T := TX7) (N := 13) (ty0 := tyX7) (ws' := (h0, .inr (7, [.ref (u0 0), .ref (u1 0), .ref (u2 0), .ref (u3 0), .ref (u4 0), .ref (u5 0), .ref (u6 0), .null, .null, .int 0, .int 0, .int 0, .int 0])) :: (t7)) rfl dX7_init_78 rfl rfl rfl inGX7 tyX7_ok nmX7 (by decide) (tG 200 (by decide +kernel) rfl) rfl rfl (tyX7_ok 6 (by decide)) rfl rfl (Nat.le_of_ble_eq_true rfl) rfl ?_
  refine nx_aload_n (pc' := 82) dX7_init_81 rfl rfl rfl ?_
  refine nx_new (pc' := 85) (ci := 1) (fs := [.long 0, .long 0]) (k' := 72) (n' := 6322) (C := RX1) (T := TX1) (N := 2) (ty := tyX1) dX7_init_82 rfl rfl inGX1 tyX1_ok (tG 157 (by decide +kernel) rfl) (tG 158 (by decide +kernel) rfl) (tG 7 (by decide +kernel) rfl) (fun j hj => by rcases (show j = 0 ∨ j = 1 by omega) with rfl | rfl <;> rfl) rfl rfl (Nat.le_of_ble_eq_true rfl) (Nat.le_of_ble_eq_true rfl) (fun q7 => ?_)
  show NX g _ _ _ _ _ _ 72 6322 85 [.ref h0, Unk] [.ref q7, .ref h0] ((h0, .inr (7, [.ref (u0 0), .ref (u1 0), .ref (u2 0), .ref (u3 0), .ref (u4 0), .ref (u5 0), .ref (u6 0), .null, .null, .int 0, .int 0, .int 0, .int 0])) :: (t7 ++ [(q7, .inr (1, [.long 0, .long 0]))]))
  refine nx_dup (pc' := 86) dX7_init_85 rfl rfl ?_
  refine nx_call (pc' := 89) (pre := (h0, .inr (7, [.ref (u0 0), .ref (u1 0), .ref (u2 0), .ref (u3 0), .ref (u4 0), .ref (u5 0), .ref (u6 0), .null, .null, .int 0, .int 0, .int 0, .int 0])) :: (t7)) (k' := 72) (n' := 6322) (Wf := Xz) mX1_init_met dX7_init_86 rfl liX7_52 (Nat.le_of_ble_eq_true rfl) rfl rfl (Nat.le_of_ble_eq_true rfl) (Nat.le_of_ble_eq_true rfl) (fun u7 eu7 => ?_)
  subst eu7
  show NX g _ _ _ _ _ _ 72 6322 89 [.ref h0, Unk] [.ref (u7 0), .ref h0] ((h0, .inr (7, [.ref (u0 0), .ref (u1 0), .ref (u2 0), .ref (u3 0), .ref (u4 0), .ref (u5 0), .ref (u6 0), .null, .null, .int 0, .int 0, .int 0, .int 0])) :: (t7 ++ Xz g u7))
  obtain ⟨t8, ht8⟩ : ∃ z : va_W, z = t7 ++ Xz g u7 := ⟨_, rfl⟩
  rw [← ht8]
  refine nx_putF (pc' := 92) (f := 7) (ci := 7) (C := RX7) (T := TX7) (N := 13) (ty0 := tyX7) (ws' := (h0, .inr (7, [.ref (u0 0), .ref (u1 0), .ref (u2 0), .ref (u3 0), .ref (u4 0), .ref (u5 0), .ref (u6 0), .ref (u7 0), .null, .int 0, .int 0, .int 0, .int 0])) :: (t8)) rfl dX7_init_89 rfl rfl rfl inGX7 tyX7_ok nmX7 (by decide) (tG 201 (by decide +kernel) rfl) rfl rfl (tyX7_ok 7 (by decide)) rfl rfl (Nat.le_of_ble_eq_true rfl) rfl ?_
  refine nx_aload_n (pc' := 93) dX7_init_92 rfl rfl rfl ?_
  refine nx_iconst (pc' := 94) (x := 2) dX7_init_93 rfl (by decide) ?_
  refine nx_newM (pc' := 97) (N := 2) (k' := 73) (n' := 6324) dX7_init_94 rfl (tG 172 (by decide +kernel) rfl) (by decide) (by decide) (by decide) rfl rfl (Nat.le_of_ble_eq_true rfl) (Nat.le_of_ble_eq_true rfl) (fun q8 => ?_)
  show NX g _ _ _ _ _ _ 73 6324 97 [.ref h0, Unk] [.ref q8, .ref h0] ((h0, .inr (7, [.ref (u0 0), .ref (u1 0), .ref (u2 0), .ref (u3 0), .ref (u4 0), .ref (u5 0), .ref (u6 0), .ref (u7 0), .null, .int 0, .int 0, .int 0, .int 0])) :: (t8 ++ [(q8, rA g.2.2.2.2 2 (fun _ => none))]))
  refine nx_putF (pc' := 100) (f := 8) (ci := 7) (C := RX7) (T := TX7) (N := 13) (ty0 := tyX7) (ws' := (h0, .inr (7, [.ref (u0 0), .ref (u1 0), .ref (u2 0), .ref (u3 0), .ref (u4 0), .ref (u5 0), .ref (u6 0), .ref (u7 0), .ref q8, .int 0, .int 0, .int 0, .int 0])) :: (t8 ++ [(q8, rA g.2.2.2.2 2 (fun _ => none))])) rfl dX7_init_97 rfl rfl rfl inGX7 tyX7_ok nmX7 (by decide) (tG 202 (by decide +kernel) rfl) rfl rfl (tyX7_ok 8 (by decide)) rfl rfl (Nat.le_of_ble_eq_true rfl) rfl ?_
  refine nx_perm (ws' := (h0, .inr (7, [.ref (u0 0), .ref (u1 0), .ref (u2 0), .ref (u3 0), .ref (u4 0), .ref (u5 0), .ref (u6 0), .ref (u7 0), .ref q8, .int 0, .int 0, .int 0, .int 0])) :: (q8, rA g.2.2.2.2 2 (fun _ => none)) :: (t8)) (List.Perm.cons _ List.perm_append_comm) ?_
  refine nx_iconst (pc' := 101) (x := 0) dX7_init_100 rfl (by decide) ?_
  refine nx_istore_n (pc' := 102) dX7_init_101 rfl rfl (by decide) rfl (ls' := [.ref h0, .int 0]) rfl ?_
  refine nx_iload_n (pc' := 103) dX7_init_102 rfl rfl rfl ?_
  refine nx_iconst (pc' := 104) (x := 2) dX7_init_103 rfl (by decide) ?_
  refine nx_icmp_ge (pc' := 107) (tgt := 126) dX7_init_104 (by decide) rfl (fun hc => absurd hc (by decide)) (fun _ => ?_)
  refine nx_aload_n (pc' := 108) dX7_init_107 rfl rfl rfl ?_
  refine nx_get (pc' := 111) (f := 8) (ci := 7) (C := RX7) (T := TX7) (N := 13) (v := .ref q8) dX7_init_108 rfl rfl rfl inGX7 (by decide) (tG 202 (by decide +kernel) rfl) rfl ?_
  refine nx_iload_n (pc' := 112) dX7_init_111 rfl rfl rfl ?_
  refine nx_new (pc' := 115) (ci := 3) (fs := [.null, .null, .int 0]) (k' := 74) (n' := 6327) (C := RX3) (T := TX3) (N := 3) (ty := tyX3) dX7_init_112 rfl rfl inGX3 tyX3_ok (tG 172 (by decide +kernel) rfl) (tG 174 (by decide +kernel) rfl) (tG 8 (by decide +kernel) rfl) (fun j hj => by rcases (show j = 0 ∨ j = 1 ∨ j = 2 by omega) with rfl | rfl | rfl <;> rfl) rfl rfl (Nat.le_of_ble_eq_true rfl) (Nat.le_of_ble_eq_true rfl) (fun q9 => ?_)
  show NX g _ _ _ _ _ _ 74 6327 115 [.ref h0, .int 0] [.ref q9, .int 0, .ref q8] ((h0, .inr (7, [.ref (u0 0), .ref (u1 0), .ref (u2 0), .ref (u3 0), .ref (u4 0), .ref (u5 0), .ref (u6 0), .ref (u7 0), .ref q8, .int 0, .int 0, .int 0, .int 0])) :: (q8, rA g.2.2.2.2 2 (fun _ => none)) :: (t8 ++ [(q9, .inr (3, [.null, .null, .int 0]))]))
  refine nx_dup (pc' := 116) dX7_init_115 rfl rfl ?_
  refine nx_call (pc' := 119) (pre := (h0, .inr (7, [.ref (u0 0), .ref (u1 0), .ref (u2 0), .ref (u3 0), .ref (u4 0), .ref (u5 0), .ref (u6 0), .ref (u7 0), .ref q8, .int 0, .int 0, .int 0, .int 0])) :: (q8, rA g.2.2.2.2 2 (fun _ => none)) :: (t8)) (k' := 83) (n' := 7115) (Wf := Iz) mX3_init_met dX7_init_116 rfl liX7_63 (Nat.le_of_ble_eq_true rfl) rfl rfl (Nat.le_of_ble_eq_true rfl) (Nat.le_of_ble_eq_true rfl) (fun u9 eu9 => ?_)
  subst eu9
  show NX g _ _ _ _ _ _ 83 7115 119 [.ref h0, .int 0] [.ref (u9 0), .int 0, .ref q8] ((h0, .inr (7, [.ref (u0 0), .ref (u1 0), .ref (u2 0), .ref (u3 0), .ref (u4 0), .ref (u5 0), .ref (u6 0), .ref (u7 0), .ref q8, .int 0, .int 0, .int 0, .int 0])) :: (q8, rA g.2.2.2.2 2 (fun _ => none)) :: (t8 ++ Iz g u9))
  refine nx_perm (ws' := (h0, .inr (7, [.ref (u0 0), .ref (u1 0), .ref (u2 0), .ref (u3 0), .ref (u4 0), .ref (u5 0), .ref (u6 0), .ref (u7 0), .ref q8, .int 0, .int 0, .int 0, .int 0])) :: (q8, rA g.2.2.2.2 2 (fun _ => none)) :: (Iz g u9 ++ t8)) (List.Perm.cons _ (List.Perm.cons _ List.perm_append_comm)) ?_
  refine nx_aast (pc' := 120) (q0 := 1) (t0 := 3) (qk := 2) (ci := 3) (N := 2) (cA := g.2.2.2.2) (f := (fun _ => none)) (j := 0) (r := (RX3, TX3, 3)) (ws' := (h0, .inr (7, [.ref (u0 0), .ref (u1 0), .ref (u2 0), .ref (u3 0), .ref (u4 0), .ref (u5 0), .ref (u6 0), .ref (u7 0), .ref q8, .int 0, .int 0, .int 0, .int 0])) :: (q8, rA g.2.2.2.2 2 (va_up (fun _ => none) 0 (some (u9 0)))) :: (Iz g u9 ++ t8)) dX7_init_119 rfl rfl rfl rfl rfl (by unfold vp_in; decide) (by decide) rfl ?_
  obtain ⟨t10, ht10⟩ : ∃ z : va_W, z = Iz g u9 ++ t8 := ⟨_, rfl⟩
  rw [← ht10]
  refine nx_iinc (pc' := 123) (v := 1) dX7_init_120 rfl (by decide) rfl rfl (by decide) (ls' := [.ref h0, .int 1]) rfl ?_
  refine nx_goto (pc' := 102) dX7_init_123 (by decide) ?_
  refine nx_iload_n (pc' := 103) dX7_init_102 rfl rfl rfl ?_
  refine nx_iconst (pc' := 104) (x := 2) dX7_init_103 rfl (by decide) ?_
  refine nx_icmp_ge (pc' := 107) (tgt := 126) dX7_init_104 (by decide) rfl (fun hc => absurd hc (by decide)) (fun _ => ?_)
  refine nx_aload_n (pc' := 108) dX7_init_107 rfl rfl rfl ?_
  refine nx_get (pc' := 111) (f := 8) (ci := 7) (C := RX7) (T := TX7) (N := 13) (v := .ref q8) dX7_init_108 rfl rfl rfl inGX7 (by decide) (tG 202 (by decide +kernel) rfl) rfl ?_
  refine nx_iload_n (pc' := 112) dX7_init_111 rfl rfl rfl ?_
  refine nx_new (pc' := 115) (ci := 3) (fs := [.null, .null, .int 0]) (k' := 84) (n' := 7118) (C := RX3) (T := TX3) (N := 3) (ty := tyX3) dX7_init_112 rfl rfl inGX3 tyX3_ok (tG 172 (by decide +kernel) rfl) (tG 174 (by decide +kernel) rfl) (tG 8 (by decide +kernel) rfl) (fun j hj => by rcases (show j = 0 ∨ j = 1 ∨ j = 2 by omega) with rfl | rfl | rfl <;> rfl) rfl rfl (Nat.le_of_ble_eq_true rfl) (Nat.le_of_ble_eq_true rfl) (fun q10 => ?_)
  show NX g _ _ _ _ _ _ 84 7118 115 [.ref h0, .int 1] [.ref q10, .int 1, .ref q8] ((h0, .inr (7, [.ref (u0 0), .ref (u1 0), .ref (u2 0), .ref (u3 0), .ref (u4 0), .ref (u5 0), .ref (u6 0), .ref (u7 0), .ref q8, .int 0, .int 0, .int 0, .int 0])) :: (q8, rA g.2.2.2.2 2 (va_up (fun _ => none) 0 (some (u9 0)))) :: (t10 ++ [(q10, .inr (3, [.null, .null, .int 0]))]))
  refine nx_dup (pc' := 116) dX7_init_115 rfl rfl ?_
  refine nx_call (pc' := 119) (pre := (h0, .inr (7, [.ref (u0 0), .ref (u1 0), .ref (u2 0), .ref (u3 0), .ref (u4 0), .ref (u5 0), .ref (u6 0), .ref (u7 0), .ref q8, .int 0, .int 0, .int 0, .int 0])) :: (q8, rA g.2.2.2.2 2 (va_up (fun _ => none) 0 (some (u9 0)))) :: (t10)) (k' := 93) (n' := 7906) (Wf := Iz) mX3_init_met dX7_init_116 rfl liX7_63 (Nat.le_of_ble_eq_true rfl) rfl rfl (Nat.le_of_ble_eq_true rfl) (Nat.le_of_ble_eq_true rfl) (fun u10 eu10 => ?_)
  subst eu10
  show NX g _ _ _ _ _ _ 93 7906 119 [.ref h0, .int 1] [.ref (u10 0), .int 1, .ref q8] ((h0, .inr (7, [.ref (u0 0), .ref (u1 0), .ref (u2 0), .ref (u3 0), .ref (u4 0), .ref (u5 0), .ref (u6 0), .ref (u7 0), .ref q8, .int 0, .int 0, .int 0, .int 0])) :: (q8, rA g.2.2.2.2 2 (va_up (fun _ => none) 0 (some (u9 0)))) :: (t10 ++ Iz g u10))
  refine nx_perm (ws' := (h0, .inr (7, [.ref (u0 0), .ref (u1 0), .ref (u2 0), .ref (u3 0), .ref (u4 0), .ref (u5 0), .ref (u6 0), .ref (u7 0), .ref q8, .int 0, .int 0, .int 0, .int 0])) :: (q8, rA g.2.2.2.2 2 (va_up (fun _ => none) 0 (some (u9 0)))) :: (Iz g u10 ++ t10)) (List.Perm.cons _ (List.Perm.cons _ List.perm_append_comm)) ?_
  refine nx_aast (pc' := 120) (q0 := 1) (t0 := 3) (qk := 2) (ci := 3) (N := 2) (cA := g.2.2.2.2) (f := (va_up (fun _ => none) 0 (some (u9 0)))) (j := 1) (r := (RX3, TX3, 3)) (ws' := (h0, .inr (7, [.ref (u0 0), .ref (u1 0), .ref (u2 0), .ref (u3 0), .ref (u4 0), .ref (u5 0), .ref (u6 0), .ref (u7 0), .ref q8, .int 0, .int 0, .int 0, .int 0])) :: (q8, rA g.2.2.2.2 2 (va_up (va_up (fun _ => none) 0 (some (u9 0))) 1 (some (u10 0)))) :: (Iz g u10 ++ t10)) dX7_init_119 rfl rfl rfl rfl rfl (by unfold vp_in; decide) (by decide) rfl ?_
  obtain ⟨t11, ht11⟩ : ∃ z : va_W, z = Iz g u10 ++ t10 := ⟨_, rfl⟩
  rw [← ht11]
  refine nx_iinc (pc' := 123) (v := 2) dX7_init_120 rfl (by decide) rfl rfl (by decide) (ls' := [.ref h0, .int 2]) rfl ?_
  refine nx_goto (pc' := 102) dX7_init_123 (by decide) ?_
  refine nx_iload_n (pc' := 103) dX7_init_102 rfl rfl rfl ?_
  refine nx_iconst (pc' := 104) (x := 2) dX7_init_103 rfl (by decide) ?_
  refine nx_icmp_ge (pc' := 107) (tgt := 126) dX7_init_104 (by decide) rfl (fun _ => ?_) (fun hc => absurd (by decide) hc)
  refine nx_recell (q0 := 1) (N := 2) (cA := g.2.2.2.2) (f := (va_up (va_up (fun _ => none) 0 (some (u9 0))) 1 (some (u10 0)))) (f' := (fun k => some ((qPl h0 q8 u0 u1 u2 u3 u4 u5 u6 u7 u9 u10) (10 + k)))) (ws' := (h0, .inr (7, [.ref (u0 0), .ref (u1 0), .ref (u2 0), .ref (u3 0), .ref (u4 0), .ref (u5 0), .ref (u6 0), .ref (u7 0), .ref q8, .int 0, .int 0, .int 0, .int 0])) :: (q8, rA g.2.2.2.2 2 (fun k => some ((qPl h0 q8 u0 u1 u2 u3 u4 u5 u6 u7 u9 u10) (10 + k)))) :: (t11)) rfl (fun j hj => by rcases (show j = 0 ∨ j = 1 by omega) with rfl | rfl <;> rfl) rfl ?_
  refine nx_perm (ws' := (h0, .inr (7, [.ref (u0 0), .ref (u1 0), .ref (u2 0), .ref (u3 0), .ref (u4 0), .ref (u5 0), .ref (u6 0), .ref (u7 0), .ref q8, .int 0, .int 0, .int 0, .int 0])) :: (t8 ++ [(q8, rA g.2.2.2.2 2 (fun k => some ((qPl h0 q8 u0 u1 u2 u3 u4 u5 u6 u7 u9 u10) (10 + k))))] ++ Iz g u9 ++ Iz g u10)) (List.Perm.cons _ ?_) ?_
  · rw [ht11, ht10]
    exact perm_fin
  · refine nx_end ⟨dX7_init_126, (qPl h0 q8 u0 u1 u2 u3 u4 u5 u6 u7 u9 u10), rfl, ?_⟩ (Nat.le_refl _) (Nat.le_refl _)
    rw [Pz, Pzf, blk_q 1 (by omega), blk_q 2 (by omega), blk_q 3 (by omega), blk_q 4 (by omega), blk_q 5 (by omega), blk_q 6 (by omega), blk_q 7 (by omega), blk_q 8 (by omega), blk_q 10 (by omega), blk_q 11 (by omega)]
    rw [ht8, ht7, ht6, ht5, ht4, ht3, ht2, ht1]
    rfl
