/-! The first state, and the law's walk from its entry. -/
def sg0 : Mem := (fun _ _ => 0, fun i k => if (i = 72 ∧ k = 1) ∨ (i = 94 ∧ k = 8) then 1 else 0)
def Fl0 : Fl := ((0, 0, 0), (0, 0, 0), fun _ => 0, fun _ => 0, fun _ => 0, fun _ => 0, fun _ => 0)
def Ab0 : Ab := mkS Fl0 (0, fun _ => Fl0) (fun _ => (false, Fl0, eA)) eA (0, fun _ => 0) (0, 1) 0 (0, 0, 0)
theorem wf0 : WF Fl0 := ⟨⟨by decide, by decide, by decide, by decide, by decide⟩, rfl, fun e he => absurd he (Nat.not_lt_zero e), fun i j _ hj => absurd hj (Nat.not_lt_zero j), fun i j hi => absurd hi (Nat.not_lt_zero i)⟩
theorem va0 : VA0 eA := OKA.va (A := eA) |> fun _ => ⟨⟨by decide, by decide, fun k hk => absurd hk (Nat.not_lt_zero k)⟩, fun k hk => absurd hk (Nat.not_lt_zero k), fun k hk => by rw [show k = 0 from Nat.le_zero.mp hk]; exact Nat.zero_le _, Nat.zero_le _⟩
theorem ws0 : WS VA0 Ab0 := ⟨wf0, ⟨Nat.zero_le _, fun j hj => absurd hj (Nat.not_lt_zero j)⟩, fun i _ h => absurd (show false = true from h) (by decide), va0, ⟨Nat.zero_le _, fun k hk => absurd hk (Nat.not_lt_zero k)⟩⟩
theorem cf0 (f : Nat) : CF sg0 f Fl0 := ⟨⟨rfl, rfl, rfl, rfl, rfl, rfl⟩, fun e he => absurd he (Nat.not_lt_zero e)⟩
theorem cs0 (q : Nat) : CS sg0 q eA := ⟨rfl, rfl, fun k hk => absurd hk (Nat.not_lt_zero k), fun k hk => absurd hk (Nat.not_lt_zero k)⟩
theorem cl0 : CL sg0 Ab0 := ⟨cf0 1, ⟨0, by decide, rfl, rfl, Nat.zero_le _, fun j hj => absurd hj (Nat.not_lt_zero j)⟩, fun i _ => ⟨rfl, fun h => absurd (show false = true from h) (by decide)⟩, cs0 64, ⟨rfl, fun k hk => absurd hk (Nat.not_lt_zero k)⟩, ⟨by decide, by decide⟩, rfl, rfl, rfl, rfl⟩
theorem md0 : MD sg0 Ab0 := ⟨⟨⟨rfl, rfl, rfl, rfl, rfl, rfl⟩, fun e he => absurd he (Nat.not_lt_zero e), fun k hk => absurd hk (Nat.not_lt_zero k)⟩, ⟨rfl, Nat.zero_le _, fun j hj => absurd hj (Nat.not_lt_zero j)⟩, fun i _ => ⟨rfl, fun h => absurd (show false = true from h) (by decide)⟩, ⟨rfl, rfl, fun k hk => absurd hk (Nat.not_lt_zero k), fun k hk => absurd hk (Nat.not_lt_zero k)⟩, ⟨rfl, fun k hk => absurd hk (Nat.not_lt_zero k)⟩, ⟨by decide, by decide⟩, rfl, rfl, rfl, rfl⟩
def adr (b : Nat) (u v : Nat → Nat) : Nat → Nat := fun k => if k = 0 then u 0 else if k < 7 then blk u 1 (k - 1) else if k < 57 then blk u 2 (k - 7) else if k < 59 then blk u 3 (k - 57) else if k < 61 then blk u 4 (k - 59) else if k < 64 then blk u 5 (k - 61) else if k < 67 then blk u 6 (k - 64) else if k < 72 then blk u 7 (k - 67) else if k = 72 then blk u 8 0 else if k = 73 then u 9 else if k < 84 then blk u 10 (k - 74) else if k < 94 then blk u 11 (k - 84) else if k < 103 then v (k - 94) else b
def wc0 (g : Cg) (b : Nat) (u v : Nat → Nat) : WC := (adr b u v, g.1, g.2.1, g.2.2.1, g.2.2.2.1, g.2.2.2.2)
def FF (g : Cg) (q : Nat → Nat) : va_W := Fz g (fun k => q (2 + k)) ++ Fz g (fun k => q (8 + k)) ++ Fz g (fun k => q (14 + k)) ++ Fz g (fun k => q (20 + k)) ++ Fz g (fun k => q (26 + k)) ++ Fz g (fun k => q (32 + k)) ++ Fz g (fun k => q (38 + k)) ++ Fz g (fun k => q (44 + k))
def W0a (g : Cg) (u : Nat → Nat) : va_W := (u 0, .inr (7, [.ref (u 1), .ref (u 2), .ref (u 3), .ref (u 4), .ref (u 5), .ref (u 6), .ref (u 7), .ref (u 8), .ref (u 9), .int 0, .int 0, .int 0, .int 0])) :: (Fz g (blk u 1) ++ [(blk u 2 0, .inr (2, [.ref (blk u 2 1), .int 0, .int 0]))])
def W0b (g : Cg) (u : Nat → Nat) : va_W := FF g (blk u 2) ++ Kz g (blk u 3) ++ Kz g (blk u 4) ++ Sz g (blk u 5) ++ Sz g (blk u 6) ++ Rz g (blk u 7) ++ Xz g (blk u 8)
def W0c (g : Cg) (u v : Nat → Nat) : va_W := Iz g (blk u 10) ++ Iz g (blk u 11) ++ Mz g v
def W0 (g : Cg) (u v : Nat → Nat) (f8 f73 : Nat → Option Nat) : va_W := W0a g u ++ (blk u 2 1, rA g.2.2.2.1 8 f8) :: (W0b g u ++ (u 9, rA g.2.2.2.2 2 f73) :: W0c g u v)
theorem W0_eq (g : Cg) (u v : Nat → Nat) : Pz g u ++ Mz g v = W0 g u v (fun k => some (blk u 2 (2 + 6 * k))) (fun k => some (u (10 + k))) := by
  simp only [W0, W0a, W0b, W0c, Pz, Pzf, Hz, FF, List.append_assoc, List.cons_append, List.nil_append]
theorem va_P_rc {D : va_G} {cl : List vw_C} {l1 l2 : va_W} {a n : Nat} {c : ClassId} {f f' : Nat → Option Nat} {H : Heap} (h : va_P D cl (l1 ++ (a, rA c n f) :: l2) H) (hf : ∀ j, j < n → f j = f' j) : va_P D cl (l1 ++ (a, rA c n f') :: l2) H := by
  rw [va_P_mem] at h ⊢
  intro q hq
  rcases List.mem_append.mp hq with hq | hq
  · exact h q (List.mem_append_left _ hq)
  · rcases List.mem_cons.mp hq with hq | hq
    · subst hq
      have h1 : H[a]? = some (arrV c n (fun j => va_rf (f j))) := h (a, rA c n f) (List.mem_append_right _ List.mem_cons_self)
      show H[a]? = some (arrV c n (fun j => va_rf (f' j)))
      rw [h1]
      congr 1
      unfold arrV
      congr 1
      congr 1
      funext j
      show va_rf (f j.val) = va_rf (f' j.val)
      rw [hf j.val j.isLt]
    · exact h q (List.mem_append_right _ (List.mem_cons_of_mem _ hq))
theorem va_D_rc {A : Nat → Prop} {l1 l2 : va_W} {a : Nat} {e e' : va_E} (h : va_D A (l1 ++ (a, e) :: l2)) : va_D A (l1 ++ (a, e') :: l2) := by
  rw [va_D_mem] at h ⊢
  rw [List.map_append, List.map_cons] at h ⊢
  refine ⟨h.1, fun q hq => ?_⟩
  rcases List.mem_append.mp hq with hq | hq
  · exact h.2 q (List.mem_append_left _ hq)
  · rcases List.mem_cons.mp hq with hq | hq
    · subst hq
      exact h.2 (a, e) (List.mem_append_right _ List.mem_cons_self)
    · exact h.2 q (List.mem_append_right _ (List.mem_cons_of_mem _ hq))
set_option maxRecDepth 100000 in
set_option maxHeartbeats 8000000 in
theorem wsM0 (g : Cg) (b : Nat) (u v : Nat → Nat) : wsM (wc0 g b u v) sg0 = W0 g u v (fun k => some (adr b u v (rf 8 k))) (fun k => some (adr b u v (rf 73 k))) := by
  rfl
theorem rf_8 : ∀ k, k < 8 → rf 8 k = 9 + 6 * k := by decide
theorem rep0 {g : Cg} {b : Nat} {u v : Nat → Nat} {A : Nat → Prop} {H : Heap} (hP : va_P g.1 vwCl (Pz g u ++ Mz g v) H) (hD : va_D A (Pz g u ++ Mz g v)) : Rep (wc0 g b u v) A sg0 H := by
  rw [W0_eq] at hP hD
  unfold Rep
  rw [wsM0]
  refine ⟨?_, ?_⟩
  · refine va_P_rc (f := fun k => some (blk u 2 (2 + 6 * k))) ?_ (fun j hj => ?_)
    · have h2 := va_P_rc (l1 := W0a g u ++ (blk u 2 1, rA g.2.2.2.1 8 (fun k => some (blk u 2 (2 + 6 * k)))) :: W0b g u) (f' := fun k => some (adr b u v (rf 73 k))) (by rw [List.append_assoc, List.cons_append]; exact hP) (fun j hj => by rcases (show j = 0 ∨ j = 1 by omega) with rfl | rfl <;> rfl)
      rw [List.append_assoc, List.cons_append] at h2
      exact h2
    · rcases (show j = 0 ∨ j = 1 ∨ j = 2 ∨ j = 3 ∨ j = 4 ∨ j = 5 ∨ j = 6 ∨ j = 7 by omega) with rfl | rfl | rfl | rfl | rfl | rfl | rfl | rfl <;> rfl
  · refine va_D_rc (e := rA g.2.2.2.1 8 (fun k => some (blk u 2 (2 + 6 * k)))) ?_
    have h2 := va_D_rc (l1 := W0a g u ++ (blk u 2 1, rA g.2.2.2.1 8 (fun k => some (blk u 2 (2 + 6 * k)))) :: W0b g u) (e' := rA g.2.2.2.2 2 (fun k => some (adr b u v (rf 73 k)))) (by rw [List.append_assoc, List.cons_append]; exact hD)
    rw [List.append_assoc, List.cons_append] at h2
    exact h2
theorem kn_start {s : State} {args : Array Value} (hts : ∀ w ∈ lw_tbl, w.before args s = true) : ∃ g : Cg, KN g s := by
  have hG : ∀ q ∈ lwG, q.before args s = true := fun q hq => hts q (List.mem_filter.mp hq).1
  have hT : ∀ (i : Nat) (w : Cond), tables_1[i]? = some w → w.before args s = true := fun i w h => hts w (List.mem_append_right _ (List.mem_of_getElem? h))
  obtain ⟨c0, i0, k0⟩ := u_known (C := RX0) (T := TX0) (N := 11) (n := 11) hG inGX0 (hG _ (tG 22 (by decide +kernel) rfl))
  obtain ⟨c1, i1, k1⟩ := u_known (C := RX1) (T := TX1) (N := 2) (n := 2) hG inGX1 (hG _ (tG 158 (by decide +kernel) rfl))
  obtain ⟨c2, i2, k2⟩ := u_known (C := RX2) (T := TX2) (N := 3) (n := 3) hG inGX2 (hG _ (tG 77 (by decide +kernel) rfl))
  obtain ⟨c3, i3, k3⟩ := u_known (C := RX3) (T := TX3) (N := 3) (n := 3) hG inGX3 (hG _ (tG 174 (by decide +kernel) rfl))
  obtain ⟨c4, i4, k4⟩ := u_known (C := RX4) (T := TX4) (N := 2) (n := 2) hG inGX4 (hG _ (tG 97 (by decide +kernel) rfl))
  obtain ⟨c5, i5, k5⟩ := u_known (C := RX5) (T := TX5) (N := 5) (n := 5) hG inGX5 (hG _ (tG 132 (by decide +kernel) rfl))
  obtain ⟨c6, i6, k6⟩ := u_known (C := RX6) (T := TX6) (N := 4) (n := 4) hG inGX6 (hG _ (tG 112 (by decide +kernel) rfl))
  obtain ⟨c7, i7, k7⟩ := u_known (C := RX7) (T := TX7) (N := 13) (n := 13) hG inGX7 (hG _ (tG 14 (by decide +kernel) rfl))
  obtain ⟨c8, i8, k8⟩ := u_known (C := RX8) (T := TX8) (N := 20) (n := 20) hG inGX8 (hG _ (tG 694 (by decide +kernel) rfl))
  obtain ⟨cI, kI, pI, f1, f2, f3⟩ := Cond.arrayClass_spec (hG (Cond.arrayClass .int) (tG 75 (by decide +kernel) rfl))
  obtain ⟨cZ, kZ, pZ, z1, z2, z3⟩ := Cond.arrayClass_spec (hG (Cond.arrayClass .boolean) (tG 760 (by decide +kernel) rfl))
  have o0 : (Cond.arrayOver (.object RX0)).before args s = true := hT 83 (Cond.arrayOver (.object RX0)) (by decide +kernel)
  have o3 : (Cond.arrayOver (.object RX3)).before args s = true := hT 173 (Cond.arrayOver (.object RX3)) (by decide +kernel)
  obtain ⟨pF, cF, kF, a1, a2, a3, a4, a5⟩ := Cond.arrayOver_spec o0
  obtain ⟨pM, cM, kM, b1, b2, b3, b4, b5⟩ := Cond.arrayOver_spec o3
  refine ⟨((fun k => [c0, c1, c2, c3, c4, c5, c6, c7, c8].getD k c0, fun k => [i0, i1, i2, i3, i4, i5, i6, i7, i8].getD k i0), cI, cZ, cF, cM), ⟨fun c q hq => ?_, fun k q hq => ?_⟩, ⟨va_AO.of o0, va_AO.of o3⟩, fun q hq => ?_⟩
  · match c, hq with
    | 0, hq => cases hq; exact k0
    | 1, hq => cases hq; exact k1
    | 2, hq => cases hq; exact k2
    | 3, hq => cases hq; exact k3
    | 4, hq => cases hq; exact k4
    | 5, hq => cases hq; exact k5
    | 6, hq => cases hq; exact k6
    | 7, hq => cases hq; exact k7
    | 8, hq => cases hq; exact k8
    | c + 9, hq => simp [vwCl] at hq
  · match k, hq with
    | 0, hq => cases hq; exact ⟨fun n z => ⟨fun k h => (by cases h), kI, f2, pI, f3⟩, f1⟩
    | 1, hq => cases hq; exact ⟨fun n z => ⟨fun k h => (by cases h), kZ, z2, pZ, z3⟩, z1⟩
    | 2, hq => cases hq; exact ⟨fun n z => ⟨fun k h => (by cases h), kF, a3, pF, a4⟩, ⟨kF, pF, a3, a4, a1, a5⟩⟩
    | 3, hq => cases hq; exact ⟨fun n z => ⟨fun k h => (by cases h), kM, b3, pM, b4⟩, ⟨kM, pM, b3, b4, b1, b5⟩⟩
    | k + 4, hq => simp [tyN] at hq
  · obtain ⟨i, hi⟩ := List.getElem?_of_mem (List.mem_filter.mp hq).1
    exact va_Nw.of (nsm_on hq) (hT i q hi)
