/-! Every call keeps what holds of the states. -/
section WSK
variable {S : Ab} {VA : Ar → Prop} {F : Fl}
theorem ws_F (hw : WS VA S) {G : Fl} (hG : WF G) : WS VA (setF S G) := by
  refine ⟨hG, ⟨?_, hpush_WF hw⟩, hw.2.2⟩
  show (hpush (bH S) (bF S)).1 ≤ 8
  unfold hpush
  have := hw.2.1.1
  split
  · rename_i c; show (bH S).1 + 1 ≤ 8; omega
  · exact Nat.le_refl 8
theorem ws_0 (hw : WS VA S) : WS VA (rf0 S) := hw
theorem ws_1 (hw : WS VA S) : WS VA (rf1 S) := hw
theorem ws_2 (hw : WS VA S) : WS VA (rf2 S) := hw
theorem ws_R (hw : WS VA S) (R : Int64 × Int64) : WS VA (setR S R) := hw
theorem ws_E (hw : WS VA S) (v : Int32) : WS VA (setE S v) := hw
theorem ws_put (hw : WS VA S) {x y w : Int32} : WS VA (o_put S x y w).2 := by
  unfold o_put
  split
  · rename_i c
    split
    · rename_i c2
      exact ws_F hw (hw.1.come c2.1 c2.2 c.1.1 c.1.2 c.2)
    · exact ws_2 hw
  · exact ws_0 hw
theorem ws_take (hw : WS VA S) {n : Int32} : WS VA (o_take S n).2 := by
  unfold o_take
  split
  · exact ws_0 hw
  · rename_i e he
    obtain ⟨h1, h2, _⟩ := fnd_some he
    exact ws_F hw (hw.1.go h1 h2)
theorem ws_move (hw : WS VA S) {n x y : Int32} : WS VA (o_move S n x y).2 := by
  unfold o_move
  split
  · exact ws_0 hw
  · rename_i e he
    obtain ⟨h1, h2, _⟩ := fnd_some he
    split
    · rename_i c
      split
      · rename_i c2
        have ht := goF_there hw.1 h1 h2
        have hb := hw.1.1
        exact ws_F hw ((hw.1.go h1 h2).come (by omega) (by rw [goF_nx]; exact c2) c.1 c.2 (hw.1.2.2.1 e h1).2.2.2.1)
      · exact ws_2 hw
    · exact ws_0 hw
theorem ws_counter (hw : WS VA S) {k : Int32} : WS VA (o_counter S k).2 := by
  unfold o_counter
  split
  · rename_i c
    have hW := hw.1
    have : WF (setK (bF S) k) := ⟨⟨hW.1.1, hW.1.2.1, hW.1.2.2.1, c.1, c.2⟩, hW.2⟩
    exact ws_F hw this
  · exact ws_0 hw
theorem ws_undo (hw : WS VA S) : WS VA (o_undo S).2 := by
  unfold o_undo
  split
  · exact ws_1 hw
  · rename_i c
    have h8 := hw.2.1.1
    refine ⟨hw.2.1.2 _ (by omega), ⟨show (bH S).1 - 1 ≤ 8 by omega, fun j hj => hw.2.1.2 j ?_⟩, hw.2.2⟩
    have hj2 : j < (bH S).1 - 1 := hj
    omega
theorem ws_scatter (hw : WS VA S) {s n : Int32} : WS VA (o_scatter S s n).2 := by
  unfold o_scatter
  split
  · split
    · rename_i c
      exact ws_F hw (hw.1.sc _ _ c.1 c.2)
    · exact ws_2 hw
  · exact ws_0 hw
theorem ws_type (hw : WS VA S) {c : Int32} : WS VA (o_type S c).2 := by
  unfold o_type
  split
  · rename_i c1
    split
    · rename_i c2
      refine ⟨hw.1, hw.2.1, hw.2.2.1, hw.2.2.2.1, ⟨show (bT S).1 + 1 ≤ 120 by omega, fun k hk => ?_⟩⟩
      have hk2 : k < (bT S).1 + 1 := hk
      show 0 ≤ (if k = (bT S).1 then c else (bT S).2 k) ∧ (if k = (bT S).1 then c else (bT S).2 k) ≤ 127
      split
      · exact c1
      · exact hw.2.2.2.2.2 k (by omega)
    · exact ws_2 hw
  · exact ws_0 hw
theorem ws_clear (hw : WS VA S) : WS VA (o_clear S).2 := ⟨hw.1, hw.2.1, hw.2.2.1, hw.2.2.2.1, ⟨Nat.zero_le 120, fun k hk => absurd hk (Nat.not_lt_zero k)⟩⟩
theorem ws_image (hw : WS VA S) {i : Int32} : WS VA (o_image S i).2 := by
  unfold o_image
  split
  · refine ⟨hw.1, hw.2.1, fun j hj hk => ?_, hw.2.2.2⟩
    by_cases c : j = i.toNatClampNeg
    · have e : bI (setI S i.toNatClampNeg (true, bF S, bA S)) j = (true, bF S, bA S) := (show (if j = i.toNatClampNeg then (true, bF S, bA S) else bI S j) = _ from if_pos c)
      rw [e]
      exact ⟨hw.1, hw.2.2.2.1⟩
    · have e : bI (setI S i.toNatClampNeg (true, bF S, bA S)) j = bI S j := (show (if j = i.toNatClampNeg then (true, bF S, bA S) else bI S j) = _ from if_neg c)
      rw [e] at hk ⊢
      exact hw.2.2.1 j hj hk
  · exact ws_0 hw
theorem ws_from (hw : WS VA S) {i : Int32} : WS VA (o_from S i).2 := by
  unfold o_from
  split
  · rename_i c
    split
    · rename_i c2
      have hi : i.toNatClampNeg < 2 := by
        obtain ⟨j, hj, rfl⟩ := nI_of (Int32.not_lt.mpr c.1)
        rw [nI_clamp hj]
        have := (nI_leI hj (b := 1) (by decide)).mp c.2
        omega
      have h2 := hw.2.2.1 _ hi c2
      exact ⟨h2.1, ⟨Nat.zero_le 8, fun j hj => absurd hj (Nat.not_lt_zero j)⟩, hw.2.2.1, h2.2, hw.2.2.2.2⟩
    · exact ws_1 hw
  · exact ws_0 hw
end WSK
