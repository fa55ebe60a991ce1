abbrev onA (x : Int32) : Prop := -500 ≤ x ∧ x ≤ 500
abbrev plP (x y : Int32) : Prop := onA x ∧ onA y
abbrev rectP (a b c d : Int32) : Prop := onA a ∧ onA b ∧ onA c ∧ onA d ∧ a ≤ b ∧ c ≤ d
theorem i64_lt (x y : Int32) : x.toInt64 < y.toInt64 ↔ x < y := by
  rw [Int64.lt_iff_toInt_lt, Int32.lt_iff_toInt_lt, Int32.toInt_toInt64, Int32.toInt_toInt64]
set_option maxRecDepth 100000 in
set_option maxHeartbeats 4000000 in
theorem vX8_in_0 {d : Nat} {σ : Mem} {Q : Option Value → Mem → Prop} {y0 y2 y4 : Int64} 
    (h : (((lg_cmp y0 y2) < 0 → Q (some (.int 0)) σ) ∧ (¬ (lg_cmp y0 y2) < 0 → ((0 < (lg_cmp y0 y4) → Q (some (.int 0)) σ) ∧ (¬ 0 < (lg_cmp y0 y4) → Q (some (.int 1)) σ))))) :
    X none d mX8_in 0 [.long y0, Unk, .long y2, Unk, .long y4, Unk] [] σ Q := by
  refine x_lload_n (pc' := 1) dX8_in_0 rfl rfl rfl ?_
  refine x_lload_n (pc' := 2) dX8_in_1 rfl rfl rfl ?_
  refine x_lcmp (pc' := 3) dX8_in_2 rfl ?_
  refine x_if_lt (pc' := 6) (tgt := 17) dX8_in_3 (by decide) rfl (fun hc => ?_) (fun hc => ?_)
  · replace h := h.1 hc
    refine x_iconst (pc' := 18) (v := 0) dX8_in_17 rfl (by decide) ?_
    exact x_iret dX8_in_18 rfl rfl h
  · replace h := h.2 hc
    refine x_lload_n (pc' := 7) dX8_in_6 rfl rfl rfl ?_
    refine x_lload (pc' := 9) dX8_in_7 rfl rfl ?_
    refine x_lcmp (pc' := 10) dX8_in_9 rfl ?_
    refine x_if_gt (pc' := 13) (tgt := 17) dX8_in_10 (by decide) rfl (fun hc => ?_) (fun hc => ?_)
    · replace h := h.1 hc
      refine x_iconst (pc' := 18) (v := 0) dX8_in_17 rfl (by decide) ?_
      exact x_iret dX8_in_18 rfl rfl h
    · replace h := h.2 hc
      refine x_iconst (pc' := 14) (v := 1) dX8_in_13 rfl (by decide) ?_
      refine x_goto (pc' := 18) dX8_in_14 (by decide) ?_
      exact x_iret dX8_in_18 rfl rfl h
theorem sp_in {d : Nat} {σ : Mem} {Q : Option Value → Mem → Prop} {x lo hi : Int32} {lo' hi' : Int64} (hl : lo' = lo.toInt64) (hh : hi' = hi.toInt64) (h : Q (some (.int (if (lo ≤ x ∧ x ≤ hi) then 1 else 0))) σ) : X none d mX8_in 0 [.long x.toInt64, Unk, .long lo', Unk, .long hi', Unk] [] σ Q := by
  subst hl hh
  refine vX8_in_0 ?_
  rw [lg_cmp_lt, lg_cmp_gt, i64_lt, i64_lt]
  refine ⟨fun c => Qe h ?_, fun c => ⟨fun c1 => Qe h ?_, fun c1 => Qe h ?_⟩⟩
  · simp [Int32.not_le.mpr c]
  · simp [Int32.not_le.mpr c1]
  · simp [Int32.not_lt.mp c, Int32.not_lt.mp c1]
set_option maxRecDepth 100000 in
set_option maxHeartbeats 4000000 in
theorem vX8_isPlace_0 {d : Nat} {σ : Mem} {Q : Option Value → Mem → Prop} {x0 : Int32} 
    (h : Q (some (.int (if ((-500) ≤ x0 ∧ x0 ≤ 500) then 1 else 0))) σ) :
    X none (d + 1) mX8_isPlace 0 [.int x0] [] σ Q := by
  refine x_iload_n (pc' := 1) dX8_isPlace_0 rfl rfl rfl ?_
  refine x_i2l (pc' := 2) dX8_isPlace_1 rfl ?_
  refine x_ldc2 (pc' := 5) dX8_isPlace_2 rfl llX8_45 ?_
  refine x_ldc2 (pc' := 8) dX8_isPlace_5 rfl llX8_47 ?_
  refine x_callS (pc' := 11) (As := [.long ((x0).toInt64), .long (-500), .long 500]) dX8_isPlace_8 rfl lmX8_49 rfl rfl (Nat.le_of_ble_eq_true rfl) (Nat.le_of_ble_eq_true rfl) ?_
  show X none d mX8_in 0 [.long ((x0).toInt64), Unk, .long (-500), Unk, .long 500, Unk] [] σ _
  refine sp_in (x := x0) (lo := (-500)) (hi := 500) (by decide) (by decide) ?_
  show X none (d + 1) mX8_isPlace 11 [.int x0] [.int (if ((-500) ≤ x0 ∧ x0 ≤ 500) then 1 else 0)] σ _
  exact x_iret dX8_isPlace_11 rfl (nar01 _) h
theorem sp_isPlace {d : Nat} {σ : Mem} {Q : Option Value → Mem → Prop} {x : Int32} (h : Q (some (.int (if onA x then 1 else 0))) σ) : X none (d + 1) mX8_isPlace 0 [.int x] [] σ Q := vX8_isPlace_0 h
set_option maxRecDepth 100000 in
set_option maxHeartbeats 4000000 in
theorem vX8_isRect_0 {d : Nat} {σ : Mem} {Q : Option Value → Mem → Prop} {x0 x1 x2 x3 : Int32} 
    (h : ((¬ (onA x0) → Q (some (.int 0)) σ) ∧ ((onA x0) → ((¬ (onA x1) → Q (some (.int 0)) σ) ∧ ((onA x1) → ((¬ (onA x2) → Q (some (.int 0)) σ) ∧ ((onA x2) → ((¬ (onA x3) → Q (some (.int 0)) σ) ∧ ((onA x3) → ((x1 < x0 → Q (some (.int 0)) σ) ∧ (¬ x1 < x0 → ((x3 < x2 → Q (some (.int 0)) σ) ∧ (¬ x3 < x2 → Q (some (.int 1)) σ))))))))))))) :
    X none (d + 2) mX8_isRect 0 [.int x0, .int x1, .int x2, .int x3] [] σ Q := by
  refine x_iload_n (pc' := 1) dX8_isRect_0 rfl rfl rfl ?_
  refine x_callS (pc' := 4) (As := [.int x0]) dX8_isRect_1 rfl lmX8_53 rfl rfl (Nat.le_of_ble_eq_true rfl) (Nat.le_of_ble_eq_true rfl) ?_
  show X none (d + 1) mX8_isPlace 0 [.int x0] [] σ _
  refine sp_isPlace ?_
  show X none (d + 2) mX8_isRect 4 [.int x0, .int x1, .int x2, .int x3] [.int (if (onA x0) then 1 else 0)] σ _
  refine x_if_eq (pc' := 7) (tgt := 42) dX8_isRect_4 (by decide) rfl (fun hc => ?_) (fun hc => ?_)
  · replace h := h.1 (b01_ne hc)
    refine x_iconst (pc' := 43) (v := 0) dX8_isRect_42 rfl (by decide) ?_
    exact x_iret dX8_isRect_43 rfl rfl h
  · replace h := h.2 (b01_eq hc)
    refine x_iload_n (pc' := 8) dX8_isRect_7 rfl rfl rfl ?_
    refine x_callS (pc' := 11) (As := [.int x1]) dX8_isRect_8 rfl lmX8_53 rfl rfl (Nat.le_of_ble_eq_true rfl) (Nat.le_of_ble_eq_true rfl) ?_
    show X none (d + 1) mX8_isPlace 0 [.int x1] [] σ _
    refine sp_isPlace ?_
    show X none (d + 2) mX8_isRect 11 [.int x0, .int x1, .int x2, .int x3] [.int (if (onA x1) then 1 else 0)] σ _
    refine x_if_eq (pc' := 14) (tgt := 42) dX8_isRect_11 (by decide) rfl (fun hc => ?_) (fun hc => ?_)
    · replace h := h.1 (b01_ne hc)
      refine x_iconst (pc' := 43) (v := 0) dX8_isRect_42 rfl (by decide) ?_
      exact x_iret dX8_isRect_43 rfl rfl h
    · replace h := h.2 (b01_eq hc)
      refine x_iload_n (pc' := 15) dX8_isRect_14 rfl rfl rfl ?_
      refine x_callS (pc' := 18) (As := [.int x2]) dX8_isRect_15 rfl lmX8_53 rfl rfl (Nat.le_of_ble_eq_true rfl) (Nat.le_of_ble_eq_true rfl) ?_
      show X none (d + 1) mX8_isPlace 0 [.int x2] [] σ _
      refine sp_isPlace ?_
      show X none (d + 2) mX8_isRect 18 [.int x0, .int x1, .int x2, .int x3] [.int (if (onA x2) then 1 else 0)] σ _
      refine x_if_eq (pc' := 21) (tgt := 42) dX8_isRect_18 (by decide) rfl (fun hc => ?_) (fun hc => ?_)
      · replace h := h.1 (b01_ne hc)
        refine x_iconst (pc' := 43) (v := 0) dX8_isRect_42 rfl (by decide) ?_
        exact x_iret dX8_isRect_43 rfl rfl h
      · replace h := h.2 (b01_eq hc)
        refine x_iload_n (pc' := 22) dX8_isRect_21 rfl rfl rfl ?_
        refine x_callS (pc' := 25) (As := [.int x3]) dX8_isRect_22 rfl lmX8_53 rfl rfl (Nat.le_of_ble_eq_true rfl) (Nat.le_of_ble_eq_true rfl) ?_
        show X none (d + 1) mX8_isPlace 0 [.int x3] [] σ _
        refine sp_isPlace ?_
        show X none (d + 2) mX8_isRect 25 [.int x0, .int x1, .int x2, .int x3] [.int (if (onA x3) then 1 else 0)] σ _
        refine x_if_eq (pc' := 28) (tgt := 42) dX8_isRect_25 (by decide) rfl (fun hc => ?_) (fun hc => ?_)
        · replace h := h.1 (b01_ne hc)
          refine x_iconst (pc' := 43) (v := 0) dX8_isRect_42 rfl (by decide) ?_
          exact x_iret dX8_isRect_43 rfl rfl h
        · replace h := h.2 (b01_eq hc)
          refine x_iload_n (pc' := 29) dX8_isRect_28 rfl rfl rfl ?_
          refine x_iload_n (pc' := 30) dX8_isRect_29 rfl rfl rfl ?_
          refine x_icmp_gt (pc' := 33) (tgt := 42) dX8_isRect_30 (by decide) rfl (fun hc => ?_) (fun hc => ?_)
          · replace h := h.1 hc
            refine x_iconst (pc' := 43) (v := 0) dX8_isRect_42 rfl (by decide) ?_
            exact x_iret dX8_isRect_43 rfl rfl h
          · replace h := h.2 hc
            refine x_iload_n (pc' := 34) dX8_isRect_33 rfl rfl rfl ?_
            refine x_iload_n (pc' := 35) dX8_isRect_34 rfl rfl rfl ?_
            refine x_icmp_gt (pc' := 38) (tgt := 42) dX8_isRect_35 (by decide) rfl (fun hc => ?_) (fun hc => ?_)
            · replace h := h.1 hc
              refine x_iconst (pc' := 43) (v := 0) dX8_isRect_42 rfl (by decide) ?_
              exact x_iret dX8_isRect_43 rfl rfl h
            · replace h := h.2 hc
              refine x_iconst (pc' := 39) (v := 1) dX8_isRect_38 rfl (by decide) ?_
              refine x_goto (pc' := 43) dX8_isRect_39 (by decide) ?_
              exact x_iret dX8_isRect_43 rfl rfl h
theorem sp_isRect {d : Nat} {σ : Mem} {Q : Option Value → Mem → Prop} {a b c d' : Int32} (h : Q (some (.int (if rectP a b c d' then 1 else 0))) σ) : X none (d + 2) mX8_isRect 0 [.int a, .int b, .int c, .int d'] [] σ Q := by
  refine vX8_isRect_0 ?_
  refine ⟨fun c1 => Qe h ?_, fun c1 => ⟨fun c2 => Qe h ?_, fun c2 => ⟨fun c3 => Qe h ?_, fun c3 => ⟨fun c4 => Qe h ?_, fun c4 => ⟨fun c5 => Qe h ?_, fun c5 => ⟨fun c6 => Qe h ?_, fun c6 => Qe h ?_⟩⟩⟩⟩⟩⟩
  · rw [if_neg (fun q => c1 q.1)]
  · rw [if_neg (fun q => c2 q.2.1)]
  · rw [if_neg (fun q => c3 q.2.2.1)]
  · rw [if_neg (fun q => c4 q.2.2.2.1)]
  · rw [if_neg (fun q => absurd q.2.2.2.2.1 (Int32.not_le.mpr c5))]
  · rw [if_neg (fun q => absurd q.2.2.2.2.2 (Int32.not_le.mpr c6))]
  · rw [if_pos ⟨c1, c2, c3, c4, Int32.not_lt.mp c5, Int32.not_lt.mp c6⟩]
