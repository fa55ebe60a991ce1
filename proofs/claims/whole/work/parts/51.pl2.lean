/-! The class's calls on rectangles, areas, and what there is. -/
def nearS (F : Fl) (x y : Int32) (s : Int32 × Int32) (e : Nat) : Int32 × Int32 := if dst F e x y < s.2 then (nI (fnum F e), dst F e x y) else s
def nearL (F : Fl) (x y : Int32) (l : List Nat) (s : Int32 × Int32) : Int32 × Int32 := l.foldl (nearS F x y) s
def stp (F : Fl) (l : List Nat) : Nat → Int32 × Int32
  | 0 => (0, 0)
  | 1 => (0, 0)
  | k + 2 => if (stp F l (k + 1)).1 < fx F (l.getD (k + 1) 0) - fx F (l.getD k 0) then (fx F (l.getD (k + 1) 0) - fx F (l.getD k 0), fx F (l.getD k 0)) else stp F l (k + 1)
def thL (F : Fl) : List Nat := pik (thr F) (fn F)
def srX (F : Fl) (a b c d : Int32) : List Nat := srt (befB F) (pkX F a b c d)
def prL2 (F : Fl) (l : List Nat) : Nat := (l.map (fun i => l.countP (lssB F i))).sum
def stL (F : Fl) : List Nat := (thL F).filter (fun i => !((thL F).any (topB F i)))
def bc (n : Nat) : Nat := n % 2 + n / 2 % 2 + n / 4 % 2 + n / 8 % 2 + n / 16 % 2 + n / 32 % 2 + n / 64 % 2
def setE (S : Ab) (v : Int32) : Ab := mkS (bF S) (bH S) (bI S) (bA S) (bT S) (bR S) v (bS S)
def setT (S : Ab) (T : Nat × (Nat → Int32)) : Ab := mkS (bF S) (bH S) (bI S) (bA S) T (bR S) (bE S) (bS S)
def o_count (S : Ab) (a b c d : Int32) : Int32 × Ab := if rectP a b c d then (sumL (wor (bF S)) (pkX (bF S) a b c d), setE S (bE S + (nI (bc (fn (bF S))) + nI (bc (fg (bF S)))))) else (cBAD, rf0 S)
def o_many (S : Ab) (a b c d : Int32) : Int32 × Ab := if rectP a b c d then (nI (pkX (bF S) a b c d).length, S) else (cBAD, rf0 S)
def o_kth (S : Ab) (a b c d k : Int32) : Int32 × Ab := if rectP a b c d ∧ 0 ≤ k then (nthO ((srX (bF S) a b c d).map (fnum (bF S))) k, S) else (cBAD, rf0 S)
def halfV (F : Fl) (l : List Nat) : Int32 := if l.length = 0 then cNONE else fx F (l.getD ((l.length + 1) / 2 - 1) 0)
def o_half (S : Ab) (a b c d : Int32) : Int32 × Ab := if rectP a b c d then (halfV (bF S) (srX (bF S) a b c d), S) else (cBAD, rf0 S)
def o_below (S : Ab) (x y : Int32) : Int32 × Ab := if plP x y then (nI (pkX (bF S) (-500) x (-500) y).length, S) else (cBAD, rf0 S)
def o_near (S : Ab) (x y : Int32) : Int32 × Ab := if plP x y then ((nearL (bF S) x y (thL (bF S)) (cNONE, 1001)).1, S) else (cBAD, rf0 S)
def stripV (s : Int32 × Int32) (what : Int32) : Int32 := if s.1 = 0 then cNONE else if what = 0 then s.1 else s.2
def o_strip (S : Ab) (what : Int32) : Int32 × Ab := if 0 ≤ what ∧ what ≤ 1 then (stripV (stp (bF S) (srt (befB (bF S)) (thL (bF S))) (thL (bF S)).length) what, S) else (cBAD, rf0 S)
def o_pairs (S : Ab) : Int32 × Ab := (nI (prL2 (bF S) (thL (bF S))), S)
def o_stair (S : Ab) (k : Int32) : Int32 × Ab := if -1 ≤ k then (if k = -1 then (nI (stL (bF S)).length, S) else (nthO ((srt (befB (bF S)) (stL (bF S))).map (fnum (bF S))) k, S)) else (cBAD, rf0 S)
def layV (S : Ab) (what : Int32) : Int32 := if what.toInt = 0 then nI (fn (bF S)) else if what.toInt = 1 then nI (fg (bF S)) else if what.toInt = 2 then fcar (bF S) else if what.toInt = 3 then bE S else fan (bF S)
def o_layers (S : Ab) (what : Int32) : Int32 × Ab := if what.toInt < 0 ∨ 4 < what.toInt then (cBAD, rf0 S) else (layV S what, S)
def o_type (S : Ab) (c : Int32) : Int32 × Ab := if 0 ≤ c ∧ c ≤ 127 then (if (bT S).1 < 120 then (nI ((bT S).1 + 1), setT S ((bT S).1 + 1, upN (bT S).2 (bT S).1 c)) else (cFULL, rf2 S)) else (cBAD, rf0 S)
def o_clear (S : Ab) : Int32 × Ab := (nI (bT S).1, setT S (0, (bT S).2))
def arL (S : Ab) : List Nat := pik (pS (bF S) (bA S)) (fn (bF S))
def o_inside (S : Ab) : Int32 × Ab := (sumL (wor (bF S)) (arL S), S)
def o_covers (S : Ab) (x y : Int32) : Int32 × Ab := if plP x y then (if hold (bA S) x y = true then 1 else 0, S) else (cBAD, rf0 S)
def o_found (S : Ab) (k : Int32) : Int32 × Ab := if 0 ≤ k then (nthO ((srt (befB (bF S)) (arL S)).map (fnum (bF S))) k, S) else (cBAD, rf0 S)
def o_mow (S : Ab) : Int32 × Ab := o_takeAll S (arL S)
def setI (S : Ab) (i : Nat) (G : Bool × Fl × Ar) : Ab := mkS (bF S) (bH S) (upN (bI S) i G) (bA S) (bT S) (bR S) (bE S) (bS S)
def o_image (S : Ab) (i : Int32) : Int32 × Ab := if 0 ≤ i ∧ i ≤ 1 then (1, setI S i.toNatClampNeg (true, bF S, bA S)) else (cBAD, rf0 S)
def o_from (S : Ab) (i : Int32) : Int32 × Ab := if 0 ≤ i ∧ i ≤ 1 then (if (bI S i.toNatClampNeg).1 = true then (1, mkS (bI S i.toNatClampNeg).2.1 (0, (bH S).2) (bI S) (bI S i.toNatClampNeg).2.2 (bT S) (bR S) (bE S) (bS S)) else (cNO, rf1 S)) else (cBAD, rf0 S)
def o_status (S : Ab) (what : Int32) : Int32 × Ab := if what.toInt < 0 ∨ 2 < what.toInt then (-1, rf0 S) else (if what.toInt = 0 then (bS S).1 else if what.toInt = 1 then (bS S).2.1 else (bS S).2.2, S)
def sizV (S : Ab) (w : Int) : Int32 := if w = 0 then nI (fn (bF S) - fg (bF S)) else if w = 1 then nI (fg (bF S)) else if w = 2 then nI (fnx (bF S)) else if w = 3 then fkd (bF S) else if w = 4 then wsum (bF S) else if w = 5 then nI (bH S).1 else if w = 6 then nI (bT S).1 else nI (ar (bA S))
def o_size (S : Ab) (what : Int32) : Int32 × Ab := if what.toInt < 0 ∨ 7 < what.toInt then (cBAD, rf0 S) else (sizV S what.toInt, S)
def o_part (S : Ab) (what : Int32) : Int64 × Ab := if what.toInt = 0 then ((bR S).1, S) else if what.toInt = 1 then ((bR S).2, S) else (-2000000002, rf0 S)
def X_bc (x0 : Int32) : Int32 := ((((((((x0 - (((x0.toUInt32 >>> ((1 : Int32).toUInt32 &&& Int32.toUInt32 31)).toInt32) &&& 1431655765)) &&& 858993459) + ((((x0 - (((x0.toUInt32 >>> ((1 : Int32).toUInt32 &&& Int32.toUInt32 31)).toInt32) &&& 1431655765)).toUInt32 >>> ((2 : Int32).toUInt32 &&& Int32.toUInt32 31)).toInt32) &&& 858993459)) + (((((x0 - (((x0.toUInt32 >>> ((1 : Int32).toUInt32 &&& Int32.toUInt32 31)).toInt32) &&& 1431655765)) &&& 858993459) + ((((x0 - (((x0.toUInt32 >>> ((1 : Int32).toUInt32 &&& Int32.toUInt32 31)).toInt32) &&& 1431655765)).toUInt32 >>> ((2 : Int32).toUInt32 &&& Int32.toUInt32 31)).toInt32) &&& 858993459)).toUInt32 >>> ((4 : Int32).toUInt32 &&& Int32.toUInt32 31)).toInt32)) &&& 252645135) + (((((((x0 - (((x0.toUInt32 >>> ((1 : Int32).toUInt32 &&& Int32.toUInt32 31)).toInt32) &&& 1431655765)) &&& 858993459) + ((((x0 - (((x0.toUInt32 >>> ((1 : Int32).toUInt32 &&& Int32.toUInt32 31)).toInt32) &&& 1431655765)).toUInt32 >>> ((2 : Int32).toUInt32 &&& Int32.toUInt32 31)).toInt32) &&& 858993459)) + (((((x0 - (((x0.toUInt32 >>> ((1 : Int32).toUInt32 &&& Int32.toUInt32 31)).toInt32) &&& 1431655765)) &&& 858993459) + ((((x0 - (((x0.toUInt32 >>> ((1 : Int32).toUInt32 &&& Int32.toUInt32 31)).toInt32) &&& 1431655765)).toUInt32 >>> ((2 : Int32).toUInt32 &&& Int32.toUInt32 31)).toInt32) &&& 858993459)).toUInt32 >>> ((4 : Int32).toUInt32 &&& Int32.toUInt32 31)).toInt32)) &&& 252645135).toUInt32 >>> ((8 : Int32).toUInt32 &&& Int32.toUInt32 31)).toInt32)) + ((((((((x0 - (((x0.toUInt32 >>> ((1 : Int32).toUInt32 &&& Int32.toUInt32 31)).toInt32) &&& 1431655765)) &&& 858993459) + ((((x0 - (((x0.toUInt32 >>> ((1 : Int32).toUInt32 &&& Int32.toUInt32 31)).toInt32) &&& 1431655765)).toUInt32 >>> ((2 : Int32).toUInt32 &&& Int32.toUInt32 31)).toInt32) &&& 858993459)) + (((((x0 - (((x0.toUInt32 >>> ((1 : Int32).toUInt32 &&& Int32.toUInt32 31)).toInt32) &&& 1431655765)) &&& 858993459) + ((((x0 - (((x0.toUInt32 >>> ((1 : Int32).toUInt32 &&& Int32.toUInt32 31)).toInt32) &&& 1431655765)).toUInt32 >>> ((2 : Int32).toUInt32 &&& Int32.toUInt32 31)).toInt32) &&& 858993459)).toUInt32 >>> ((4 : Int32).toUInt32 &&& Int32.toUInt32 31)).toInt32)) &&& 252645135) + (((((((x0 - (((x0.toUInt32 >>> ((1 : Int32).toUInt32 &&& Int32.toUInt32 31)).toInt32) &&& 1431655765)) &&& 858993459) + ((((x0 - (((x0.toUInt32 >>> ((1 : Int32).toUInt32 &&& Int32.toUInt32 31)).toInt32) &&& 1431655765)).toUInt32 >>> ((2 : Int32).toUInt32 &&& Int32.toUInt32 31)).toInt32) &&& 858993459)) + (((((x0 - (((x0.toUInt32 >>> ((1 : Int32).toUInt32 &&& Int32.toUInt32 31)).toInt32) &&& 1431655765)) &&& 858993459) + ((((x0 - (((x0.toUInt32 >>> ((1 : Int32).toUInt32 &&& Int32.toUInt32 31)).toInt32) &&& 1431655765)).toUInt32 >>> ((2 : Int32).toUInt32 &&& Int32.toUInt32 31)).toInt32) &&& 858993459)).toUInt32 >>> ((4 : Int32).toUInt32 &&& Int32.toUInt32 31)).toInt32)) &&& 252645135).toUInt32 >>> ((8 : Int32).toUInt32 &&& Int32.toUInt32 31)).toInt32)).toUInt32 >>> ((16 : Int32).toUInt32 &&& Int32.toUInt32 31)).toInt32)) &&& 63)
theorem bcJ : ∀ n : Nat, n < 128 → X_bc (nI n) = nI (bc n) := by decide +kernel
section PL2
variable {d : Nat} {σ : Mem} {Q : Option Value → Mem → Prop} {S : Ab} {VA : Ar → Prop}
theorem c_bitCount {n : Nat} (hn : n < 128) (h : Q (some (.int (nI (bc n)))) σ) : X none d mJ6_bitCount_0f7a4 0 [.int (nI n)] [] σ Q := vJ6_bitCount_0f7a4_0 (Qe h (bcJ n hn).symm)
theorem c_layersThere {f : Nat} {F : Fl} (hf : OKF f) (hw : WF F) (hF : CF σ f F) (h : Q (some (.int (nI (bc (fn F)) + nI (bc (fg F))))) σ) : X none (d + 1) mX0_layersThere 0 [.ref f] [] σ Q := by
  have h1 := hw.n120
  have h2 := hw.g60
  refine vX0_layersThere_0 hf ?_
  rw [hF.1.1]
  refine c_bitCount (by omega) ⟨_, rfl, ?_⟩
  rw [hF.1.2.1]
  exact c_bitCount (by omega) ⟨_, rfl, h⟩
theorem scr63 : ∀ i k : Nat, (57 ≤ i ∧ i ≤ 63) → SCR i k ∧ i < 94 := fun i k q => by unfold SCR; omega
theorem p_count (hC : CL σ S) (hw : WS VA S) {a b c e : Int32} (h : OutC σ Q (o_count S a b c e)) : X none (d + 4) mX7_count 0 [.ref 0, .int a, .int b, .int c, .int e] [] σ Q := by
  have hn := hw.1.n120
  refine vX7_count_0 (c_isRectangle ⟨_, rfl, fun c1 => ?_, fun c1 => h.bad hC ?_⟩)
  · rw [o_count, if_pos (b01_eq c1)] at h
    refine c_layersThere okF_1 hw.1 hC.1 ⟨_, rfl, fun τ5 e5 => ?_⟩
    have s5 : Sm (fun i k => i = 0 ∧ k = 9) σ τ5 := by rw [e5]; exact Sm.rf.w1 ⟨rfl, rfl⟩
    have hC5 : CL τ5 (setE S (bE S + (nI (bc (fn (bF S))) + nI (bc (fg (bF S)))))) := by
      obtain ⟨h1, h2, h3, h4, ⟨h5, h6⟩, ⟨h7, h8⟩, h9, h10, h11, h12⟩ := hC
      refine ⟨h1.sm s5 (by omega), h2.sm s5 (by omega), fun i hi => (h3 i hi).sm s5 (by omega), h4.sm s5 (by omega), ⟨?_, fun k hk => ?_⟩, ⟨?_, ?_⟩, ?_, ?_, ?_, ?_⟩
      · rw [(s5 67 2 (by omega)).1]; exact h5
      · rw [(s5 68 k (by omega)).1]; exact h6 k hk
      · rw [(s5 72 0 (by omega)).2]; exact h7
      · rw [(s5 72 1 (by omega)).2]; exact h8
      · rw [e5, w1_s, h9]; rfl
      · rw [(s5 0 10 (by omega)).1]; exact h10
      · rw [(s5 0 11 (by omega)).1]; exact h11
      · rw [(s5 0 12 (by omega)).1]; exact h12
    refine c_pickRectangle (VA := VA) hC5 ⟨hw.1, hw.2⟩ (fun τ hC2 hp hs => ⟨rfl, ?_⟩)
    refine c_worthOfAll okP_57 okF_1 (by show fn (bF S) ≤ 121; omega) hC2.1 (pkX_60 hw.1) pikm hp ⟨_, rfl, ?_⟩
    exact h τ hC2 ((s5.mono (fun i k q => by unfold S94; omega)).tr (hs.mono (fun i k q => by unfold S94; omega)))
  · rw [o_count, if_neg (b01_ne c1)]
theorem p_many (hC : CL σ S) (hw : WS VA S) {a b c e : Int32} (h : OutC σ Q (o_many S a b c e)) : X none (d + 4) mX7_many 0 [.ref 0, .int a, .int b, .int c, .int e] [] σ Q := by
  refine vX7_many_0 (c_isRectangle ⟨_, rfl, fun c1 => ?_, fun c1 => h.bad hC ?_⟩)
  · rw [o_many, if_pos (b01_eq c1)] at h
    refine c_pickRectangle hC hw (fun τ hC2 hp hs => ⟨rfl, ?_⟩)
    rw [hp.1]
    exact h τ hC2 (hs.mono (fun i k q => by unfold S94; omega))
  · rw [o_many, if_neg (b01_ne c1)]
theorem p_kth (hC : CL σ S) (hw : WS VA S) {a b c e k : Int32} (h : OutC σ Q (o_kth S a b c e k)) : X none (d + 4) mX7_kth 0 [.ref 0, .int a, .int b, .int c, .int e, .int k] [] σ Q := by
  have hn := hw.1.n120
  refine vX7_kth_0 (c_isRectangle ⟨_, rfl, fun c1 => h.bad hC ?_, fun c1 => ⟨fun c2 => ?_, fun c2 => h.bad hC ?_⟩⟩)
  · rw [o_kth, if_neg (fun q => b01_ne c1 q.1)]
  · rw [o_kth, if_pos ⟨b01_eq c1, c2⟩] at h
    refine c_pickRectangle hC hw (fun τ hC2 hp hs => ⟨rfl, ?_⟩)
    refine c_sortByPlace okP_57 okF_1 (by omega) (by omega) hC2.1 (pkX_60 hw.1) pikm hp (fun τ2 hp2 hs2 => ⟨rfl, ?_⟩)
    have hF2 := hC2.1.sm hs2 (fun i k q1 q2 => by unfold SP; omega)
    refine c_numberOf okP_57 okF_1 (by omega) hF2 (by rw [srt_len]; exact pkX_60 hw.1) (fun e he => pikm e ((srt_mem _ _ _).mp he)) hp2 ⟨_, rfl, ?_⟩
    exact h τ2 (hC2.sm hs2 (fun i k q => by unfold SP at q; unfold SCR; omega)) ((hs.mono (fun i k q => by unfold S94; omega)).tr (hs2.mono (fun i k q => by unfold SP at q; unfold S94; omega)))
  · rw [o_kth, if_neg (fun q => c2 q.2)]
theorem p_half (hC : CL σ S) (hw : WS VA S) {a b c e : Int32} (h : OutC σ Q (o_half S a b c e)) : X none (d + 4) mX7_half 0 [.ref 0, .int a, .int b, .int c, .int e, Unk] [] σ Q := by
  have hn := hw.1.n120
  refine vX7_half_0 (c_isRectangle ⟨_, rfl, fun c1 => ?_, fun c1 => h.bad hC ?_⟩)
  · rw [o_half, if_pos (b01_eq c1)] at h
    refine c_pickRectangle hC hw (fun τ hC2 hp hs => ⟨rfl, ?_⟩)
    have h60 := pkX_60 hw.1 (a := a) (b := b) (c := c) (e := e)
    have hlen : (srX (bF S) a b c e).length = (pkX (bF S) a b c e).length := srt_len _ _
    rw [hp.1, nI_z (by omega)]
    refine ⟨fun c2 => ?_, fun c2 => ?_⟩
    · refine c_sortByPlace okP_57 okF_1 (by omega) (by omega) hC2.1 h60 pikm hp (fun τ2 hp2 hs2 => ⟨rfl, ?_⟩)
      have hF2 := hC2.1.sm hs2 (fun i k q1 q2 => by unfold SP; omega)
      have hp2' : PH τ2 57 (srX (bF S) a b c e) := hp2
      have hk : ((srX (bF S) a b c e).length + 1) / 2 - 1 < (srX (bF S) a b c e).length := by omega
      have e1 : (nI (srX (bF S) a b c e).length + 1) / 2 - 1 = nI (((srX (bF S) a b c e).length + 1) / 2 - 1) := by
        rw [nI_1, show (2 : Int32) = nI 2 from rfl, pk_div (by omega) (by decide) (by decide), show ((srX (bF S) a b c e).length + 1) / 2 = (((srX (bF S) a b c e).length + 1) / 2 - 1) + 1 by omega, nI_pred]
        rfl
      rw [hp2'.1, e1, nI_clamp (n := ((srX (bF S) a b c e).length + 1) / 2 - 1) (by omega), hp2'.2 _ hk]
      have he : (srX (bF S) a b c e).getD (((srX (bF S) a b c e).length + 1) / 2 - 1) 0 < fn (bF S) := pikm _ ((srt_mem _ _ _).mp (getD_mem hk))
      rw [nI_clamp (by omega), (hF2.2 _ he).2.1]
      refine ⟨inN hk (by omega) (by decide), inN he (by omega) (by decide), ?_⟩
      refine Qe (h τ2 (hC2.sm hs2 (fun i k q => by unfold SP at q; unfold SCR; omega)) ((hs.mono (fun i k q => by unfold S94; omega)).tr (hs2.mono (fun i k q => by unfold SP at q; unfold S94; omega)))) ?_
      show halfV _ _ = _
      rw [halfV, if_neg (by omega)]
    · refine Qe (h τ hC2 (hs.mono (fun i k q => by unfold S94; omega))) ?_
      show halfV _ _ = _
      rw [halfV, if_pos (by omega)]
  · rw [o_half, if_neg (b01_ne c1)]
theorem p_below (hC : CL σ S) (hw : WS VA S) {x y : Int32} (h : OutC σ Q (o_below S x y)) : X none (d + 4) mX7_below 0 [.ref 0, .int x, .int y] [] σ Q := by
  refine vX7_below_0 (c_isPlace ⟨_, rfl, fun c1 => ?_, fun c1 => h.bad hC ?_⟩)
  · rw [o_below, if_pos (b01_eq c1)] at h
    refine c_pickRectangle hC hw (fun τ hC2 hp hs => ⟨rfl, ?_⟩)
    rw [hp.1]
    exact h τ hC2 (hs.mono (fun i k q => by unfold S94; omega))
  · rw [o_below, if_neg (b01_ne c1)]
theorem foldl_take {α : Type} (g : α → Nat → α) (s : α) (l : List Nat) {k : Nat} (hk : k < l.length) : (l.take (k + 1)).foldl g s = g ((l.take k).foldl g s) (l.getD k 0) := by
  rw [take_snoc l hk, List.foldl_append]
  rfl
theorem p_near (hC : CL σ S) (hw : WS VA S) {x y : Int32} (h : OutC σ Q (o_near S x y)) : X none (d + 2) mX7_near 0 [.ref 0, .int x, .int y, Unk, Unk, Unk, Unk] [] σ Q := by
  have hwf := hw.1
  have hn := hwf.n120
  refine vX7_near_0 (c_isPlace ⟨_, rfl, fun c1 => ?_, fun c1 => h.bad hC ?_⟩)
  · rw [o_near, if_pos (b01_eq c1)] at h
    refine c_pickAll okP_57 okF_1 (by omega) hwf hC.1 (fun τ hp hs => ⟨rfl, ?_⟩)
    have hF := hC.1.sm hs (fun i k q1 q2 => by unfold SP; omega)
    have hp' : PH τ 57 (thL (bF S)) := hp
    have hl : (thL (bF S)).length ≤ 60 := by rw [thL, pik_len]; exact hwf.c60
    have hQ := h τ (hC.sm hs (fun i k q => by unfold SP at q; unfold SCR; omega)) (hs.mono (fun i k q => by unfold SP at q; unfold S94; omega))
    have key : ∀ m k, (thL (bF S)).length = k + m → X none (d + 2) mX7_near 37 [.ref 0, .int x, .int y, .int (nearL (bF S) x y ((thL (bF S)).take k) (cNONE, 1001)).1, .int (nearL (bF S) x y ((thL (bF S)).take k) (cNONE, 1001)).2, .int (nI k), Unk] [] τ Q := by
      intro m
      induction m with
      | zero =>
        intro k hk
        refine vX7_near_37 ⟨fun _ => Qe hQ ?_, fun c => absurd (by rw [hp'.1]; exact nI_le (by omega) (by omega)) c⟩
        rw [List.take_of_length_le (by omega)]
      | succ m ih =>
        intro k hk
        have hlt : k < (thL (bF S)).length := by omega
        have he : (thL (bF S)).getD k 0 < fn (bF S) := pikm _ (getD_mem hlt)
        have hb := inN hlt hl (by decide)
        have hi := ih (k + 1) (by omega)
        have hst : nearL (bF S) x y ((thL (bF S)).take (k + 1)) (cNONE, 1001) = nearS (bF S) x y (nearL (bF S) x y ((thL (bF S)).take k) (cNONE, 1001)) ((thL (bF S)).getD k 0) := foldl_take _ _ _ hlt
        rw [hst] at hi
        refine vX7_near_37 ⟨fun c => absurd c (by rw [hp'.1]; exact nI_ge hlt (by omega)), fun _ => ⟨hb, ?_⟩⟩
        rw [nI_clamp (by omega), hp'.2 k hlt, nI_1]
        refine c_distance okF_1 (by omega) hF he ⟨_, rfl, fun c => ?_, fun c => ⟨hb, ?_⟩⟩
        · rw [nearS, if_neg (Int32.not_lt.mpr c)] at hi
          exact hi
        · rw [hp'.2 k hlt, nI_clamp (n := (thL (bF S)).getD k 0) (by omega), (hF.2 _ he).1]
          rw [nearS, if_pos (Int32.not_le.mp c)] at hi
          exact ⟨inN he (by omega) (by decide), hi⟩
    have := key (thL (bF S)).length 0 (by omega)
    rw [nI_0] at this
    exact this
  · rw [o_near, if_neg (b01_ne c1)]
theorem p_strip (hC : CL σ S) (hw : WS VA S) {what : Int32} (h : OutC σ Q (o_strip S what)) : X none (d + 4) mX7_strip 0 [.ref 0, .int what, Unk, Unk, Unk, Unk, Unk] [] σ Q := by
  have hwf := hw.1
  have hn := hwf.n120
  have hl : (thL (bF S)).length ≤ 60 := by rw [thL, pik_len]; exact hwf.c60
  refine vX7_strip_0 ⟨fun c => h.bad hC ?_, fun c => ⟨fun c1 => ?_, fun c1 => h.bad hC ?_⟩⟩
  · rw [o_strip, if_neg (fun q => absurd q.1 (Int32.not_le.mpr c))]
  · rw [o_strip, if_pos ⟨Int32.not_lt.mp c, c1⟩] at h
    refine c_pickAll okP_57 okF_1 (by omega) hwf hC.1 (fun τ hp hs => ⟨rfl, ?_⟩)
    have hF := hC.1.sm hs (fun i k q1 q2 => by unfold SP; omega)
    refine c_sortByPlace okP_57 okF_1 (by omega) (by omega) hF hl pikm hp (fun τ2 hp2 hs2 => ⟨rfl, ?_⟩)
    have hF2 := hF.sm hs2 (fun i k q1 q2 => by unfold SP; omega)
    have hQ := h τ2 (hC.sm (hs.tr hs2) (fun i k q => by unfold SP at q; unfold SCR; omega)) ((hs.tr hs2).mono (fun i k q => by unfold SP at q; unfold S94; omega))
    have hlen : (srt (befB (bF S)) (thL (bF S))).length = (thL (bF S)).length := srt_len _ _
    generalize hsl : srt (befB (bF S)) (thL (bF S)) = l at hlen
    have hp3 : PH τ2 57 l := by rw [← hsl]; exact hp2
    have hm : ∀ e ∈ l, e < fn (bF S) := fun e he => by rw [← hsl] at he; exact pikm e ((srt_mem _ _ _).mp he)
    have hQ2 : Q (some (.int (stripV (stp (bF S) l (thL (bF S)).length) what))) τ2 := by rw [← hsl]; exact hQ
    have fin : ∀ (s : Int32 × Int32), s = stp (bF S) l (thL (bF S)).length → ((¬ s.1 = 0 → ((¬ what = 0 → Q (some (.int s.2)) τ2) ∧ (what = 0 → Q (some (.int s.1)) τ2))) ∧ (s.1 = 0 → Q (some (.int (-2000000001))) τ2)) := fun s es => by
      rw [← es] at hQ2
      refine ⟨fun c2 => ⟨fun c3 => Qe hQ2 ?_, fun c3 => Qe hQ2 ?_⟩, fun c2 => Qe hQ2 ?_⟩
      · rw [stripV, if_neg c2, if_neg c3]
      · rw [stripV, if_neg c2, if_pos c3]
      · rw [stripV, if_pos c2]
    have key : ∀ m k, 1 ≤ k → l.length ≤ k + m → k ≤ l.length ∨ k = 1 → X none (d + 4) mX7_strip 45 [.ref 0, .int what, .int (stp (bF S) l k).1, .int (stp (bF S) l k).2, .int (nI k), Unk, Unk] [] τ2 Q := by
      intro m
      induction m with
      | zero =>
        intro k h1 hk hk2
        refine vX7_strip_45 ⟨fun _ => fin _ ?_, fun c => absurd (by rw [hp3.1]; exact nI_le (by omega) (by omega)) c⟩
        rcases hk2 with q | q
        · rw [show k = (thL (bF S)).length by omega]
        · subst q
          rcases (show (thL (bF S)).length = 0 ∨ (thL (bF S)).length = 1 by omega) with q | q <;> rw [q] <;> rfl
      | succ m ih =>
        intro k h1 hk hk2
        by_cases hlt : k < l.length
        · obtain ⟨j, rfl⟩ : ∃ j, k = j + 1 := ⟨k - 1, by omega⟩
          have he := hm _ (getD_mem hlt)
          have he2 := hm _ (getD_mem (show j < l.length by omega))
          have hb := inN hlt (show l.length ≤ 60 by omega) (by decide)
          have hb2 := inN (show j < l.length by omega) (show l.length ≤ 60 by omega) (by decide)
          have hi := ih (j + 2) (by omega) (by omega) (Or.inl (by omega))
          refine vX7_strip_45 ⟨fun c => absurd c (by rw [hp3.1]; exact nI_ge hlt (by omega)), fun _ => ?_⟩
          rw [nI_pred, nI_clamp (n := j) (by omega), nI_clamp (n := j + 1) (by omega), hp3.2 j (by omega), hp3.2 (j + 1) hlt, nI_clamp (n := l.getD j 0) (by omega), nI_clamp (n := l.getD (j + 1) 0) (by omega), (hF2.2 _ he).2.1, (hF2.2 _ he2).2.1, nI_1]
          simp only [stp] at hi
          refine ⟨hb2, inN he2 (by omega) (by decide), hb, inN he (by omega) (by decide), fun c => ?_, fun c => ?_⟩
          · rw [if_neg (Int32.not_lt.mpr c)] at hi
            exact hi
          · rw [if_pos (Int32.not_le.mp c)] at hi
            exact hi
        · refine vX7_strip_45 ⟨fun _ => fin _ ?_, fun c => absurd (by rw [hp3.1]; exact nI_le (by omega) (by omega)) c⟩
          rcases hk2 with q | q
          · rw [show k = (thL (bF S)).length by omega]
          · subst q
            rcases (show (thL (bF S)).length = 0 ∨ (thL (bF S)).length = 1 by omega) with q | q <;> rw [q] <;> rfl
    exact key l.length 1 (Nat.le_refl _) (by omega) (Or.inr rfl)
  · rw [o_strip, if_neg (fun q => c1 q.2)]
theorem p_pairs (hC : CL σ S) (hw : WS VA S) (h : OutC σ Q (o_pairs S)) : X none (d + 2) mX7_pairs 0 [.ref 0, Unk, Unk, Unk] [] σ Q := by
  have hwf := hw.1
  have hn := hwf.n120
  have hl : (thL (bF S)).length ≤ 60 := by rw [thL, pik_len]; exact hwf.c60
  refine vX7_pairs_0 (c_pickAll okP_57 okF_1 (by omega) hwf hC.1 (fun τ hp hs => ⟨rfl, ?_⟩))
  have hF := hC.1.sm hs (fun i k q1 q2 => by unfold SP; omega)
  have hQ := h τ (hC.sm hs (fun i k q => by unfold SP at q; unfold SCR; omega)) (hs.mono (fun i k q => by unfold SP at q; unfold S94; omega))
  have hp' : PH τ 57 (thL (bF S)) := hp
  generalize hll : thL (bF S) = l at hp' hl
  have hm : ∀ e ∈ l, e < fn (bF S) := fun e he => pikm e (by rw [← hll] at he; exact he)
  have hQ2 : Q (some (.int (nI (prL2 (bF S) l)))) τ := by rw [← hll]; exact hQ
  have inner : ∀ i, i < l.length → ∀ m j (acc : Nat), l.length = j + m → (∀ acc' : Nat, acc' = acc + (l.drop j).countP (lssB (bF S) (l.getD i 0)) → X none (d + 2) mX7_pairs 15 [.ref 0, .int (nI acc'), .int (nI i + 1), Unk] [] τ Q) → X none (d + 2) mX7_pairs 28 [.ref 0, .int (nI acc), .int (nI i), .int (nI j)] [] τ Q := by
    intro i hi m
    induction m with
    | zero =>
      intro j acc hj kk
      refine vX7_pairs_28 ⟨fun _ => kk acc ?_, fun c => absurd (by rw [hp'.1]; exact nI_le (by omega) (by omega)) c⟩
      rw [List.drop_of_length_le (by omega)]; rfl
    | succ m ih =>
      intro j acc hj kk
      have hlt : j < l.length := by omega
      have hdr : l.drop j = l.getD j 0 :: l.drop (j + 1) := by
        rw [List.drop_eq_getElem_cons hlt]
        simp [List.getD_eq_getElem?_getD, List.getElem?_eq_getElem hlt]
      refine vX7_pairs_28 ⟨fun c => absurd c (by rw [hp'.1]; exact nI_ge hlt (by omega)), fun _ => ⟨inN hi hl (by decide), inN hlt hl (by decide), ?_⟩⟩
      rw [nI_clamp (n := i) (by omega), nI_clamp (n := j) (by omega), hp'.2 i hi, hp'.2 j hlt, nI_1, nI_1]
      refine c_isLess okF_1 (by omega) hF (hm _ (getD_mem hi)) (hm _ (getD_mem hlt)) ⟨_, rfl, fun c => ?_, fun c => ?_⟩
      · refine ih (j + 1) acc (by omega) (fun acc' ha => kk acc' ?_)
        rw [ha, hdr, List.countP_cons, b01_z c]
        simp
      · refine ih (j + 1) (acc + 1) (by omega) (fun acc' ha => kk acc' ?_)
        rw [ha, hdr, List.countP_cons, b01_o c]
        simp only [if_true]
        omega
  have outer : ∀ m i (acc : Nat), l.length = i + m → acc + ((l.drop i).map (fun a => l.countP (lssB (bF S) a))).sum = prL2 (bF S) l → X none (d + 2) mX7_pairs 15 [.ref 0, .int (nI acc), .int (nI i), Unk] [] τ Q := by
    intro m
    induction m with
    | zero =>
      intro i acc hi ha
      refine vX7_pairs_15 ⟨fun _ => Qe hQ2 ?_, fun c => absurd (by rw [hp'.1]; exact nI_le (by omega) (by omega)) c⟩
      rw [List.drop_of_length_le (by omega)] at ha
      rw [← ha]; rfl
    | succ m ih =>
      intro i acc hi ha
      have hlt : i < l.length := by omega
      have hdr : l.drop i = l.getD i 0 :: l.drop (i + 1) := by
        rw [List.drop_eq_getElem_cons hlt]
        simp [List.getD_eq_getElem?_getD, List.getElem?_eq_getElem hlt]
      refine vX7_pairs_15 ⟨fun c => absurd c (by rw [hp'.1]; exact nI_ge hlt (by omega)), fun _ => ?_⟩
      rw [← nI_0]
      refine inner i hlt l.length 0 acc (by omega) (fun acc' e => ?_)
      rw [nI_1]
      refine ih (i + 1) acc' (by omega) ?_
      rw [← ha, hdr, List.map_cons, List.sum_cons, e, List.drop_zero]
      omega
  have := outer l.length 0 0 (by omega) (by rw [List.drop_zero]; exact Nat.zero_add _)
  rw [nI_0] at this
  exact this
theorem p_stair (hC : CL σ S) (hw : WS VA S) {k : Int32} (h : OutC σ Q (o_stair S k)) : X none (d + 4) mX7_stair 0 [.ref 0, .int k] [] σ Q := by
  have hwf := hw.1
  have hn := hwf.n120
  have hl : (thL (bF S)).length ≤ 60 := by rw [thL, pik_len]; exact hwf.c60
  have hl2 : (stL (bF S)).length ≤ 60 := Nat.le_trans (List.length_filter_le _ _) hl
  refine vX7_stair_0 ⟨fun c => ?_, fun c => h.bad hC ?_⟩
  · rw [o_stair, if_pos c] at h
    refine c_pickAll okP_57 okF_1 (by omega) hwf hC.1 (fun τ hp hs => ⟨rfl, ?_⟩)
    have hF := hC.1.sm hs (fun i k q1 q2 => by unfold SP; omega)
    refine c_pickStairs okP_59 okF_1 okP_57 (by omega) (by omega) (by omega) hF hl pikm hp (fun τ2 hp2 hs2 => ⟨rfl, ?_⟩)
    have hF2 := hF.sm hs2 (fun i k q1 q2 => by unfold SP; omega)
    have hp2' : PH τ2 59 (stL (bF S)) := hp2
    have hs12 : Sm (fun i _ => 57 ≤ i ∧ i ≤ 63) σ τ2 := (hs.mono (fun i k q => by unfold SP at q; omega)).tr (hs2.mono (fun i k q => by unfold SP at q; omega))
    have hm : ∀ e ∈ stL (bF S), e < fn (bF S) := fun e he => pikm e ((List.mem_filter.mp he).1)
    refine ⟨fun c2 => ?_, fun c2 => ?_⟩
    · rw [if_neg c2] at h
      refine c_sortByPlace okP_59 okF_1 (by omega) (by omega) hF2 hl2 hm hp2' (fun τ3 hp3 hs3 => ⟨rfl, ?_⟩)
      have hF3 := hF2.sm hs3 (fun i k q1 q2 => by unfold SP; omega)
      refine c_numberOf okP_59 okF_1 (by omega) hF3 (by rw [srt_len]; exact hl2) (fun e he => hm e ((srt_mem _ _ _).mp he)) hp3 ⟨_, rfl, ?_⟩
      have hs13 := hs12.tr (hs3.mono (fun i k q => by unfold SP at q; omega))
      exact h τ3 (hC.sm hs13 (fun i k q => (scr63 i k q).1)) (hs13.mono (fun i k q => by unfold S94; omega))
    · rw [if_pos c2] at h
      rw [hp2'.1]
      exact h τ2 (hC.sm hs12 (fun i k q => (scr63 i k q).1)) (hs12.mono (fun i k q => by unfold S94; omega))
  · rw [o_stair, if_neg c]
theorem p_layers (hC : CL σ S) {what : Int32} (h : OutC σ Q (o_layers S what)) : X none (d + 1) mX7_layers 0 [.ref 0, .int what] [] σ Q := by
  have hF := hC.1
  refine vX7_layers_0 ⟨fun c => h.bad hC (by rw [o_layers, if_pos c]), ?_⟩
  have hh : ¬ (what.toInt < 0 ∨ 4 < what.toInt) → Q (some (.int (layV S what))) σ := fun c => by
    rw [o_layers, if_neg c] at h
    exact h σ hC Sm.rf
  rw [hF.1.1, hF.1.2.1, hF.1.2.2.1, hF.1.2.2.2.1, hC.2.2.2.2.2.2.1]
  refine ⟨fun c => Qe (hh (by omega)) ?_, fun c => Qe (hh (by omega)) ?_, fun c => Qe (hh (by omega)) ?_, fun c => Qe (hh (by omega)) ?_, fun c => Qe (hh (by omega)) ?_⟩ <;> simp [layV, c]
theorem p_type (hC : CL σ S) (hw : WS VA S) {c : Int32} (h : OutC σ Q (o_type S c)) : X none (d + 1) mX7_type 0 [.ref 0, .int c] [] σ Q := by
  obtain ⟨h1, h2, h3, h4, ⟨h5, h6⟩, ⟨h7, h8⟩, h9, h10, h11, h12⟩ := id hC
  have ht := hw.2.2.2.2.1
  refine vX7_type_0 ⟨fun c1 => h.bad hC ?_, fun c1 => ⟨fun c2 => ?_, fun c2 => h.bad hC ?_⟩⟩
  · rw [o_type, if_neg (fun q => absurd q.1 (Int32.not_le.mpr c1))]
  · have hp : 0 ≤ c ∧ c ≤ 127 := ⟨Int32.not_lt.mp c1, c2⟩
    rw [h5]
    have e0 : nI (bT S).1 < 120 ↔ (bT S).1 < 120 := by rw [show (120 : Int32) = nI 120 from rfl, nI_ltI (by omega) (by decide)]
    have e0' : (120 : Int32) ≤ nI (bT S).1 ↔ ¬ (bT S).1 < 120 := by rw [show (120 : Int32) = nI 120 from rfl, nI_leI (by decide) (by omega)]; omega
    rw [e0, e0']
    refine ⟨fun c3 => ⟨fun c4 => absurd c3 c4, fun _ => ⟨inN c3 (Nat.le_refl _) (by decide), fun τ2 e2 τ3 e3 => ?_⟩⟩, fun c3 => h.full hC ?_⟩
    · rw [o_type, if_pos hp, if_pos c3] at h
      rw [nI_clamp (by omega)] at e2
      have r2 : τ2.1 67 2 = nI (bT S).1 := by rw [e2, w1_a _ _ _ _ _ _ (by omega), h5]
      rw [r2, nI_1] at e3
      have r3 : τ3.1 67 2 = nI ((bT S).1 + 1) := by rw [e3, w1_s]
      have s3 : Sm (fun i k => i = 68 ∨ (i = 67 ∧ k = 2)) σ τ3 := by rw [e3, e2]; exact (Sm.rf.w1 (Or.inl rfl)).w1 (Or.inr ⟨rfl, rfl⟩)
      rw [r3]
      refine h τ3 ⟨h1.sm s3 (by omega), h2.sm s3 (by omega), fun i hi => (h3 i hi).sm s3 (by omega), h4.sm s3 (by omega), ⟨r3, fun k hk => ?_⟩, ⟨?_, ?_⟩, ?_, ?_, ?_, ?_⟩ (s3.mono (fun i k q => by unfold S94; omega))
      · have hk2 : k < (bT S).1 + 1 := hk
        show τ3.1 68 k = upN (bT S).2 (bT S).1 c k
        rw [e3, w1_a _ _ _ _ _ _ (by omega), e2]
        by_cases hkk : k = (bT S).1
        · rw [hkk, w1_s, upN, if_pos rfl]
        · rw [w1_k _ _ _ _ _ _ hkk, upN, if_neg hkk]
          exact h6 k (by omega)
      · rw [(s3 72 0 (by omega)).2]; exact h7
      · rw [(s3 72 1 (by omega)).2]; exact h8
      · rw [(s3 0 9 (by omega)).1]; exact h9
      · rw [(s3 0 10 (by omega)).1]; exact h10
      · rw [(s3 0 11 (by omega)).1]; exact h11
      · rw [(s3 0 12 (by omega)).1]; exact h12
    · rw [o_type, if_pos hp, if_neg c3]
  · rw [o_type, if_neg (fun q => c2 q.2)]
theorem p_clear (hC : CL σ S) (h : OutC σ Q (o_clear S)) : X none d mX7_clear 0 [.ref 0, Unk] [] σ Q := by
  obtain ⟨h1, h2, h3, h4, ⟨h5, h6⟩, ⟨h7, h8⟩, h9, h10, h11, h12⟩ := id hC
  refine vX7_clear_0 (fun τ3 e3 => ?_)
  have s3 : Sm (fun i k => i = 67 ∧ k = 2) σ τ3 := by rw [e3]; exact Sm.rf.w1 ⟨rfl, rfl⟩
  rw [h5]
  refine h τ3 ⟨h1.sm s3 (by omega), h2.sm s3 (by omega), fun i hi => (h3 i hi).sm s3 (by omega), h4.sm s3 (by omega), ⟨?_, fun k hk => absurd hk (Nat.not_lt_zero k)⟩, ⟨?_, ?_⟩, ?_, ?_, ?_, ?_⟩ (s3.mono (fun i k q => by unfold S94; omega))
  · rw [e3, w1_s]; rfl
  · rw [(s3 72 0 (by omega)).2]; exact h7
  · rw [(s3 72 1 (by omega)).2]; exact h8
  · rw [(s3 0 9 (by omega)).1]; exact h9
  · rw [(s3 0 10 (by omega)).1]; exact h10
  · rw [(s3 0 11 (by omega)).1]; exact h11
  · rw [(s3 0 12 (by omega)).1]; exact h12
theorem c_pickArea (hva : ∀ A, VA A → WA A) (hC : CL σ S) (hw : WS VA S) (h : ∀ τ, CL τ S → PH τ 57 (arL S) → Sm (fun i _ => 57 ≤ i ∧ i ≤ 63) σ τ → Q none τ) : X none (d + 2) mX4_pickShape 0 [.ref 57, .ref 1, .ref 64, Unk] [] σ Q := by
  refine c_pickShape okP_57 okF_1 okS_64 (by omega) (by omega) hw.1 (hva _ hw.2.2.2.1) hC.1 hC.2.2.2.1 (fun τ hp hs => ?_)
  have hs2 : Sm (fun i _ => 57 ≤ i ∧ i ≤ 63) σ τ := hs.mono (fun i k q => by unfold SP at q; omega)
  exact h τ (hC.sm hs2 (fun i k q => (scr63 i k q).1)) hp hs2
theorem arL_60 (hw : WS VA S) : (arL S).length ≤ 60 := by
  rw [arL, pik_len]
  exact Nat.le_trans (cnt_imp (q := thr (bF S)) (fun e _ h => by simp [pS] at h; exact h.1)) hw.1.c60
theorem p_inside (hva : ∀ A, VA A → WA A) (hC : CL σ S) (hw : WS VA S) (h : OutC σ Q (o_inside S)) : X none (d + 3) mX7_inside 0 [.ref 0] [] σ Q := by
  have hn := hw.1.n120
  refine vX7_inside_0 (c_pickArea hva hC hw (fun τ hC2 hp hs => ⟨rfl, c_worthOfAll okP_57 okF_1 (by omega) hC2.1 (arL_60 hw) pikm hp ⟨_, rfl, h τ hC2 (hs.mono (fun i k q => by unfold S94; omega))⟩⟩))
theorem p_covers (hva : ∀ A, VA A → WA A) (hC : CL σ S) (hw : WS VA S) {x y : Int32} (h : OutC σ Q (o_covers S x y)) : X none (d + 2) mX7_covers 0 [.ref 0, .int x, .int y] [] σ Q := by
  refine vX7_covers_0 (c_isPlace ⟨_, rfl, fun c1 => ?_, fun c1 => h.bad hC ?_⟩)
  · rw [o_covers, if_pos (b01_eq c1)] at h
    have hQ := h σ hC Sm.rf
    refine c_holds okS_64 hC.2.2.2.1 (hva _ hw.2.2.2.1) ⟨_, rfl, fun c2 => Qe hQ ?_, fun c2 => Qe hQ ?_⟩
    · rw [b01_z c2]; rfl
    · rw [b01_o c2]; rfl
  · rw [o_covers, if_neg (b01_ne c1)]
theorem p_found (hva : ∀ A, VA A → WA A) (hC : CL σ S) (hw : WS VA S) {k : Int32} (h : OutC σ Q (o_found S k)) : X none (d + 4) mX7_found 0 [.ref 0, .int k] [] σ Q := by
  have hn := hw.1.n120
  refine vX7_found_0 ⟨fun c => ?_, fun c => h.bad hC (by rw [o_found, if_neg c])⟩
  rw [o_found, if_pos c] at h
  refine c_pickArea hva hC hw (fun τ hC2 hp hs => ⟨rfl, ?_⟩)
  refine c_sortByPlace okP_57 okF_1 (by omega) (by omega) hC2.1 (arL_60 hw) pikm hp (fun τ2 hp2 hs2 => ⟨rfl, ?_⟩)
  have hF2 := hC2.1.sm hs2 (fun i k q1 q2 => by unfold SP; omega)
  refine c_numberOf okP_57 okF_1 (by omega) hF2 (by rw [srt_len]; exact arL_60 hw) (fun e he => pikm e ((srt_mem _ _ _).mp he)) hp2 ⟨_, rfl, ?_⟩
  exact h τ2 (hC2.sm hs2 (fun i k q => by unfold SP at q; unfold SCR; omega)) ((hs.mono (fun i k q => by unfold S94; omega)).tr (hs2.mono (fun i k q => by unfold SP at q; unfold S94; omega)))
theorem p_mow (hva : ∀ A, VA A → WA A) (hC : CL σ S) (hw : WS VA S) (h : OutC σ Q (o_mow S)) : X none (d + 5) mX7_mow 0 [.ref 0] [] σ Q := by
  refine vX7_mow_0 (c_pickArea hva hC hw (fun τ hC2 hp hs => ⟨rfl, ?_⟩))
  refine c_takePicked hC2 hw (arL_60 hw) (fun i hi => ?_) (pik_nodup _ _) hp (fun τ2 h1 h2 => ⟨_, rfl, h τ2 h1 ((hs.mono (fun i k q => by unfold S94; omega)).tr h2)⟩)
  have := (pik_mem _ _).mp hi
  simp [pS] at this
  exact ⟨this.1, this.2.1⟩
theorem i01 {x : Int32} (h1 : ¬ x < 0) (h2 : x < 2) : x = nI 0 ∨ x = nI 1 := by
  obtain ⟨j, hj, rfl⟩ := nI_of h1
  rw [show (2 : Int32) = nI 2 from rfl, nI_ltI hj (by decide)] at h2
  rcases (show j = 0 ∨ j = 1 by omega) with rfl | rfl
  · exact Or.inl rfl
  · exact Or.inr rfl
theorem lt2 {x : Int32} : x < 2 ↔ x ≤ 1 := by
  rw [Int32.lt_iff_toInt_lt, Int32.le_iff_toInt_le]
  have e1 : (2 : Int32).toInt = 2 := by decide
  have e2 : (1 : Int32).toInt = 1 := by decide
  omega
theorem p_image (hva : ∀ A, VA A → WA A) (hC : CL σ S) (hw : WS VA S) {i : Int32} (h : OutC σ Q (o_image S i)) : X none (d + 3) mX7_image 0 [.ref 0, .int i] [] σ Q := by
  have hn := hw.1.n120
  refine vX7_image_0 ⟨fun c => h.bad hC ?_, fun c => ⟨fun c1 => ?_, fun c1 => h.bad hC ?_⟩⟩
  · rw [o_image, if_neg (fun q => absurd q.1 (Int32.not_le.mpr c))]
  · rw [o_image, if_pos ⟨Int32.not_lt.mp c, lt2.mp c1⟩] at h
    obtain ⟨j, hj, rfl⟩ : ∃ j : Nat, j < 2 ∧ i = nI j := by
      rcases i01 c c1 with q | q
      · exact ⟨0, by omega, q⟩
      · exact ⟨1, by omega, q⟩
    rw [nI_clamp (by omega)] at h ⊢
    refine ⟨vp_in_nI hj (by decide), vX3_keep_0 (kpt_okk j hj) okF_1 okS_64 ?_⟩
    refine c_copyFrom (kpt_okk j hj).f okF_1 (by omega) (by omega) hC.1 (fun τ1 hF1 hs1 => ⟨rfl, ?_⟩)
    have hA1 := hC.2.2.2.1.sm hs1 (fun i k q1 q2 => by unfold SF; omega)
    refine c_copyFromS (kpt_okk j hj).s okS_64 (by omega) (hva _ hw.2.2.2.1) hA1 (fun τ2 hA2 hs2 => ⟨rfl, fun τ3 e3 => ⟨rfl, ?_⟩⟩)
    have s3 : Sm (fun a k => a = 74 + 10 * j ∧ k = 2) τ2 τ3 := by rw [e3]; exact Sm.rf.w1 ⟨rfl, rfl⟩
    have hs : Sm (fun a _ => 74 + 10 * j ≤ a ∧ a ≤ 83 + 10 * j) σ τ3 := ((hs1.mono (fun i k q => by unfold SF at q; omega)).tr (hs2.mono (fun i k q => by unfold SS at q; omega))).tr (s3.mono (fun i k q => by omega))
    obtain ⟨h1, h2, h3, h4, ⟨h5, h6⟩, ⟨h7, h8⟩, h9, h10, h11, h12⟩ := hC
    refine h τ3 ⟨h1.sm hs (by omega), h2.sm hs (by omega), fun i hi => ?_, h4.sm hs (by omega), ⟨?_, fun k hk => ?_⟩, ⟨?_, ?_⟩, ?_, ?_, ?_, ?_⟩ (hs.mono (fun i k q => by unfold S94; omega))
    · show IG τ3 i (upN (bI S) j (true, bF S, bA S) i)
      by_cases hij : i = j
      · subst hij
        rw [upN, if_pos rfl]
        refine ⟨by rw [e3, w1_s]; rfl, fun _ => ⟨?_, ?_⟩⟩
        · have q1 := (hF1.sm hs2 (fun a k q1 q2 => by unfold SS; omega)).sm s3 (fun a k q1 q2 => by omega)
          rw [show 75 + 10 * i = 74 + 10 * i + 1 by omega]; exact q1
        · have q1 := hA2.sm s3 (fun a k q1 q2 => by omega)
          rw [show 81 + 10 * i = 74 + 10 * i + 7 by omega]; exact q1
      · rw [upN, if_neg hij]
        exact (h3 i hi).sm hs (by omega)
    · rw [(hs 67 2 (by omega)).1]; exact h5
    · rw [(hs 68 k (by omega)).1]; exact h6 k hk
    · rw [(hs 72 0 (by omega)).2]; exact h7
    · rw [(hs 72 1 (by omega)).2]; exact h8
    · rw [(hs 0 9 (by omega)).1]; exact h9
    · rw [(hs 0 10 (by omega)).1]; exact h10
    · rw [(hs 0 11 (by omega)).1]; exact h11
    · rw [(hs 0 12 (by omega)).1]; exact h12
  · rw [o_image, if_neg (fun q => c1 (lt2.mpr q.2))]
theorem p_from (hva : ∀ A, VA A → WA A) (hC : CL σ S) (hw : WS VA S) {i : Int32} (h : OutC σ Q (o_from S i)) : X none (d + 3) mX7_from 0 [.ref 0, .int i] [] σ Q := by
  refine vX7_from_0 ⟨fun c => h.bad hC ?_, fun c => ⟨fun c1 => ?_, fun c1 => h.bad hC ?_⟩⟩
  · rw [o_from, if_neg (fun q => absurd q.1 (Int32.not_le.mpr c))]
  · have hp : 0 ≤ i ∧ i ≤ 1 := ⟨Int32.not_lt.mp c, lt2.mp c1⟩
    obtain ⟨j, hj, rfl⟩ : ∃ j : Nat, j < 2 ∧ i = nI j := by
      rcases i01 c c1 with q | q
      · exact ⟨0, by omega, q⟩
      · exact ⟨1, by omega, q⟩
    have hvi : vp_in (nI j) 2 := vp_in_nI hj (by decide)
    rw [o_from, if_pos hp, nI_clamp (by omega)] at h
    rw [nI_clamp (by omega)]
    have hI := hC.2.2.1 j hj
    refine ⟨hvi, fun c2 => ⟨hvi, vX3_bringBack_0 (kpt_okk j hj) okF_1 okS_64 ?_⟩, fun c2 => ?_⟩
    · have hk : (bI S j).1 = true := by
        rw [hI.1] at c2
        exact b01_o c2
      rw [if_pos hk] at h
      obtain ⟨hCF, hCS⟩ := hI.2 hk
      obtain ⟨hWFj, hVAj⟩ := hw.2.2.1 j hj hk
      have hn := hWFj.n120
      refine c_copyFrom (G := (bI S j).2.1) okF_1 (kpt_okk j hj).f (by omega) (by omega) (by rw [show 74 + 10 * j + 1 = 75 + 10 * j by omega]; exact hCF) (fun τ1 hF1 hs1 => ⟨rfl, ?_⟩)
      have hA1 := hCS.sm hs1 (fun i k q1 q2 => by unfold SF; omega)
      refine c_copyFromS okS_64 (kpt_okk j hj).s (by omega) (hva _ hVAj) (by rw [show 74 + 10 * j + 7 = 81 + 10 * j by omega]; exact hA1) (fun τ2 hA2 hs2 => ⟨rfl, rfl, fun τ3 e3 => ?_⟩)
      have s3 : Sm (fun a k => a = 7 ∧ k = 2) τ2 τ3 := by rw [e3]; exact Sm.rf.w1 ⟨rfl, rfl⟩
      have hs : Sm (fun a k => (1 ≤ a ∧ a ≤ 6) ∨ (64 ≤ a ∧ a ≤ 66) ∨ (a = 7 ∧ k = 2)) σ τ3 := ((hs1.mono (fun i k q => by unfold SF at q; omega)).tr (hs2.mono (fun i k q => by unfold SS at q; omega))).tr (s3.mono (fun i k q => by omega))
      obtain ⟨h1, ⟨o, g1, g2, g3, g4, g5⟩, h3, h4, ⟨h5, h6⟩, ⟨h7, h8⟩, h9, h10, h11, h12⟩ := hC
      refine h τ3 ⟨(hF1.sm hs2 (fun a k q1 q2 => by unfold SS; omega)).sm s3 (by omega), ⟨o, g1, ?_, ?_, Nat.zero_le _, fun k hk => absurd hk (Nat.not_lt_zero k)⟩, fun i hi => (h3 i hi).sm hs (by omega), hA2.sm s3 (by omega), ⟨?_, fun k hk => ?_⟩, ⟨?_, ?_⟩, ?_, ?_, ?_, ?_⟩ (hs.mono (fun i k q => by unfold S94; omega))
      · rw [(hs 7 1 (by omega)).1]; exact g2
      · rw [e3, w1_s]; rfl
      · rw [(hs 67 2 (by omega)).1]; exact h5
      · rw [(hs 68 k (by omega)).1]; exact h6 k hk
      · rw [(hs 72 0 (by omega)).2]; exact h7
      · rw [(hs 72 1 (by omega)).2]; exact h8
      · rw [(hs 0 9 (by omega)).1]; exact h9
      · rw [(hs 0 10 (by omega)).1]; exact h10
      · rw [(hs 0 11 (by omega)).1]; exact h11
      · rw [(hs 0 12 (by omega)).1]; exact h12
    · have hk : (bI S j).1 = false := by
        rw [hI.1] at c2
        exact b01_z c2
      refine OutC.no (S := S) h hC ?_
      rw [hk]; rfl
  · rw [o_from, if_neg (fun q => c1 (lt2.mpr q.2))]
theorem p_status (hC : CL σ S) {what : Int32} (h : OutC σ Q (o_status S what)) : X none (d + 1) mX7_status 0 [.ref 0, .int what] [] σ Q := by
  refine vX7_status_0 ⟨fun c τ e => ?_, ?_⟩
  · rw [o_status, if_pos c] at h
    exact h τ (hC.r0 e).1 (hC.r0 e).2
  · have hh : ¬ (what.toInt < 0 ∨ 2 < what.toInt) → Q (some (.int (if what.toInt = 0 then (bS S).1 else if what.toInt = 1 then (bS S).2.1 else (bS S).2.2))) σ := fun c => by
      rw [o_status, if_neg c] at h
      exact h σ hC Sm.rf
    rw [hC.2.2.2.2.2.2.2.1, hC.2.2.2.2.2.2.2.2.1, hC.2.2.2.2.2.2.2.2.2]
    refine ⟨fun c => Qe (hh (by omega)) ?_, fun c => Qe (hh (by omega)) ?_, fun c => Qe (hh (by omega)) ?_⟩ <;> simp [c]
theorem p_size (hC : CL σ S) (hw : WS VA S) {what : Int32} (h : OutC σ Q (o_size S what)) : X none (d + 2) mX7_size 0 [.ref 0, .int what] [] σ Q := by
  have hF := hC.1
  have hn := hw.1.n120
  refine vX7_size_0 ⟨fun c => h.bad hC (by rw [o_size, if_pos c]), ?_⟩
  have hh : ¬ (what.toInt < 0 ∨ 7 < what.toInt) → Q (some (.int (sizV S what.toInt))) σ := fun c => by
    rw [o_size, if_neg c] at h
    exact h σ hC Sm.rf
  obtain ⟨o, g1, g2, g3, g4, g5⟩ := id hC.2.1
  rw [hF.1.1, hF.1.2.1, hF.1.2.2.2.2.2, hF.1.2.2.2.2.1, g3, hC.2.2.2.2.1.1, hC.2.2.2.1.2.1, thereI hw.1]
  refine ⟨fun c => Qe (hh (by omega)) ?_, fun c => Qe (hh (by omega)) ?_, fun c => Qe (hh (by omega)) ?_, fun c => Qe (hh (by omega)) ?_, fun c => c_weightOfAll okF_1 (by omega) hw.1.go31 hF ⟨_, rfl, Qe (hh (by omega)) ?_⟩, fun c => Qe (hh (by omega)) ?_, fun c => Qe (hh (by omega)) ?_, fun c => Qe (hh (by omega)) ?_⟩ <;> simp [sizV, c]
def OutL (σ : Mem) (Q : Option Value → Mem → Prop) (o : Int64 × Ab) : Prop := ∀ τ, CL τ o.2 → Sm S94 σ τ → Q (some (.long o.1)) τ
theorem p_part (hC : CL σ S) {what : Int32} (h : OutL σ Q (o_part S what)) : X none (d + 1) mX7_part 0 [.ref 0, .int what] [] σ Q := by
  refine vX7_part_0 ⟨fun c => ?_, fun c => ?_, fun c τ e => ?_⟩
  · rw [o_part, if_pos c] at h
    rw [hC.2.2.2.2.2.1.1]
    exact h σ hC Sm.rf
  · rw [o_part, if_neg (by omega), if_pos c] at h
    rw [hC.2.2.2.2.2.1.2]
    exact h σ hC Sm.rf
  · rw [o_part, if_neg (fun q => c (Or.inl q)), if_neg (fun q => c (Or.inr q))] at h
    exact h τ (hC.r0 e).1 (hC.r0 e).2
end PL2
