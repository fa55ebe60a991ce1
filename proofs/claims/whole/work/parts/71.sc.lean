/-! Scatter, on both sides. -/
def dr (n : Nat) : Nat := (n * 1103515245 + 12345) % 2147483648
def lo (n b : Nat) : Int32 := nI (n / 65536 % b)
def nL (n : Nat) : Int64 := Int64.ofNat n
theorem dr_lt (n : Nat) : dr n < 2147483648 := Nat.mod_lt _ (by decide)
theorem bmod64 {x : Int} (h1 : -9223372036854775808 ≤ x) (h2 : x < 9223372036854775808) : x.bmod (2 ^ 64) = x := by
  rw [Int.bmod]
  simp only [Int.reducePow, Nat.reducePow, Int.cast_ofNat_Int]
  omega
theorem nL_toInt {n : Nat} (h : n < 9223372036854775808) : (nL n).toInt = n := Int64.toInt_ofNat_of_lt h
theorem mulL {a b : Int64} (h1 : -9223372036854775808 ≤ a.toInt * b.toInt) (h2 : a.toInt * b.toInt < 9223372036854775808) : (a * b).toInt = a.toInt * b.toInt := by rw [Int64.toInt_mul, bmod64 h1 h2]
theorem addL {a b : Int64} (h1 : -9223372036854775808 ≤ a.toInt + b.toInt) (h2 : a.toInt + b.toInt < 9223372036854775808) : (a + b).toInt = a.toInt + b.toInt := by rw [Int64.toInt_add, bmod64 h1 h2]
theorem subL {a b : Int64} (h1 : -9223372036854775808 ≤ a.toInt - b.toInt) (h2 : a.toInt - b.toInt < 9223372036854775808) : (a - b).toInt = a.toInt - b.toInt := by rw [Int64.toInt_sub, bmod64 h1 h2]
theorem divL {a b : Int64} (h0 : 0 ≤ a.toInt) (hb : 0 < b.toInt) : (a / b).toInt = a.toInt / b.toInt := by
  have h1 := a.toInt_lt
  have h2 := Int.ediv_nonneg h0 (Int.le_of_lt hb)
  have h3 := Int.ediv_le_self b.toInt h0
  rw [Int64.toInt_div, Int.tdiv_eq_ediv_of_nonneg h0, bmod64 (by omega) (by omega)]
theorem remL {a b : Int64} {m c : Nat} (ha : a.toInt = m) (hb : b.toInt = c) (hc : 0 < c) : (a - a / b * b).toInt = (m % c : Nat) := by
  have h1 := a.toInt_lt
  have hm := Nat.div_add_mod m c
  have hl := Nat.mod_lt m hc
  have e3 : (a / b).toInt = (m / c : Nat) := by
    rw [divL (by omega) (by omega), ha, hb]; rfl
  have e5 : ((m / c : Nat) : Int) * (c : Int) = ((c * (m / c) : Nat) : Int) := by rw [Nat.mul_comm]; rfl
  have e4 : (a / b * b).toInt = ((c * (m / c) : Nat) : Int) := by
    rw [mulL (by rw [e3, hb, e5]; omega) (by rw [e3, hb, e5]; omega), e3, hb, e5]
  rw [subL (by rw [e4, ha]; omega) (by rw [e4, ha]; omega), e4, ha]
  omega
theorem drawL {n : Nat} (h : n < 2147483648) : (nL n * 1103515245 + 12345) - (nL n * 1103515245 + 12345) / 2147483648 * 2147483648 = nL (dr n) := by
  have e0 := nL_toInt (n := n) (by omega)
  have k1 : (1103515245 : Int64).toInt = 1103515245 := by decide
  have k2 : (12345 : Int64).toInt = 12345 := by decide
  have k3 : (2147483648 : Int64).toInt = (2147483648 : Nat) := by decide
  have e1 : (nL n * 1103515245).toInt = n * 1103515245 := by rw [mulL (by rw [e0, k1]; omega) (by rw [e0, k1]; omega), e0, k1]
  have e2 : (nL n * 1103515245 + 12345).toInt = (n * 1103515245 + 12345 : Nat) := by
    rw [addL (by rw [e1, k2]; omega) (by rw [e1, k2]; omega), e1, k2]; omega
  apply Int64.toInt_inj.mp
  rw [remL e2 k3 (by decide), nL_toInt (by have := dr_lt n; omega)]
  rfl
theorem loL {n c : Nat} (h : n < 2147483648) {b : Int64} (hb : b.toInt = c) (hc : 0 < c) (hc2 : c ≤ 65536) : ((nL n / 65536) - (nL n / 65536) / b * b).toInt32 = lo n c := by
  have e0 := nL_toInt (n := n) (by omega)
  have k1 : (65536 : Int64).toInt = 65536 := by decide
  have e1 : (nL n / 65536).toInt = (n / 65536 : Nat) := by
    rw [divL (by omega) (by rw [k1]; decide), e0, k1]; rfl
  have hl := Nat.mod_lt (n / 65536) hc
  apply Int32.toInt_inj.mp
  rw [Int64.toInt_toInt32, remL e1 hb hc, bmod_id (by omega) (by omega), lo, nI_toInt (by omega)]
theorem drawI {n : Nat} (h : n < 2147483648) : ((nI n * 1103515245) + 12345) &&& 2147483647 = nI (dr n) := by
  rw [pk_and _ 31 (by decide)]
  apply congrArg nI
  have e : ((nI n * 1103515245) + 12345).toBitVec.toNat = (n * 1103515245 + 12345) % 4294967296 := by
    have e1 : (nI n).toBitVec.toNat = n := by
      show n % 4294967296 = n
      omega
    rw [Int32.toBitVec_add, Int32.toBitVec_mul, BitVec.toNat_add, BitVec.toNat_mul, e1]
    show (n * 1103515245 % 4294967296 + 12345) % 4294967296 = _
    omega
  rw [e, dr]
  show _ % 2147483648 = _
  omega
theorem loI {n c : Nat} (h : n < 2147483648) (hc : 0 < c) (hc2 : c < 2147483648) : (nI n >>> ((16 : Int32) &&& 31)) - (nI n >>> ((16 : Int32) &&& 31)) / nI c * nI c = lo n c := by
  rw [pk_shrN h _ 16 (by decide), pk_rem (by omega) hc hc2]
  rfl
theorem lo_x {n : Nat} : onA (lo n 1001 - 500) := by
  have hl := Nat.mod_lt (n / 65536) (show 0 < 1001 by decide)
  have h1 : (lo n 1001).toInt = (n / 65536 % 1001 : Nat) := by rw [lo, nI_toInt (by omega)]
  have h2 : (lo n 1001 - 500).toInt = (n / 65536 % 1001 : Nat) - 500 := by
    rw [sub_toI, h1] <;> rw [show (500 : Int32).toInt = 500 by decide] <;> (try rw [h1]) <;> omega
  exact ⟨Int32.le_iff_toInt_le.mpr (by rw [h2, show (-500 : Int32).toInt = -500 by decide]; omega), Int32.le_iff_toInt_le.mpr (by rw [h2, show (500 : Int32).toInt = 500 by decide]; omega)⟩
theorem lo_w {n : Nat} : 1 ≤ 1 + lo n 100 ∧ 1 + lo n 100 ≤ 100 := by
  have hl := Nat.mod_lt (n / 65536) (show 0 < 100 by decide)
  have h2 : 1 + lo n 100 = nI (1 + n / 65536 % 100) := by rw [lo, show (1 : Int32) = nI 1 from rfl, nI_add]
  rw [h2]
  exact ⟨show nI 1 ≤ _ from (nI_leI (by omega) (by omega)).mpr (by omega), show _ ≤ nI 100 from (nI_leI (by omega) (by omega)).mpr (by omega)⟩
def dr3 (n : Nat) : Nat := dr (dr (dr n))
def scC (F : Fl) (n : Nat) : Fl := comeF F (lo (dr n) 1001 - 500) (lo (dr (dr n)) 1001 - 500) (1 + lo (dr3 n) 100)
def scN (n : Nat) : Nat → Nat
  | 0 => n
  | k + 1 => dr3 (scN n k)
def scF (F : Fl) (n : Nat) : Nat → Fl
  | 0 => F
  | k + 1 => scC (scF F n k) (scN n k)
theorem scF_fn (F : Fl) (n k : Nat) : fn (scF F n k) = fn F + k := by
  induction k with
  | zero => rfl
  | succ k ih => show fn (scF F n k) + 1 = _; omega
theorem scF_fg (F : Fl) (n k : Nat) : fg (scF F n k) = fg F := by
  induction k with
  | zero => rfl
  | succ k ih => show fg (scF F n k) = _; omega
theorem scF_fnx (F : Fl) (n k : Nat) : fnx (scF F n k) = fnx F + k := by
  induction k with
  | zero => rfl
  | succ k ih => show fnx (scF F n k) + 1 = _; omega
theorem scN_lt {n : Nat} (h : n < 2147483648) (k : Nat) : scN n k < 2147483648 := by
  cases k with
  | zero => exact h
  | succ k => exact dr_lt _
theorem WF.sc {F : Fl} (h : WF F) (n : Nat) : ∀ k, fn F + k ≤ fg F + 60 → fnx F + k ≤ 10000 → WF (scF F n k) := by
  intro k
  induction k with
  | zero => intro _ _; exact h
  | succ k ih =>
    intro h1 h2
    exact (ih (by omega) (by omega)).come (by rw [scF_fn, scF_fg]; omega) (by rw [scF_fnx]; omega) lo_x lo_x lo_w
def o_scatter (S : Ab) (s n : Int32) : Int32 × Ab := if (0 ≤ s ∧ s ≤ 999999) ∧ 1 ≤ n ∧ n ≤ 30 then (if fn (bF S) + n.toNatClampNeg ≤ fg (bF S) + 60 ∧ fnx (bF S) + n.toNatClampNeg ≤ 10000 then (nI (fn (bF S) + n.toNatClampNeg - fg (bF S)), setF S (scF (bF S) s.toNatClampNeg n.toNatClampNeg)) else (cFULL, rf2 S)) else (cBAD, rf0 S)
section SC
variable {d : Nat} {σ : Mem} {Q : Option Value → Mem → Prop} {F : Fl} {S : Ab} {VA : Ar → Prop}
theorem nL_of {s : Nat} (h : s < 2147483648) : (nI s).toInt64 = nL s := by
  apply Int64.toInt_inj.mp
  rw [Int32.toInt_toInt64, nI_toInt h, nL_toInt (by omega)]
theorem p_scatter (hC : CL σ S) (hw : WS VA S) {s n : Int32} (h : OutC σ Q (o_scatter S s n)) : X none (d + 3) mX7_scatter 0 [.ref 0, .int s, .int n, Unk, Unk, Unk, Unk, Unk] [] σ Q := by
  have hF := hC.1
  have hn := hw.1.n120
  have hx := hw.1.1
  have hg := hw.1.g60
  refine vX7_scatter_0 ⟨fun c => h.bad hC (by rw [o_scatter, if_neg (fun q => absurd c (Int32.not_lt.mpr q.1.1))]), fun c => ⟨fun c1 => h.bad hC (by rw [o_scatter, if_neg (fun q => absurd c1 (Int32.not_lt.mpr q.1.2))]), fun c1 => ⟨fun c2 => h.bad hC (by rw [o_scatter, if_neg (fun q => absurd c2 (Int32.not_lt.mpr q.2.1))]), fun c2 => ⟨fun c3 => ?_, fun c3 => h.bad hC (by rw [o_scatter, if_neg (fun q => c3 q.2.2)])⟩⟩⟩⟩
  have hin : (0 ≤ s ∧ s ≤ 999999) ∧ 1 ≤ n ∧ n ≤ 30 := ⟨⟨Int32.not_lt.mp c, Int32.not_lt.mp c1⟩, Int32.not_lt.mp c2, c3⟩
  obtain ⟨s', hs', rfl⟩ := nI_of c
  obtain ⟨n', hn', rfl⟩ := nI_of (x := n) (fun q => c2 (Int32.lt_trans q (by decide)))
  have hn30 : n' ≤ 30 := (nI_leI hn' (b := 30) (by decide)).mp c3
  have hn1 : 1 ≤ n' := (nI_leI (a := 1) (by decide) hn').mp hin.2.1
  have e : o_scatter S (nI s') (nI n') = if fn (bF S) + n' ≤ fg (bF S) + 60 ∧ fnx (bF S) + n' ≤ 10000 then (nI (fn (bF S) + n' - fg (bF S)), setF S (scF (bF S) s' n')) else (cFULL, rf2 S) := by rw [o_scatter, if_pos hin, nI_clamp hs', nI_clamp hn']
  rw [e] at h
  have t1 : (60 : Int32) < nI (fn (bF S)) - nI (fg (bF S)) + nI n' ↔ ¬ fn (bF S) + n' ≤ fg (bF S) + 60 := by
    rw [thereI hw.1, nI_add, show (60 : Int32) = nI 60 from rfl, nI_ltI (by decide) (by omega)]
    omega
  have t2 : (9999 : Int32) < nI (fnx (bF S)) + nI n' - 1 ↔ ¬ fnx (bF S) + n' ≤ 10000 := by
    rw [nI_add, show fnx (bF S) + n' = fnx (bF S) + n' - 1 + 1 by omega, nI_pred, show (9999 : Int32) = nI 9999 from rfl, nI_ltI (by decide) (by omega)]
    omega
  rw [hF.1.1, hF.1.2.1, hF.1.2.2.2.2.2, t1, t2]
  refine ⟨fun c4 => h.full hC (if_neg (fun q => c4 q.1)), fun c4 => ⟨fun c5 => h.full hC (if_neg (fun q => c5 q.2)), fun c5 => ?_⟩⟩
  have c4' := Decidable.not_not.mp c4
  have c5' := Decidable.not_not.mp c5
  rw [if_pos ⟨c4', c5'⟩] at h
  refine c_hkeep (by omega) hF hC.2.1 (fun τ hH hF2 hs => ⟨rfl, ?_⟩)
  rw [nL_of hs', ← nI_0]
  have key : ∀ m k (τ2 : Mem), n' = k + m → CF τ2 1 (scF (bF S) s' k) → Sm (SF 1) τ τ2 → X none (d + 3) mX7_scatter 77 [.ref 0, .int (nI s'), .int (nI n'), .long (nL (scN s' k)), Unk, .int (nI k), Unk, Unk] [] τ2 Q := by
    intro m
    induction m with
    | zero =>
      intro k τ2 hk hF3 hs2
      refine vX7_scatter_77 ⟨fun _ => ?_, fun q => absurd (nI_le (by omega) (by omega)) q⟩
      have hk' : k = n' := by omega
      subst hk'
      have hs3 : Sm (fun i _ => 1 ≤ i ∧ i ≤ 56) σ τ2 := (hs.mono (fun i k q => by unfold SH at q; omega)).tr (hs2.mono (fun i k q => by unfold SF at q; omega))
      refine Qe (h τ2 (hC.fh (hs3.mono (fun i k q => Or.inl q)) hF3 (hH.sm hs2 (fun i k q1 q2 => by unfold SF; omega))) (hs3.mono (fun i k q => by unfold S94; omega))) ?_
      have hW := hw.1.sc s' k c4' c5'
      rw [hF3.1.1, hF3.1.2.1, thereI hW, scF_fn, scF_fg]
    | succ m ih =>
      intro k τ2 hk hF3 hs2
      have hl := scN_lt (n := s') hs' k
      refine vX7_scatter_77 ?_
      rw [drawL hl, drawL (dr_lt _), drawL (dr_lt _), loL (dr_lt _) (c := 1001) (by decide) (by decide) (by decide), loL (dr_lt _) (c := 1001) (by decide) (by decide) (by decide), loL (dr_lt _) (c := 100) (by decide) (by decide) (by decide), nI_1]
      have hW := hw.1.sc s' k (by omega) (by omega)
      refine ⟨fun q => absurd q (nI_ge (by omega) (by omega)), fun _ => ⟨by decide, by decide, by decide, c_come okF_1 (by rw [scF_fn]; omega) (by rw [scF_fnx]; omega) hF3 (fun τ3 hF4 hs3 => ⟨_, rfl, ih (k + 1) τ3 (by omega) hF4 (hs2.tr hs3)⟩)⟩⟩
  exact key n' 0 τ (by omega) hF2 Sm.rf
theorem q_scatter (hva : ∀ A, VA A → WA A) (hC : MD σ S) (hw : WS VA S) {s n : Int32} (h : OutM σ Q (o_scatter S s n)) : X none (d + 2) mX8_scatter 0 [.ref 94, .int s, .int n, Unk, Unk, Unk] [] σ Q := by
  have hZ := MZ_iff.mp hC.1
  have hn := hw.1.n120
  have hx := hw.1.1
  have hg := hw.1.g60
  refine vX8_scatter_0 ⟨fun c => OutM.bad hva hw h hC (by rw [o_scatter, if_neg (fun q => c q.1)]), fun c => ⟨fun c1 => ?_, fun c1 => OutM.bad hva hw h hC (by rw [o_scatter, if_neg (fun q => c1 q.2)])⟩⟩
  have hin : (0 ≤ s ∧ s ≤ 999999) ∧ 1 ≤ n ∧ n ≤ 30 := ⟨c, c1⟩
  obtain ⟨s', hs', rfl⟩ := nI_of (Int32.not_lt.mpr c.1)
  obtain ⟨n', hn', rfl⟩ := nI_of (x := n) (fun q => absurd (Int32.lt_trans q (by decide : (0 : Int32) < 1)) (Int32.not_lt.mpr c1.1))
  have hn30 : n' ≤ 30 := (nI_leI hn' (b := 30) (by decide)).mp c1.2
  have hn1 : 1 ≤ n' := (nI_leI (a := 1) (by decide) hn').mp hin.2.1
  have e : o_scatter S (nI s') (nI n') = if fn (bF S) + n' ≤ fg (bF S) + 60 ∧ fnx (bF S) + n' ≤ 10000 then (nI (fn (bF S) + n' - fg (bF S)), setF S (scF (bF S) s' n')) else (cFULL, rf2 S) := by rw [o_scatter, if_pos hin, nI_clamp hs', nI_clamp hn']
  rw [e] at h
  have t1 : (60 : Int32) < nI (fn (bF S)) - nI (fg (bF S)) + nI n' ↔ ¬ fn (bF S) + n' ≤ fg (bF S) + 60 := by
    rw [thereI hw.1, nI_add, show (60 : Int32) = nI 60 from rfl, nI_ltI (by decide) (by omega)]
    omega
  have t2 : nI (fnx (bF S)) + nI n' ≤ 10000 ↔ fnx (bF S) + n' ≤ 10000 := by
    rw [nI_add, show (10000 : Int32) = nI 10000 from rfl, nI_leI (by omega) (by decide)]
  rw [hZ.1.1, hZ.1.2.1, hZ.1.2.2.2.2.2, t1, t2]
  refine ⟨fun c4 => OutM.full hva hw h hC (if_neg (fun q => c4 q.1)), fun c4 => ⟨fun c5 => ?_, fun c5 => OutM.full hva hw h hC (if_neg (fun q => c5 q.2))⟩⟩
  have c4' := Decidable.not_not.mp c4
  rw [if_pos ⟨c4', c5⟩] at h
  refine m_minds2 hw hC (fun τ hH hF hs => ⟨rfl, fun τ4 e4 => ?_⟩)
  let P : Nat → Nat → Prop := fun i k => (i = 95 ∧ k < 678) ∨ (i = 94 ∧ k = 10)
  have key : ∀ m k (τ2 : Mem), n' = k + m → MZ τ2 (scF (bF S) s' k) → τ2.1 94 10 = nI (scN s' k) → Sm P τ τ2 → X none (d + 2) mX8_scatter 70 [.ref 94, .int (nI s'), .int (nI n'), .int (nI k), Unk, Unk] [] τ2 Q := by
    intro m
    induction m with
    | zero =>
      intro k τ2 hk hF3 _ hs2
      refine vX8_scatter_70 ⟨fun _ => ?_, fun q => absurd (nI_le (by omega) (by omega)) q⟩
      have hk' : k = n' := by omega
      subst hk'
      have he := endF hva hw hC hH hs hs2 (fun i k q => by show _; rcases q with q | q; exact Or.inl q; exact Or.inr (Or.inr ⟨q.1, Or.inl q.2⟩)) hF3
      refine Qe (h τ2 he.1 he.2) ?_
      have hW := hw.1.sc s' k c4' c5
      rw [hF3.1.1, hF3.1.2.1, thereI hW, scF_fn, scF_fg]
    | succ m ih =>
      intro k τ2 hk hF3 hd hs2
      have hl := scN_lt (n := s') hs' k
      refine vX8_scatter_70 ⟨fun q => absurd q (nI_ge (by omega) (by omega)), fun _ t1 e1 t2 e2 t3 e3 => ?_⟩
      rw [hd, drawI hl] at e1
      have r1 : t1.1 94 10 = nI (dr (scN s' k)) := by rw [e1, w1_s]
      rw [r1, drawI (dr_lt _)] at e2
      have r2 : t2.1 94 10 = nI (dr (dr (scN s' k))) := by rw [e2, w1_s]
      rw [r2, drawI (dr_lt _)] at e3
      have r3 : t3.1 94 10 = nI (dr3 (scN s' k)) := by rw [e3, w1_s]; rfl
      rw [r1, r2, r3, nI_1]
      have l1 := loI (n := dr (scN s' k)) (c := 1001) (dr_lt _) (by decide) (by decide)
      have l2 := loI (n := dr (dr (scN s' k))) (c := 1001) (dr_lt _) (by decide) (by decide)
      have l3 := loI (n := dr3 (scN s' k)) (c := 100) (dr_lt _) (by decide) (by decide)
      rw [show nI 1001 = 1001 from rfl] at l1 l2
      rw [show nI 100 = 100 from rfl] at l3
      rw [l1, l2, l3]
      have hs3 : Sm (fun i k => i = 94 ∧ k = 10) τ2 t3 := by rw [e3, e2, e1]; exact ((Sm.rf.w1 ⟨rfl, rfl⟩).w1 ⟨rfl, rfl⟩).w1 ⟨rfl, rfl⟩
      have hW := hw.1.sc s' k (by omega) (by omega)
      have hF4 : MZ t3 (scF (bF S) s' k) := MZ_iff.mp ((MZ_iff.mpr hF3).sm hW (fun k q1 q2 => (hs3 95 k (by omega)).1))
      refine m_comes (by rw [scF_fn]; omega) hF4 (fun t4 hF5 hs4 => ⟨rfl, ih (k + 1) t4 (by omega) hF5 ?_ ?_⟩) (fun _ _ => trivial)
      · rw [(hs4 94 10 (by unfold S95; omega)).1, r3]; rfl
      · exact (hs2.tr (hs3.mono (fun i k q => Or.inr q))).tr (hs4.mono (fun i k q => Or.inl q))
  have s4 : Sm (fun i k => i = 94 ∧ k = 10) τ τ4 := by rw [e4]; exact Sm.rf.w1 ⟨rfl, rfl⟩
  rw [← nI_0]
  exact key n' 0 τ4 (by omega) (MZ_iff.mp ((MZ_iff.mpr hF).sm hw.1 (fun k q1 q2 => (s4 95 k (by omega)).1))) (by rw [e4, w1_s]; rfl) (s4.mono (fun i k q => Or.inr q))
end SC
