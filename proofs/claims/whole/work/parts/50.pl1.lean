/-! The class's calls on points: what they answer and what they leave, as functions of the abstract state. -/
def OutC (σ : Mem) (Q : Option Value → Mem → Prop) (o : Int32 × Ab) : Prop := ∀ τ, CL τ o.2 → Sm S94 σ τ → Q (some (.int o.1)) τ
theorem OutC.bad {σ : Mem} {Q : Option Value → Mem → Prop} {o : Int32 × Ab} {S : Ab} (h : OutC σ Q o) (hC : CL σ S) (e : o = (cBAD, rf0 S)) : ∀ τ : Mem, τ = w1 σ 0 10 (σ.1 0 10 + 1) → Q (some (.int (-2000000002))) τ := fun τ eτ => by
  subst e
  exact h τ (hC.r0 eτ).1 (hC.r0 eτ).2
theorem OutC.no {σ : Mem} {Q : Option Value → Mem → Prop} {o : Int32 × Ab} {S : Ab} (h : OutC σ Q o) (hC : CL σ S) (e : o = (cNO, rf1 S)) : ∀ τ : Mem, τ = w1 σ 0 11 (σ.1 0 11 + 1) → Q (some (.int (-2000000003))) τ := fun τ eτ => by
  subst e
  exact h τ (hC.r1 eτ).1 (hC.r1 eτ).2
theorem OutC.full {σ : Mem} {Q : Option Value → Mem → Prop} {o : Int32 × Ab} {S : Ab} (h : OutC σ Q o) (hC : CL σ S) (e : o = (cFULL, rf2 S)) : ∀ τ : Mem, τ = w1 σ 0 12 (σ.1 0 12 + 1) → Q (some (.int (-2000000004))) τ := fun τ eτ => by
  subst e
  exact h τ (hC.r2 eτ).1 (hC.r2 eτ).2
/-- an answer that changes nothing that counts -/
theorem OutC.same {σ τ : Mem} {Q : Option Value → Mem → Prop} {o : Int32 × Ab} {S : Ab} {r : Int32} {P : Nat → Nat → Prop} (h : OutC σ Q o) (hC : CL σ S) (e : o = (r, S)) (hs : Sm P σ τ) (hp : ∀ i k, P i k → SCR i k ∧ i < 94) : Q (some (.int r)) τ := by
  subst e
  exact h τ (hC.sm hs (fun i k q => (hp i k q).1)) (hs.mono (fun i k q => (hp i k q).2))
theorem WF.go31 {F : Fl} (h : WF F) : ∀ e, e < fn F → fgo F e < 2 ^ 31 := fun e he => by
  have := (h.2.2.1 e he).2.2.2.2
  have := h.g60
  omega
theorem fnd_some {F : Fl} {n : Int32} {e : Nat} (h : fnd F n = some e) : e < fn F ∧ thr F e = true ∧ nI (fnum F e) = n := by
  have hm : e ∈ pik (pf F n) (fn F) := List.mem_of_mem_head? h
  have := (pik_mem _ _).mp hm
  simp [pf] at this
  exact ⟨this.1, this.2.2, this.2.1⟩
theorem oi_none : oi none < 0 := by decide
theorem oi_some {e : Nat} (h : e < 2 ^ 31) : ¬ oi (some e) < 0 := nI_pos h
theorem goF_nx (F : Fl) (e : Nat) : fnx (goF F e) = fnx F := by unfold goF; split <;> rfl
theorem goF_kd (F : Fl) (e : Nat) : fkd (goF F e) = fkd F := by unfold goF; split <;> rfl
theorem goF_there {F : Fl} (h : WF F) {e : Nat} (he : e < fn F) (ht : thr F e = true) : fn (goF F e) + fg F + 1 = fn F + fg (goF F e) := by
  have hd : cnt (thr (goneF F e)) (fn F) + 1 = cnt (thr F) (fn F) := cnt_drop ht (by show decide (upN (fgo F) e (fg F + 1) e = 0) = false; simp [upN]) (fun j hj => by show decide (upN (fgo F) e (fg F + 1) j = 0) = _; rw [upN, if_neg hj]; rfl) he
  have h6 := h.2.1
  unfold goF
  split
  · show cnt (thr (goneF F e)) (fn F) + fg F + 1 = fn F + 0
    omega
  · show fn F + fg F + 1 = fn F + (fg F + 1)
    omega
def o_put (S : Ab) (x y w : Int32) : Int32 × Ab := if plP x y ∧ 1 ≤ w ∧ w ≤ 100 then (if fn (bF S) < fg (bF S) + 60 ∧ fnx (bF S) < 10000 then (nI (fnx (bF S)), setF S (comeF (bF S) x y w)) else (cFULL, rf2 S)) else (cBAD, rf0 S)
def o_take (S : Ab) (n : Int32) : Int32 × Ab := match fnd (bF S) n with
  | none => (cBAD, rf0 S)
  | some e => (fw (bF S) e, setF S (goF (bF S) e))
def o_move (S : Ab) (n x y : Int32) : Int32 × Ab := match fnd (bF S) n with
  | none => (cBAD, rf0 S)
  | some e => if plP x y then (if fnx (bF S) < 10000 then (nI (fnx (bF S)), setF S (comeF (goF (bF S) e) x y (fw (bF S) e))) else (cFULL, rf2 S)) else (cBAD, rf0 S)
def setK (F : Fl) (k : Int32) : Fl := (F.1, (fcar F, fan F, k), F.2.2)
def o_counter (S : Ab) (k : Int32) : Int32 × Ab := if 0 ≤ k ∧ k ≤ 5 then (fkd (bF S), setF S (setK (bF S) k)) else (cBAD, rf0 S)
def o_undo (S : Ab) : Int32 × Ab := if (bH S).1 = 0 then (cNO, rf1 S) else (nI ((bH S).1 - 1), mkS ((bH S).2 ((bH S).1 - 1)) ((bH S).1 - 1, (bH S).2) (bI S) (bA S) (bT S) (bR S) (bE S) (bS S))
def ofV (F : Fl) (e : Nat) (what : Int32) : Int32 := if what.toInt = 0 then fx F e else if what.toInt = 1 then fy F e else if what.toInt = 2 then fw F e else wor F e
def o_of (S : Ab) (n what : Int32) : Int32 × Ab := match fnd (bF S) n with
  | none => (cBAD, rf0 S)
  | some e => if 0 ≤ what ∧ what ≤ 3 then (ofV (bF S) e what, S) else (cBAD, rf0 S)
def o_nth (S : Ab) (k : Int32) : Int32 × Ab := if k < 0 then (cBAD, rf0 S) else (nthO ((pik (thr (bF S)) (fn (bF S))).map (fnum (bF S))) k, S)
/-- one of those picked is taken after the other, by their numbers -/
def takeL (F : Fl) (ns : List Nat) : Fl := ns.foldl (fun G m => match fnd G (nI m) with
  | some e => goF G e
  | none => G) F
/-- all of a list are taken away -/
def o_takeAll (S : Ab) (l : List Nat) : Int32 × Ab := if l = [] then (0, S) else (nI l.length, setF S (takeL (bF S) ((srt (befB (bF S)) l).map (fnum (bF S)))))
def pX (F : Fl) (a b c d : Int32) (e : Nat) : Bool := thr F e && inX a b c d (fx F e) (fy F e)
theorem pX_box (F : Fl) (a b c d : Int32) : pS F (boxA a b c d) = pX F a b c d := by
  funext e
  simp only [pS, pX, boxA_hold]
def pkX (F : Fl) (a b c d : Int32) : List Nat := pik (pX F a b c d) (fn F)
def o_sweep (S : Ab) (a b c d : Int32) : Int32 × Ab := if rectP a b c d then o_takeAll S (pkX (bF S) a b c d) else (cBAD, rf0 S)
/-! numbers tell points apart -/
def ThN (F : Fl) (m : Nat) : Prop := ∃ e, e < fn F ∧ thr F e = true ∧ fnum F e = m
theorem num_inj {F : Fl} (h : WF F) {i j : Nat} (hi : i < fn F) (hj : j < fn F) (he : fnum F i = fnum F j) : i = j := by
  rcases Nat.lt_trichotomy i j with q | q | q
  · have := h.2.2.2.1 i j q hj; omega
  · exact q
  · have := h.2.2.2.1 j i q hi; omega
theorem num_lt {F : Fl} (h : WF F) {e : Nat} (he : e < fn F) : fnum F e < 2 ^ 31 := by
  have := (h.2.2.1 e he).1
  have := h.1.2.2.1
  omega
theorem fnd_of {F : Fl} (h : WF F) {e : Nat} (he : e < fn F) (ht : thr F e = true) : fnd F (nI (fnum F e)) = some e := by
  refine pik_head _ he (fun j hj => ?_) (by simp [pf, ht])
  have hne : fnum F j ≠ fnum F e := fun q => absurd (num_inj h (by omega) he q) (by omega)
  have : ¬ nI (fnum F j) = nI (fnum F e) := fun q => hne ((nI_eq (num_lt h (by omega)) (num_lt h he)).mp q)
  simp [pf, this]
theorem thn_go {F : Fl} (h : WF F) {e m : Nat} (he : e < fn F) (ht : thr F e = true) (hm : m ≠ fnum F e) (hT : ThN F m) : ThN (goF F e) m := by
  obtain ⟨i, hi, hti, hni⟩ := hT
  have hie : i ≠ e := fun q => hm (by rw [← hni, q])
  have hti2 : thr (goneF F e) i = true := by show decide (upN (fgo F) e (fg F + 1) i = 0) = true; rw [upN, if_neg hie]; exact hti
  unfold goF
  split
  · refine ⟨cnt (thr (goneF F e)) i, cnt_lt_of (p := thr (goneF F e)) (n := fn F) hi hti2, rfl, ?_⟩
    show fnum F ((pik (thr (goneF F e)) (fn F)).getD (cnt (thr (goneF F e)) i) 0) = m
    rw [pik_get _ hi hti2, hni]
  · exact ⟨i, hi, hti2, hni⟩
theorem takeL_ok : ∀ (ns : List Nat) {F : Fl}, WF F → ns.Nodup → (∀ m ∈ ns, ThN F m) → WF (takeL F ns) ∧ fnx (takeL F ns) = fnx F := by
  intro ns
  induction ns with
  | nil => intro F h _ _; exact ⟨h, rfl⟩
  | cons m t ih =>
    intro F h hnd hT
    obtain ⟨e, he, ht, hn⟩ := hT m List.mem_cons_self
    have hf : fnd F (nI m) = some e := by rw [← hn]; exact fnd_of h he ht
    have hnd2 := List.nodup_cons.mp hnd
    have := ih (F := goF F e) (h.go he ht) hnd2.2 (fun m' hm' => thn_go h he ht (fun q => hnd2.1 (by rw [← hn, ← q]; exact hm')) (hT m' (List.mem_cons_of_mem _ hm')))
    have e1 : takeL F (m :: t) = takeL (goF F e) t := by simp only [takeL, List.foldl_cons, hf]
    rw [e1]
    exact ⟨this.1, this.2.trans (goF_nx F e)⟩
theorem srt_perm (B : Nat → Nat → Bool) (l : List Nat) : (srt B l).Perm l := by
  suffices h : ∀ (l acc : List Nat), (l.foldl (fun acc e => ins B e acc) acc).Perm (acc ++ l) by
    have := h l []
    simpa [srt] using this
  intro l
  induction l with
  | nil => intro acc; simp
  | cons a t ih =>
    intro acc
    rw [List.foldl_cons]
    refine (ih _).trans ?_
    have h1 : (ins B a acc).Perm (a :: acc) := by
      unfold ins
      refine List.perm_middle.trans ?_
      rw [List.take_append_drop]
    refine (h1.append_right t).trans ?_
    rw [List.cons_append]
    exact List.perm_middle.symm
theorem pik_nodup (p : Nat → Bool) : ∀ n, (pik p n).Nodup
  | 0 => List.nodup_nil
  | n + 1 => by
    simp only [pik]
    split
    · refine List.nodup_append.mpr ⟨pik_nodup p n, List.nodup_cons.mpr ⟨List.not_mem_nil, List.nodup_nil⟩, fun a ha b hb => ?_⟩
      rw [List.mem_singleton.mp hb]
      have := ((pik_mem p n).mp ha).1
      omega
    · exact pik_nodup p n
theorem nums_nodup {F : Fl} (h : WF F) {l : List Nat} (hl : l.Nodup) (hm : ∀ e ∈ l, e < fn F) : (l.map (fnum F)).Nodup := by
  induction l with
  | nil => exact List.nodup_nil
  | cons a t ih =>
    have h2 := List.nodup_cons.mp hl
    rw [List.map_cons]
    refine List.nodup_cons.mpr ⟨fun hc => ?_, ih h2.2 (fun e he => hm e (List.mem_cons_of_mem _ he))⟩
    obtain ⟨b, hb, e⟩ := List.mem_map.mp hc
    have := num_inj h (hm b (List.mem_cons_of_mem _ hb)) (hm a List.mem_cons_self) e
    rw [this] at hb
    exact h2.1 hb
section PL1
variable {d : Nat} {σ : Mem} {Q : Option Value → Mem → Prop} {S : Ab} {VA : Ar → Prop}
theorem c_isPlace {x y : Int32} (h : Q (some (.int (if plP x y then 1 else 0))) σ) : X none (d + 1) mX7_isPlace 0 [.int x, .int y] [] σ Q := by
  refine vX7_isPlace_0 ⟨fun c => Qe h ?_, fun c => ⟨fun c1 => Qe h ?_, fun c1 => ⟨fun c2 => Qe h ?_, fun c2 => ⟨fun c3 => Qe h ?_, fun c3 => Qe h ?_⟩⟩⟩⟩
  · rw [if_neg (fun q => absurd q.1.1 (Int32.not_le.mpr c))]
  · rw [if_neg (fun q => absurd q.1.2 (Int32.not_le.mpr c1))]
  · rw [if_neg (fun q => absurd q.2.1 (Int32.not_le.mpr c2))]
  · rw [if_neg (fun q => absurd q.2.2 (Int32.not_le.mpr c3))]
  · rw [if_pos ⟨⟨Int32.not_lt.mp c, Int32.not_lt.mp c1⟩, Int32.not_lt.mp c2, Int32.not_lt.mp c3⟩]
theorem c_isRectangle {a b c e : Int32} (h : Q (some (.int (if rectP a b c e then 1 else 0))) σ) : X none (d + 2) mX7_isRectangle 0 [.int a, .int b, .int c, .int e] [] σ Q := by
  refine vX7_isRectangle_0 (c_isPlace ⟨_, rfl, fun c1 => Qe h ?_, fun c1 => c_isPlace ⟨_, rfl, fun c2 => Qe h ?_, fun c2 => ⟨fun c3 => Qe h ?_, fun c3 => ⟨fun c4 => Qe h ?_, fun c4 => Qe h ?_⟩⟩⟩⟩)
  · rw [if_neg (fun q => b01_ne c1 ⟨q.1, q.2.1⟩)]
  · rw [if_neg (fun q => b01_ne c2 ⟨q.2.2.1, q.2.2.2.1⟩)]
  · rw [if_neg (fun q => absurd q.2.2.2.2.1 (Int32.not_le.mpr c3))]
  · rw [if_neg (fun q => absurd q.2.2.2.2.2 (Int32.not_le.mpr c4))]
  · have p1 := b01_eq c1
    have p2 := b01_eq c2
    rw [if_pos ⟨p1.1, p1.2, p2.1, p2.2, Int32.not_lt.mp c3, Int32.not_lt.mp c4⟩]
theorem thereI {F : Fl} (hw : WF F) : nI (fn F) - nI (fg F) = nI (fn F - fg F) := pk_sub (by have := hw.1; omega)
theorem i60 {F : Fl} (hw : WF F) : (60 : Int32) ≤ nI (fn F) - nI (fg F) ↔ ¬ fn F < fg F + 60 := by
  have := hw.1
  rw [thereI hw, show (60 : Int32) = nI 60 from rfl, nI_leI (by omega) (by omega)]
  omega
theorem i9999 {F : Fl} (hw : WF F) : (9999 : Int32) < nI (fnx F) + 1 - 1 ↔ ¬ fnx F < 10000 := by
  have := hw.1
  rw [nI_1, nI_pred, show (9999 : Int32) = nI 9999 from rfl, nI_ltI (by omega) (by omega)]
  omega
theorem p_put (hC : CL σ S) (hw : WS VA S) {x y w : Int32} (h : OutC σ Q (o_put S x y w)) : X none (d + 3) mX7_put 0 [.ref 0, .int x, .int y, .int w] [] σ Q := by
  have hF := hC.1
  have hwf := hw.1
  have hn := hwf.n120
  refine vX7_put_0 (c_isPlace ⟨_, rfl, fun c => h.bad hC ?_, fun c => ⟨fun c1 => h.bad hC ?_, fun c1 => ⟨fun c2 => ?_, fun c2 => h.bad hC ?_⟩⟩⟩)
  · rw [o_put, if_neg (fun q => b01_ne c q.1)]
  · rw [o_put, if_neg (fun q => absurd q.2.1 (Int32.not_le.mpr c1))]
  · rw [hF.1.1, hF.1.2.1, hF.1.2.2.2.2.2, i60 hwf, i9999 hwf]
    have hp : plP x y ∧ 1 ≤ w ∧ w ≤ 100 := ⟨b01_eq c, Int32.not_lt.mp c1, c2⟩
    refine ⟨fun c3 => h.full hC ?_, fun c3 => ⟨fun c4 => h.full hC ?_, fun c4 => ?_⟩⟩
    · rw [o_put, if_pos hp, if_neg (fun q => c3 q.1)]
    · rw [o_put, if_pos hp, if_neg (fun q => c4 q.2)]
    · have c3' : fn (bF S) < fg (bF S) + 60 := Decidable.not_not.mp c3
      have c4' : fnx (bF S) < 10000 := Decidable.not_not.mp c4
      refine c_hkeep (by omega) hF hC.2.1 (fun τ hH hF2 hs => ⟨rfl, c_come okF_1 (by omega) (by omega) hF2 (fun τ2 hF3 hs2 => ⟨_, rfl, ?_⟩)⟩)
      have e : o_put S x y w = (nI (fnx (bF S)), setF S (comeF (bF S) x y w)) := by rw [o_put, if_pos hp, if_pos ⟨c3', c4'⟩]
      rw [e] at h
      have hs3 : Sm (fun i _ => 1 ≤ i ∧ i ≤ 56) σ τ2 := (hs.mono (fun i k q => by unfold SH at q; omega)).tr (hs2.mono (fun i k q => by unfold SF at q; omega))
      exact h τ2 (hC.fh (hs3.mono (fun i k q => Or.inl q)) hF3 (hH.sm hs2 (fun i k q1 q2 => by unfold SF; omega))) (hs3.mono (fun i k q => by unfold S94; omega))
  · rw [o_put, if_neg (fun q => c2 q.2.2)]
theorem p_take (hC : CL σ S) (hw : WS VA S) {n : Int32} (h : OutC σ Q (o_take S n)) : X none (d + 3) mX7_take 0 [.ref 0, .int n, Unk] [] σ Q := by
  have hF := hC.1
  have hwf := hw.1
  have hn := hwf.n120
  refine vX7_take_0 (c_find okF_1 (by omega) hwf.go31 hF ⟨_, rfl, ?_⟩)
  cases hf : fnd (bF S) n with
  | none =>
    refine ⟨fun c => absurd c (Int32.not_le.mpr oi_none), fun _ => h.bad hC ?_⟩
    rw [o_take, hf]
  | some e =>
    obtain ⟨he, ht, hne⟩ := fnd_some hf
    refine ⟨fun _ => ?_, fun c => absurd (Int32.not_lt.mp (oi_some (show e < 2 ^ 31 by omega))) c⟩
    refine c_hkeep (by omega) hF hC.2.1 (fun τ hH hF2 hs => ⟨rfl, c_goAway okF_1 hwf hF2 he ht (fun τ2 hF3 hs2 => ⟨_, rfl, ?_⟩)⟩)
    have e1 : o_take S n = (fw (bF S) e, setF S (goF (bF S) e)) := by rw [o_take, hf]
    rw [e1] at h
    have hs3 : Sm (fun i _ => 1 ≤ i ∧ i ≤ 56) σ τ2 := (hs.mono (fun i k q => by unfold SH at q; omega)).tr (hs2.mono (fun i k q => by unfold SF at q; omega))
    exact h τ2 (hC.fh (hs3.mono (fun i k q => Or.inl q)) hF3 (hH.sm hs2 (fun i k q1 q2 => by unfold SF; omega))) (hs3.mono (fun i k q => by unfold S94; omega))
theorem p_move (hC : CL σ S) (hw : WS VA S) {n x y : Int32} (h : OutC σ Q (o_move S n x y)) : X none (d + 3) mX7_move 0 [.ref 0, .int n, .int x, .int y, Unk, Unk] [] σ Q := by
  have hF := hC.1
  have hwf := hw.1
  have hn := hwf.n120
  refine vX7_move_0 (c_find okF_1 (by omega) hwf.go31 hF ⟨_, rfl, ?_⟩)
  cases hf : fnd (bF S) n with
  | none =>
    refine ⟨fun _ => h.bad hC ?_, fun c => absurd oi_none c⟩
    rw [o_move, hf]
  | some e =>
    obtain ⟨he, ht, hne⟩ := fnd_some hf
    refine ⟨fun c => absurd c (oi_some (show e < 2 ^ 31 by omega)), fun _ => c_isPlace ⟨_, rfl, fun c => ?_, fun c => h.bad hC ?_⟩⟩
    · have hp := b01_eq c
      rw [hF.1.2.2.2.2.2, i9999 hwf]
      refine ⟨fun c4 => h.full hC ?_, fun c4 => ?_⟩
      · simp only [o_move, hf]
        rw [if_pos hp, if_neg c4]
      · have c4' : fnx (bF S) < 10000 := Decidable.not_not.mp c4
        have hg := hwf.go he ht
        have hgn := hg.n120
        refine c_hkeep (by omega) hF hC.2.1 (fun τ hH hF2 hs => ⟨rfl, c_goAway okF_1 hwf hF2 he ht (fun τ2 hF3 hs2 => ⟨_, rfl, c_come okF_1 (by omega) (by rw [goF_nx]; omega) hF3 (fun τ3 hF4 hs4 => ⟨_, rfl, ?_⟩)⟩)⟩)
        have e1 : o_move S n x y = (nI (fnx (bF S)), setF S (comeF (goF (bF S) e) x y (fw (bF S) e))) := by
          simp only [o_move, hf]
          rw [if_pos hp, if_pos c4']
        rw [e1] at h
        have hs3 : Sm (fun i _ => 1 ≤ i ∧ i ≤ 56) σ τ3 := ((hs.mono (fun i k q => by unfold SH at q; omega)).tr (hs2.mono (fun i k q => by unfold SF at q; omega))).tr (hs4.mono (fun i k q => by unfold SF at q; omega))
        rw [goF_nx]
        exact h τ3 (hC.fh (hs3.mono (fun i k q => Or.inl q)) hF4 ((hH.sm hs2 (fun i k q1 q2 => by unfold SF; omega)).sm hs4 (fun i k q1 q2 => by unfold SF; omega))) (hs3.mono (fun i k q => by unfold S94; omega))
    · simp only [o_move, hf]
      rw [if_neg (b01_ne c)]
theorem p_counter (hC : CL σ S) (hw : WS VA S) {k : Int32} (h : OutC σ Q (o_counter S k)) : X none (d + 3) mX7_counter 0 [.ref 0, .int k, Unk] [] σ Q := by
  have hF := hC.1
  have hn := hw.1.n120
  refine vX7_counter_0 ⟨fun c => h.bad hC ?_, fun c => ⟨fun c1 => ?_, fun c1 => h.bad hC ?_⟩⟩
  · rw [o_counter, if_neg (fun q => absurd q.1 (Int32.not_le.mpr c))]
  · have e1 : o_counter S k = (fkd (bF S), setF S (setK (bF S) k)) := by rw [o_counter, if_pos ⟨Int32.not_lt.mp c, c1⟩]
    rw [e1] at h
    refine c_hkeep (by omega) hF hC.2.1 (fun τ hH hF2 hs => ⟨rfl, fun τ3 e3 => ?_⟩)
    have s3 : Sm (fun i k => i = 1 ∧ k = 9) τ τ3 := by rw [e3]; exact Sm.rf.w1 ⟨rfl, rfl⟩
    have hF3 : CF τ3 1 (setK (bF S) k) := by
      obtain ⟨⟨h5, h6, h7, h8, h9, h10⟩, hr⟩ := hF2
      refine ⟨⟨?_, ?_, ?_, ?_, ?_, ?_⟩, fun e he => ?_⟩
      · rw [(s3 1 5 (by omega)).1]; exact h5
      · rw [(s3 1 6 (by omega)).1]; exact h6
      · rw [(s3 1 7 (by omega)).1]; exact h7
      · rw [(s3 1 8 (by omega)).1]; exact h8
      · rw [e3, w1_s]; rfl
      · rw [(s3 1 10 (by omega)).1]; exact h10
      · rw [(s3 (1 + 1) e (by omega)).1, (s3 (1 + 2) e (by omega)).1, (s3 (1 + 3) e (by omega)).1, (s3 (1 + 4) e (by omega)).1, (s3 (1 + 5) e (by omega)).1]
        exact hr e he
    have hs3 : Sm (fun i _ => 1 ≤ i ∧ i ≤ 56) σ τ3 := (hs.mono (fun i k q => by unfold SH at q; omega)).tr (s3.mono (fun i k q => by omega))
    rw [hF2.1.2.2.2.2.1]
    exact h τ3 (hC.fh (hs3.mono (fun i k q => Or.inl q)) hF3 (hH.sm s3 (by omega))) (hs3.mono (fun i k q => by unfold S94; omega))
  · rw [o_counter, if_neg (fun q => c1 q.2)]
theorem p_undo (hC : CL σ S) (hw : WS VA S) (h : OutC σ Q (o_undo S)) : X none (d + 3) mX7_undo 0 [.ref 0] [] σ Q := by
  have hH := hC.2.1
  obtain ⟨o, ho, h1, h2, h3, h4⟩ := id hH
  refine vX7_undo_0 ?_
  rw [h2, nI_z (by omega)]
  refine ⟨fun c => ?_, fun c => h.no hC ?_⟩
  · refine c_hback (by omega) (fun j hj => by have := (hw.2.1.2 j hj).n120; omega) hH (fun τ hH2 hF2 hs => ⟨rfl, ?_⟩)
    have e1 : o_undo S = (nI ((bH S).1 - 1), mkS ((bH S).2 ((bH S).1 - 1)) ((bH S).1 - 1, (bH S).2) (bI S) (bA S) (bT S) (bR S) (bE S) (bS S)) := by rw [o_undo, if_neg c]
    rw [e1] at h
    obtain ⟨o', _, _, g2, _⟩ := id hH2
    rw [g2]
    exact h τ (hC.fh (hs.mono (fun i k q => Or.inl (by omega))) hF2 hH2) (hs.mono (fun i k q => by unfold S94; omega))
  · rw [o_undo, if_pos c]
theorem p_of (hC : CL σ S) (hw : WS VA S) {n what : Int32} (h : OutC σ Q (o_of S n what)) : X none (d + 2) mX7_of 0 [.ref 0, .int n, .int what, Unk] [] σ Q := by
  have hF := hC.1
  have hwf := hw.1
  have hn := hwf.n120
  refine vX7_of_0 (c_find okF_1 (by omega) hwf.go31 hF ⟨_, rfl, ?_⟩)
  cases hf : fnd (bF S) n with
  | none =>
    refine ⟨fun _ => h.bad hC ?_, fun c => absurd oi_none c⟩
    rw [o_of, hf]
  | some e =>
    obtain ⟨he, ht, hne⟩ := fnd_some hf
    have hb : vp_in (oi (some e)) 121 := inN he (show fn (bF S) ≤ 121 by omega) (by decide)
    have hcl : (oi (some e)).toNatClampNeg = e := nI_clamp (show e < 2 ^ 31 by omega)
    obtain ⟨a1, a2, a3, a4, a5⟩ := hF.2 e he
    refine ⟨fun c => absurd c (oi_some (show e < 2 ^ 31 by omega)), fun _ => ⟨fun c => h.bad hC ?_, fun c => ⟨fun c1 => ?_, fun c1 => h.bad hC ?_⟩⟩⟩
    · simp only [o_of, hf]
      rw [if_neg (fun q => absurd q.1 (Int32.not_le.mpr c))]
    · have e1 : o_of S n what = (ofV (bF S) e what, S) := by
        simp only [o_of, hf]
        rw [if_pos ⟨Int32.not_lt.mp c, c1⟩]
      rw [e1] at h
      have hQ := h σ hC Sm.rf
      rw [hcl]
      refine ⟨fun c2 => c_worth okF_1 (by omega) hF he ⟨_, rfl, Qe hQ ?_⟩, fun c2 => ⟨hb, Qe hQ ?_⟩, fun c2 => ⟨hb, Qe hQ ?_⟩, fun c2 => ⟨hb, Qe hQ ?_⟩⟩
      · have q0 : what.toInt ≠ 0 := by omega
        have q1 : what.toInt ≠ 1 := by omega
        have q2 : what.toInt ≠ 2 := by omega
        simp [ofV, q0, q1, q2]
      · rw [a2]; simp [ofV, c2]
      · rw [a3]; simp [ofV, c2]
      · rw [a4]; simp [ofV, c2]
    · simp only [o_of, hf]
      rw [if_neg (fun q => c1 q.2)]
theorem pikm {p : Nat → Bool} {n : Nat} : ∀ e ∈ pik p n, e < n := fun e he => ((pik_mem p n).mp he).1
theorem p_nth (hC : CL σ S) (hw : WS VA S) {k : Int32} (h : OutC σ Q (o_nth S k)) : X none (d + 2) mX7_nth 0 [.ref 0, .int k] [] σ Q := by
  have hF := hC.1
  have hwf := hw.1
  have hn := hwf.n120
  refine vX7_nth_0 ⟨fun c => ?_, fun c => h.bad hC ?_⟩
  · refine c_pickAll okP_57 okF_1 (by omega) hwf hF (fun τ hp hs => ⟨rfl, ?_⟩)
    refine c_numberOf okP_57 okF_1 (by omega) (hF.sm hs (fun i k q1 q2 => by unfold SP; omega)) (by rw [pik_len]; exact hwf.c60) pikm hp ⟨_, rfl, ?_⟩
    exact h.same hC (by rw [o_nth, if_neg (Int32.not_lt.mpr c)]) hs (fun i k q => by unfold SP at q; unfold SCR; omega)
  · rw [o_nth, if_pos (Int32.not_le.mp c)]
/-- those of a rectangle are picked -/
theorem c_pickRectangle (hC : CL σ S) (hw : WS VA S) {a b c e : Int32} (h : ∀ τ, CL τ S → PH τ 57 (pkX (bF S) a b c e) → Sm (fun i _ => 57 ≤ i ∧ i ≤ 63) σ τ → Q none τ) : X none (d + 3) mX7_pickRectangle 0 [.ref 0, .int a, .int b, .int c, .int e] [] σ Q := by
  refine vX7_pickRectangle_0 (c_becomeRectangle okS_61 (fun τ hB hs => ⟨rfl, ?_⟩))
  have hF := hC.1.sm hs (fun i k q1 q2 => by unfold SS; omega)
  refine c_pickShape okP_57 okF_1 okS_61 (by omega) (by omega) hw.1 boxA_WA hF hB (fun τ2 hp hs2 => ⟨rfl, ?_⟩)
  have hs3 : Sm (fun i _ => 57 ≤ i ∧ i ≤ 63) σ τ2 := (hs.mono (fun i k q => by unfold SS at q; omega)).tr (hs2.mono (fun i k q => by unfold SP at q; omega))
  refine h τ2 (hC.sm hs3 (fun i k q => Or.inl (by omega))) ?_ hs3
  rw [pX_box] at hp
  exact hp
theorem pkX_60 {F : Fl} (hw : WF F) {a b c e : Int32} : (pkX F a b c e).length ≤ 60 := by
  rw [pkX, pik_len]
  exact Nat.le_trans (cnt_imp (q := thr F) (fun e _ h => by simp [pX] at h; exact h.1)) hw.c60
theorem c_takePicked (hC : CL σ S) (hw : WS VA S) {l : List Nat} (hl : l.length ≤ 60) (hm : ∀ e ∈ l, e < fn (bF S) ∧ thr (bF S) e = true) (hnd : l.Nodup) (hp : PH σ 57 l) (h : OutC σ Q (o_takeAll S l)) : X none (d + 4) mX7_takePicked 0 [.ref 0, Unk, Unk] [] σ Q := by
  have hF := hC.1
  have hwf := hw.1
  have hn := hwf.n120
  refine vX7_takePicked_0 ?_
  rw [hp.1, nI_z (by omega)]
  refine ⟨fun c => ?_, fun c => ?_⟩
  · refine c_hkeep (by omega) hF hC.2.1 (fun τ1 hH hF1 hs1 => ⟨rfl, ?_⟩)
    have hp1 := hp.sm hs1 (fun i k q1 q2 => by unfold SH; omega)
    refine c_sortByPlace okP_57 okF_1 (by omega) (by omega) hF1 hl (fun e he => (hm e he).1) hp1 (fun τ2 hp2 hs2 => ⟨rfl, ?_⟩)
    have hF2 := hF1.sm hs2 (fun i k q1 q2 => by unfold SP; omega)
    have hm2 : ∀ e ∈ srt (befB (bF S)) l, e < fn (bF S) ∧ thr (bF S) e = true := fun e he => hm e ((srt_mem _ _ _).mp he)
    refine c_turnToNumbers okP_57 okF_1 (by omega) (by omega) hF2 (by rw [srt_len]; exact hl) (fun e he => (hm2 e he).1) hp2 (fun τ3 hp3 hs3 => ⟨rfl, ?_⟩)
    have hF3 := hF2.sm hs3 (fun i k q1 q2 => by unfold SP; omega)
    have hH3 := (hH.sm hs2 (fun i k q1 q2 => by unfold SP; omega)).sm hs3 (fun i k q1 q2 => by unfold SP; omega)
    have hs13 : Sm (fun i k => (1 ≤ i ∧ i ≤ 56) ∨ (57 ≤ i ∧ i ≤ 58)) σ τ3 := ((hs1.mono (fun i k q => by unfold SH at q; omega)).tr (hs2.mono (fun i k q => by unfold SP at q; omega))).tr (hs3.mono (fun i k q => by unfold SP at q; omega))
    have hnn := nums_nodup hwf ((srt_perm (befB (bF S)) l).nodup_iff.mpr hnd) (fun e he => (hm2 e he).1)
    generalize hns : (srt (befB (bF S)) l).map (fnum (bF S)) = ns at hp3 hnn
    have hlen : ns.length = l.length := by rw [← hns, List.length_map, srt_len]
    have hT : ∀ m ∈ ns, ThN (bF S) m := fun m hmm => by
      rw [← hns] at hmm
      obtain ⟨e, he, rfl⟩ := List.mem_map.mp hmm
      exact ⟨e, (hm2 e he).1, (hm2 e he).2, rfl⟩
    have e1 : o_takeAll S l = (nI l.length, setF S (takeL (bF S) ns)) := by
      rw [o_takeAll, if_neg (fun q => c (by rw [q]; rfl)), hns]
    rw [e1] at h
    have key : ∀ m k (G : Fl) (τ : Mem), ns.length = k + m → WF G → CF τ 1 G → takeL G (ns.drop k) = takeL (bF S) ns → (∀ m' ∈ ns.drop k, ThN G m') → Sm (SF 1) τ3 τ → X none (d + 4) mX7_takePicked 49 [.ref 0, .int (nI l.length), .int (nI k)] [] τ Q := by
      intro m
      induction m with
      | zero =>
        intro k G τ hk hG hFG hT1 hT2 hs
        refine vX7_takePicked_49 ⟨fun _ => ?_, fun c => absurd (nI_le (by omega) (by omega)) c⟩
        have e2 : G = takeL (bF S) ns := by rw [← hT1, List.drop_of_length_le (by omega)]; rfl
        subst e2
        refine h τ (hC.fh ((hs13.mono (fun i k q => by unfold SCR; omega)).tr (hs.mono (fun i k q => by unfold SF at q; omega))) hFG (hH3.sm hs (fun i k q1 q2 => by unfold SF; omega))) ((hs13.mono (fun i k q => by unfold S94; omega)).tr (hs.mono (fun i k q => by unfold SF at q; unfold S94; omega)))
      | succ m ih =>
        intro k G τ hk hG hFG hT1 hT2 hs
        have hlt : k < ns.length := by omega
        have hGn := hG.n120
        have hp4 := hp3.sm hs (fun i k q1 q2 => by unfold SF; omega)
        have hdr : ns.drop k = ns.getD k 0 :: ns.drop (k + 1) := by
          rw [List.drop_eq_getElem_cons hlt]
          simp [List.getD_eq_getElem?_getD, List.getElem?_eq_getElem hlt]
        obtain ⟨e, he, ht, hne⟩ := hT2 _ (by rw [hdr]; exact List.mem_cons_self)
        have hfd : fnd G (nI (ns.getD k 0)) = some e := by rw [← hne]; exact fnd_of hG he ht
        refine vX7_takePicked_49 ⟨fun c => absurd c (nI_ge (by omega) (by omega)), fun _ => ⟨inN hlt (by omega) (by decide), ?_⟩⟩
        rw [nI_clamp (by omega), hp4.2 k hlt, nI_1]
        refine c_find okF_1 (by omega) hG.go31 hFG ⟨_, rfl, ?_⟩
        rw [hfd]
        refine c_goAway okF_1 hG hFG he ht (fun τ4 hF4 hs4 => ⟨_, rfl, ?_⟩)
        refine ih (k + 1) (goF G e) τ4 (by omega) (hG.go he ht) hF4 ?_ (fun m' hm' => ?_) (hs.tr hs4)
        · rw [← hT1, hdr]
          simp only [takeL, List.foldl_cons, hfd]
        · have hnd3 : (ns.drop k).Nodup := hnn.sublist (List.drop_sublist k ns)
          rw [hdr] at hnd3
          refine thn_go hG he ht (fun q => (List.nodup_cons.mp hnd3).1 (by rw [← hne, ← q]; exact hm')) (hT2 m' (by rw [hdr]; exact List.mem_cons_of_mem _ hm'))
    rw [← nI_0]
    exact key ns.length 0 (bF S) τ3 (by omega) hwf hF3 (by rw [List.drop_zero]) (by rw [List.drop_zero]; exact hT) Sm.rf
  · have e1 : o_takeAll S l = (0, S) := by rw [o_takeAll, if_pos (List.eq_nil_of_length_eq_zero c)]
    rw [e1] at h
    exact h σ hC Sm.rf
theorem OutC.tr {σ τ : Mem} {o : Int32 × Ab} (h : OutC σ Q o) (hs : Sm S94 σ τ) : OutC τ Q o := fun υ hC hs2 => h υ hC (hs.tr hs2)
theorem p_sweep (hC : CL σ S) (hw : WS VA S) {a b c e : Int32} (h : OutC σ Q (o_sweep S a b c e)) : X none (d + 5) mX7_sweep 0 [.ref 0, .int a, .int b, .int c, .int e] [] σ Q := by
  refine vX7_sweep_0 (c_isRectangle ⟨_, rfl, fun c1 => ?_, fun c1 => h.bad hC ?_⟩)
  · refine c_pickRectangle hC hw (fun τ hC2 hp hs => ⟨rfl, ?_⟩)
    rw [o_sweep, if_pos (b01_eq c1)] at h
    refine c_takePicked hC2 hw (pkX_60 hw.1) (fun i hi => ?_) (pik_nodup _ _) hp (fun τ2 h1 h2 => ⟨_, rfl, h τ2 h1 ((hs.mono (fun i k q => by unfold S94; omega)).tr h2)⟩)
    have := (pik_mem _ _).mp hi
    simp [pX] at this
    exact ⟨this.1, this.2.1⟩
  · rw [o_sweep, if_neg (b01_ne c1)]
end PL1
