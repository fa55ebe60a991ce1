/-! New objects: rows for a method that makes cells, over a world that grows at its end. -/
abbrev Cg : Type := va_G × ClassId × ClassId × ClassId × ClassId
def tyN (g : Cg) : List (ClassId × FieldType) := [(g.2.1, .int), (g.2.2.1, .boolean), (g.2.2.2.1, .object RX0), (g.2.2.2.2, .object RX3)]
def isNsM : Cond → Bool
  | .methodLinkNest _ _ _ _ => true
  | _ => false
def nsmL : List Cond := tables_1.filter isNsM
theorem nsm_on {w : Cond} (h : w ∈ nsmL) : w.onTables = true := by
  have h1 := (List.mem_filter.mp h).2
  cases w <;> first | rfl | (simp [isNsM] at h1; done)
theorem nsm_warm {w : Cond} (h : w ∈ nsmL) {s U : State} (hW : s.WarmedH U.vm) (hZ : va_Nw w s) : va_Nw w U := by
  have h1 := (List.mem_filter.mp h).2
  cases w <;> first | exact va_Nw.warmM hW hZ | (simp [isNsM] at h1; done)
theorem tM (i : Nat) {w : Cond} (h : tables_1[i]? = some w) (g : isNsM w = true) : w ∈ nsmL := List.mem_filter.mpr ⟨List.mem_of_getElem? h, g⟩
def KN (g : Cg) (U : State) : Prop := va_K g.1 vwCl (tyN g) U ∧ (va_AO RX0 U ∧ va_AO RX3 U) ∧ ∀ q ∈ nsmL, va_Nw q U
theorem KN.warm {g : Cg} {s U : State} (hW : s.WarmedH U.vm) (h : KN g s) : KN g U := ⟨va_K.moved hW.alike h.1, ⟨va_AO.moved hW.alike h.2.1.1, va_AO.moved hW.alike h.2.1.2⟩, fun q hq => nsm_warm hq hW (h.2.2 q hq)⟩
def zI (g : Cg) (n : Nat) : va_E := .inl (g.2.1, n, .inl (fun _ => 0))
def zZ (g : Cg) (n : Nat) : va_E := .inl (g.2.2.1, n, .inl (fun _ => 0))
def rA (cA : ClassId) (n : Nat) (f : Nat → Option Nat) : va_E := .inl (cA, n, .inr (.inr (.inr (.inr f))))
def PcN (g : Cg) (h0 sz : Nat) (e0 : va_E) : Array Value → State → Prop := va_Pc [.ref h0] (fun U => U.heap.size = sz ∧ va_P g.1 vwCl [(h0, e0)] U.heap ∧ KN g U ∧ va_D (fun _ => True) [(h0, e0)])
def QcN (g : Cg) (h0 sz : Nat) (e0 : va_E) (Wf : (Nat → Nat) → va_W) : Array Value → State → Outcome → State → Prop := va_Qv (fun q : Nat → Nat => q 0 = h0) (fun q t => va_P g.1 vwCl (Wf q) t.heap ∧ va_D (va_A [(h0, e0)] sz) (Wf q)) (va_A [(h0, e0)] sz)
abbrev rmN (d mc ms : Nat) : Room := { frames := d, cells := mc, slots := ms, locals := 40 * d }
/-- a constructor's contract: its object's cell, and behind it those that it makes -/
def MetN (mt : Mt) (d mc ms : Nat) (e0 : va_E) (Wf : Cg → (Nat → Nat) → va_W) : Prop := ∀ (l : Launch) (g : Cg) (h0 sz : Nat), Met l mt.1 (Cond.code mt.1 mt.2.1 mt.2.2.1 none :: lwG) (rmN d mc ms) (PcN g h0 sz e0) (QcN g h0 sz e0 (Wf g)) mc ms (va_A [(h0, e0)] sz)
def CxN (g : Cg) (d : Nat) (mt : Mt) (p : Program) (R : Room) (s : State) (m : MethodId) (args : Array Value) (c : Code) : Prop :=
  p.tables.exec = Jvm.exec ∧ c.code = mt.2.1 ∧ c.maxLocals = mt.2.2.1 ∧ s.vm.findClass mt.1.cls = some m.cls ∧ (∀ q ∈ lwG, q.before args s = true) ∧ KN g s ∧ (d ≤ R.frames ∧ 40 * d ≤ R.locals)
abbrev idA : Nat → Nat := fun q => q
def NX (g : Cg) (d : Nat) (mt : Mt) (ini : Bool) (mc ms : Nat) (E : Nat → List Value → va_W → Prop) (k n pc : Nat) (ls st : List Value) (ws : va_W) : Prop :=
  ∀ (p : Program) (l : Launch) (e : Env) (R : Room) (s : State) (m : MethodId) (args : Array Value) (below : List Frame) (meth : Method) (c : Code) (A : Nat → Prop) (Z : State → Prop) (H : Heap) (locs : List Loc) (L : Array Slot),
    CxN g d mt p R s m args c → (mc ≤ R.cells ∧ ms ≤ R.slots) → (ini = true → meth.name = "<init>") → (∀ q, s.heap.size ≤ q → A q) →
    (∀ (pc' : Nat) (ls' : List Value) (ws' : va_W) (H' : Heap) (locs' : List Loc) (L' : Array Slot), E pc' ls' ws' → va_P g.1 vwCl ws' H' → va_D A ws' → va_S A s.heap H' locs' → LH idA mt.2.2.1 L' ls' → W p l e R s m args below meth c H' locs' mc ms Z (F0 m pc' L' [])) →
    va_P g.1 vwCl ws H → va_D A ws → va_S A s.heap H locs → LH idA mt.2.2.1 L ls → W p l e R s m args below meth c H locs k n Z (F0 m pc L st)
section NROWS
variable {g : Cg} {d : Nat} {mt : Mt} {ini : Bool} {mc ms : Nat} {E : Nat → List Value → va_W → Prop} {k n pc pc' k' n' : Nat} {ls st : List Value} {ws : va_W}
theorem nx_end (hE : E pc ls ws) (h1 : k ≤ mc) (h2 : n ≤ ms) : NX g d mt ini mc ms E k n pc ls [] ws := by
  intro p l e R s m args below meth c A Z H locs L C hR hi hA rt P D S hl
  exact W.widen h1 h2 (rt pc ls ws H locs L hE P D S hl)
theorem nx_iconst {v : Int} {x : Int32} (hd : decode mt.2.1 pc = .ok (.iconst v, 1)) (hp : pc + 1 = pc') (hv : Int32.ofInt v = x) (kk : NX g d mt ini mc ms E k n pc' ls (.int x :: st) ws) : NX g d mt ini mc ms E k n pc ls st ws := by
  intro p l e R s m args below meth c A Z H locs L C hR hi hA rt P D S hl
  subst hp
  exact lv_iconst C.1 C.2.1 hd hv (kk p l e R s m args below meth c A Z H locs L C hR hi hA rt P D S hl)
theorem nx_bipush {v : Int} {x : Int32} (hd : decode mt.2.1 pc = .ok (.bipush v, 2)) (hp : pc + 2 = pc') (hv : (Int8.ofInt v).toInt32 = x) (kk : NX g d mt ini mc ms E k n pc' ls (.int x :: st) ws) : NX g d mt ini mc ms E k n pc ls st ws := by
  intro p l e R s m args below meth c A Z H locs L C hR hi hA rt P D S hl
  subst hp
  exact lv_bipush C.1 C.2.1 hd hv (kk p l e R s m args below meth c A Z H locs L C hR hi hA rt P D S hl)
theorem nx_sipush {v : Int} {x : Int32} (hd : decode mt.2.1 pc = .ok (.sipush v, 3)) (hp : pc + 3 = pc') (hv : (Int16.ofInt v).toInt32 = x) (kk : NX g d mt ini mc ms E k n pc' ls (.int x :: st) ws) : NX g d mt ini mc ms E k n pc ls st ws := by
  intro p l e R s m args below meth c A Z H locs L C hR hi hA rt P D S hl
  subst hp
  exact lv_sipush C.1 C.2.1 hd hv (kk p l e R s m args below meth c A Z H locs L C hR hi hA rt P D S hl)
theorem nx_lconst {v : Fin 2} {x : Int64} (hd : decode mt.2.1 pc = .ok (.lconst v, 1)) (hp : pc + 1 = pc') (hv : Int64.ofNat (v : Nat) = x) (kk : NX g d mt ini mc ms E k n pc' ls (.long x :: st) ws) : NX g d mt ini mc ms E k n pc ls st ws := by
  intro p l e R s m args below meth c A Z H locs L C hR hi hA rt P D S hl
  subst hp
  exact lv_lconst C.1 C.2.1 hd hv (kk p l e R s m args below meth c A Z H locs L C hR hi hA rt P D S hl)
theorem nx_aload_n {i : Nat} {j : Fin 4} {x : Nat} (hd : decode mt.2.1 pc = .ok (.aload_n j, 1)) (hp : pc + 1 = pc') (hj : (j : Nat) = i) (hi0 : ls[i]? = some (.ref x)) (kk : NX g d mt ini mc ms E k n pc' ls (.ref x :: st) ws) : NX g d mt ini mc ms E k n pc ls st ws := by
  intro p l e R s m args below meth c A Z H locs L C hR hi hA rt P D S hl
  subst hp
  have h9 := hl.2.2.2 i _ hi0 (by intro q; cases q)
  exact lv_aload_n C.1 C.2.1 hd hj h9 (kk p l e R s m args below meth c A Z H locs L C hR hi hA rt P D S hl)
theorem nx_iload_n {i : Nat} {j : Fin 4} {x : Int32} (hd : decode mt.2.1 pc = .ok (.iload_n j, 1)) (hp : pc + 1 = pc') (hj : (j : Nat) = i) (hi0 : ls[i]? = some (.int x)) (kk : NX g d mt ini mc ms E k n pc' ls (.int x :: st) ws) : NX g d mt ini mc ms E k n pc ls st ws := by
  intro p l e R s m args below meth c A Z H locs L C hR hi hA rt P D S hl
  subst hp
  have h9 := hl.2.2.2 i _ hi0 (by intro q; cases q)
  exact lv_iload_n C.1 C.2.1 hd hj h9 (kk p l e R s m args below meth c A Z H locs L C hR hi hA rt P D S hl)
theorem nx_istore_n {i : Nat} {j : Fin 4} {x : Int32} (hd : decode mt.2.1 pc = .ok (.istore_n j, 1)) (hp : pc + 1 = pc') (hj : (j : Nat) = i) (hn : i < mt.2.2.1) (hk : okS ls i = true) {ls' : List Value} (hs : ls.set i (.int x) = ls') (kk : NX g d mt ini mc ms E k n pc' ls' st ws) : NX g d mt ini mc ms E k n pc ls (.int x :: st) ws := by
  intro p l e R s m args below meth c A Z H locs L C hR hi hA rt P D S hl
  subst hp
  subst hs
  refine lv_istore_n C.1 C.2.1 hd hj hl.has hn rfl (fun L1 h1 => ?_)
  exact kk p l e R s m args below meth c A Z H locs L1 C hR hi hA rt P D S (LH.set1 (v := .int x) hl (okst_nd hk).1 (okst_nd hk).2 h1)
theorem nx_astore_n {i : Nat} {j : Fin 4} {x : Nat} (hd : decode mt.2.1 pc = .ok (.astore_n j, 1)) (hp : pc + 1 = pc') (hj : (j : Nat) = i) (hn : i < mt.2.2.1) (hk : okS ls i = true) {ls' : List Value} (hs : ls.set i (.ref x) = ls') (kk : NX g d mt ini mc ms E k n pc' ls' st ws) : NX g d mt ini mc ms E k n pc ls (.ref x :: st) ws := by
  intro p l e R s m args below meth c A Z H locs L C hR hi hA rt P D S hl
  subst hp
  subst hs
  refine lv_astore_n C.1 C.2.1 hd hj hl.has hn rfl (fun L1 h1 => ?_)
  exact kk p l e R s m args below meth c A Z H locs L1 C hR hi hA rt P D S (LH.set1 (v := .ref x) hl (okst_nd hk).1 (okst_nd hk).2 h1)
theorem nx_iinc {i : Nat} {z : Int} {x v : Int32} (hd : decode mt.2.1 pc = .ok (.iinc i z, 3)) (hp : pc + 3 = pc') (hn : i < mt.2.2.1) (hi0 : ls[i]? = some (.int x)) (hk : okS ls i = true) (hv : x + Int32.ofInt z = v) {ls' : List Value} (hs : ls.set i (.int v) = ls') (kk : NX g d mt ini mc ms E k n pc' ls' st ws) : NX g d mt ini mc ms E k n pc ls st ws := by
  intro p l e R s m args below meth c A Z H locs L C hR hi hA rt P D S hl
  subst hp
  subst hs
  subst hv
  obtain ⟨k9, h9⟩ := prL_at (ad := idA) hi0 (by intro q; cases q)
  refine lv_iinc C.1 C.2.1 hd hl.has h9 rfl hn rfl (fun L1 h1 => ?_)
  exact kk p l e R s m args below meth c A Z H locs L1 C hR hi hA rt P D S (LH.set1 (v := .int (x + Int32.ofInt z)) hl (okst_nd hk).1 (okst_nd hk).2 h1)
theorem nx_goto {off : Int} (hd : decode mt.2.1 pc = .ok (.goto off, 3)) (ht : (pc : Int) + off = (pc' : Int)) (kk : NX g d mt ini mc ms E k n pc' ls st ws) : NX g d mt ini mc ms E k n pc ls st ws := by
  intro p l e R s m args below meth c A Z H locs L C hR hi hA rt P D S hl
  exact lv_goto C.1 C.2.1 hd ht (kk p l e R s m args below meth c A Z H locs L C hR hi hA rt P D S hl)
theorem nx_icmp_ge {x y : Int32} {off : Int} {tgt : Nat} (hd : decode mt.2.1 pc = .ok (.if_icmp .ge off, 3)) (ht : (pc : Int) + off = (tgt : Int)) (hp : pc + 3 = pc') (kt : y ≤ x → NX g d mt ini mc ms E k n tgt ls st ws) (kf : ¬ y ≤ x → NX g d mt ini mc ms E k n pc' ls st ws) : NX g d mt ini mc ms E k n pc ls (.int y :: .int x :: st) ws := by
  intro p l e R s m args below meth c A Z H locs L C hR hi hA rt P D S hl
  subst hp
  exact lv_icmp_ge C.1 C.2.1 hd ht (fun hc => kt hc p l e R s m args below meth c A Z H locs L C hR hi hA rt P D S hl) (fun hc => kf hc p l e R s m args below meth c A Z H locs L C hR hi hA rt P D S hl)
theorem nx_dup {v : Value} (hd : decode mt.2.1 pc = .ok (.dup, 1)) (hp : pc + 1 = pc') (hc : v.category = 1) (kk : NX g d mt ini mc ms E k n pc' ls (v :: v :: st) ws) : NX g d mt ini mc ms E k n pc ls (v :: st) ws := by
  intro p l e R s m args below meth c A Z H locs L C hR hi hA rt P D S hl
  subst hp
  exact lv_dup C.1 C.2.1 hd hc (kk p l e R s m args below meth c A Z H locs L C hR hi hA rt P D S hl)
theorem nx_objInit {idx a : Nat} (hd : decode mt.2.1 pc = .ok (.invokespecial idx, 3)) (hp : pc + 3 = pc') (hd1 : 1 ≤ d) (h1 : Cond.methodLink mt.1.cls idx objectInit ∈ lwG) (h2 : Cond.instanceMethod objectInit ∈ lwG) (h3 : Cond.code objectInit ⟨#[0xb1]⟩ 1 none ∈ lwG) (kk : NX g d mt ini mc ms E k n pc' ls [] ws) : NX g d mt ini mc ms E k n pc ls [.ref a] ws := by
  intro p l e R s m args below meth c A Z H locs L C hR hi hA rt P D S hl
  subst hp
  have hts := C.2.2.2.2.1
  have hRR := C.2.2.2.2.2.2
  refine W.objInit C.1 C.2.1 C.2.2.2.1 (hts _ h1) (hts _ h2) (hts _ h3) rfl (hl.1.trans C.2.2.1.symm) rfl hd (by omega) (show 12 ≤ R.locals by omega) ?_
  exact W.eq (g2 := F0 m (pc + 3) L []) rfl (kk p l e R s m args below meth c A Z H locs L C hR hi hA rt P D S hl)
theorem nx_newi {x : Int32} {N : Nat} (hd : decode mt.2.1 pc = .ok (.newarray .int, 2)) (hp : pc + 2 = pc') (hw : Cond.arrayClass .int ∈ lwG) (hn : ¬ x < 0) (hN : x.toNatClampNeg = N) (hb : N * 4 ≤ 536870912) (hk : k + 1 = k') (hs : n + N = n') (hkm : k' ≤ mc) (hsm : n' ≤ ms) (kk : ∀ q, NX g d mt ini mc ms E k' n' pc' ls (.ref q :: st) (ws ++ [(q, zI g N)])) : NX g d mt ini mc ms E k n pc ls (.int x :: st) ws := by
  intro p l e R s m args below meth c A Z H locs L C hR hi hA rt P D S hl
  subst hp
  subst hk
  subst hs
  have hts := C.2.2.2.2.1
  refine va_newa (atype := .int) (ty := .int) (a0 := (N, .inl (fun _ => 0))) C.1 C.2.1 (hts _ hw) rfl C.2.2.2.2.2.1.1 P D S hA (fun cA => rfl) hn hN hb (by omega) (by omega) hd (fun q cA H1 hK1 hP1 hD1 hS1 => ?_)
  have e1 : s.vm.findClass ("[" ++ (FieldType.int).toString) = some cA := (hK1.2 4 _ rfl).2
  have e2 : s.vm.findClass ("[" ++ (FieldType.int).toString) = some g.2.1 := (C.2.2.2.2.2.1.1.2 0 _ rfl).2
  have e3 : cA = g.2.1 := Option.some.inj (e1.symm.trans e2)
  subst e3
  exact kk q p l e R s m args below meth c A Z H1 locs L C hR hi hA rt hP1 hD1 hS1 hl
theorem nx_newz {x : Int32} {N : Nat} (hd : decode mt.2.1 pc = .ok (.newarray .boolean, 2)) (hp : pc + 2 = pc') (hw : Cond.arrayClass .boolean ∈ lwG) (hn : ¬ x < 0) (hN : x.toNatClampNeg = N) (hb : N * 4 ≤ 536870912) (hk : k + 1 = k') (hs : n + N = n') (hkm : k' ≤ mc) (hsm : n' ≤ ms) (kk : ∀ q, NX g d mt ini mc ms E k' n' pc' ls (.ref q :: st) (ws ++ [(q, zZ g N)])) : NX g d mt ini mc ms E k n pc ls (.int x :: st) ws := by
  intro p l e R s m args below meth c A Z H locs L C hR hi hA rt P D S hl
  subst hp
  subst hk
  subst hs
  have hts := C.2.2.2.2.1
  have hb1 : N * componentBytes .boolean ≤ 536870912 := Nat.le_trans (Nat.mul_le_mul_left N (by decide)) hb
  refine va_newa (atype := .boolean) (ty := .boolean) (a0 := (N, .inl (fun _ => 0))) C.1 C.2.1 (hts _ hw) rfl C.2.2.2.2.2.1.1 P D S hA (fun cA => rfl) hn hN hb1 (by omega) (by omega) hd (fun q cA H1 hK1 hP1 hD1 hS1 => ?_)
  have e1 : s.vm.findClass ("[" ++ (FieldType.boolean).toString) = some cA := (hK1.2 4 _ rfl).2
  have e2 : s.vm.findClass ("[" ++ (FieldType.boolean).toString) = some g.2.2.1 := (C.2.2.2.2.2.1.1.2 1 _ rfl).2
  have e3 : cA = g.2.2.1 := Option.some.inj (e1.symm.trans e2)
  subst e3
  exact kk q p l e R s m args below meth c A Z H1 locs L C hR hi hA rt hP1 hD1 hS1 hl
theorem nx_newF {x : Int32} {N idx : Nat} (hd : decode mt.2.1 pc = .ok (.anewarray idx, 3)) (hp : pc + 3 = pc') (hw : Cond.classLink mt.1.cls idx RX0 ∈ lwG) (hn : ¬ x < 0) (hN : x.toNatClampNeg = N) (hb : N * 4 ≤ 536870912) (hk : k + 1 = k') (hs : n + N = n') (hkm : k' ≤ mc) (hsm : n' ≤ ms) (kk : ∀ q, NX g d mt ini mc ms E k' n' pc' ls (.ref q :: st) (ws ++ [(q, rA g.2.2.2.1 N (fun _ => none))])) : NX g d mt ini mc ms E k n pc ls (.int x :: st) ws := by
  intro p l e R s m args below meth c A Z H locs L C hR hi hA rt P D S hl
  subst hp
  subst hk
  subst hs
  have hts := C.2.2.2.2.1
  refine va_newq (C := RX0) C.1 C.2.1 C.2.2.2.1 (hts _ hw) C.2.2.2.2.2.1.2.1.1 C.2.2.2.2.2.1.1 P D S hA hn hN hb (by omega) (by omega) hd (fun q cA H1 hK1 hP1 hD1 hS1 => ?_)
  obtain ⟨_, _, _, _, _, e1⟩ := (hK1.2 4 _ rfl).2
  obtain ⟨_, _, _, _, _, e2⟩ := (C.2.2.2.2.2.1.1.2 2 _ rfl).2
  have e3 : cA = g.2.2.2.1 := Option.some.inj (e1.symm.trans e2)
  subst e3
  exact kk q p l e R s m args below meth c A Z H1 locs L C hR hi hA rt hP1 hD1 hS1 hl
theorem nx_newM {x : Int32} {N idx : Nat} (hd : decode mt.2.1 pc = .ok (.anewarray idx, 3)) (hp : pc + 3 = pc') (hw : Cond.classLink mt.1.cls idx RX3 ∈ lwG) (hn : ¬ x < 0) (hN : x.toNatClampNeg = N) (hb : N * 4 ≤ 536870912) (hk : k + 1 = k') (hs : n + N = n') (hkm : k' ≤ mc) (hsm : n' ≤ ms) (kk : ∀ q, NX g d mt ini mc ms E k' n' pc' ls (.ref q :: st) (ws ++ [(q, rA g.2.2.2.2 N (fun _ => none))])) : NX g d mt ini mc ms E k n pc ls (.int x :: st) ws := by
  intro p l e R s m args below meth c A Z H locs L C hR hi hA rt P D S hl
  subst hp
  subst hk
  subst hs
  have hts := C.2.2.2.2.1
  refine va_newq (C := RX3) C.1 C.2.1 C.2.2.2.1 (hts _ hw) C.2.2.2.2.2.1.2.1.2 C.2.2.2.2.2.1.1 P D S hA hn hN hb (by omega) (by omega) hd (fun q cA H1 hK1 hP1 hD1 hS1 => ?_)
  obtain ⟨_, _, _, _, _, e1⟩ := (hK1.2 4 _ rfl).2
  obtain ⟨_, _, _, _, _, e2⟩ := (C.2.2.2.2.2.1.1.2 3 _ rfl).2
  have e3 : cA = g.2.2.2.2 := Option.some.inj (e1.symm.trans e2)
  subst e3
  exact kk q p l e R s m args below meth c A Z H1 locs L C hR hi hA rt hP1 hD1 hS1 hl
theorem nx_new {C : String} {T : u_T} {N ci idx : Nat} {ty : Nat → FieldType} {fs : List Value} (hd : decode mt.2.1 pc = .ok (.new idx, 3)) (hp : pc + 3 = pc') (hc : vwCl[ci]? = some (C, T, N)) (hin : ∀ w ∈ u_ws C T N, w ∈ lwG) (hty : ∀ k, k < N → parseFieldDescriptor (T k).2.2.1 = some (ty k)) (h1 : Cond.classLink mt.1.cls idx C ∈ lwG) (h2 : Cond.instantiable C N ∈ lwG) (h3 : Cond.initialized C ∈ lwG) (hfs : ∀ j, j < N → defaultValue (ty j) = vp_V fs j) (hk : k + 1 = k') (hs : n + N = n') (hkm : k' ≤ mc) (hsm : n' ≤ ms) (kk : ∀ q, NX g d mt ini mc ms E k' n' pc' ls (.ref q :: st) (ws ++ [(q, .inr (ci, fs))])) : NX g d mt ini mc ms E k n pc ls st ws := by
  intro p l e R s m args below meth c A Z H locs L C hR hi hA rt P D S hl
  subst hp
  subst hk
  subst hs
  have hts := C.2.2.2.2.1
  exact va_new C.1 C.2.1 hts hin ty hty C.2.2.2.1 (hts _ h1) (hts _ h2) (hts _ h3) C.2.2.2.2.2.1.1 P D S hA hc hfs (by omega) (by omega) hd (fun q H1 hP1 hD1 hS1 => kk q p l e R s m args below meth c A Z H1 locs L C hR hi hA rt hP1 hD1 hS1 hl)
theorem nx_putF {C : String} {T : u_T} {N ci idx a f : Nat} {ty0 : Nat → FieldType} {ty : FieldType} {fs : List Value} {v : Value} {ws' : va_W} (hini : ini = true) (hd : decode mt.2.1 pc = .ok (.putfield idx, 3)) (hp : pc + 3 = pc') (he : ws[0]? = some (a, .inr (ci, fs))) (hc : vwCl[ci]? = some (C, T, N)) (hin : ∀ w ∈ u_ws C T N, w ∈ lwG) (hty : ∀ k, k < N → parseFieldDescriptor (T k).2.2.1 = some (ty0 k)) (hnm : ∀ a, a < N → ∀ b, b < N → a ≠ b → (T a).2.1 ≠ (T b).2.1) (hf : f < N) (hlk : Cond.fieldLink mt.1.cls idx (T f).1 (T f).2.1 (T f).2.2.1 ∈ lwG) (hfin : (T f).2.2.2 = true) (hdecl : (T f).1 = mt.1.cls) (hpd : parseFieldDescriptor (T f).2.2.1 = some ty) (hnr : narrow ty v = v) (hft : fits ty v = true) (hl0 : f < fs.length) (hws : ws.set 0 (a, .inr (ci, fs.set f v)) = ws') (kk : NX g d mt ini mc ms E k n pc' ls st ws') : NX g d mt ini mc ms E k n pc ls (v :: .ref a :: st) ws := by
  intro p l e R s m args below meth c A Z H locs L C hR hi hA rt P D S hl
  subst hp
  subst hws
  have hts := C.2.2.2.2.1
  exact va_putF (D := g.1) (ci := ci) (C := _) (T := T) (N := N) C.1 C.2.1 hts hin ty0 hty hnm C.2.2.2.1 C.2.2.2.2.2.1.1 P D S 0 he hc f hf (hts _ hlk) (fun _ h => h) hfin (hi hini) hdecl hpd hnr hft hl0 hd (fun H1 locs1 hP1 hD1 hS1 => kk p l e R s m args below meth c A Z H1 locs1 L C hR hi hA rt hP1 hD1 hS1 hl)
theorem nx_put {C : String} {T : u_T} {N ci idx a f : Nat} {ty0 : Nat → FieldType} {ty : FieldType} {fs : List Value} {v : Value} {ws' : va_W} (hd : decode mt.2.1 pc = .ok (.putfield idx, 3)) (hp : pc + 3 = pc') (he : ws[0]? = some (a, .inr (ci, fs))) (hc : vwCl[ci]? = some (C, T, N)) (hin : ∀ w ∈ u_ws C T N, w ∈ lwG) (hty : ∀ k, k < N → parseFieldDescriptor (T k).2.2.1 = some (ty0 k)) (hnm : ∀ a, a < N → ∀ b, b < N → a ≠ b → (T a).2.1 ≠ (T b).2.1) (hf : f < N) (hlk : Cond.fieldLink mt.1.cls idx (T f).1 (T f).2.1 (T f).2.2.1 ∈ lwG) (hfin : (T f).2.2.2 = false) (hpd : parseFieldDescriptor (T f).2.2.1 = some ty) (hnr : narrow ty v = v) (hft : fits ty v = true) (hl0 : f < fs.length) (hws : ws.set 0 (a, .inr (ci, fs.set f v)) = ws') (kk : NX g d mt ini mc ms E k n pc' ls st ws') : NX g d mt ini mc ms E k n pc ls (v :: .ref a :: st) ws := by
  intro p l e R s m args below meth c A Z H locs L C hR hi hA rt P D S hl
  subst hp
  subst hws
  have hts := C.2.2.2.2.1
  exact va_put (D := g.1) (ci := ci) (C := _) (T := T) (N := N) C.1 C.2.1 hts hin ty0 hty hnm C.2.2.2.1 C.2.2.2.2.2.1.1 P D S 0 he hc f hf (hts _ hlk) (fun _ h => h) hfin hpd hnr hft hl0 hd (fun H1 locs1 hP1 hD1 hS1 => kk p l e R s m args below meth c A Z H1 locs1 L C hR hi hA rt hP1 hD1 hS1 hl)
theorem nx_get {C : String} {T : u_T} {N ci idx a f : Nat} {fs : List Value} {v : Value} (hd : decode mt.2.1 pc = .ok (.getfield idx, 3)) (hp : pc + 3 = pc') (he : ws[0]? = some (a, .inr (ci, fs))) (hc : vwCl[ci]? = some (C, T, N)) (hin : ∀ w ∈ u_ws C T N, w ∈ lwG) (hf : f < N) (hlk : Cond.fieldLink mt.1.cls idx (T f).1 (T f).2.1 (T f).2.2.1 ∈ lwG) (hv : fs[f]? = some v) (kk : NX g d mt ini mc ms E k n pc' ls (v :: st) ws) : NX g d mt ini mc ms E k n pc ls (.ref a :: st) ws := by
  intro p l e R s m args below meth c A Z H locs L C hR hi hA rt P D S hl
  subst hp
  have hts := C.2.2.2.2.1
  exact va_get (D := g.1) (ci := ci) (C := _) (T := T) (N := N) C.1 C.2.1 hts hin C.2.2.2.1 C.2.2.2.2.2.1.1 P 0 he hc f hf (hts _ hlk) (fun _ h => h) hv hd (kk p l e R s m args below meth c A Z H locs L C hR hi hA rt P D S hl)
theorem nx_aast {q0 t0 qk ci a v N : Nat} {cA : ClassId} {r : vw_C} {vs : List Value} {f : Nat → Option Nat} {i : Int32} {j : Nat} {ws' : va_W} (hd : decode mt.2.1 pc = .ok (.aastore, 1)) (hp : pc + 1 = pc') (ha : ws[q0]? = some (a, rA cA N f)) (ht : (tyN g)[t0]? = some (cA, .object r.1)) (hv : ws[qk]? = some (v, .inr (ci, vs))) (hc : vwCl[ci]? = some r) (hin : vp_in i N) (hj : i.toNatClampNeg = j) (hws : ws.set q0 (a, rA cA N (va_up f j (some v))) = ws') (kk : NX g d mt ini mc ms E k n pc' ls st ws') : NX g d mt ini mc ms E k n pc ls (.ref v :: .int i :: .ref a :: st) ws := by
  intro p l e R s m args below meth c A Z H locs L C hR hi hA rt P D S hl
  subst hp
  subst hj
  subst hws
  exact va_astq C.1 C.2.1 C.2.2.2.2.2.1.1 P D S q0 t0 qk ci ha ht hv hc hin hd (fun H1 locs1 hP1 hD1 hS1 => kk p l e R s m args below meth c A Z H1 locs1 L C hR hi hA rt hP1 hD1 hS1 hl)
/-- an array's cell told by another function that agrees with the first -/
theorem nx_recell {q0 a N : Nat} {cA : ClassId} {f f' : Nat → Option Nat} {ws' : va_W} (ha : ws[q0]? = some (a, rA cA N f)) (hf : ∀ j, j < N → f j = f' j) (hws : ws.set q0 (a, rA cA N f') = ws') (kk : NX g d mt ini mc ms E k n pc ls st ws') : NX g d mt ini mc ms E k n pc ls st ws := by
  intro p l e R s m args below meth c A Z H locs L C hR hi hA rt P D S hl
  subst hws
  refine kk p l e R s m args below meth c A Z H locs L C hR hi hA rt (fun i q hq => ?_) (D.set ha) S hl
  by_cases c : i = q0
  · subst c
    rw [List.getElem?_set_self (List.getElem?_eq_some_iff.mp ha).1] at hq
    cases hq
    have h1 := P i _ ha
    have h1' : H[a]? = some (arrV cA N (fun j => va_rf (f j))) := h1
    show H[a]? = some (arrV cA N (fun j => va_rf (f' j)))
    rw [h1']
    congr 1
    unfold arrV
    congr 1
    congr 1
    funext j
    show va_rf (f j.val) = va_rf (f' j.val)
    rw [hf j.val j.isLt]
  · rw [List.getElem?_set_ne (Ne.symm c)] at hq
    exact P i q hq
theorem nx_iast0 {q0 a N : Nat} {i : Int32} {ws' : va_W} (hd : decode mt.2.1 pc = .ok (.iastore, 1)) (hp : pc + 1 = pc') (ha : ws[q0]? = some (a, zI g N)) (hin : vp_in i N) (hws : ws.set q0 (a, zI g N) = ws') (kk : NX g d mt ini mc ms E k n pc' ls st ws') : NX g d mt ini mc ms E k n pc ls (.int 0 :: .int i :: .ref a :: st) ws := by
  intro p l e R s m args below meth c A Z H locs L C hR hi hA rt P D S hl
  subst hp
  subst hws
  refine va_iast C.1 C.2.1 C.2.2.2.2.2.1.1 P D S q0 0 ha rfl hin hd ?_
  have e0 : upd (fun _ => (0 : Int32)) i.toNatClampNeg 0 = (fun _ => 0) := by
    funext j
    simp [upd]
  rw [e0]
  exact fun H1 locs1 hP1 hD1 hS1 => kk p l e R s m args below meth c A Z H1 locs1 L C hR hi hA rt hP1 hD1 hS1 hl
/-- what a constructor's call links -/
def LkI (own : String) (idx : Nat) (mj : Mt) : Prop := (Cond.initialized mj.1.cls ∈ lwG ∧ Cond.instanceMethod mj.1 ∈ lwG ∧ Cond.code mj.1 mj.2.1 mj.2.2.1 none ∈ lwG) ∧ (Cond.methodLink own idx mj.1 ∈ lwG ∨ ∃ host, Cond.methodLinkNest own idx mj.1 host ∈ nsmL) ∧ mj.1.name = "<init>" ∧ (mj.1.cls ≠ "java/lang/invoke/MethodHandle" ∧ mj.1.cls ≠ "java/lang/invoke/VarHandle" ∧ (parseMethodDescriptor mj.1.desc).map (fun d => d.parameters.length) = some 0) ∧ mj.2.2.1 ≤ 21
theorem va_nd_of : ∀ l : List Nat, l.Nodup → va_nd l = true
  | [], _ => rfl
  | a :: l, h => by
    obtain ⟨h1, h2⟩ := List.nodup_cons.mp h
    rw [va_nd, va_nd_of l h2, decide_eq_true h1]
    rfl
theorem va_nd_range (m : Nat) : va_nd (List.range m) = true := va_nd_of _ List.nodup_range
theorem FB_PcN {h0 sz : Nat} {e0 : va_E} : FrameBlind (PcN g h0 sz e0) := fun a U f mk q => ⟨q.1, q.2.1, q.2.2.1, ⟨va_K.moved (u := U) (U := U.calling f mk a) (Vm.Alike.refl U.vm) q.2.2.2.1.1, ⟨va_AO.moved (u := U) (U := U.calling f mk a) (Vm.Alike.refl U.vm) q.2.2.2.1.2.1.1, va_AO.moved (u := U) (U := U.calling f mk a) (Vm.Alike.refl U.vm) q.2.2.2.1.2.1.2⟩, fun c hc => va_Nw.same (nsm_on hc) (u := U) (U := U.calling f mk a) rfl (q.2.2.2.1.2.2 c hc)⟩, q.2.2.2.2⟩
theorem nx_call {mj : Mt} {mc1 ms1 idx q : Nat} {e0 : va_E} {Wf : Cg → (Nat → Nat) → va_W} {pre : va_W} (hM : MetN mj d mc1 ms1 e0 Wf) (hd : decode mt.2.1 pc = .ok (.invokespecial idx, 3)) (hp : pc + 3 = pc') (lk : LkI mt.1.cls idx mj) (hw : (st.map Value.category).sum ≤ 8) (hk : k + mc1 = k') (hs : n + ms1 = n') (hkm : k' ≤ mc) (hsm : n' ≤ ms) (kk : ∀ u : Nat → Nat, u 0 = q → NX g (d + 1) mt ini mc ms E k' n' pc' ls st (pre ++ Wf g u)) : NX g (d + 1) mt ini mc ms E k n pc ls (.ref q :: st) (pre ++ [(q, e0)]) := by
  intro p l e R s m args below meth c A Z H locs L C hR hi hA rt P D S hl
  subst hp
  subst hk
  subst hs
  obtain ⟨⟨w1', w2', w3'⟩, hlk, hnm, hdd, hmx⟩ := lk
  have hts := C.2.2.2.2.1
  have hRR := C.2.2.2.2.2.2
  have hG : GoodIn lwG (Cond.code mj.1 mj.2.1 mj.2.2.1 none :: lwG) := gd_in (fun w hw => by
    rcases List.mem_cons.mp hw with h | h
    · rw [h]; exact w3'
    · exact h)
  have hC1 : [pre.length].map (fun i => (pre ++ [(q, e0)])[i]?) = [(q, e0)].map some := by simp
  have hR1 : (List.range pre.length).map (fun i => (pre ++ [(q, e0)])[i]?) = pre.map some := by
    apply List.ext_getElem?
    intro i
    rw [List.getElem?_map, List.getElem?_map]
    by_cases hl : i < pre.length
    · rw [List.getElem?_range hl, Option.map_some, List.getElem?_append_left hl, List.getElem?_eq_getElem hl, Option.map_some]
    · rw [List.getElem?_eq_none (by simpa using hl), List.getElem?_eq_none (by omega)]; rfl
  have hPc : va_P g.1 vwCl [(q, e0)] H := fun i x hx => by
    have hi0 : i < 1 := (List.getElem?_eq_some_iff.mp hx).1
    rw [show i = 0 by omega] at hx
    cases hx
    exact P pre.length (q, e0) (by simp)
  have hDc : va_D (fun _ => True) [(q, e0)] := ⟨fun i j x y hx hy _ => by
    have h1 : i < 1 := (List.getElem?_eq_some_iff.mp hx).1
    have h2 : j < 1 := (List.getElem?_eq_some_iff.mp hy).1
    omega, fun _ _ _ => trivial⟩
  have hFc := va_free (wc := [(q, e0)]) D S hA [pre.length] hC1
  have fin : va_Run p l e R s m args below meth c H locs k n mc1 ms1 (F0 m pc L (.ref q :: st)) st (QcN g q H.size e0 (Wf g) (Value.ref q :: []).toArray) (va_A [(q, e0)] H.size) := by
    have hpre : PreS s H (PcN g q H.size e0) (.ref q :: []) := ⟨FB_PcN, fun U hU hW => ⟨rfl, by rw [hU], by rw [hU]; exact hPc, C.2.2.2.2.2.1.warm hW, hDc⟩⟩
    have hroom : d + 1 ≤ R.frames ∧ 8 + (mj.2.2.1 + 11) + 40 * d ≤ R.locals := by omega
    rcases hlk with h1 | ⟨host, h1⟩
    · exact va_runI (As := []) (rest := st) ⟨C.1, C.2.1, C.2.2.1, C.2.2.2.1, hts⟩ (hM l g q H.size) (cwI 0 hts hG rfl rfl rfl (hts _ w1') (hts _ h1) (hts _ w2') hnm hdd hroom) hpre rfl rfl hl.1 rfl (lv_room hw) hd (by omega)
    · exact va_runIN (As := []) (rest := st) ⟨C.1, C.2.1, C.2.2.1, C.2.2.2.1, hts⟩ (hM l g q H.size) ⟨va_cnB 0 hts hG rfl rfl rfl (C.2.2.2.2.2.1.2.2 _ h1) (hts _ w1') hdd hroom, hnm, hts _ w2'⟩ hpre rfl rfl hl.1 rfl (lv_room hw) hd (by omega)
  refine va_callv fin S (fun x _ h => hFc x h) hFc (fun u t H1 locs1 ht hvm hpost hB hz1 hk1 hS1 => ?_)
  obtain ⟨hP1, hD1⟩ := hB
  rw [ht] at hP1
  obtain ⟨hP2, hD2⟩ := va_join (wr := pre) (w1 := Wf g u) P D [pre.length] (List.range pre.length) hC1 hR1 (va_nd_range _) (fun i hi1 hi2 => by
    have a1 := List.mem_range.mp hi1
    have a2 := List.mem_singleton.mp hi2
    omega) hk1 hFc hP1 hD1
  exact kk u hpost p l e R s m args below meth c A Z H1 locs1 L C hR hi hA rt hP2 hD2 hS1 hl
end NROWS
/-- a constructor's contract out of its body -/
theorem met_of_NX {mt : Mt} {d mc ms ci : Nat} {fs : List Value} {Wf : Cg → (Nat → Nat) → va_W} (hm : plainName mt.1.cls = true) (hret : mt.2.2.2 = none) (hnm : mt.1.name = "<init>") (hmx : 1 ≤ mt.2.2.1) (kk : ∀ (g : Cg) (h0 : Nat), NX g d mt true mc ms (fun pc' _ ws' => decode mt.2.1 pc' = .ok (.return_, 1) ∧ ∃ q : Nat → Nat, q 0 = h0 ∧ ws' = Wf g q) 0 0 0 (ent [.ref h0] mt.2.2.1) [] [(h0, .inr (ci, fs))]) : MetN mt d mc ms (.inr (ci, fs)) Wf := by
  intro l g h0 sz
  refine Met.ofW (cc := mt.2.1) (maxL := mt.2.2.1) (ret := none) hm rfl ?_
  intro p e s m args below meth c s₁ B hml hv
  obtain ⟨rfl, hsz, hP, hK, hD0⟩ := hv
  have hts0 := atoms_spec (ws := Cond.code mt.1 mt.2.1 mt.2.2.1 none :: lwG) B.pre
  have hin : meth.name = "<init>" := ((name_of_methodNamed B.named B.method).1).trans hnm
  subst hsz
  have hl := lv_entry ([Value.ref h0].map (cv idA)) (n := mt.2.2.1) (by exact hmx)
  rw [lg_entry_eq]
  have hA : ∀ q : Nat, s.heap.size ≤ q → va_A [(h0, (.inr (ci, fs) : va_E))] s.heap.size q := fun q h => Or.inr h
  refine kk g h0 p l e _ s m _ below meth c (va_A [(h0, .inr (ci, fs))] s.heap.size) _ s.heap [] _ ⟨B.exec, B.bytes, hml, findClass_of_methodNamed B.named, fun q hq => hts0 q (List.mem_cons_of_mem _ hq), hK, ⟨Nat.le_refl _, Nat.le_refl _⟩⟩ ⟨Nat.le_refl _, Nat.le_refl _⟩ (fun _ => hin) hA ?_ hP hD0.self va_S.rf (ent_LH (by exact hmx) hl)
  intro pc' ls' ws' H' locs' L' hE hP' hD' hS' hl'
  obtain ⟨hdg, q, hq, rfl⟩ := hE
  exact W.vret B.exec B.bytes B.returns (fun t ht hW => ⟨⟨q, rfl, hq, by rw [ht]; exact hP', hD'⟩, hS'.F ht⟩) hS'.2.2 hdg B.notSynchronized
