/-! The machine layer: a world of 103 cells whose shape never changes (logical ids), memory as two functions, one judgement X for a method's body. -/
/-- the words of the tables that a call hands on -/
def lwG : List Cond := lw_tbl.filter goodWord
def isNst : Cond → Bool
  | .fieldLinkNest _ _ _ _ _ _ => true
  | _ => false
/-- links of nest mates' private fields -/
def nstL : List Cond := tables_1.filter isNst
abbrev Mem : Type := (Nat → Nat → Int32) × (Nat → Nat → Int64)
abbrev WC : Type := (Nat → Nat) × va_G × ClassId × ClassId × ClassId × ClassId
abbrev Mt : Type := MethodName × ByteArray × Nat × Option FieldType
def kdL : List Nat := [7, 0, 9, 9, 9, 9, 9, 2, 11, 0, 9, 9, 9, 9, 9, 0, 9, 9, 9, 9, 9, 0, 9, 9, 9, 9, 9, 0, 9, 9, 9, 9, 9, 0, 9, 9, 9, 9, 9, 0, 9, 9, 9, 9, 9, 0, 9, 9, 9, 9, 9, 0, 9, 9, 9, 9, 9, 4, 9, 4, 9, 6, 9, 9, 6, 9, 9, 5, 9, 6, 9, 9, 1, 12, 3, 0, 9, 9, 9, 9, 9, 6, 9, 9, 3, 0, 9, 9, 9, 9, 9, 6, 9, 9, 8, 9, 9, 10, 9, 9, 9, 9, 10]
def lnL : List Nat := [0, 0, 121, 121, 121, 121, 121, 0, 8, 0, 121, 121, 121, 121, 121, 0, 121, 121, 121, 121, 121, 0, 121, 121, 121, 121, 121, 0, 121, 121, 121, 121, 121, 0, 121, 121, 121, 121, 121, 0, 121, 121, 121, 121, 121, 0, 121, 121, 121, 121, 121, 0, 121, 121, 121, 121, 121, 0, 60, 0, 60, 0, 120, 48, 0, 120, 48, 0, 120, 0, 120, 48, 0, 2, 0, 0, 121, 121, 121, 121, 121, 0, 120, 48, 0, 0, 121, 121, 121, 121, 121, 0, 120, 48, 0, 7458, 728, 2, 120, 3, 60, 128, 64]
def rfL : List (List Nat) := [[1, 7, 57, 59, 61, 64, 67, 72, 73], [2, 3, 4, 5, 6], [], [], [], [], [], [8], [9, 15, 21, 27, 33, 39, 45, 51], [10, 11, 12, 13, 14], [], [], [], [], [], [16, 17, 18, 19, 20], [], [], [], [], [], [22, 23, 24, 25, 26], [], [], [], [], [], [28, 29, 30, 31, 32], [], [], [], [], [], [34, 35, 36, 37, 38], [], [], [], [], [], [40, 41, 42, 43, 44], [], [], [], [], [], [46, 47, 48, 49, 50], [], [], [], [], [], [52, 53, 54, 55, 56], [], [], [], [], [], [58], [], [60], [], [62, 63], [], [], [65, 66], [], [], [68, 69], [], [70, 71], [], [], [], [74, 84], [75, 81], [76, 77, 78, 79, 80], [], [], [], [], [], [82, 83], [], [], [85, 91], [86, 87, 88, 89, 90], [], [], [], [], [], [92, 93], [], [], [95, 96, 0, 0, 97, 98, 0, 0, 0, 99, 0, 100, 0, 0, 0, 101, 0, 0, 102], [], [], [], [], [], [], [], []]
def nfL : List Nat := [11, 2, 3, 3, 2, 5, 4, 13, 20]
def fkL : List (List Nat) := [[2, 2, 2, 2, 2, 0, 0, 0, 0, 0, 0], [1, 1], [2, 0, 0], [2, 2, 0], [2, 0], [2, 2, 0, 0, 0], [2, 2, 0, 0], [2, 2, 2, 2, 2, 2, 2, 2, 2, 0, 0, 0, 0], [2, 2, 0, 0, 2, 2, 0, 1, 1, 2, 0, 2, 0, 0, 0, 2, 0, 0, 2, 1]]
def kd (i : Nat) : Nat := kdL.getD i 99
def ln (i : Nat) : Nat := lnL.getD i 0
def rf (i k : Nat) : Nat := (rfL.getD i []).getD k 0
def nf (c : Nat) : Nat := nfL.getD c 0
def fk (c k : Nat) : Nat := (fkL.getD c []).getD k 9
theorem kd_lt {i : Nat} (h : kd i < 13) : i < 103 := by
  rcases Nat.lt_or_ge i 103 with q | q
  · exact q
  · have e : kd i = 99 := by
      unfold kd
      rw [List.getD_eq_getElem?_getD, List.getElem?_eq_none (by exact q)]
      rfl
    rw [e] at h
    exact absurd h (by decide)
def w1 (σ : Mem) (a k : Nat) (v : Int32) : Mem := (fun i j => if i = a ∧ j = k then v else σ.1 i j, σ.2)
def w2 (σ : Mem) (a k : Nat) (v : Int64) : Mem := (σ.1, fun i j => if i = a ∧ j = k then v else σ.2 i j)
/-- System.arraycopy of ints from array a to array b -/
def wc (σ : Mem) (a b sp dp n : Nat) : Mem := (fun i j => if i = b ∧ dp ≤ j ∧ j < dp + n then σ.1 a (sp + (j - dp)) else σ.1 i j, σ.2)
def cv (ad : Nat → Nat) : Value → Value
  | .ref i => .ref (ad i)
  | v => v
def fv (w : WC) (σ : Mem) (i k : Nat) : Value := if fk (kd i) k = 0 then .int (σ.1 i k) else if fk (kd i) k = 1 then .long (σ.2 i k) else .ref (w.1 (rf i k))
def fvs (w : WC) (σ : Mem) (i : Nat) : List Value := (List.range (nf (kd i))).map (fv w σ i)
def cel (w : WC) (σ : Mem) (i : Nat) : va_E :=
  if kd i = 9 then .inl (w.2.2.1, ln i, .inl (σ.1 i)) else if kd i = 10 then .inl (w.2.2.2.1, ln i, .inl (σ.1 i))
  else if kd i = 11 then .inl (w.2.2.2.2.1, ln i, .inr (.inr (.inr (.inr (fun k => some (w.1 (rf i k)))))))
  else if kd i = 12 then .inl (w.2.2.2.2.2, ln i, .inr (.inr (.inr (.inr (fun k => some (w.1 (rf i k)))))))
  else .inr (kd i, fvs w σ i)
def wsM (w : WC) (σ : Mem) : va_W := (List.range 103).map (fun i => (w.1 i, cel w σ i))
theorem ws_get {w : WC} {σ : Mem} {i : Nat} (h : i < 103) : (wsM w σ)[i]? = some (w.1 i, cel w σ i) := by
  unfold wsM
  rw [List.getElem?_map, List.getElem?_range h]
  rfl
theorem ws_set {w : WC} {σ σ' : Mem} {i : Nat} {e : va_E} (he : e = cel w σ' i) (ho : ∀ j, j ≠ i → cel w σ' j = cel w σ j) : (wsM w σ).set i (w.1 i, e) = wsM w σ' := by
  subst he
  apply List.ext_getElem?
  intro k
  by_cases hk : k = i
  · subst hk
    by_cases hl : k < 103
    · rw [ws_get hl, List.getElem?_set_self (by simpa [wsM] using hl)]
    · rw [List.getElem?_eq_none (by simpa [wsM] using hl), List.getElem?_eq_none (by simpa [wsM] using hl)]
  · rw [List.getElem?_set_ne (Ne.symm hk)]
    by_cases hl : k < 103
    · rw [ws_get hl, ws_get hl, ho k hk]
    · rw [List.getElem?_eq_none (by simpa [wsM] using hl), List.getElem?_eq_none (by simpa [wsM] using hl)]
theorem cel_9 {w : WC} {σ : Mem} {i : Nat} (h : kd i = 9) : cel w σ i = .inl (w.2.2.1, ln i, .inl (σ.1 i)) := by simp [cel, h]
theorem cel_10 {w : WC} {σ : Mem} {i : Nat} (h : kd i = 10) : cel w σ i = .inl (w.2.2.2.1, ln i, .inl (σ.1 i)) := by simp [cel, h]
theorem cel_11 {w : WC} {σ : Mem} {i : Nat} (h : kd i = 11) : cel w σ i = .inl (w.2.2.2.2.1, ln i, .inr (.inr (.inr (.inr (fun k => some (w.1 (rf i k))))))) := by simp [cel, h]
theorem cel_12 {w : WC} {σ : Mem} {i : Nat} (h : kd i = 12) : cel w σ i = .inl (w.2.2.2.2.2, ln i, .inr (.inr (.inr (.inr (fun k => some (w.1 (rf i k))))))) := by simp [cel, h]
theorem cel_o {w : WC} {σ : Mem} {i c : Nat} (h : kd i = c) (hc : c < 9) : cel w σ i = .inr (c, fvs w σ i) := by
  subst h
  have h1 : kd i ≠ 9 := by omega
  have h2 : kd i ≠ 10 := by omega
  have h3 : kd i ≠ 11 := by omega
  have h4 : kd i ≠ 12 := by omega
  simp [cel, h1, h2, h3, h4]
theorem fvs_get {w : WC} {σ : Mem} {i k : Nat} (h : k < nf (kd i)) : (fvs w σ i)[k]? = some (fv w σ i k) := by
  unfold fvs
  rw [List.getElem?_map, List.getElem?_range h]
  rfl
theorem fvs_set {w : WC} {σ σ' : Mem} {i k : Nat} {v : Value} (hv : v = fv w σ' i k) (ho : ∀ j, j ≠ k → fv w σ' i j = fv w σ i j) : (fvs w σ i).set k v = fvs w σ' i := by
  subst hv
  apply List.ext_getElem?
  intro j
  have e1 : ∀ σ : Mem, (fvs w σ i).length = nf (kd i) := fun σ => by simp [fvs]
  by_cases hl : j < nf (kd i)
  · by_cases hj : j = k
    · subst hj
      rw [List.getElem?_set_self (by rw [e1]; exact hl), fvs_get hl]
    · rw [List.getElem?_set_ne (Ne.symm hj), fvs_get hl, fvs_get hl, ho j hj]
  · rw [List.getElem?_eq_none (by rw [List.length_set, e1]; omega), List.getElem?_eq_none (by rw [e1]; omega)]
theorem cel_congr {w : WC} {σ σ' : Mem} {i : Nat} (h1 : σ'.1 i = σ.1 i) (h2 : σ'.2 i = σ.2 i) : cel w σ' i = cel w σ i := by
  have hf : fvs w σ' i = fvs w σ i := by
    unfold fvs
    congr 1
    funext k
    unfold fv
    rw [h1, h2]
  unfold cel
  rw [h1, hf]
theorem w1_off {σ : Mem} {a k j : Nat} {v : Int32} (h : j ≠ a) : (w1 σ a k v).1 j = σ.1 j := by
  funext l
  simp [w1, h]
theorem w1_at {σ : Mem} {a k : Nat} {v : Int32} : (w1 σ a k v).1 a = upd (σ.1 a) k v := by
  funext l
  simp [w1, upd]
theorem w2_off {σ : Mem} {a k j : Nat} {v : Int64} (h : j ≠ a) : (w2 σ a k v).2 j = σ.2 j := by
  funext l
  simp [w2, h]
theorem wc_off {σ : Mem} {a b sp dp n j : Nat} (h : j ≠ b) : (wc σ a b sp dp n).1 j = σ.1 j := by
  funext l
  simp [wc, h]
theorem wc_at {σ : Mem} {a b sp dp n : Nat} : (wc σ a b sp dp n).1 b = va_cpy (σ.1 a) (σ.1 b) sp dp n := by
  funext l
  simp [wc, va_cpy]
def tysW (w : WC) : List (ClassId × FieldType) := [(w.2.2.1, .int), (w.2.2.2.1, .boolean), (w.2.2.2.2.1, .object RX0), (w.2.2.2.2.2, .object RX3)]
abbrev Unk : Value := .retAddr 0
/-- locals: what the list says, places with Unk apart -/
def LH (ad : Nat → Nat) (n : Nat) (L : Array Slot) (ls : List Value) : Prop := L.size = n ∧ ls.length ≤ n ∧ lv_wf L ∧ ∀ (i : Nat) (v : Value), ls[i]? = some v → v ≠ Unk → L[i]? = some (.val (cv ad v))
def Rep (w : WC) (A : Nat → Prop) (σ : Mem) (H : Heap) : Prop := va_P w.2.1 vwCl (wsM w σ) H ∧ va_D A (wsM w σ)
def Cx (w : WC) (sc : Option (Nat × (Nat → Int32))) (d : Nat) (mt : Mt) (p : Program) (R : Room) (s : State) (m : MethodId) (args : Array Value) (meth : Method) (c : Code) (cells slots : Nat) (A : Nat → Prop) : Prop :=
  p.tables.exec = Jvm.exec ∧ c.code = mt.2.1 ∧ c.maxLocals = mt.2.2.1 ∧ s.vm.findClass mt.1.cls = some m.cls ∧ meth.sig.returnType = mt.2.2.2 ∧ meth.locks = false ∧ (∀ q ∈ lwG, q.before args s = true) ∧ va_K w.2.1 vwCl (tysW w) s ∧ (d ≤ R.frames ∧ 40 * d ≤ R.locals) ∧ (cells ≤ R.cells ∧ slots ≤ R.slots) ∧
  (∀ (n : Nat) (xs : Nat → Int32), sc = some (n, xs) → va_X (w.1 200) n xs s s.heap ∧ w.1 200 < s.heap.size ∧ ¬ A (w.1 200)) ∧ ∀ q ∈ nstL, va_Nw q s
def RI (mt : Mt) (r : Option Value) (pc : Nat) : Prop :=
  (∃ (v : Int32) (ty : FieldType), r = some (.int v) ∧ decode mt.2.1 pc = .ok (.ireturn, 1) ∧ mt.2.2.2 = some ty ∧ narrow ty (.int v) = .int v) ∨ (∃ v : Int64, r = some (.long v) ∧ decode mt.2.1 pc = .ok (.lreturn, 1) ∧ mt.2.2.2 = some .long) ∨ (r = none ∧ decode mt.2.1 pc = .ok (.return_, 1) ∧ mt.2.2.2 = none)
def RetOK (w : WC) (mt : Mt) (p : Program) (l : Launch) (e : Env) (R : Room) (s : State) (m : MethodId) (args : Array Value) (below : List Frame) (meth : Method) (c : Code) (cells slots : Nat) (A : Nat → Prop) (Q : Option Value → Mem → Prop) (Z : State → Prop) : Prop :=
  ∀ (r : Option Value) (σ : Mem) (H : Heap) (locs : List Loc), Q r σ → Rep w A σ H → va_S A s.heap H locs → ∀ (pc : Nat) (L : Array Slot), RI mt r pc → W p l e R s m args below meth c H locs cells slots Z (F0 m pc L ((r.map (cv w.1)).toList))
/-- the judgement: from this place of the method's body, with these locals and this stack, over the memory σ, the method returns with Q -/
def X (sc : Option (Nat × (Nat → Int32))) (d : Nat) (mt : Mt) (pc : Nat) (ls st : List Value) (σ : Mem) (Q : Option Value → Mem → Prop) : Prop :=
  ∀ (w : WC) (p : Program) (l : Launch) (e : Env) (R : Room) (s : State) (m : MethodId) (args : Array Value) (below : List Frame) (meth : Method) (c : Code) (cells slots : Nat) (A : Nat → Prop) (Z : State → Prop) (H : Heap) (locs : List Loc) (L : Array Slot),
    Cx w sc d mt p R s m args meth c cells slots A → RetOK w mt p l e R s m args below meth c cells slots A Q Z → Rep w A σ H → va_S A s.heap H locs → LH w.1 mt.2.2.1 L ls → W p l e R s m args below meth c H locs cells slots Z (F0 m pc L (st.map (cv w.1)))
section STEPS
variable {sc : Option (Nat × (Nat → Int32))} {d : Nat} {mt : Mt} {pc pc' : Nat} {ls st : List Value} {σ : Mem} {Q : Option Value → Mem → Prop}
theorem x_iconst {n : Int} {v : Int32} (hd : decode mt.2.1 pc = .ok (.iconst n, 1)) (hp : pc + 1 = pc') (hv : Int32.ofInt n = v) (k : X sc d mt pc' ls (.int v :: st) σ Q) : X sc d mt pc ls (st) σ Q := by
  intro w p l e R s m args below meth c cells slots A Z H locs L C rt P S hl
  subst hp
  exact lv_iconst C.1 C.2.1 hd hv (k w p l e R s m args below meth c cells slots A Z H locs L C rt P S hl)
theorem x_bipush {n : Int} {v : Int32} (hd : decode mt.2.1 pc = .ok (.bipush n, 2)) (hp : pc + 2 = pc') (hv : (Int8.ofInt n).toInt32 = v) (k : X sc d mt pc' ls (.int v :: st) σ Q) : X sc d mt pc ls (st) σ Q := by
  intro w p l e R s m args below meth c cells slots A Z H locs L C rt P S hl
  subst hp
  exact lv_bipush C.1 C.2.1 hd hv (k w p l e R s m args below meth c cells slots A Z H locs L C rt P S hl)
theorem x_sipush {n : Int} {v : Int32} (hd : decode mt.2.1 pc = .ok (.sipush n, 3)) (hp : pc + 3 = pc') (hv : (Int16.ofInt n).toInt32 = v) (k : X sc d mt pc' ls (.int v :: st) σ Q) : X sc d mt pc ls (st) σ Q := by
  intro w p l e R s m args below meth c cells slots A Z H locs L C rt P S hl
  subst hp
  exact lv_sipush C.1 C.2.1 hd hv (k w p l e R s m args below meth c cells slots A Z H locs L C rt P S hl)
theorem x_lconst {n : Fin 2} {v : Int64} (hd : decode mt.2.1 pc = .ok (.lconst n, 1)) (hp : pc + 1 = pc') (hv : Int64.ofNat (n : Nat) = v) (k : X sc d mt pc' ls (.long v :: st) σ Q) : X sc d mt pc ls (st) σ Q := by
  intro w p l e R s m args below meth c cells slots A Z H locs L C rt P S hl
  subst hp
  exact lv_lconst C.1 C.2.1 hd hv (k w p l e R s m args below meth c cells slots A Z H locs L C rt P S hl)
theorem x_iadd {x y : Int32} (hd : decode mt.2.1 pc = .ok (.iadd, 1)) (hp : pc + 1 = pc')  (k : X sc d mt pc' ls (.int (x + y) :: st) σ Q) : X sc d mt pc ls (.int y :: .int x :: st) σ Q := by
  intro w p l e R s m args below meth c cells slots A Z H locs L C rt P S hl
  subst hp
  exact lv_iadd C.1 C.2.1 hd  (k w p l e R s m args below meth c cells slots A Z H locs L C rt P S hl)
theorem x_isub {x y : Int32} (hd : decode mt.2.1 pc = .ok (.isub, 1)) (hp : pc + 1 = pc')  (k : X sc d mt pc' ls (.int (x - y) :: st) σ Q) : X sc d mt pc ls (.int y :: .int x :: st) σ Q := by
  intro w p l e R s m args below meth c cells slots A Z H locs L C rt P S hl
  subst hp
  exact lv_isub C.1 C.2.1 hd  (k w p l e R s m args below meth c cells slots A Z H locs L C rt P S hl)
theorem x_imul {x y : Int32} (hd : decode mt.2.1 pc = .ok (.imul, 1)) (hp : pc + 1 = pc')  (k : X sc d mt pc' ls (.int (x * y) :: st) σ Q) : X sc d mt pc ls (.int y :: .int x :: st) σ Q := by
  intro w p l e R s m args below meth c cells slots A Z H locs L C rt P S hl
  subst hp
  exact lv_imul C.1 C.2.1 hd  (k w p l e R s m args below meth c cells slots A Z H locs L C rt P S hl)
theorem x_iand {x y : Int32} (hd : decode mt.2.1 pc = .ok (.iand, 1)) (hp : pc + 1 = pc')  (k : X sc d mt pc' ls (.int (x &&& y) :: st) σ Q) : X sc d mt pc ls (.int y :: .int x :: st) σ Q := by
  intro w p l e R s m args below meth c cells slots A Z H locs L C rt P S hl
  subst hp
  exact lv_iand C.1 C.2.1 hd  (k w p l e R s m args below meth c cells slots A Z H locs L C rt P S hl)
theorem x_ior {x y : Int32} (hd : decode mt.2.1 pc = .ok (.ior, 1)) (hp : pc + 1 = pc')  (k : X sc d mt pc' ls (.int (x ||| y) :: st) σ Q) : X sc d mt pc ls (.int y :: .int x :: st) σ Q := by
  intro w p l e R s m args below meth c cells slots A Z H locs L C rt P S hl
  subst hp
  exact lv_ior C.1 C.2.1 hd  (k w p l e R s m args below meth c cells slots A Z H locs L C rt P S hl)
theorem x_ixor {x y : Int32} (hd : decode mt.2.1 pc = .ok (.ixor, 1)) (hp : pc + 1 = pc')  (k : X sc d mt pc' ls (.int (x ^^^ y) :: st) σ Q) : X sc d mt pc ls (.int y :: .int x :: st) σ Q := by
  intro w p l e R s m args below meth c cells slots A Z H locs L C rt P S hl
  subst hp
  exact lv_ixor C.1 C.2.1 hd  (k w p l e R s m args below meth c cells slots A Z H locs L C rt P S hl)
theorem x_ishl {x y : Int32} (hd : decode mt.2.1 pc = .ok (.ishl, 1)) (hp : pc + 1 = pc')  (k : X sc d mt pc' ls (.int (x <<< (y &&& 31)) :: st) σ Q) : X sc d mt pc ls (.int y :: .int x :: st) σ Q := by
  intro w p l e R s m args below meth c cells slots A Z H locs L C rt P S hl
  subst hp
  exact lv_ishl C.1 C.2.1 hd  (k w p l e R s m args below meth c cells slots A Z H locs L C rt P S hl)
theorem x_ishr {x y : Int32} (hd : decode mt.2.1 pc = .ok (.ishr, 1)) (hp : pc + 1 = pc')  (k : X sc d mt pc' ls (.int (x >>> (y &&& 31)) :: st) σ Q) : X sc d mt pc ls (.int y :: .int x :: st) σ Q := by
  intro w p l e R s m args below meth c cells slots A Z H locs L C rt P S hl
  subst hp
  exact lv_ishr C.1 C.2.1 hd  (k w p l e R s m args below meth c cells slots A Z H locs L C rt P S hl)
theorem x_iushr {x y : Int32} (hd : decode mt.2.1 pc = .ok (.iushr, 1)) (hp : pc + 1 = pc')  (k : X sc d mt pc' ls (.int ((x.toUInt32 >>> (y.toUInt32 &&& Int32.toUInt32 31)).toInt32) :: st) σ Q) : X sc d mt pc ls (.int y :: .int x :: st) σ Q := by
  intro w p l e R s m args below meth c cells slots A Z H locs L C rt P S hl
  subst hp
  exact lv_iushr C.1 C.2.1 hd rfl (k w p l e R s m args below meth c cells slots A Z H locs L C rt P S hl)
theorem x_idiv {x y : Int32} (hd : decode mt.2.1 pc = .ok (.idiv, 1)) (hp : pc + 1 = pc') (hne : ¬ y = 0) (k : X sc d mt pc' ls (.int (x / y) :: st) σ Q) : X sc d mt pc ls (.int y :: .int x :: st) σ Q := by
  intro w p l e R s m args below meth c cells slots A Z H locs L C rt P S hl
  subst hp
  exact lv_idiv C.1 C.2.1 hd hne (k w p l e R s m args below meth c cells slots A Z H locs L C rt P S hl)
theorem x_irem {x y : Int32} (hd : decode mt.2.1 pc = .ok (.irem, 1)) (hp : pc + 1 = pc') (hne : ¬ y = 0) (k : X sc d mt pc' ls (.int (x - x / y * y) :: st) σ Q) : X sc d mt pc ls (.int y :: .int x :: st) σ Q := by
  intro w p l e R s m args below meth c cells slots A Z H locs L C rt P S hl
  subst hp
  exact lv_irem C.1 C.2.1 hd hne (k w p l e R s m args below meth c cells slots A Z H locs L C rt P S hl)
theorem x_ineg {x : Int32} (hd : decode mt.2.1 pc = .ok (.ineg, 1)) (hp : pc + 1 = pc')  (k : X sc d mt pc' ls (.int (-x) :: st) σ Q) : X sc d mt pc ls (.int x :: st) σ Q := by
  intro w p l e R s m args below meth c cells slots A Z H locs L C rt P S hl
  subst hp
  exact lv_ineg C.1 C.2.1 hd  (k w p l e R s m args below meth c cells slots A Z H locs L C rt P S hl)
theorem x_ladd {x y : Int64} (hd : decode mt.2.1 pc = .ok (.ladd, 1)) (hp : pc + 1 = pc')  (k : X sc d mt pc' ls (.long (x + y) :: st) σ Q) : X sc d mt pc ls (.long y :: .long x :: st) σ Q := by
  intro w p l e R s m args below meth c cells slots A Z H locs L C rt P S hl
  subst hp
  exact lv_ladd C.1 C.2.1 hd  (k w p l e R s m args below meth c cells slots A Z H locs L C rt P S hl)
theorem x_lsub {x y : Int64} (hd : decode mt.2.1 pc = .ok (.lsub, 1)) (hp : pc + 1 = pc')  (k : X sc d mt pc' ls (.long (x - y) :: st) σ Q) : X sc d mt pc ls (.long y :: .long x :: st) σ Q := by
  intro w p l e R s m args below meth c cells slots A Z H locs L C rt P S hl
  subst hp
  exact lv_lsub C.1 C.2.1 hd  (k w p l e R s m args below meth c cells slots A Z H locs L C rt P S hl)
theorem x_lmul {x y : Int64} (hd : decode mt.2.1 pc = .ok (.lmul, 1)) (hp : pc + 1 = pc')  (k : X sc d mt pc' ls (.long (x * y) :: st) σ Q) : X sc d mt pc ls (.long y :: .long x :: st) σ Q := by
  intro w p l e R s m args below meth c cells slots A Z H locs L C rt P S hl
  subst hp
  exact lv_lmul C.1 C.2.1 hd  (k w p l e R s m args below meth c cells slots A Z H locs L C rt P S hl)
theorem x_ldiv {x y : Int64} (hd : decode mt.2.1 pc = .ok (.ldiv, 1)) (hp : pc + 1 = pc') (hne : ¬ y = 0) (k : X sc d mt pc' ls (.long (x / y) :: st) σ Q) : X sc d mt pc ls (.long y :: .long x :: st) σ Q := by
  intro w p l e R s m args below meth c cells slots A Z H locs L C rt P S hl
  subst hp
  exact lv_ldiv C.1 C.2.1 hd hne (k w p l e R s m args below meth c cells slots A Z H locs L C rt P S hl)
theorem x_lrem {x y : Int64} (hd : decode mt.2.1 pc = .ok (.lrem, 1)) (hp : pc + 1 = pc') (hne : ¬ y = 0) (k : X sc d mt pc' ls (.long (x - x / y * y) :: st) σ Q) : X sc d mt pc ls (.long y :: .long x :: st) σ Q := by
  intro w p l e R s m args below meth c cells slots A Z H locs L C rt P S hl
  subst hp
  exact lv_lrem C.1 C.2.1 hd hne (k w p l e R s m args below meth c cells slots A Z H locs L C rt P S hl)
theorem x_lcmp {x y : Int64} (hd : decode mt.2.1 pc = .ok (.lcmp, 1)) (hp : pc + 1 = pc')  (k : X sc d mt pc' ls (.int (lg_cmp x y) :: st) σ Q) : X sc d mt pc ls (.long y :: .long x :: st) σ Q := by
  intro w p l e R s m args below meth c cells slots A Z H locs L C rt P S hl
  subst hp
  exact W.lcmp C.1 C.2.1 hd  (k w p l e R s m args below meth c cells slots A Z H locs L C rt P S hl)
theorem x_i2l {x : Int32} (hd : decode mt.2.1 pc = .ok (.i2l, 1)) (hp : pc + 1 = pc')  (k : X sc d mt pc' ls (.long x.toInt64 :: st) σ Q) : X sc d mt pc ls (.int x :: st) σ Q := by
  intro w p l e R s m args below meth c cells slots A Z H locs L C rt P S hl
  subst hp
  exact lv_i2l C.1 C.2.1 hd rfl (k w p l e R s m args below meth c cells slots A Z H locs L C rt P S hl)
theorem x_l2i {x : Int64} (hd : decode mt.2.1 pc = .ok (.l2i, 1)) (hp : pc + 1 = pc')  (k : X sc d mt pc' ls (.int x.toInt32 :: st) σ Q) : X sc d mt pc ls (.long x :: st) σ Q := by
  intro w p l e R s m args below meth c cells slots A Z H locs L C rt P S hl
  subst hp
  exact lv_l2i C.1 C.2.1 hd rfl (k w p l e R s m args below meth c cells slots A Z H locs L C rt P S hl)
theorem cv_cat (ad : Nat → Nat) (v : Value) : (cv ad v).category = v.category := by cases v <;> rfl
theorem x_dup {v : Value} (hd : decode mt.2.1 pc = .ok (.dup, 1)) (hp : pc + 1 = pc') (hc : v.category = 1) (k : X sc d mt pc' ls (v :: v :: st) σ Q) : X sc d mt pc ls (v :: st) σ Q := by
  intro w p l e R s m args below meth c cells slots A Z H locs L C rt P S hl
  subst hp
  exact lv_dup C.1 C.2.1 hd ((cv_cat w.1 v).trans hc) (k w p l e R s m args below meth c cells slots A Z H locs L C rt P S hl)
theorem x_pop {v : Value} (hd : decode mt.2.1 pc = .ok (.pop, 1)) (hp : pc + 1 = pc') (hc : v.category = 1) (k : X sc d mt pc' ls (st) σ Q) : X sc d mt pc ls (v :: st) σ Q := by
  intro w p l e R s m args below meth c cells slots A Z H locs L C rt P S hl
  subst hp
  exact lv_pop C.1 C.2.1 hd ((cv_cat w.1 v).trans hc) (k w p l e R s m args below meth c cells slots A Z H locs L C rt P S hl)
theorem x_dup_x1 {v u : Value} (hd : decode mt.2.1 pc = .ok (.dup_x1, 1)) (hp : pc + 1 = pc') (hc : v.category = 1) (hu : u.category = 1) (k : X sc d mt pc' ls (v :: u :: v :: st) σ Q) : X sc d mt pc ls (v :: u :: st) σ Q := by
  intro w p l e R s m args below meth c cells slots A Z H locs L C rt P S hl
  subst hp
  exact lv_dup_x1 C.1 C.2.1 hd ((cv_cat w.1 v).trans hc) ((cv_cat w.1 u).trans hu) (k w p l e R s m args below meth c cells slots A Z H locs L C rt P S hl)
theorem x_dup2 {v u : Value} (hd : decode mt.2.1 pc = .ok (.dup2, 1)) (hp : pc + 1 = pc') (hc : v.category = 1) (hu : u.category = 1) (k : X sc d mt pc' ls (v :: u :: v :: u :: st) σ Q) : X sc d mt pc ls (v :: u :: st) σ Q := by
  intro w p l e R s m args below meth c cells slots A Z H locs L C rt P S hl
  subst hp
  exact lv_dup2_11 C.1 C.2.1 hd ((cv_cat w.1 v).trans hc) ((cv_cat w.1 u).trans hu) (k w p l e R s m args below meth c cells slots A Z H locs L C rt P S hl)
theorem x_iload_n {i : Nat} {j : Fin 4} {x : Int32} (hd : decode mt.2.1 pc = .ok (.iload_n j, 1)) (hp : pc + 1 = pc') (hj : (j : Nat) = i) (hi : ls[i]? = some (.int x)) (k : X sc d mt pc' ls (.int x :: st) σ Q) : X sc d mt pc ls st σ Q := by
  intro w p l e R s m args below meth c cells slots A Z H locs L C rt P S hl
  subst hp
  have h9 := hl.2.2.2 i _ hi (by intro q; cases q)
  exact lv_iload_n C.1 C.2.1 hd hj h9 (k w p l e R s m args below meth c cells slots A Z H locs L C rt P S hl)
theorem x_iload {i : Nat}  {x : Int32} (hd : decode mt.2.1 pc = .ok (.iload i, 2)) (hp : pc + 2 = pc')  (hi : ls[i]? = some (.int x)) (k : X sc d mt pc' ls (.int x :: st) σ Q) : X sc d mt pc ls st σ Q := by
  intro w p l e R s m args below meth c cells slots A Z H locs L C rt P S hl
  subst hp
  have h9 := hl.2.2.2 i _ hi (by intro q; cases q)
  exact lv_iload C.1 C.2.1 hd  h9 (k w p l e R s m args below meth c cells slots A Z H locs L C rt P S hl)
theorem x_lload_n {i : Nat} {j : Fin 4} {x : Int64} (hd : decode mt.2.1 pc = .ok (.lload_n j, 1)) (hp : pc + 1 = pc') (hj : (j : Nat) = i) (hi : ls[i]? = some (.long x)) (k : X sc d mt pc' ls (.long x :: st) σ Q) : X sc d mt pc ls st σ Q := by
  intro w p l e R s m args below meth c cells slots A Z H locs L C rt P S hl
  subst hp
  have h9 := hl.2.2.2 i _ hi (by intro q; cases q)
  exact lv_lload_n C.1 C.2.1 hd hj h9 (k w p l e R s m args below meth c cells slots A Z H locs L C rt P S hl)
theorem x_lload {i : Nat}  {x : Int64} (hd : decode mt.2.1 pc = .ok (.lload i, 2)) (hp : pc + 2 = pc')  (hi : ls[i]? = some (.long x)) (k : X sc d mt pc' ls (.long x :: st) σ Q) : X sc d mt pc ls st σ Q := by
  intro w p l e R s m args below meth c cells slots A Z H locs L C rt P S hl
  subst hp
  have h9 := hl.2.2.2 i _ hi (by intro q; cases q)
  exact lv_lload C.1 C.2.1 hd  h9 (k w p l e R s m args below meth c cells slots A Z H locs L C rt P S hl)
theorem x_aload_n {i : Nat} {j : Fin 4} {x : Nat} (hd : decode mt.2.1 pc = .ok (.aload_n j, 1)) (hp : pc + 1 = pc') (hj : (j : Nat) = i) (hi : ls[i]? = some (.ref x)) (k : X sc d mt pc' ls (.ref x :: st) σ Q) : X sc d mt pc ls st σ Q := by
  intro w p l e R s m args below meth c cells slots A Z H locs L C rt P S hl
  subst hp
  have h9 := hl.2.2.2 i _ hi (by intro q; cases q)
  exact lv_aload_n C.1 C.2.1 hd hj h9 (k w p l e R s m args below meth c cells slots A Z H locs L C rt P S hl)
theorem x_aload {i : Nat}  {x : Nat} (hd : decode mt.2.1 pc = .ok (.aload i, 2)) (hp : pc + 2 = pc')  (hi : ls[i]? = some (.ref x)) (k : X sc d mt pc' ls (.ref x :: st) σ Q) : X sc d mt pc ls st σ Q := by
  intro w p l e R s m args below meth c cells slots A Z H locs L C rt P S hl
  subst hp
  have h9 := hl.2.2.2 i _ hi (by intro q; cases q)
  exact lv_aload C.1 C.2.1 hd  h9 (k w p l e R s m args below meth c cells slots A Z H locs L C rt P S hl)
/-- a place may be written if the one ahead of it holds no long -/
def okst (ls : List Value) : Nat → Bool
  | 0 => true
  | i + 1 => match ls[i]? with
    | some (.long _) => false
    | _ => true
theorem okst_spec {ls : List Value} {i j : Nat} {v : Value} (h : okst ls i = true) (hj : j + 1 = i) (hv : ls[j]? = some v) (hq : v.category = 2) (hd : ∀ b, v ≠ .double b) : False := by
  subst hj
  simp only [okst, hv] at h
  cases v <;> first | (simp at h; done) | (exact hd _ rfl) | (simp [Value.category] at hq; done)
def prL (ad : Nat → Nat) (ls : List Value) : List (Nat × Value) := (List.range ls.length).filterMap (fun i => match ls[i]? with
  | some v => if v = Unk then none else some (i, cv ad v)
  | none => none)
theorem prL_mem {ad : Nat → Nat} {ls : List Value} {q : Nat × Value} : q ∈ prL ad ls ↔ ∃ v, ls[q.1]? = some v ∧ v ≠ Unk ∧ q.2 = cv ad v := by
  unfold prL
  rw [List.mem_filterMap]
  constructor
  · rintro ⟨i, hi, h⟩
    cases hv : ls[i]? with
    | none => rw [hv] at h; cases h
    | some v =>
      rw [hv] at h
      by_cases hu : v = Unk
      · simp [hu] at h
      · simp only [hu, if_false, Option.some.injEq] at h
        subst h
        exact ⟨v, hv, hu, rfl⟩
  · rintro ⟨v, hv, hu, h2⟩
    refine ⟨q.1, List.mem_range.mpr (List.getElem?_eq_some_iff.mp hv).1, ?_⟩
    rw [hv]
    simp only [hu, if_false, ← h2]
theorem LH.has {ad : Nat → Nat} {n : Nat} {L : Array Slot} {ls : List Value} (h : LH ad n L ls) : lv_has L n (prL ad ls) := by
  refine ⟨h.1, h.2.2.1, fun q hq => ?_⟩
  obtain ⟨v, h1, h2, h3⟩ := prL_mem.mp hq
  rw [h3]
  exact h.2.2.2 q.1 v h1 h2
def nod (ls : List Value) : Prop := ∀ (i : Nat) (b : UInt64), ls[i]? ≠ some (.double b)
theorem LH.set1 {ad : Nat → Nat} {n i : Nat} {L L' : Array Slot} {ls : List Value} {v : Value} (h0 : LH ad n L' ls) (hk : okst ls i = true) (hnd : ∀ j b, j + 1 = i → ls[j]? ≠ some (.double b)) (h : lv_has L n ((i, cv ad v) :: (prL ad ls).filter (fun q => !(q.1 == i) && !(q.1 + 1 == i && q.2.category == 2)))) : LH ad n L (ls.set i v) := by
  refine ⟨h.1, by rw [List.length_set]; exact h0.2.1, h.2.1, fun j u hj hu => ?_⟩
  by_cases hji : j = i
  · subst hji
    have hlt : j < ls.length := by
      have := (List.getElem?_eq_some_iff.mp hj).1
      rwa [List.length_set] at this
    rw [List.getElem?_set_self hlt] at hj
    cases hj
    exact h.2.2 (j, cv ad v) List.mem_cons_self
  · rw [List.getElem?_set_ne (Ne.symm hji)] at hj
    refine h.2.2 (j, cv ad u) (List.mem_cons_of_mem _ (List.mem_filter.mpr ⟨prL_mem.mpr ⟨u, hj, hu, rfl⟩, ?_⟩))
    have e1 : (j == i) = false := by simp [hji]
    simp only [e1, Bool.not_false, Bool.true_and, cv_cat]
    by_cases hc : j + 1 = i
    · by_cases hq : u.category = 2
      · exact (okst_spec hk hc hj hq (fun b hb => hnd j b hc (by rw [hj, hb]))).elim
      · simp [hq]
    · simp [hc]
theorem LH.set2 {ad : Nat → Nat} {n i : Nat} {L L' : Array Slot} {ls : List Value} {v : Value} (h0 : LH ad n L' ls) (hk : okst ls i = true) (hnd : ∀ j b, j + 1 = i → ls[j]? ≠ some (.double b)) (h : lv_has L n ((i, cv ad v) :: (prL ad ls).filter (fun q => !(q.1 == i) && (!(q.1 == i + 1) && !(q.1 + 1 == i && q.2.category == 2))))) : LH ad n L ((ls.set i v).set (i + 1) Unk) := by
  refine ⟨h.1, by rw [List.length_set, List.length_set]; exact h0.2.1, h.2.1, fun j u hj hu => ?_⟩
  by_cases hj1 : j = i + 1
  · subst hj1
    have hlt : i + 1 < (ls.set i v).length := by
      have := (List.getElem?_eq_some_iff.mp hj).1
      rwa [List.length_set] at this
    rw [List.getElem?_set_self hlt] at hj
    cases hj
    exact absurd rfl hu
  · rw [List.getElem?_set_ne (Ne.symm hj1)] at hj
    by_cases hji : j = i
    · subst hji
      have hlt : j < ls.length := by
        have := (List.getElem?_eq_some_iff.mp hj).1
        rwa [List.length_set] at this
      rw [List.getElem?_set_self hlt] at hj
      cases hj
      exact h.2.2 (j, cv ad v) List.mem_cons_self
    · rw [List.getElem?_set_ne (Ne.symm hji)] at hj
      refine h.2.2 (j, cv ad u) (List.mem_cons_of_mem _ (List.mem_filter.mpr ⟨prL_mem.mpr ⟨u, hj, hu, rfl⟩, ?_⟩))
      have e1 : (j == i) = false := by simp [hji]
      have e2 : (j == i + 1) = false := by simp [hj1]
      simp only [e1, e2, Bool.not_false, Bool.true_and, cv_cat]
      by_cases hc : j + 1 = i
      · by_cases hq : u.category = 2
        · exact (okst_spec hk hc hj hq (fun b hb => hnd j b hc (by rw [hj, hb]))).elim
        · simp [hq]
      · simp [hc]
theorem okst_nd {ls : List Value} {i : Nat} (h : (match i with
    | 0 => true
    | j + 1 => match ls[j]? with
      | some (.long _) => false
      | some (.double _) => false
      | _ => true) = true) : okst ls i = true ∧ ∀ j b, j + 1 = i → ls[j]? ≠ some (.double b) := by
  cases i with
  | zero => exact ⟨rfl, fun j b hj => by omega⟩
  | succ j =>
    simp only at h
    refine ⟨?_, fun j' b hj he => ?_⟩
    · simp only [okst]
      split <;> rename_i hq <;> simp_all
    · obtain rfl : j' = j := by omega
      rw [he] at h
      simp at h
def okS (ls : List Value) (i : Nat) : Bool := (match i with
    | 0 => true
    | j + 1 => match ls[j]? with
      | some (.long _) => false
      | some (.double _) => false
      | _ => true)
theorem x_istore_n {i : Nat} {j : Fin 4} {x : Int32} (hd : decode mt.2.1 pc = .ok (.istore_n j, 1)) (hp : pc + 1 = pc') (hj : (j : Nat) = i) (hn : i < mt.2.2.1) (hk : okS ls i = true) {ls' : List Value} (hs : ls.set i (.int x) = ls') (k : X sc d mt pc' ls' st σ Q) : X sc d mt pc ls (.int x :: st) σ Q := by
  intro w p l e R s m args below meth c cells slots A Z H locs L C rt P S hl
  subst hp
  subst hs
  refine lv_istore_n C.1 C.2.1 hd hj hl.has hn rfl (fun L1 h1 => ?_)
  exact k w p l e R s m args below meth c cells slots A Z H locs L1 C rt P S (LH.set1 hl (okst_nd hk).1 (okst_nd hk).2 h1)
theorem x_istore {i : Nat}  {x : Int32} (hd : decode mt.2.1 pc = .ok (.istore i, 2)) (hp : pc + 2 = pc')  (hn : i < mt.2.2.1) (hk : okS ls i = true) {ls' : List Value} (hs : ls.set i (.int x) = ls') (k : X sc d mt pc' ls' st σ Q) : X sc d mt pc ls (.int x :: st) σ Q := by
  intro w p l e R s m args below meth c cells slots A Z H locs L C rt P S hl
  subst hp
  subst hs
  refine lv_istore C.1 C.2.1 hd  hl.has hn rfl (fun L1 h1 => ?_)
  exact k w p l e R s m args below meth c cells slots A Z H locs L1 C rt P S (LH.set1 hl (okst_nd hk).1 (okst_nd hk).2 h1)
theorem x_astore_n {i : Nat} {j : Fin 4} {x : Nat} (hd : decode mt.2.1 pc = .ok (.astore_n j, 1)) (hp : pc + 1 = pc') (hj : (j : Nat) = i) (hn : i < mt.2.2.1) (hk : okS ls i = true) {ls' : List Value} (hs : ls.set i (.ref x) = ls') (k : X sc d mt pc' ls' st σ Q) : X sc d mt pc ls (.ref x :: st) σ Q := by
  intro w p l e R s m args below meth c cells slots A Z H locs L C rt P S hl
  subst hp
  subst hs
  refine lv_astore_n C.1 C.2.1 hd hj hl.has hn rfl (fun L1 h1 => ?_)
  exact k w p l e R s m args below meth c cells slots A Z H locs L1 C rt P S (LH.set1 hl (okst_nd hk).1 (okst_nd hk).2 h1)
theorem x_lstore_n {i : Nat} {j : Fin 4} {x : Int64} (hd : decode mt.2.1 pc = .ok (.lstore_n j, 1)) (hp : pc + 1 = pc') (hj : (j : Nat) = i) (hn : i + 1 < mt.2.2.1) (hk : okS ls i = true) {ls' : List Value} (hs : (ls.set i (.long x)).set (i + 1) Unk = ls') (k : X sc d mt pc' ls' st σ Q) : X sc d mt pc ls (.long x :: st) σ Q := by
  intro w p l e R s m args below meth c cells slots A Z H locs L C rt P S hl
  subst hp
  subst hs
  refine lv_lstore_n C.1 C.2.1 hd hj hl.has hn rfl (fun L1 h1 => ?_)
  exact k w p l e R s m args below meth c cells slots A Z H locs L1 C rt P S (LH.set2 hl (okst_nd hk).1 (okst_nd hk).2 h1)
theorem x_lstore {i : Nat}  {x : Int64} (hd : decode mt.2.1 pc = .ok (.lstore i, 2)) (hp : pc + 2 = pc')  (hn : i + 1 < mt.2.2.1) (hk : okS ls i = true) {ls' : List Value} (hs : (ls.set i (.long x)).set (i + 1) Unk = ls') (k : X sc d mt pc' ls' st σ Q) : X sc d mt pc ls (.long x :: st) σ Q := by
  intro w p l e R s m args below meth c cells slots A Z H locs L C rt P S hl
  subst hp
  subst hs
  refine lv_lstore C.1 C.2.1 hd  hl.has hn rfl (fun L1 h1 => ?_)
  exact k w p l e R s m args below meth c cells slots A Z H locs L1 C rt P S (LH.set2 hl (okst_nd hk).1 (okst_nd hk).2 h1)
theorem prL_at {ad : Nat → Nat} {ls : List Value} {i : Nat} {v : Value} (h : ls[i]? = some v) (hu : v ≠ Unk) : ∃ k : Nat, (prL ad ls)[k]? = some (i, cv ad v) :=
  List.getElem?_of_mem (prL_mem.mpr ⟨v, h, hu, rfl⟩)
theorem x_iinc {i : Nat} {n : Int} {x v : Int32} (hd : decode mt.2.1 pc = .ok (.iinc i n, 3)) (hp : pc + 3 = pc') (hn : i < mt.2.2.1) (hi : ls[i]? = some (.int x)) (hk : okS ls i = true) (hv : Int32.ofInt n = v) {ls' : List Value} (hs : ls.set i (.int (x + v)) = ls') (k : X sc d mt pc' ls' st σ Q) : X sc d mt pc ls st σ Q := by
  intro w p l e R s m args below meth c cells slots A Z H locs L C rt P S hl
  subst hp
  subst hs
  subst hv
  obtain ⟨k9, h9⟩ := prL_at (ad := w.1) hi (by intro q; cases q)
  refine lv_iinc C.1 C.2.1 hd hl.has h9 rfl hn rfl (fun L1 h1 => ?_)
  exact k w p l e R s m args below meth c cells slots A Z H locs L1 C rt P S (LH.set1 (v := .int (x + Int32.ofInt n)) hl (okst_nd hk).1 (okst_nd hk).2 h1)
theorem x_forget (i : Nat) {ls' : List Value} (hs : ls.set i Unk = ls') (k : X sc d mt pc ls' st σ Q) : X sc d mt pc ls st σ Q := by
  intro w p l e R s m args below meth c cells slots A Z H locs L C rt P S hl
  subst hs
  refine k w p l e R s m args below meth c cells slots A Z H locs L C rt P S ⟨hl.1, by rw [List.length_set]; exact hl.2.1, hl.2.2.1, fun j v hj hu => ?_⟩
  by_cases hji : j = i
  · subst hji
    have hlt : j < ls.length := by
      have := (List.getElem?_eq_some_iff.mp hj).1
      rwa [List.length_set] at this
    rw [List.getElem?_set_self hlt] at hj
    cases hj
    exact absurd rfl hu
  · rw [List.getElem?_set_ne (Ne.symm hji)] at hj
    exact hl.2.2.2 j v hj hu
theorem x_goto {off : Int} (hd : decode mt.2.1 pc = .ok (.goto off, 3)) (ht : (pc : Int) + off = (pc' : Int)) (k : X sc d mt pc' ls st σ Q) : X sc d mt pc ls st σ Q := by
  intro w p l e R s m args below meth c cells slots A Z H locs L C rt P S hl
  exact lv_goto C.1 C.2.1 hd ht (k w p l e R s m args below meth c cells slots A Z H locs L C rt P S hl)
theorem x_if_eq {x : Int32} {off : Int} {tgt : Nat} (hd : decode mt.2.1 pc = .ok (.ifCond .eq off, 3)) (ht : (pc : Int) + off = (tgt : Int)) (hp : pc + 3 = pc') (kt : x = 0 → X sc d mt tgt ls st σ Q) (kf : ¬ x = 0 → X sc d mt pc' ls st σ Q) : X sc d mt pc ls (.int x :: st) σ Q := by
  intro w p l e R s m args below meth c cells slots A Z H locs L C rt P S hl
  subst hp
  exact lv_if_eq C.1 C.2.1 hd ht (fun hc => kt hc w p l e R s m args below meth c cells slots A Z H locs L C rt P S hl) (fun hc => kf hc w p l e R s m args below meth c cells slots A Z H locs L C rt P S hl)
theorem x_if_ne {x : Int32} {off : Int} {tgt : Nat} (hd : decode mt.2.1 pc = .ok (.ifCond .ne off, 3)) (ht : (pc : Int) + off = (tgt : Int)) (hp : pc + 3 = pc') (kt : ¬ x = 0 → X sc d mt tgt ls st σ Q) (kf : x = 0 → X sc d mt pc' ls st σ Q) : X sc d mt pc ls (.int x :: st) σ Q := by
  intro w p l e R s m args below meth c cells slots A Z H locs L C rt P S hl
  subst hp
  exact lv_if_ne C.1 C.2.1 hd ht (fun hc => kt hc w p l e R s m args below meth c cells slots A Z H locs L C rt P S hl) (fun hc => kf hc w p l e R s m args below meth c cells slots A Z H locs L C rt P S hl)
theorem x_if_lt {x : Int32} {off : Int} {tgt : Nat} (hd : decode mt.2.1 pc = .ok (.ifCond .lt off, 3)) (ht : (pc : Int) + off = (tgt : Int)) (hp : pc + 3 = pc') (kt : x < 0 → X sc d mt tgt ls st σ Q) (kf : ¬ x < 0 → X sc d mt pc' ls st σ Q) : X sc d mt pc ls (.int x :: st) σ Q := by
  intro w p l e R s m args below meth c cells slots A Z H locs L C rt P S hl
  subst hp
  exact lv_if_lt C.1 C.2.1 hd ht (fun hc => kt hc w p l e R s m args below meth c cells slots A Z H locs L C rt P S hl) (fun hc => kf hc w p l e R s m args below meth c cells slots A Z H locs L C rt P S hl)
theorem x_if_ge {x : Int32} {off : Int} {tgt : Nat} (hd : decode mt.2.1 pc = .ok (.ifCond .ge off, 3)) (ht : (pc : Int) + off = (tgt : Int)) (hp : pc + 3 = pc') (kt : 0 ≤ x → X sc d mt tgt ls st σ Q) (kf : ¬ 0 ≤ x → X sc d mt pc' ls st σ Q) : X sc d mt pc ls (.int x :: st) σ Q := by
  intro w p l e R s m args below meth c cells slots A Z H locs L C rt P S hl
  subst hp
  exact lv_if_ge C.1 C.2.1 hd ht (fun hc => kt hc w p l e R s m args below meth c cells slots A Z H locs L C rt P S hl) (fun hc => kf hc w p l e R s m args below meth c cells slots A Z H locs L C rt P S hl)
theorem x_if_gt {x : Int32} {off : Int} {tgt : Nat} (hd : decode mt.2.1 pc = .ok (.ifCond .gt off, 3)) (ht : (pc : Int) + off = (tgt : Int)) (hp : pc + 3 = pc') (kt : 0 < x → X sc d mt tgt ls st σ Q) (kf : ¬ 0 < x → X sc d mt pc' ls st σ Q) : X sc d mt pc ls (.int x :: st) σ Q := by
  intro w p l e R s m args below meth c cells slots A Z H locs L C rt P S hl
  subst hp
  exact lv_if_gt C.1 C.2.1 hd ht (fun hc => kt hc w p l e R s m args below meth c cells slots A Z H locs L C rt P S hl) (fun hc => kf hc w p l e R s m args below meth c cells slots A Z H locs L C rt P S hl)
theorem x_if_le {x : Int32} {off : Int} {tgt : Nat} (hd : decode mt.2.1 pc = .ok (.ifCond .le off, 3)) (ht : (pc : Int) + off = (tgt : Int)) (hp : pc + 3 = pc') (kt : x ≤ 0 → X sc d mt tgt ls st σ Q) (kf : ¬ x ≤ 0 → X sc d mt pc' ls st σ Q) : X sc d mt pc ls (.int x :: st) σ Q := by
  intro w p l e R s m args below meth c cells slots A Z H locs L C rt P S hl
  subst hp
  exact lv_if_le C.1 C.2.1 hd ht (fun hc => kt hc w p l e R s m args below meth c cells slots A Z H locs L C rt P S hl) (fun hc => kf hc w p l e R s m args below meth c cells slots A Z H locs L C rt P S hl)
theorem x_icmp_eq {x y : Int32} {off : Int} {tgt : Nat} (hd : decode mt.2.1 pc = .ok (.if_icmp .eq off, 3)) (ht : (pc : Int) + off = (tgt : Int)) (hp : pc + 3 = pc') (kt : x = y → X sc d mt tgt ls st σ Q) (kf : ¬ x = y → X sc d mt pc' ls st σ Q) : X sc d mt pc ls (.int y :: .int x :: st) σ Q := by
  intro w p l e R s m args below meth c cells slots A Z H locs L C rt P S hl
  subst hp
  exact lv_icmp_eq C.1 C.2.1 hd ht (fun hc => kt hc w p l e R s m args below meth c cells slots A Z H locs L C rt P S hl) (fun hc => kf hc w p l e R s m args below meth c cells slots A Z H locs L C rt P S hl)
theorem x_icmp_ne {x y : Int32} {off : Int} {tgt : Nat} (hd : decode mt.2.1 pc = .ok (.if_icmp .ne off, 3)) (ht : (pc : Int) + off = (tgt : Int)) (hp : pc + 3 = pc') (kt : ¬ x = y → X sc d mt tgt ls st σ Q) (kf : x = y → X sc d mt pc' ls st σ Q) : X sc d mt pc ls (.int y :: .int x :: st) σ Q := by
  intro w p l e R s m args below meth c cells slots A Z H locs L C rt P S hl
  subst hp
  exact lv_icmp_ne C.1 C.2.1 hd ht (fun hc => kt hc w p l e R s m args below meth c cells slots A Z H locs L C rt P S hl) (fun hc => kf hc w p l e R s m args below meth c cells slots A Z H locs L C rt P S hl)
theorem x_icmp_lt {x y : Int32} {off : Int} {tgt : Nat} (hd : decode mt.2.1 pc = .ok (.if_icmp .lt off, 3)) (ht : (pc : Int) + off = (tgt : Int)) (hp : pc + 3 = pc') (kt : x < y → X sc d mt tgt ls st σ Q) (kf : ¬ x < y → X sc d mt pc' ls st σ Q) : X sc d mt pc ls (.int y :: .int x :: st) σ Q := by
  intro w p l e R s m args below meth c cells slots A Z H locs L C rt P S hl
  subst hp
  exact lv_icmp_lt C.1 C.2.1 hd ht (fun hc => kt hc w p l e R s m args below meth c cells slots A Z H locs L C rt P S hl) (fun hc => kf hc w p l e R s m args below meth c cells slots A Z H locs L C rt P S hl)
theorem x_icmp_ge {x y : Int32} {off : Int} {tgt : Nat} (hd : decode mt.2.1 pc = .ok (.if_icmp .ge off, 3)) (ht : (pc : Int) + off = (tgt : Int)) (hp : pc + 3 = pc') (kt : y ≤ x → X sc d mt tgt ls st σ Q) (kf : ¬ y ≤ x → X sc d mt pc' ls st σ Q) : X sc d mt pc ls (.int y :: .int x :: st) σ Q := by
  intro w p l e R s m args below meth c cells slots A Z H locs L C rt P S hl
  subst hp
  exact lv_icmp_ge C.1 C.2.1 hd ht (fun hc => kt hc w p l e R s m args below meth c cells slots A Z H locs L C rt P S hl) (fun hc => kf hc w p l e R s m args below meth c cells slots A Z H locs L C rt P S hl)
theorem x_icmp_gt {x y : Int32} {off : Int} {tgt : Nat} (hd : decode mt.2.1 pc = .ok (.if_icmp .gt off, 3)) (ht : (pc : Int) + off = (tgt : Int)) (hp : pc + 3 = pc') (kt : y < x → X sc d mt tgt ls st σ Q) (kf : ¬ y < x → X sc d mt pc' ls st σ Q) : X sc d mt pc ls (.int y :: .int x :: st) σ Q := by
  intro w p l e R s m args below meth c cells slots A Z H locs L C rt P S hl
  subst hp
  exact lv_icmp_gt C.1 C.2.1 hd ht (fun hc => kt hc w p l e R s m args below meth c cells slots A Z H locs L C rt P S hl) (fun hc => kf hc w p l e R s m args below meth c cells slots A Z H locs L C rt P S hl)
theorem x_icmp_le {x y : Int32} {off : Int} {tgt : Nat} (hd : decode mt.2.1 pc = .ok (.if_icmp .le off, 3)) (ht : (pc : Int) + off = (tgt : Int)) (hp : pc + 3 = pc') (kt : x ≤ y → X sc d mt tgt ls st σ Q) (kf : ¬ x ≤ y → X sc d mt pc' ls st σ Q) : X sc d mt pc ls (.int y :: .int x :: st) σ Q := by
  intro w p l e R s m args below meth c cells slots A Z H locs L C rt P S hl
  subst hp
  exact lv_icmp_le C.1 C.2.1 hd ht (fun hc => kt hc w p l e R s m args below meth c cells slots A Z H locs L C rt P S hl) (fun hc => kf hc w p l e R s m args below meth c cells slots A Z H locs L C rt P S hl)
theorem x_tblIn {dflt lo hi : Int} {offs : Array Int} {len : Nat} {x : Int32} {off : Int} (hd : decode mt.2.1 pc = .ok (.tableswitch dflt lo hi offs, len)) (h1 : ¬ x.toInt < lo) (h2 : ¬ hi < x.toInt) (ho : offs[(x.toInt - lo).toNat]? = some off) (ht : (pc : Int) + off = (pc' : Int)) (k : X sc d mt pc' ls st σ Q) : X sc d mt pc ls (.int x :: st) σ Q := by
  intro w p l e R s m args below meth c cells slots A Z H locs L C rt P S hl
  exact lv_tableIn C.1 C.2.1 hd h1 h2 ho ht (k w p l e R s m args below meth c cells slots A Z H locs L C rt P S hl)
theorem x_tblOut {dflt lo hi : Int} {offs : Array Int} {len : Nat} {x : Int32} (hd : decode mt.2.1 pc = .ok (.tableswitch dflt lo hi offs, len)) (h : x.toInt < lo ∨ hi < x.toInt) (ht : (pc : Int) + dflt = (pc' : Int)) (k : X sc d mt pc' ls st σ Q) : X sc d mt pc ls (.int x :: st) σ Q := by
  intro w p l e R s m args below meth c cells slots A Z H locs L C rt P S hl
  exact lv_tableOut C.1 C.2.1 hd h ht (k w p l e R s m args below meth c cells slots A Z H locs L C rt P S hl)
theorem x_lookup {dflt : Int} {ps : Array (Int × Int)} {len : Nat} {x : Int32} {off : Int} (hd : decode mt.2.1 pc = .ok (.lookupswitch dflt ps, len)) (hp : (ps.toList.zip (ps.toList.drop 1)).all (fun (a, next) => a.1 < next.1) = true) (ho : Op.lookupswitch.offset ps.toList dflt x.toInt = off) (ht : (pc : Int) + off = (pc' : Int)) (k : X sc d mt pc' ls st σ Q) : X sc d mt pc ls (.int x :: st) σ Q := by
  intro w p l e R s m args below meth c cells slots A Z H locs L C rt P S hl
  exact lv_lookup C.1 C.2.1 hd hp ho ht (k w p l e R s m args below meth c cells slots A Z H locs L C rt P S hl)
theorem x_ldc {index : Nat} {v : Int32} (hd : decode mt.2.1 pc = .ok (.ldc index, 2)) (hp : pc + 2 = pc') (hc : Cond.constant mt.1.cls index v ∈ lwG) (k : X sc d mt pc' ls (.int v :: st) σ Q) : X sc d mt pc ls st σ Q := by
  intro w p l e R s m args below meth c cells slots A Z H locs L C rt P S hl
  subst hp
  exact lv_ldc C.1 C.2.1 C.2.2.2.1 (C.2.2.2.2.2.2.1 _ hc) hd (k w p l e R s m args below meth c cells slots A Z H locs L C rt P S hl)
theorem x_ldcw {index : Nat} {v : Int32} (hd : decode mt.2.1 pc = .ok (.ldc_w index, 3)) (hp : pc + 3 = pc') (hc : Cond.constant mt.1.cls index v ∈ lwG) (k : X sc d mt pc' ls (.int v :: st) σ Q) : X sc d mt pc ls st σ Q := by
  intro w p l e R s m args below meth c cells slots A Z H locs L C rt P S hl
  subst hp
  exact lv_ldcw C.1 C.2.1 C.2.2.2.1 (C.2.2.2.2.2.2.1 _ hc) hd (k w p l e R s m args below meth c cells slots A Z H locs L C rt P S hl)
theorem x_ldc2 {index : Nat} {v : Int64} (hd : decode mt.2.1 pc = .ok (.ldc2_w index, 3)) (hp : pc + 3 = pc') (hc : Cond.constantLong mt.1.cls index v ∈ lwG) (k : X sc d mt pc' ls (.long v :: st) σ Q) : X sc d mt pc ls st σ Q := by
  intro w p l e R s m args below meth c cells slots A Z H locs L C rt P S hl
  subst hp
  exact lv_ldc2 C.1 C.2.1 C.2.2.2.1 (C.2.2.2.2.2.2.1 _ hc) hd (k w p l e R s m args below meth c cells slots A Z H locs L C rt P S hl)
end STEPS
