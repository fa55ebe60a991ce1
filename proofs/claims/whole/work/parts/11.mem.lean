/-! Steps that read or write the memory, returns, calls. -/
theorem gd_in {ws : List Cond} (h : ∀ w ∈ ws, w ∈ lwG) : GoodIn lwG ws := fun w hw => ⟨h w hw, good_of_word (List.mem_filter.mp (h w hw)).2⟩
theorem nst_on {w : Cond} (h : w ∈ nstL) : w.onTables = true := by
  have h1 := (List.mem_filter.mp h).2
  cases w <;> first | rfl | (simp [isNst] at h1; done)
theorem nst_warm {w : Cond} (h : w ∈ nstL) {s U : State} (hW : s.WarmedH U.vm) (hZ : va_Nw w s) : va_Nw w U := by
  have h1 := (List.mem_filter.mp h).2
  cases w <;> first | exact va_Nw.warmF hW hZ | (simp [isNst] at h1; done)
/-- what links a field's place in a class file: class number, slot, final or not, its type -/
def LkF (own : String) (idx ci k : Nat) (fin : Bool) (ty : FieldType) : Prop := ∃ (C : String) (T : u_T) (N : Nat) (ty0 : Nat → FieldType), vwCl[ci]? = some (C, T, N) ∧ k < N ∧ N = nf ci ∧ (∀ w ∈ u_ws C T N, w ∈ lwG) ∧ (∀ j, j < N → parseFieldDescriptor (T j).2.2.1 = some (ty0 j)) ∧ (∀ a, a < N → ∀ b, b < N → a ≠ b → (T a).2.1 ≠ (T b).2.1) ∧
  (Cond.fieldLink own idx (T k).1 (T k).2.1 (T k).2.2.1 ∈ lwG ∨ ∃ host, Cond.fieldLinkNest own idx (T k).1 (T k).2.1 (T k).2.2.1 host ∈ nstL) ∧ (T k).2.2.2 = fin ∧ ty0 k = ty
theorem vwCl_lt {ci : Nat} {q : vw_C} (h : vwCl[ci]? = some q) : ci < 9 := (List.getElem?_eq_some_iff.mp h).1
def LkV (own : String) (idx : Nat) (mj : Mt) (ci n : Nat) : Prop := ∃ (C : String) (T : u_T) (N : Nat), vwCl[ci]? = some (C, T, N) ∧ mj.1.cls = C ∧ Cond.methodLink own idx mj.1 ∈ lwG ∧ Cond.instanceMethod mj.1 ∈ lwG ∧ Cond.selects C mj.1 mj.1 ∈ lwG ∧ Cond.initialized C ∈ lwG ∧ Cond.code mj.1 mj.2.1 mj.2.2.1 mj.2.2.2 ∈ lwG ∧ plainName mj.1.cls = true ∧
  (mj.1.cls ≠ "java/lang/invoke/MethodHandle" ∧ mj.1.cls ≠ "java/lang/invoke/VarHandle" ∧ (parseMethodDescriptor mj.1.desc).map (fun d => d.parameters.length) = some n) ∧ mj.2.2.1 ≤ 21
def LkS (own : String) (idx : Nat) (mj : Mt) (n : Nat) : Prop := Cond.methodLink own idx mj.1 ∈ lwG ∧ Cond.static mj.1 ∈ lwG ∧ Cond.initialized mj.1.cls ∈ lwG ∧ Cond.code mj.1 mj.2.1 mj.2.2.1 mj.2.2.2 ∈ lwG ∧ plainName mj.1.cls = true ∧
  (mj.1.cls ≠ "java/lang/invoke/MethodHandle" ∧ mj.1.cls ≠ "java/lang/invoke/VarHandle" ∧ (parseMethodDescriptor mj.1.desc).map (fun d => d.parameters.length) = some n) ∧ mj.2.2.1 ≤ 21
section MSTEPS
variable {sc : Option (Nat × (Nat → Int32))} {d : Nat} {mt : Mt} {pc pc' : Nat} {ls st : List Value} {σ : Mem} {Q : Option Value → Mem → Prop}
theorem x_getf {idx ci k a : Nat} {fin : Bool} {ty : FieldType} (hd : decode mt.2.1 pc = .ok (.getfield idx, 3)) (hp : pc + 3 = pc') (lk : LkF mt.1.cls idx ci k fin ty) (ha : kd a = ci) {v : Value} (hv : ∀ w : WC, cv w.1 v = fv w σ a k) (kk : X sc d mt pc' ls (v :: st) σ Q) : X sc d mt pc ls (.ref a :: st) σ Q := by
  intro w p l e R s m args below meth c cells slots A Z H locs L C rt P S hl
  subst hp
  obtain ⟨C', T, N, ty0, hc, hk, hN, hin, hty, hnm, hlk, hfin, hty1⟩ := lk
  have hci := vwCl_lt hc
  have hi := kd_lt (i := a) (by rw [ha]; omega)
  have he : (wsM w σ)[a]? = some (w.1 a, .inr (ci, fvs w σ a)) := by rw [ws_get hi, cel_o ha hci]
  have hv1 : (fvs w σ a)[k]? = some (cv w.1 v) := by rw [fvs_get (by rw [ha, ← hN]; exact hk), hv w]
  have kk' := kk w p l e R s m args below meth c cells slots A Z H locs L C rt P S hl
  rcases hlk with hlk | ⟨host, hlk⟩
  · exact va_get (D := w.2.1) (ci := ci) (C := C') (T := T) (N := N) C.1 C.2.1 C.2.2.2.2.2.2.1 hin C.2.2.2.1 C.2.2.2.2.2.2.2.1 P.1 a he hc k hk (C.2.2.2.2.2.2.1 _ hlk) (fun _ h => h) hv1 hd kk'
  · exact va_getN (D := w.2.1) (ci := ci) (C := C') (T := T) (N := N) C.1 C.2.1 C.2.2.2.2.2.2.1 hin C.2.2.2.1 C.2.2.2.2.2.2.2.1 P.1 a he hc k hk (va_Nw.use rfl (C.2.2.2.2.2.2.2.2.2.2.2 _ hlk)) (fun _ h => h) hv1 hd kk'
theorem x_geti {idx ci k a : Nat} {fin : Bool} {ty : FieldType} (hd : decode mt.2.1 pc = .ok (.getfield idx, 3)) (hp : pc + 3 = pc') (lk : LkF mt.1.cls idx ci k fin ty) (ha : kd a = ci) (hf : fk ci k = 0) (kk : X sc d mt pc' ls (.int (σ.1 a k) :: st) σ Q) : X sc d mt pc ls (.ref a :: st) σ Q :=
  x_getf hd hp lk ha (v := .int (σ.1 a k)) (fun w => by simp [fv, ha, hf, cv]) kk
theorem x_getl {idx ci k a : Nat} {fin : Bool} {ty : FieldType} (hd : decode mt.2.1 pc = .ok (.getfield idx, 3)) (hp : pc + 3 = pc') (lk : LkF mt.1.cls idx ci k fin ty) (ha : kd a = ci) (hf : fk ci k = 1) (kk : X sc d mt pc' ls (.long (σ.2 a k) :: st) σ Q) : X sc d mt pc ls (.ref a :: st) σ Q :=
  x_getf hd hp lk ha (v := .long (σ.2 a k)) (fun w => by simp [fv, ha, hf, cv]) kk
theorem x_getr {idx ci k a b : Nat} {fin : Bool} {ty : FieldType} (hd : decode mt.2.1 pc = .ok (.getfield idx, 3)) (hp : pc + 3 = pc') (lk : LkF mt.1.cls idx ci k fin ty) (ha : kd a = ci) (hf : fk ci k = 2) (hr : rf a k = b) (kk : X sc d mt pc' ls (.ref b :: st) σ Q) : X sc d mt pc ls (.ref a :: st) σ Q :=
  x_getf hd hp lk ha (v := .ref b) (fun w => by simp [fv, ha, hf, cv, hr]) kk
theorem x_put {idx ci k a : Nat} {ty : FieldType} {v : Value} {σ' : Mem} (hd : decode mt.2.1 pc = .ok (.putfield idx, 3)) (hp : pc + 3 = pc') (lk : LkF mt.1.cls idx ci k false ty) (ha : kd a = ci) (hn : ∀ w : WC, narrow ty (cv w.1 v) = cv w.1 v) (hft : ∀ w : WC, fits ty (cv w.1 v) = true) (h1 : ∀ w : WC, cv w.1 v = fv w σ' a k) (h2 : ∀ (w : WC) (j : Nat), j ≠ k → fv w σ' a j = fv w σ a j) (h3 : ∀ j, j ≠ a → σ'.1 j = σ.1 j ∧ σ'.2 j = σ.2 j) (kk : X sc d mt pc' ls st σ' Q) : X sc d mt pc ls (v :: .ref a :: st) σ Q := by
  intro w p l e R s m args below meth c cells slots A Z H locs L C rt P S hl
  subst hp
  obtain ⟨C', T, N, ty0, hc, hk, hN, hin, hty, hnm, hlk, hfin, hty1⟩ := lk
  have hci := vwCl_lt hc
  have hi := kd_lt (i := a) (by rw [ha]; omega)
  have he : (wsM w σ)[a]? = some (w.1 a, .inr (ci, fvs w σ a)) := by rw [ws_get hi, cel_o ha hci]
  have hlen : k < (fvs w σ a).length := by simp only [fvs, List.length_map, List.length_range]; rw [ha, ← hN]; exact hk
  have hpd : parseFieldDescriptor (T k).2.2.1 = some ty := by rw [hty k hk, hty1]
  have hset : (wsM w σ).set a (w.1 a, .inr (ci, (fvs w σ a).set k (cv w.1 v))) = wsM w σ' := ws_set (by rw [cel_o ha hci, fvs_set (h1 w) (h2 w)]) (fun j hj => cel_congr (h3 j hj).1 (h3 j hj).2)
  have kk' : ∀ (H1 : Heap) (locs1 : List Loc), va_P w.2.1 vwCl ((wsM w σ).set a (w.1 a, .inr (ci, (fvs w σ a).set k (cv w.1 v)))) H1 → va_D A ((wsM w σ).set a (w.1 a, .inr (ci, (fvs w σ a).set k (cv w.1 v)))) → va_S A s.heap H1 locs1 → W p l e R s m args below meth c H1 locs1 cells slots Z (F0 m (pc + 3) L (st.map (cv w.1))) := by
    rw [hset]
    intro H1 locs1 q1 q2 q3
    exact kk w p l e R s m args below meth c cells slots A Z H1 locs1 L C rt ⟨q1, q2⟩ q3 hl
  rcases hlk with hlk | ⟨host, hlk⟩
  · exact va_put (D := w.2.1) (ci := ci) (C := C') (T := T) (N := N) C.1 C.2.1 C.2.2.2.2.2.2.1 hin ty0 hty hnm C.2.2.2.1 C.2.2.2.2.2.2.2.1 P.1 P.2 S a he hc k hk (C.2.2.2.2.2.2.1 _ hlk) (fun _ h => h) hfin hpd (hn w) (hft w) hlen hd kk'
  · exact va_putN (D := w.2.1) (ci := ci) (C := C') (T := T) (N := N) C.1 C.2.1 C.2.2.2.2.2.2.1 hin ty0 hty hnm C.2.2.2.1 C.2.2.2.2.2.2.2.1 P.1 P.2 S a he hc k hk (va_Nw.use rfl (C.2.2.2.2.2.2.2.2.2.2.2 _ hlk)) (fun _ h => h) hfin hpd (hn w) (hft w) hlen hd kk'
theorem x_puti {idx ci k a : Nat} {ty : FieldType} {v : Int32} (hd : decode mt.2.1 pc = .ok (.putfield idx, 3)) (hp : pc + 3 = pc') (lk : LkF mt.1.cls idx ci k false ty) (ha : kd a = ci) (hf : fk ci k = 0) (hn : narrow ty (.int v) = .int v) (hft : fits ty (.int v) = true) (kk : X sc d mt pc' ls st (w1 σ a k v) Q) : X sc d mt pc ls (.int v :: .ref a :: st) σ Q := by
  refine x_put hd hp lk ha (fun _ => hn) (fun _ => hft) (σ' := w1 σ a k v) (fun w => ?_) (fun w j hj => ?_) (fun j hj => ⟨w1_off hj, rfl⟩) kk
  · simp [fv, ha, hf, cv, w1]
  · simp [fv, w1, hj]
theorem x_putl {idx ci k a : Nat} {v : Int64} (hd : decode mt.2.1 pc = .ok (.putfield idx, 3)) (hp : pc + 3 = pc') (lk : LkF mt.1.cls idx ci k false .long) (ha : kd a = ci) (hf : fk ci k = 1) (kk : X sc d mt pc' ls st (w2 σ a k v) Q) : X sc d mt pc ls (.long v :: .ref a :: st) σ Q := by
  refine x_put hd hp lk ha (fun _ => rfl) (fun _ => rfl) (σ' := w2 σ a k v) (fun w => ?_) (fun w j hj => ?_) (fun j hj => ⟨rfl, w2_off hj⟩) kk
  · simp [fv, ha, hf, cv, w2]
  · simp [fv, w2, hj]
theorem x_iald {a : Nat} {i : Int32} (hd : decode mt.2.1 pc = .ok (.iaload, 1)) (hp : pc + 1 = pc') (ha : kd a = 9) (hi : vp_in i (ln a)) (kk : X sc d mt pc' ls (.int (σ.1 a i.toNatClampNeg) :: st) σ Q) : X sc d mt pc ls (.int i :: .ref a :: st) σ Q := by
  intro w p l e R s m args below meth c cells slots A Z H locs L C rt P S hl
  subst hp
  have hlt := kd_lt (i := a) (by rw [ha]; decide)
  exact va_iald C.1 C.2.1 C.2.2.2.2.2.2.2.1 P.1 a 0 (by rw [ws_get hlt, cel_9 ha]) rfl hi hd (kk w p l e R s m args below meth c cells slots A Z H locs L C rt P S hl)
theorem x_iast {a : Nat} {i x : Int32} (hd : decode mt.2.1 pc = .ok (.iastore, 1)) (hp : pc + 1 = pc') (ha : kd a = 9) (hi : vp_in i (ln a)) (kk : X sc d mt pc' ls st (w1 σ a i.toNatClampNeg x) Q) : X sc d mt pc ls (.int x :: .int i :: .ref a :: st) σ Q := by
  intro w p l e R s m args below meth c cells slots A Z H locs L C rt P S hl
  subst hp
  have hlt := kd_lt (i := a) (by rw [ha]; decide)
  have hset : (wsM w σ).set a (w.1 a, .inl (w.2.2.1, ln a, .inl (upd (σ.1 a) i.toNatClampNeg x))) = wsM w (w1 σ a i.toNatClampNeg x) := ws_set (by rw [cel_9 ha, w1_at]) (fun j hj => cel_congr (w1_off hj) rfl)
  refine va_iast C.1 C.2.1 C.2.2.2.2.2.2.2.1 P.1 P.2 S a 0 (by rw [ws_get hlt, cel_9 ha]) rfl hi hd ?_
  rw [hset]
  intro H1 locs1 q1 q2 q3
  exact kk w p l e R s m args below meth c cells slots A Z H1 locs1 L C rt ⟨q1, q2⟩ q3 hl
theorem x_zald {a : Nat} {i : Int32} (hd : decode mt.2.1 pc = .ok (.baload, 1)) (hp : pc + 1 = pc') (ha : kd a = 10) (hi : vp_in i (ln a)) (kk : X sc d mt pc' ls (.int (σ.1 a i.toNatClampNeg) :: st) σ Q) : X sc d mt pc ls (.int i :: .ref a :: st) σ Q := by
  intro w p l e R s m args below meth c cells slots A Z H locs L C rt P S hl
  subst hp
  have hlt := kd_lt (i := a) (by rw [ha]; decide)
  exact va_zald C.1 C.2.1 C.2.2.2.2.2.2.2.1 P.1 a 1 (by rw [ws_get hlt, cel_10 ha]) rfl hi hd (kk w p l e R s m args below meth c cells slots A Z H locs L C rt P S hl)
theorem x_zast {a : Nat} {i x : Int32} (hd : decode mt.2.1 pc = .ok (.bastore, 1)) (hp : pc + 1 = pc') (ha : kd a = 10) (hi : vp_in i (ln a)) (hx : vp_nar .boolean x = x) (kk : X sc d mt pc' ls st (w1 σ a i.toNatClampNeg x) Q) : X sc d mt pc ls (.int x :: .int i :: .ref a :: st) σ Q := by
  intro w p l e R s m args below meth c cells slots A Z H locs L C rt P S hl
  subst hp
  have hlt := kd_lt (i := a) (by rw [ha]; decide)
  have hset : (wsM w σ).set a (w.1 a, .inl (w.2.2.2.1, ln a, .inl (upd (σ.1 a) i.toNatClampNeg (vp_nar .boolean x)))) = wsM w (w1 σ a i.toNatClampNeg x) := ws_set (by rw [cel_10 ha, w1_at, hx]) (fun j hj => cel_congr (w1_off hj) rfl)
  refine va_zast C.1 C.2.1 C.2.2.2.2.2.2.2.1 P.1 P.2 S a 1 (by rw [ws_get hlt, cel_10 ha]) rfl hi hd ?_
  rw [hset]
  intro H1 locs1 q1 q2 q3
  exact kk w p l e R s m args below meth c cells slots A Z H1 locs1 L C rt ⟨q1, q2⟩ q3 hl
theorem x_aald {a b : Nat} {i : Int32} (hd : decode mt.2.1 pc = .ok (.aaload, 1)) (hp : pc + 1 = pc') (ha : kd a = 11 ∨ kd a = 12) (hi : vp_in i (ln a)) (hr : rf a i.toNatClampNeg = b) (kk : X sc d mt pc' ls (.ref b :: st) σ Q) : X sc d mt pc ls (.int i :: .ref a :: st) σ Q := by
  intro w p l e R s m args below meth c cells slots A Z H locs L C rt P S hl
  subst hp
  subst hr
  have kk' := kk w p l e R s m args below meth c cells slots A Z H locs L C rt P S hl
  rcases ha with ha | ha
  · have hlt := kd_lt (i := a) (by rw [ha]; decide)
    exact va_aldq (f := fun k => some (w.1 (rf a k))) C.1 C.2.1 C.2.2.2.2.2.2.2.1 P.1 a 2 (by rw [ws_get hlt, cel_11 ha]) rfl hi hd kk'
  · have hlt := kd_lt (i := a) (by rw [ha]; decide)
    exact va_aldq (f := fun k => some (w.1 (rf a k))) C.1 C.2.1 C.2.2.2.2.2.2.2.1 P.1 a 3 (by rw [ws_get hlt, cel_12 ha]) rfl hi hd kk'
theorem x_copy {idx a b : Nat} {sp dp n : Int32} (hd : decode mt.2.1 pc = .ok (.invokestatic idx, 3)) (hp : pc + 3 = pc') (hlk : Cond.methodLink mt.1.cls idx arraycopyName ∈ lwG ∧ Cond.native arraycopyName ∈ lwG ∧ Cond.static arraycopyName ∈ lwG ∧ Cond.initialized "java/lang/System" ∈ lwG) (ha : kd a = 9) (hb : kd b = 9)
    (h1 : ¬ sp < 0) (h2 : ¬ dp < 0) (h3 : ¬ n < 0) (h4 : sp.toNatClampNeg + n.toNatClampNeg ≤ ln a) (h5 : dp.toNatClampNeg + n.toNatClampNeg ≤ ln b) (kk : X sc (d + 1) mt pc' ls [] (wc σ a b sp.toNatClampNeg dp.toNatClampNeg n.toNatClampNeg) Q) : X sc (d + 1) mt pc ls [.int n, .int dp, .ref b, .int sp, .ref a] σ Q := by
  intro w p l e R s m args below meth c cells slots A Z H locs L C rt P S hl
  subst hp
  have hlta := kd_lt (i := a) (by rw [ha]; decide)
  have hltb := kd_lt (i := b) (by rw [hb]; decide)
  have hset : (wsM w σ).set b (w.1 b, .inl (w.2.2.1, ln b, .inl (va_cpy (σ.1 a) (σ.1 b) sp.toNatClampNeg dp.toNatClampNeg n.toNatClampNeg))) = wsM w (wc σ a b sp.toNatClampNeg dp.toNatClampNeg n.toNatClampNeg) := ws_set (by rw [cel_9 hb, wc_at]) (fun j hj => cel_congr (wc_off hj) rfl)
  have hR := C.2.2.2.2.2.2.2.2.1
  refine va_copyi (rest := []) C.1 C.2.1 (C.2.2.1.trans hl.1.symm) C.2.2.2.1 (C.2.2.2.2.2.2.1 _ hlk.1) (C.2.2.2.2.2.2.1 _ hlk.2.1) (C.2.2.2.2.2.2.1 _ hlk.2.2.1) (C.2.2.2.2.2.2.1 _ hlk.2.2.2) C.2.2.2.2.2.2.2.1 P.1 P.2 S a b 0 0 (by rw [ws_get hlta, cel_9 ha]) (by rw [ws_get hltb, cel_9 hb]) rfl rfl rfl h1 h2 h3 h4 h5 (fun _ _ => rfl) (by omega) (Nat.le_trans (by decide) (Nat.le_trans (Nat.mul_le_mul_left 40 (Nat.succ_le_succ (Nat.zero_le d))) hR.2)) hd ?_
  rw [hset]
  intro H1 locs1 q1 q2 q3
  exact kk w p l e R s m args below meth c cells slots A Z H1 locs1 L C rt ⟨q1, q2⟩ q3 hl
theorem x_mmax {idx : Nat} {x y : Int32} (hd : decode mt.2.1 pc = .ok (.invokestatic idx, 3)) (hp : pc + 3 = pc') (hlk : Cond.methodLink mt.1.cls idx Lib.Math.max.name ∈ lwG ∧ Cond.static Lib.Math.max.name ∈ lwG ∧ Cond.initialized "java/lang/Math" ∈ lwG ∧ Cond.code Lib.Math.max.name Lib.Math.max.code 2 (some .int) ∈ lwG) (hw : (st.map Value.category).sum ≤ 8) (kk : X sc (d + 1) mt pc' ls (.int (if x < y then y else x) :: st) σ Q) : X sc (d + 1) mt pc ls (.int y :: .int x :: st) σ Q := by
  intro w p l e R s m args below meth c cells slots A Z H locs L C rt P S hl
  subst hp
  have hR := C.2.2.2.2.2.2.2.2.1
  have hcs := C.2.2.2.2.2.2.2.2.2.1
  have hts := C.2.2.2.2.2.2.1
  have hw2 : ((st.map (cv w.1)).map fun v => v.category).sum ≤ 8 := by simpa [List.map_map, Function.comp_def, cv_cat] using hw
  exact va_mmax C.1 C.2.1 (C.2.2.1.trans hl.1.symm) C.2.2.2.1 (hts _ hlk.1) (hts _ hlk.2.1) (hts _ hlk.2.2.1) (hts _ hlk.2.2.2) (by omega) (by omega) hcs.1 hcs.2 hd (kk w p l e R s m args below meth c cells slots A Z H locs L C rt P S hl)
theorem x_mabs {idx : Nat} {x : Int32} (hd : decode mt.2.1 pc = .ok (.invokestatic idx, 3)) (hp : pc + 3 = pc') (hlk : Cond.methodLink mt.1.cls idx Lib.Math.abs.name ∈ lwG ∧ Cond.static Lib.Math.abs.name ∈ lwG ∧ Cond.initialized "java/lang/Math" ∈ lwG ∧ Cond.code Lib.Math.abs.name Lib.Math.abs.code 1 (some .int) ∈ lwG) (hw : (st.map Value.category).sum ≤ 8) (kk : X sc (d + 1) mt pc' ls (.int (if 0 ≤ x then x else 0 - x) :: st) σ Q) : X sc (d + 1) mt pc ls (.int x :: st) σ Q := by
  intro w p l e R s m args below meth c cells slots A Z H locs L C rt P S hl
  subst hp
  have hR := C.2.2.2.2.2.2.2.2.1
  have hcs := C.2.2.2.2.2.2.2.2.2.1
  have hts := C.2.2.2.2.2.2.1
  have hw2 : ((st.map (cv w.1)).map fun v => v.category).sum ≤ 8 := by simpa [List.map_map, Function.comp_def, cv_cat] using hw
  exact va_mabs C.1 C.2.1 (C.2.2.1.trans hl.1.symm) C.2.2.2.1 (hts _ hlk.1) (hts _ hlk.2.1) (hts _ hlk.2.2.1) (hts _ hlk.2.2.2) (by omega) (by omega) hcs.1 hcs.2 hd (kk w p l e R s m args below meth c cells slots A Z H locs L C rt P S hl)
theorem x_sld {n : Nat} {xs : Nat → Int32} {i : Int32} (hd : decode mt.2.1 pc = .ok (.iaload, 1)) (hp : pc + 1 = pc') (hi : vp_in i n) (kk : X (some (n, xs)) d mt pc' ls (.int (xs i.toNatClampNeg) :: st) σ Q) : X (some (n, xs)) d mt pc ls (.int i :: .ref 200 :: st) σ Q := by
  intro w p l e R s m args below meth c cells slots A Z H locs L C rt P S hl
  subst hp
  obtain ⟨hX, hb, hA⟩ := C.2.2.2.2.2.2.2.2.2.2.1 n xs rfl
  exact va_sld C.1 C.2.1 hX hb hA S hi hd (kk w p l e R s m args below meth c cells slots A Z H locs L C rt P S hl)
theorem x_slen {n : Nat} {xs : Nat → Int32} (hd : decode mt.2.1 pc = .ok (.arraylength, 1)) (hp : pc + 1 = pc') (kk : X (some (n, xs)) d mt pc' ls (.int (nI n) :: st) σ Q) : X (some (n, xs)) d mt pc ls (.ref 200 :: st) σ Q := by
  intro w p l e R s m args below meth c cells slots A Z H locs L C rt P S hl
  subst hp
  obtain ⟨hX, hb, hA⟩ := C.2.2.2.2.2.2.2.2.2.2.1 n xs rfl
  exact va_slen C.1 C.2.1 hX hb hA S hd (kk w p l e R s m args below meth c cells slots A Z H locs L C rt P S hl)
theorem x_iret {v : Int32} {ty : FieldType} (hd : decode mt.2.1 pc = .ok (.ireturn, 1)) (ht : mt.2.2.2 = some ty) (hn : narrow ty (.int v) = .int v) (hq : Q (some (.int v)) σ) : X sc d mt pc ls [.int v] σ Q := by
  intro w p l e R s m args below meth c cells slots A Z H locs L C rt P S hl
  exact rt (some (.int v)) σ H locs hq P S pc L (Or.inl ⟨v, ty, rfl, hd, ht, hn⟩)
theorem x_lret {v : Int64} (hd : decode mt.2.1 pc = .ok (.lreturn, 1)) (ht : mt.2.2.2 = some .long) (hq : Q (some (.long v)) σ) : X sc d mt pc ls [.long v] σ Q := by
  intro w p l e R s m args below meth c cells slots A Z H locs L C rt P S hl
  exact rt (some (.long v)) σ H locs hq P S pc L (Or.inr (Or.inl ⟨v, rfl, hd, ht⟩))
theorem x_vret (hd : decode mt.2.1 pc = .ok (.return_, 1)) (ht : mt.2.2.2 = none) (hq : Q none σ) : X sc d mt pc ls [] σ Q := by
  intro w p l e R s m args below meth c cells slots A Z H locs L C rt P S hl
  exact rt none σ H locs hq P S pc L (Or.inr (Or.inr ⟨rfl, hd, ht⟩))
end MSTEPS
def flt (As : List Value) : List Value := As.flatMap (fun v => if v.category = 2 then [v, Unk] else [v])
/-- the locals at a method's entry -/
def ent (As : List Value) (n : Nat) : List Value := flt As ++ List.replicate (n - (flt As).length) Unk
theorem flt_len (ad : Nat → Nat) (As : List Value) : (lg_sl (As.map (cv ad))).length = (flt As).length := by
  induction As with
  | nil => rfl
  | cons v t ih =>
    simp only [lg_sl, flt, List.map_cons, List.flatMap_cons, List.length_append, cv_cat] at *
    rw [ih]
    split <;> rfl
theorem flt_mem (ad : Nat → Nat) : ∀ (As : List Value) (k i : Nat) (v : Value), (flt As)[i]? = some v → v ≠ Unk → (k + i, cv ad v) ∈ lv_args k (As.map (cv ad)) := by
  intro As
  induction As with
  | nil => intro k i v h; simp [flt] at h
  | cons u t ih =>
    intro k i v h hu
    have e1 : flt (u :: t) = (if u.category = 2 then [u, Unk] else [u]) ++ flt t := rfl
    rw [e1] at h
    simp only [List.map_cons, lv_args, cv_cat]
    by_cases hc : u.category = 2
    · rw [if_pos hc] at h ⊢
      match i, h with
      | 0, h => simp at h; subst h; exact List.mem_cons_self
      | 1, h => simp at h; exact absurd h.symm hu
      | i + 2, h =>
        simp only [List.cons_append, List.nil_append, List.getElem?_cons_succ] at h
        have := ih (k + 2) i v h hu
        rw [show k + (i + 2) = k + 2 + i by omega]
        exact List.mem_cons_of_mem _ this
    · rw [if_neg hc] at h ⊢
      match i, h with
      | 0, h => simp at h; subst h; exact List.mem_cons_self
      | i + 1, h =>
        simp only [List.cons_append, List.nil_append, List.getElem?_cons_succ] at h
        have := ih (k + 1) i v h hu
        rw [show k + (i + 1) = k + 1 + i by omega]
        exact List.mem_cons_of_mem _ this
theorem ent_LH {ad : Nat → Nat} {As : List Value} {n : Nat} {L : Array Slot} (hlen : (flt As).length ≤ n) (h : lv_has L n (lv_args 0 (As.map (cv ad)))) : LH ad n L (ent As n) := by
  refine ⟨h.1, ?_, h.2.1, fun i v hi hu => ?_⟩
  · simp only [ent, List.length_append, List.length_replicate]
    omega
  · have h1 : (flt As)[i]? = some v := by
      unfold ent at hi
      by_cases hl : i < (flt As).length
      · rwa [List.getElem?_append_left hl] at hi
      · rw [List.getElem?_append_right (by omega)] at hi
        have := List.mem_of_getElem? hi
        exact absurd (List.eq_of_mem_replicate this) hu
    have h2 := flt_mem ad As 0 i v h1 hu
    rw [Nat.zero_add] at h2
    exact h.2.2 _ h2
def Aw (w : WC) : Nat → Prop := fun q => ∃ i, i < 103 ∧ q = w.1 i
def QcM (w : WC) (Q : Option Value → Mem → Prop) : Array Value → State → Outcome → State → Prop := fun _ st o t => ∃ (r : Option Value) (σ' : Mem), o = .returned (r.map (cv w.1)) ∧ Q r σ' ∧ Rep w (Aw w) σ' t.heap ∧ va_F (Aw w) st t
def PcM (w : WC) (As : List Value) (σ : Mem) : Array Value → State → Prop := fun v U => v = (As.map (cv w.1)).toArray ∧ Rep w (Aw w) σ U.heap ∧ va_K w.2.1 vwCl (tysW w) U ∧ ∀ q ∈ nstL, va_Nw q U
abbrev rmM (d : Nat) : Room := { frames := d, cells := 0, slots := 0, locals := 40 * d }
theorem met_of_X {l : Launch} {d : Nat} {mj : Mt} {As : List Value} {σ : Mem} {Q : Option Value → Mem → Prop} (w : WC) (hm : plainName mj.1.cls = true) (hlen : (flt As).length ≤ mj.2.2.1) (k : X none d mj 0 (ent As mj.2.2.1) [] σ Q) : Met l mj.1 (Cond.code mj.1 mj.2.1 mj.2.2.1 mj.2.2.2 :: lwG) (rmM d) (PcM w As σ) (QcM w Q) 0 0 (Aw w) := by
  refine Met.ofW (cc := mj.2.1) (maxL := mj.2.2.1) (ret := mj.2.2.2) hm rfl ?_
  intro p e s m args below meth c s₁ B hml hv
  obtain ⟨rfl, hP, hK, hNs⟩ := hv
  have hts0 := atoms_spec (ws := Cond.code mj.1 mj.2.1 mj.2.2.1 mj.2.2.2 :: lwG) B.pre
  have hl := lv_entry (As.map (cv w.1)) (n := mj.2.2.1) (by rw [flt_len]; exact hlen)
  rw [lg_entry_eq]
  have C : Cx w none d mj p (headSpec (Cond.code mj.1 mj.2.1 mj.2.2.1 mj.2.2.2 :: lwG) (rmM d)).room s m (As.map (cv w.1)).toArray meth c 0 0 (Aw w) := ⟨B.exec, B.bytes, hml, findClass_of_methodNamed B.named, B.returns, B.notSynchronized, fun q hq => hts0 q (List.mem_cons_of_mem _ hq), hK, ⟨Nat.le_refl _, Nat.le_refl _⟩, ⟨Nat.zero_le _, Nat.zero_le _⟩, fun n xs h => (by cases h), hNs⟩
  refine k w p l e _ s m _ below meth c 0 0 (Aw w) _ s.heap [] _ C ?_ hP va_S.rf (ent_LH hlen hl)
  intro r σ' H locs hq hR hS pc L hri
  rcases hri with ⟨v, ty, rfl, hd, ht, hn⟩ | ⟨v, rfl, hd, ht⟩ | ⟨rfl, hd, ht⟩
  · exact W.zret B.exec B.bytes (B.returns.trans ht) hn (fun t ht' hW => ⟨some (.int v), σ', rfl, hq, by rw [ht']; exact hR, hS.F ht'⟩) hS.2.2 hd B.notSynchronized
  · exact W.lret B.exec B.bytes (B.returns.trans ht) (fun t ht' hW => ⟨some (.long v), σ', rfl, hq, by rw [ht']; exact hR, hS.F ht'⟩) hS.2.2 hd B.notSynchronized
  · exact W.vret B.exec B.bytes (B.returns.trans ht) (fun t ht' hW => ⟨none, σ', rfl, hq, by rw [ht']; exact hR, hS.F ht'⟩) hS.2.2 hd B.notSynchronized
theorem D_Aw {w : WC} {A : Nat → Prop} {σ : Mem} (h : va_D A (wsM w σ)) : va_D (Aw w) (wsM w σ) := by
  refine h.weaken (fun k q hk _ => ?_)
  have hl := (List.getElem?_eq_some_iff.mp hk).1
  simp only [wsM, List.length_map, List.length_range] at hl
  rw [ws_get hl] at hk
  cases hk
  exact ⟨k, hl, rfl⟩
theorem A_of {w : WC} {A : Nat → Prop} {σ : Mem} (h : va_D A (wsM w σ)) : ∀ q, Aw w q → A q := by
  rintro q ⟨i, hi, rfl⟩
  exact h.2 i _ (ws_get hi)
theorem FB_PcM {w : WC} {As : List Value} {σ : Mem} : FrameBlind (PcM w As σ) := fun a U g mk q => ⟨q.1, q.2.1, va_K.moved (u := U) (U := U.calling g mk a) (Vm.Alike.refl U.vm) q.2.2.1, fun c hc => va_Nw.same (nst_on hc) (u := U) (U := U.calling g mk a) rfl (q.2.2.2 c hc)⟩
section CALLS
variable {sc : Option (Nat × (Nat → Int32))} {d : Nat} {mt mj : Mt} {pc pc' idx n : Nat} {ls st As : List Value} {σ : Mem} {Q : Option Value → Mem → Prop}
/-- behind a call -/
theorem x_back {w : WC} {p : Program} {l : Launch} {e : Env} {R : Room} {s : State} {m : MethodId} {args : Array Value} {below : List Frame} {meth : Method} {c : Code} {cells slots : Nat} {A : Nat → Prop} {Z : State → Prop} {H : Heap} {locs : List Loc} {L : Array Slot} {g0 : List Value} {a : Array Value}
    (C : Cx w sc d mt p R s m args meth c cells slots A) (rt : RetOK w mt p l e R s m args below meth c cells slots A Q Z) (P : Rep w A σ H) (S : va_S A s.heap H locs) (hl : LH w.1 mt.2.2.1 L ls)
    (hr : va_Run p l e R s m args below meth c H locs cells slots 0 0 (F0 m pc L g0) (st.map (cv w.1)) (QcM w (fun r σ' => X sc d mt (pc + 3) ls (r.toList ++ st) σ' Q) a) (Aw w)) : W p l e R s m args below meth c H locs cells slots Z (F0 m pc L g0) := by
  intro T hT X0
  obtain ⟨v, st₀, t, T', Lc, h0, X', hL, e1, e2, ⟨r, σ', ho, hq, hR, hF⟩, stp⟩ := hr T hT X0
  obtain ⟨hz, hk⟩ := hF
  rw [h0] at hz hk
  have ho' : v = r.map (cv w.1) := by cases ho; rfl
  subst ho'
  have hS' : va_S A s.heap T'.heap (locs ++ Lc) := ⟨Nat.le_trans S.1 (by rw [e1]; exact hz), fun q q1 q2 => by rw [e1, hk q (Nat.lt_of_lt_of_le q1 S.1) (fun z => q2 (A_of P.2 q z))]; exact S.2.1 q q1 q2, fun q hq => by
      rcases List.mem_append.mp hq with h | h
      · exact S.2.2 q h
      · exact A_of P.2 _ (hL q h)⟩
  have hR' : Rep w A σ' T'.heap := ⟨by rw [e1]; exact hR.1, hR.2.weaken (fun k q _ hq => A_of P.2 q.1 hq)⟩
  have est : (r.toList ++ st).map (cv w.1) = (r.map (cv w.1)).toList ++ st.map (cv w.1) := by cases r <;> simp
  obtain ⟨t2, a1, b1⟩ := hq w p l e R s m args below meth c cells slots A Z T'.heap (locs ++ Lc) L C rt hR' hS' hl T' rfl X'
  rw [est] at a1
  exact ⟨t2, stp t2 a1, b1⟩
theorem x_callV {ci b : Nat} (hd : decode mt.2.1 pc = .ok (.invokevirtual idx, 3)) (hp : pc + 3 = pc') (lk : LkV mt.1.cls idx mj ci n) (hb : kd b = ci) (hn : As.length = n) {stk : List Value} (hs : As.reverse ++ .ref b :: st = stk) (hw : (st.map Value.category).sum ≤ 8) (hfl : (flt (.ref b :: As)).length ≤ mj.2.2.1) (k : X none d mj 0 (ent (.ref b :: As) mj.2.2.1) [] σ (fun r σ' => X sc (d + 1) mt pc' ls (r.toList ++ st) σ' Q)) : X sc (d + 1) mt pc ls stk σ Q := by
  intro w p l e R s m args below meth c cells slots A Z H locs L C rt P S hl
  subst hp
  subst hs
  obtain ⟨C', T', N', hc, hC, k1, k2, k3, k4, k5, k6, k7, k8⟩ := lk
  have hM := met_of_X (l := l) w k6 hfl k
  have hts := C.2.2.2.2.2.2.1
  have hci := vwCl_lt hc
  have hlt := kd_lt (i := b) (by rw [hb]; omega)
  have hG : GoodIn lwG (wsV mt.1.cls idx C' mj.1 (Cond.code mj.1 mj.2.1 mj.2.2.1 mj.2.2.2 :: lwG)) := gd_in (fun q hq => by
    simp only [wsV, List.mem_append, List.mem_cons, List.not_mem_nil, or_false] at hq
    rcases hq with (h | h | h | h) | (h | h)
    · rw [h]; exact k1
    · rw [h]; exact k2
    · rw [h]; exact k3
    · rw [h]; exact k4
    · rw [h]; exact k5
    · exact h)
  have hR := C.2.2.2.2.2.2.2.2.1
  have hcs := C.2.2.2.2.2.2.2.2.2.1
  have est : (As.reverse ++ .ref b :: st).map (cv w.1) = (As.map (cv w.1)).reverse ++ .ref (w.1 b) :: st.map (cv w.1) := by simp [cv]
  rw [est]
  refine x_back C rt P S hl (va_runV (C := C') (As := As.map (cv w.1)) (rest := st.map (cv w.1)) ⟨C.1, C.2.1, C.2.2.1, C.2.2.2.1, hts⟩ hM (cwV n hts hG rfl rfl rfl ⟨hC, k7.1, k7.2.1, k7.2.2⟩ ⟨hR.1, show 8 + (mj.2.2.1 + 11) + 40 * d ≤ R.locals by omega⟩) ⟨FB_PcM, va_recv C.2.2.2.2.2.2.2.1 P.1 (ci := ci) (q0 := b) hc (by rw [ws_get hlt, cel_o hb hci]), fun U hU hW => ⟨by simp [cv], by rw [hU]; exact ⟨P.1, D_Aw P.2⟩, va_K.moved hW.alike C.2.2.2.2.2.2.2.1, fun c hc => nst_warm hc hW (C.2.2.2.2.2.2.2.2.2.2.2 c hc)⟩⟩ rfl (by rw [List.length_map]; exact hn) hl.1 rfl (lv_room (by simpa [List.map_map, Function.comp_def, cv_cat] using hw)) hd ⟨hcs.1, hcs.2⟩)
theorem x_callS (hd : decode mt.2.1 pc = .ok (.invokestatic idx, 3)) (hp : pc + 3 = pc') (lk : LkS mt.1.cls idx mj n) (hn : As.length = n) {stk : List Value} (hs : As.reverse ++ st = stk) (hw : (st.map Value.category).sum ≤ 8) (hfl : (flt As).length ≤ mj.2.2.1) (k : X none d mj 0 (ent As mj.2.2.1) [] σ (fun r σ' => X sc (d + 1) mt pc' ls (r.toList ++ st) σ' Q)) : X sc (d + 1) mt pc ls stk σ Q := by
  intro w p l e R s m args below meth c cells slots A Z H locs L C rt P S hl
  subst hp
  subst hs
  obtain ⟨k1, k2, k4, k5, k6, k7, k8⟩ := lk
  have hM := met_of_X (l := l) w k6 hfl k
  have hts := C.2.2.2.2.2.2.1
  have hG : GoodIn lwG (va_wsS mt.1.cls idx mj.1 (Cond.code mj.1 mj.2.1 mj.2.2.1 mj.2.2.2 :: lwG)) := gd_in (fun q hq => by
    simp only [va_wsS, List.mem_append, List.mem_cons, List.not_mem_nil, or_false] at hq
    rcases hq with (h | h | h) | (h | h)
    · rw [h]; exact k1
    · rw [h]; exact k2
    · rw [h]; exact k4
    · rw [h]; exact k5
    · exact h)
  have hR := C.2.2.2.2.2.2.2.2.1
  have hcs := C.2.2.2.2.2.2.2.2.2.1
  have est : (As.reverse ++ st).map (cv w.1) = (As.map (cv w.1)).reverse ++ st.map (cv w.1) := by simp
  rw [est]
  refine x_back C rt P S hl (va_runS (As := As.map (cv w.1)) (rest := st.map (cv w.1)) ⟨C.1, C.2.1, C.2.2.1, C.2.2.2.1, hts⟩ hM (va_cwS n hts hG rfl rfl rfl ⟨k7.1, k7.2.1, k7.2.2⟩ ⟨hR.1, show 8 + (mj.2.2.1 + 11) + 40 * d ≤ R.locals by omega⟩) ⟨FB_PcM, fun U hU hW => ⟨rfl, by rw [hU]; exact ⟨P.1, D_Aw P.2⟩, va_K.moved hW.alike C.2.2.2.2.2.2.2.1, fun c hc => nst_warm hc hW (C.2.2.2.2.2.2.2.2.2.2.2 c hc)⟩⟩ rfl (by rw [List.length_map]; exact hn) hl.1 rfl (lv_room (by simpa [List.map_map, Function.comp_def, cv_cat] using hw)) hd ⟨hcs.1, hcs.2⟩)
/-- weaker ends -/
theorem X.mono {Q' : Option Value → Mem → Prop} (h : X sc d mt pc ls st σ Q) (hq : ∀ r σ', Q r σ' → Q' r σ') : X sc d mt pc ls st σ Q' := by
  intro w p l e R s m args below meth c cells slots A Z H locs L C rt P S hl
  exact h w p l e R s m args below meth c cells slots A Z H locs L C (fun r σ' H' locs' h1 => rt r σ' H' locs' (hq r σ' h1)) P S hl
end CALLS
