/-! Pure words: counting, picking, the abstract field, and what a class's field object and a block of the model's row hold of it. -/
def cnt (p : Nat → Bool) : Nat → Nat
  | 0 => 0
  | n + 1 => cnt p n + (if p n = true then 1 else 0)
def pik (p : Nat → Bool) : Nat → List Nat
  | 0 => []
  | n + 1 => if p n = true then pik p n ++ [n] else pik p n
theorem pik_len (p : Nat → Bool) : ∀ n, (pik p n).length = cnt p n
  | 0 => rfl
  | n + 1 => by
    simp only [pik, cnt]
    split
    · rw [List.length_append, pik_len p n]; rfl
    · rw [pik_len p n]; rfl
theorem pik_mem (p : Nat → Bool) {e : Nat} : ∀ n, e ∈ pik p n ↔ e < n ∧ p e = true
  | 0 => by simp [pik]
  | n + 1 => by
    simp only [pik]
    split
    · rename_i h
      rw [List.mem_append, pik_mem p n, List.mem_singleton]
      constructor
      · rintro (⟨h1, h2⟩ | rfl)
        · exact ⟨by omega, h2⟩
        · exact ⟨by omega, h⟩
      · rintro ⟨h1, h2⟩
        by_cases he : e = n
        · exact Or.inr he
        · exact Or.inl ⟨by omega, h2⟩
    · rename_i h
      rw [pik_mem p n]
      constructor
      · rintro ⟨h1, h2⟩
        exact ⟨by omega, h2⟩
      · rintro ⟨h1, h2⟩
        have he : e ≠ n := fun q => h (by rw [← q]; exact h2)
        exact ⟨by omega, h2⟩
theorem pik_congr {p q : Nat → Bool} : ∀ {n : Nat}, (∀ e, e < n → p e = q e) → pik p n = pik q n
  | 0, _ => rfl
  | n + 1, h => by
    simp only [pik]
    rw [pik_congr (fun e he => h e (by omega)), h n (by omega)]
theorem cnt_congr {p q : Nat → Bool} {n : Nat} (h : ∀ e, e < n → p e = q e) : cnt p n = cnt q n := by rw [← pik_len, ← pik_len, pik_congr h]
theorem cnt_le (p : Nat → Bool) : ∀ n, cnt p n ≤ n
  | 0 => Nat.le_refl 0
  | n + 1 => by
    have := cnt_le p n
    simp only [cnt]
    split <;> omega
theorem cnt_mono (p : Nat → Bool) {a b : Nat} (h : a ≤ b) : cnt p a ≤ cnt p b := by
  induction b with
  | zero => rw [Nat.le_zero.mp h]; exact Nat.le_refl _
  | succ b ih =>
    by_cases hb : a ≤ b
    · exact Nat.le_trans (ih hb) (by simp only [cnt]; omega)
    · rw [show a = b + 1 by omega]; exact Nat.le_refl _
theorem cnt_imp {p q : Nat → Bool} : ∀ {n : Nat}, (∀ e, e < n → p e = true → q e = true) → cnt p n ≤ cnt q n
  | 0, _ => Nat.le_refl _
  | n + 1, h => by
    have h1 := cnt_imp (p := p) (q := q) (n := n) (fun e he => h e (by omega))
    have h2 := h n (by omega)
    simp only [cnt]
    by_cases hp : p n = true
    · rw [if_pos hp, if_pos (h2 hp)]; omega
    · rw [if_neg hp]; split <;> omega
theorem cnt_lt_of {p : Nat → Bool} {n i : Nat} (hi : i < n) (hp : p i = true) : cnt p i < cnt p n := by
  have h1 : cnt p (i + 1) = cnt p i + 1 := by simp [cnt, hp]
  have h2 := cnt_mono p (show i + 1 ≤ n by omega)
  omega
theorem pik_get (p : Nat → Bool) : ∀ {n i : Nat}, i < n → p i = true → (pik p n).getD (cnt p i) 0 = i
  | n + 1, i, hi, hp => by
    by_cases he : i = n
    · subst he
      simp only [pik, hp, if_true]
      rw [List.getD_eq_getElem?_getD, List.getElem?_append_right (by rw [pik_len]; exact Nat.le_refl _), pik_len, Nat.sub_self]
      rfl
    · have h1 := pik_get p (n := n) (i := i) (by omega) hp
      have h2 := cnt_lt_of (p := p) (n := n) (i := i) (by omega) hp
      simp only [pik]
      split
      · rw [List.getD_eq_getElem?_getD, List.getElem?_append_left (by rw [pik_len]; exact h2), ← List.getD_eq_getElem?_getD, h1]
      · exact h1
theorem pik_lt (p : Nat → Bool) {n k : Nat} (h : k < (pik p n).length) : (pik p n).getD k 0 < n ∧ p ((pik p n).getD k 0) = true := by
  have hm : (pik p n).getD k 0 ∈ pik p n := by
    rw [List.getD_eq_getElem?_getD, List.getElem?_eq_getElem h]
    exact List.getElem_mem h
  exact (pik_mem p n).mp hm
/-- of what is left to search nothing was found yet -/
theorem pik_head (p : Nat → Bool) : ∀ {n i : Nat}, i < n → (∀ e, e < i → p e = false) → p i = true → (pik p n).head? = some i
  | n + 1, i, hi, h0, hp => by
    by_cases he : i = n
    · subst he
      have h1 : pik p i = [] := by
        rw [List.eq_nil_iff_forall_not_mem]
        intro e hm
        have := (pik_mem p i).mp hm
        rw [h0 e this.1] at this
        exact absurd this.2 (by decide)
      simp [pik, hp, h1]
    · have h1 := pik_head p (n := n) (i := i) (by omega) h0 hp
      simp only [pik]
      split
      · rw [List.head?_append, h1]; rfl
      · exact h1
theorem pik_nil (p : Nat → Bool) {n : Nat} (h0 : ∀ e, e < n → p e = false) : pik p n = [] := by
  rw [List.eq_nil_iff_forall_not_mem]
  intro e hm
  have := (pik_mem p n).mp hm
  rw [h0 e this.1] at this
  exact absurd this.2 (by decide)
def sumI (f : Nat → Int32) : Nat → Int32
  | 0 => 0
  | n + 1 => sumI f n + f n
theorem sumI_congr {f g : Nat → Int32} : ∀ {n : Nat}, (∀ e, e < n → f e = g e) → sumI f n = sumI g n
  | 0, _ => rfl
  | n + 1, h => by
    simp only [sumI]
    rw [sumI_congr (fun e he => h e (by omega)), h n (by omega)]
def sumL (f : Nat → Int32) (l : List Nat) : Int32 := (l.map f).foldl (· + ·) 0
theorem sumL_snoc (f : Nat → Int32) (l : List Nat) (e : Nat) : sumL f (l ++ [e]) = sumL f l + f e := by simp [sumL]
theorem sumL_pik (f : Nat → Int32) (p : Nat → Bool) : ∀ n, sumL f (pik p n) = sumI (fun e => if p e = true then f e else 0) n
  | 0 => rfl
  | n + 1 => by
    simp only [pik, sumI]
    split
    · rw [sumL_snoc, sumL_pik f p n]
    · rw [sumL_pik f p n, Int32.add_zero]
theorem sumI_cnt (p : Nat → Bool) : ∀ n, sumI (fun e => if p e = true then 1 else 0) n = nI (cnt p n)
  | 0 => nI_0.symm
  | n + 1 => by
    simp only [sumI, cnt]
    rw [sumI_cnt p n]
    split
    · exact nI_1 _
    · rw [Int32.add_zero, Nat.add_zero]
/-- an int array holds a list of places -/
def HL (σ : Mem) (a : Nat) (l : List Nat) : Prop := ∀ k, k < l.length → σ.1 a k = nI (l.getD k 0)
theorem HL.nil {σ : Mem} {a : Nat} : HL σ a [] := fun k h => absurd h (Nat.not_lt_zero k)
theorem getD_snoc_lt {l : List Nat} {e k : Nat} (h : k < l.length) : (l ++ [e]).getD k 0 = l.getD k 0 := by
  rw [List.getD_eq_getElem?_getD, List.getElem?_append_left h, ← List.getD_eq_getElem?_getD]
theorem getD_snoc_eq {l : List Nat} {e : Nat} : (l ++ [e]).getD l.length 0 = e := by
  rw [List.getD_eq_getElem?_getD, List.getElem?_append_right (Nat.le_refl _), Nat.sub_self]
  rfl
theorem HL.snoc {σ : Mem} {a : Nat} {l : List Nat} {e : Nat} (h : HL σ a l) : HL (w1 σ a l.length (nI e)) a (l ++ [e]) := by
  intro k hk
  rw [List.length_append, List.length_singleton] at hk
  by_cases he : k = l.length
  · subst he
    rw [w1_s, getD_snoc_eq]
  · rw [w1_k _ _ _ _ _ _ he, h k (by omega), getD_snoc_lt (by omega)]
/-- places of the memory that may have changed -/
def Sm (S : Nat → Nat → Prop) (σ τ : Mem) : Prop := ∀ i k, ¬ S i k → τ.1 i k = σ.1 i k ∧ τ.2 i k = σ.2 i k
theorem Sm.rf {S : Nat → Nat → Prop} {σ : Mem} : Sm S σ σ := fun _ _ _ => ⟨rfl, rfl⟩
theorem Sm.tr {S : Nat → Nat → Prop} {σ τ υ : Mem} (h1 : Sm S σ τ) (h2 : Sm S τ υ) : Sm S σ υ := fun i k h => ⟨(h2 i k h).1.trans (h1 i k h).1, (h2 i k h).2.trans (h1 i k h).2⟩
theorem Sm.mono {S T : Nat → Nat → Prop} {σ τ : Mem} (h : Sm S σ τ) (hs : ∀ i k, S i k → T i k) : Sm T σ τ := fun i k hk => h i k (fun q => hk (hs i k q))
theorem Sm.w1 {S : Nat → Nat → Prop} {σ τ : Mem} {a k : Nat} {v : Int32} (h : Sm S σ τ) (hs : S a k) : Sm S σ (w1 τ a k v) := by
  intro i j hij
  have hne : ¬ (i = a ∧ j = k) := fun q => hij (by rw [q.1, q.2]; exact hs)
  exact ⟨(w1_n τ a k v i j hne).trans (h i j hij).1, (h i j hij).2⟩
theorem Sm.w2 {S : Nat → Nat → Prop} {σ τ : Mem} {a k : Nat} {v : Int64} (h : Sm S σ τ) (hs : S a k) : Sm S σ (w2 τ a k v) := by
  intro i j hij
  have hne : ¬ (i = a ∧ j = k) := fun q => hij (by rw [q.1, q.2]; exact hs)
  exact ⟨(h i j hij).1, (w2_n τ a k v i j hne).trans (h i j hij).2⟩
theorem Sm.wc {S : Nat → Nat → Prop} {σ τ : Mem} {a b sp dp n : Nat} (h : Sm S σ τ) (hs : ∀ k, S b k) : Sm S σ (wc τ a b sp dp n) := by
  intro i j hij
  have hne : i ≠ b := fun q => hij (by rw [q]; exact hs j)
  exact ⟨(congrFun (wc_off hne) j).trans (h i j hij).1, (h i j hij).2⟩
/-! the abstract field: ((laid, ghosts, next number), (carried, anew, kind), numbers, xs, ys, weights, gone as) -/
abbrev Fl : Type := (Nat × Nat × Nat) × (Int32 × Int32 × Int32) × (Nat → Nat) × (Nat → Int32) × (Nat → Int32) × (Nat → Int32) × (Nat → Nat)
def fn (F : Fl) : Nat := F.1.1
def fg (F : Fl) : Nat := F.1.2.1
def fnx (F : Fl) : Nat := F.1.2.2
def fcar (F : Fl) : Int32 := F.2.1.1
def fan (F : Fl) : Int32 := F.2.1.2.1
def fkd (F : Fl) : Int32 := F.2.1.2.2
def fnum (F : Fl) : Nat → Nat := F.2.2.1
def fx (F : Fl) : Nat → Int32 := F.2.2.2.1
def fy (F : Fl) : Nat → Int32 := F.2.2.2.2.1
def fw (F : Fl) : Nat → Int32 := F.2.2.2.2.2.1
def fgo (F : Fl) : Nat → Nat := F.2.2.2.2.2.2
def thr (F : Fl) (e : Nat) : Bool := decide (fgo F e = 0)
theorem thr_iff {F : Fl} {e : Nat} : thr F e = true ↔ fgo F e = 0 := by simp [thr]
/-- what the class's field object f holds -/
def CF (σ : Mem) (f : Nat) (F : Fl) : Prop := (σ.1 f 5 = nI (fn F) ∧ σ.1 f 6 = nI (fg F) ∧ σ.1 f 7 = fcar F ∧ σ.1 f 8 = fan F ∧ σ.1 f 9 = fkd F ∧ σ.1 f 10 = nI (fnx F)) ∧
  ∀ e, e < fn F → σ.1 (f + 1) e = nI (fnum F e) ∧ σ.1 (f + 2) e = fx F e ∧ σ.1 (f + 3) e = fy F e ∧ σ.1 (f + 4) e = fw F e ∧ σ.1 (f + 5) e = nI (fgo F e)
/-- what the model's block at o holds -/
def MF (σ : Mem) (o : Nat) (F : Fl) : Prop := (σ.1 95 o = nI (fn F) ∧ σ.1 95 (o + 1) = nI (fg F) ∧ σ.1 95 (o + 4) = fcar F ∧ σ.1 95 (o + 5) = fan F ∧ σ.1 95 (o + 3) = fkd F ∧ σ.1 95 (o + 2) = nI (fnx F)) ∧
  (∀ e, e < fn F → σ.1 95 (o + 6 + e) = nI (fnum F e) ∧ σ.1 95 (o + 128 + e) = fx F e ∧ σ.1 95 (o + 250 + e) = fy F e ∧ σ.1 95 (o + 372 + e) = fw F e ∧ σ.1 95 (o + 494 + e) = (if fgo F e = 0 then 0 else 1)) ∧
  ∀ k, k < fg F → ∃ e, e < fn F ∧ fgo F e = k + 1 ∧ σ.1 95 (o + 616 + k) = nI e
/-- what holds of every field that a run can come to -/
def WF (F : Fl) : Prop := (fn F ≤ fg F + 60 ∧ 2 * fg F ≤ fn F ∧ fnx F ≤ 10000 ∧ 0 ≤ fkd F ∧ fkd F ≤ 5) ∧ cnt (thr F) (fn F) + fg F = fn F ∧
  (∀ e, e < fn F → fnum F e < fnx F ∧ (-500 ≤ fx F e ∧ fx F e ≤ 500) ∧ (-500 ≤ fy F e ∧ fy F e ≤ 500) ∧ (1 ≤ fw F e ∧ fw F e ≤ 100) ∧ fgo F e ≤ fg F) ∧
  (∀ i j, i < j → j < fn F → fnum F i < fnum F j) ∧ (∀ i j, i < fn F → j < fn F → fgo F i = fgo F j → fgo F i ≠ 0 → i = j)
theorem WF.n120 {F : Fl} (h : WF F) : fn F ≤ 120 := by have := h.1; omega
theorem WF.g60 {F : Fl} (h : WF F) : fg F ≤ 60 := by have := h.1; omega
theorem WF.c60 {F : Fl} (h : WF F) : cnt (thr F) (fn F) ≤ 60 := by have := h.1; have := h.2.1; omega
theorem CF.sm {σ τ : Mem} {f : Nat} {F : Fl} {S : Nat → Nat → Prop} (h : CF σ f F) (hs : Sm S σ τ) (ho : ∀ i k, f ≤ i → i ≤ f + 5 → ¬ S i k) : CF τ f F := by
  have e1 : ∀ i k, f ≤ i → i ≤ f + 5 → τ.1 i k = σ.1 i k := fun i k h1 h2 => (hs i k (ho i k h1 h2)).1
  obtain ⟨⟨h1, h2, h3, h4, h5, h6⟩, h7⟩ := h
  refine ⟨⟨?_, ?_, ?_, ?_, ?_, ?_⟩, fun e he => ?_⟩
  · rw [e1 f 5 (by omega) (by omega)]; exact h1
  · rw [e1 f 6 (by omega) (by omega)]; exact h2
  · rw [e1 f 7 (by omega) (by omega)]; exact h3
  · rw [e1 f 8 (by omega) (by omega)]; exact h4
  · rw [e1 f 9 (by omega) (by omega)]; exact h5
  · rw [e1 f 10 (by omega) (by omega)]; exact h6
  · obtain ⟨a1, a2, a3, a4, a5⟩ := h7 e he
    refine ⟨?_, ?_, ?_, ?_, ?_⟩
    · rw [e1 (f + 1) e (by omega) (by omega)]; exact a1
    · rw [e1 (f + 2) e (by omega) (by omega)]; exact a2
    · rw [e1 (f + 3) e (by omega) (by omega)]; exact a3
    · rw [e1 (f + 4) e (by omega) (by omega)]; exact a4
    · rw [e1 (f + 5) e (by omega) (by omega)]; exact a5
theorem MF.sm {σ τ : Mem} {o : Nat} {F : Fl} (hw : WF F) (h : MF σ o F) (hs : ∀ k, o ≤ k → k < o + 678 → τ.1 95 k = σ.1 95 k) : MF τ o F := by
  have hn := hw.n120
  have hg := hw.g60
  obtain ⟨⟨h1, h2, h3, h4, h5, h6⟩, h7, h8⟩ := h
  refine ⟨⟨?_, ?_, ?_, ?_, ?_, ?_⟩, fun e he => ?_, fun k hk => ?_⟩
  · rw [hs o (by omega) (by omega)]; exact h1
  · rw [hs (o + 1) (by omega) (by omega)]; exact h2
  · rw [hs (o + 4) (by omega) (by omega)]; exact h3
  · rw [hs (o + 5) (by omega) (by omega)]; exact h4
  · rw [hs (o + 3) (by omega) (by omega)]; exact h5
  · rw [hs (o + 2) (by omega) (by omega)]; exact h6
  · obtain ⟨a1, a2, a3, a4, a5⟩ := h7 e he
    refine ⟨?_, ?_, ?_, ?_, ?_⟩
    · rw [hs (o + 6 + e) (by omega) (by omega)]; exact a1
    · rw [hs (o + 128 + e) (by omega) (by omega)]; exact a2
    · rw [hs (o + 250 + e) (by omega) (by omega)]; exact a3
    · rw [hs (o + 372 + e) (by omega) (by omega)]; exact a4
    · rw [hs (o + 494 + e) (by omega) (by omega)]; exact a5
  · obtain ⟨e, q1, q2, q3⟩ := h8 k hk
    exact ⟨e, q1, q2, by rw [hs (o + 616 + k) (by omega) (by omega)]; exact q3⟩
