/-! The best square of the class: lists in order, the window over heights. -/
def Sd (K : Nat → Int) (l : List Nat) : Prop := ∀ i j, i ≤ j → j < l.length → K (l.getD i 0) ≤ K (l.getD j 0)
theorem pos_hi (B : Nat → Nat → Bool) (e : Nat) (l : List Nat) : ∀ t k, pos B e l t ≤ k → k < t → B e (l.getD k 0) = true
  | 0, k, _, h => absurd h (Nat.not_lt_zero k)
  | t + 1, k, h1, h2 => by
    simp only [pos] at h1
    by_cases c : B e (l.getD t 0) = true
    · rw [if_pos c] at h1
      by_cases ck : k = t
      · rw [ck]; exact c
      · exact pos_hi B e l t k h1 (by omega)
    · rw [if_neg c] at h1
      omega
theorem pos_lo (B : Nat → Nat → Bool) (e : Nat) (l : List Nat) : ∀ t, 0 < pos B e l t → B e (l.getD (pos B e l t - 1) 0) = false
  | 0, h => absurd h (Nat.not_lt_zero 0)
  | t + 1, h => by
    simp only [pos] at h ⊢
    by_cases c : B e (l.getD t 0) = true
    · rw [if_pos c] at h ⊢
      exact pos_lo B e l t h
    · rw [if_neg c] at h ⊢
      exact Bool.eq_false_iff.mpr c
theorem ins_sd {B : Nat → Nat → Bool} {K : Nat → Int} (h1 : ∀ i j, B i j = true → K i ≤ K j) (h2 : ∀ i j, B i j = false → K j ≤ K i) {l : List Nat} (e : Nat) (h : Sd K l) : Sd K (ins B e l) := by
  intro i j hij hj
  rw [ins_len] at hj
  have hp := pos_le B e l l.length
  unfold ins
  rw [insAt_getD _ _ _ _ hp, insAt_getD _ _ _ _ hp]
  have hhi : ∀ k, pos B e l l.length ≤ k → k < l.length → K e ≤ K (l.getD k 0) := fun k q1 q2 => h1 _ _ (pos_hi B e l _ k q1 q2)
  have hlo : ∀ k, k < pos B e l l.length → K (l.getD k 0) ≤ K e := fun k q => Int.le_trans (h k (pos B e l l.length - 1) (by omega) (by omega)) (h2 _ _ (pos_lo B e l _ (by omega)))
  by_cases c1 : i < pos B e l l.length
  · rw [if_pos c1]
    by_cases c2 : j < pos B e l l.length
    · rw [if_pos c2]; exact h i j hij (by omega)
    · rw [if_neg c2]
      by_cases c3 : j = pos B e l l.length
      · rw [if_pos c3]; exact hlo i c1
      · rw [if_neg c3]; exact h i (j - 1) (by omega) (by omega)
  · rw [if_neg c1, if_neg (show ¬ j < pos B e l l.length by omega)]
    by_cases c3 : i = pos B e l l.length
    · rw [if_pos c3]
      by_cases c4 : j = pos B e l l.length
      · rw [if_pos c4]; exact Int.le_refl _
      · rw [if_neg c4]; exact hhi (j - 1) (by omega) (by omega)
    · rw [if_neg c3, if_neg (show ¬ j = pos B e l l.length by omega)]
      exact h (i - 1) (j - 1) (by omega) (by omega)
theorem srt_sd {B : Nat → Nat → Bool} {K : Nat → Int} (h1 : ∀ i j, B i j = true → K i ≤ K j) (h2 : ∀ i j, B i j = false → K j ≤ K i) (l : List Nat) : Sd K (srt B l) := by
  suffices h : ∀ (l acc : List Nat), Sd K acc → Sd K (l.foldl (fun acc e => ins B e acc) acc) from h l [] (fun i j _ hj => absurd hj (Nat.not_lt_zero j))
  intro l
  induction l with
  | nil => intro acc ha; exact ha
  | cons b t ih =>
    intro acc ha
    rw [List.foldl_cons]
    exact ih _ (ins_sd h1 h2 b ha)
theorem bef_sd (F : Fl) (l : List Nat) : Sd (fun e => (fx F e).toInt) (srt (befB F) l) := by
  refine srt_sd (fun i j h => ?_) (fun i j h => ?_) l
  · simp only [befB] at h
    by_cases c : fx F i = fx F j
    · rw [c]; exact Int.le_refl _
    · rw [if_neg c] at h
      exact Int.le_of_lt (lt_I.mp (of_decide_eq_true h))
  · simp only [befB] at h
    by_cases c : fx F i = fx F j
    · rw [c]; exact Int.le_refl _
    · rw [if_neg c] at h
      exact le_I.mp (Int32.not_lt.mp (of_decide_eq_false h))
theorem hgt_sd (F : Fl) (l : List Nat) : Sd (fun e => (fy F e).toInt) (srt (fun i j => decide (fy F i < fy F j)) l) := by
  refine srt_sd (fun i j h => ?_) (fun i j h => ?_) l
  · exact Int.le_of_lt (lt_I.mp (of_decide_eq_true h))
  · exact le_I.mp (Int32.not_lt.mp (of_decide_eq_false h))
def colB (F : Fl) (x s : Int32) (e : Nat) : Bool := decide (x ≤ fx F e) && decide (fx F e ≤ x + s)
def sqB (F : Fl) (s x y : Int32) (e : Nat) : Bool := inX x (x + s) y (y + s) (fx F e) (fy F e)
section SQL
variable {F : Fl} {s x y : Int32} {e : Nat}
theorem col_n1 (c : fx F e < x) : ¬ colB F x s e = true := by simp [colB, Int32.not_le.mpr c]
theorem col_n2 (c : x + s < fx F e) : ¬ colB F x s e = true := by simp [colB, Int32.not_le.mpr c]
theorem col_y (c1 : ¬ fx F e < x) (c2 : ¬ x + s < fx F e) : colB F x s e = true := by simp [colB, Int32.not_lt.mp c1, Int32.not_lt.mp c2]
theorem sq_n1 (c : fx F e < x) : ¬ sqB F s x y e = true := by simp [sqB, inX, Int32.not_le.mpr c]
theorem sq_n2 (c : x + s < fx F e) : ¬ sqB F s x y e = true := by simp [sqB, inX, Int32.not_le.mpr c]
theorem sq_n3 (c : fy F e < y) : ¬ sqB F s x y e = true := by simp [sqB, inX, Int32.not_le.mpr c]
theorem sq_n4 (c : y + s < fy F e) : ¬ sqB F s x y e = true := by simp [sqB, inX, Int32.not_le.mpr c]
theorem sq_y (c1 : ¬ fx F e < x) (c2 : ¬ x + s < fx F e) (c3 : ¬ fy F e < y) (c4 : ¬ y + s < fy F e) : sqB F s x y e = true := by simp [sqB, inX, Int32.not_lt.mp c1, Int32.not_lt.mp c2, Int32.not_lt.mp c3, Int32.not_lt.mp c4]
end SQL
def cc (F : Fl) (l : List Nat) (x s : Int32) (k : Nat) : Nat := (l.take k).countP (colB F x s)
theorem cc_s {F : Fl} {l : List Nat} {x s : Int32} {k : Nat} (hk : k < l.length) : cc F l x s (k + 1) = cc F l x s k + (if colB F x s (l.getD k 0) = true then 1 else 0) := countP_take _ _ hk
theorem cc_le {F : Fl} {l : List Nat} {x s : Int32} {k : Nat} : cc F l x s k ≤ l.length := Nat.le_trans List.countP_le_length (by rw [List.length_take]; omega)
theorem sqB_col {F : Fl} {s x y : Int32} {e : Nat} : sqB F s x y e = (colB F x s e && (decide (y ≤ fy F e) && decide (fy F e ≤ y + s))) := by
  simp only [sqB, colB, inX, Bool.and_assoc]
theorem win {F : Fl} {l : List Nat} {x s y : Int32} {u o : Nat} (hu : u ≤ l.length) (ho : o ≤ l.length) (h1 : ∀ k, k < u → (fy F (l.getD k 0)).toInt < y.toInt) (h2 : ∀ k, u ≤ k → k < l.length → y.toInt ≤ (fy F (l.getD k 0)).toInt) (h3 : ∀ k, k < o → (fy F (l.getD k 0)).toInt ≤ (y + s).toInt) (h4 : ∀ k, o ≤ k → k < l.length → (y + s).toInt < (fy F (l.getD k 0)).toInt) (hys : y.toInt ≤ (y + s).toInt) : l.countP (sqB F s x y) + cc F l x s u = cc F l x s o := by
  have key : ∀ n, n ≤ l.length → (l.take n).countP (sqB F s x y) + cc F l x s (min n u) = cc F l x s (min n o) := by
    intro n
    induction n with
    | zero => intro _; simp [cc]
    | succ n ih =>
      intro hn
      have hi := ih (by omega)
      have hlt : n < l.length := by omega
      rw [countP_take _ _ hlt, sqB_col]
      by_cases c1 : n < u
      · have c2 : n < o := by
          rcases Nat.lt_or_ge n o with q | q
          · exact q
          · have := h1 n c1
            have := h4 n q hlt
            omega
        rw [show min (n + 1) u = n + 1 by omega, show min (n + 1) o = n + 1 by omega, cc_s hlt]
        rw [show min n u = n by omega, show min n o = n by omega] at hi
        have e : decide (y ≤ fy F (l.getD n 0)) = false := decide_eq_false (fun q => by have := le_I.mp q; have := h1 n c1; omega)
        rw [e]
        simp only [Bool.false_and, Bool.and_false]
        rw [if_neg (by decide)]
        omega
      · rw [show min (n + 1) u = min n u by omega]
        have e : decide (y ≤ fy F (l.getD n 0)) = true := decide_eq_true (le_I.mpr (h2 n (by omega) hlt))
        rw [e, Bool.true_and]
        by_cases c2 : n < o
        · rw [show min (n + 1) o = n + 1 by omega, cc_s hlt]
          rw [show min n o = n by omega] at hi
          have e : decide (fy F (l.getD n 0) ≤ y + s) = true := decide_eq_true (le_I.mpr (h3 n c2))
          rw [e, Bool.and_true]
          omega
        · rw [show min (n + 1) o = min n o by omega]
          have e : decide (fy F (l.getD n 0) ≤ y + s) = false := decide_eq_false (fun q => by have := le_I.mp q; have := h4 n (by omega) hlt; omega)
          rw [e, Bool.and_false, if_neg (by decide)]
          omega
  have := key l.length (Nat.le_refl _)
  rw [List.take_length, Nat.min_eq_right hu, Nat.min_eq_right ho] at this
  exact this
theorem i32_sac (a b c : Int32) : a - b + c = a + c - b := by
  rw [Int32.sub_eq_add_neg, Int32.sub_eq_add_neg, Int32.add_assoc, Int32.add_comm (-b) c, ← Int32.add_assoc]
theorem i32_ssc (a b c : Int32) : a - b - c = a - (b + c) := by
  rw [Int32.sub_eq_add_neg, Int32.sub_eq_add_neg, Int32.sub_eq_add_neg, Int32.neg_add, Int32.add_assoc, Int32.sub_eq_add_neg]
/-- what is best of the first i heights -/
def FI (F : Fl) (l : List Nat) (s x : Int32) (i : Nat) (v b : Int32) : Prop := (i = 0 ∧ v = -1) ∨ (∃ j, j < i ∧ b = fy F (l.getD j 0) ∧ v = nI (l.countP (sqB F s x b)) ∧ ∀ k, k < i → l.countP (sqB F s x (fy F (l.getD k 0))) < l.countP (sqB F s x b) ∨ (l.countP (sqB F s x (fy F (l.getD k 0))) = l.countP (sqB F s x b) ∧ b.toInt ≤ (fy F (l.getD k 0)).toInt))
section SQC
variable {d f q : Nat} {σ : Mem} {Q : Option Value → Mem → Prop} {F : Fl} {S : Ab} {VA : Ar → Prop} {l : List Nat}
theorem c_inColumn (hq : OKP q) (hf : OKF f) (hn : fn F ≤ 121) (hF : CF σ f F) (hl : l.length ≤ 60) (hm : ∀ e ∈ l, e < fn F) (hp : PH σ q l) {k : Nat} (hk : k < l.length) {x s : Int32} (h : Q (some (.int (nI (if colB F x s (l.getD k 0) = true then 1 else 0)))) σ) : X none d mX4_inColumn 0 [.ref q, .ref f, .int (nI k), .int x, .int s, Unk] [] σ Q := by
  have he := hm _ (getD_mem hk)
  refine vX4_inColumn_0 hq hf ?_
  rw [nI_clamp (n := k) (by omega), hp.2 k hk, nI_clamp (n := l.getD k 0) (by omega), (hF.2 _ he).2.1]
  refine ⟨inN hk hl (by decide), inN he hn (by decide), fun c1 => Qe h ?_, fun c1 => ⟨fun c2 => Qe h ?_, fun c2 => Qe h ?_⟩⟩
  · rw [if_neg (col_n1 c1)]; rfl
  · rw [if_neg (col_n2 c2)]; rfl
  · rw [if_pos (col_y c1 c2)]; rfl
theorem c_inSquare (hq : OKP q) (hf : OKF f) (hn : fn F ≤ 121) (hF : CF σ f F) (hl : l.length ≤ 60) (hm : ∀ e ∈ l, e < fn F) (hp : PH σ q l) {x y s : Int32} (h : Q (some (.int (nI (l.countP (sqB F s x y))))) σ) : X none d mX4_inSquare 0 [.ref q, .ref f, .int x, .int y, .int s, Unk, Unk, Unk, Unk] [] σ Q := by
  refine vX4_inSquare_0 hq hf ?_
  have key : ∀ m k, l.length = k + m → X none d mX4_inSquare 6 [.ref q, .ref f, .int x, .int y, .int s, .int (nI ((l.take k).countP (sqB F s x y))), .int (nI k), Unk, Unk] [] σ Q := by
    intro m
    induction m with
    | zero =>
      intro k hk
      refine vX4_inSquare_6 hq hf ⟨fun _ => Qe h ?_, fun c => absurd (by rw [hp.1]; exact nI_le (by omega) (by omega)) c⟩
      rw [List.take_of_length_le (by omega)]
    | succ m ih =>
      intro k hk
      have hlt : k < l.length := by omega
      have he := hm _ (getD_mem hlt)
      have hi := ih (k + 1) (by omega)
      rw [countP_take _ _ hlt] at hi
      have b1 := inN hlt hl (by decide)
      have b2 := inN he hn (by decide)
      refine vX4_inSquare_6 hq hf ?_
      rw [nI_clamp (n := k) (by omega), hp.2 k hlt, nI_clamp (n := l.getD k 0) (by omega), (hF.2 _ he).2.1, (hF.2 _ he).2.2.1, nI_1, nI_1]
      refine ⟨fun c => absurd c (by rw [hp.1]; exact nI_ge hlt (by omega)), fun _ => ⟨b1, b2, b1, b2, fun c1 => ?_, fun c1 => ⟨fun c2 => ?_, fun c2 => ⟨fun c3 => ?_, fun c3 => ⟨fun c4 => ?_, fun c4 => ?_⟩⟩⟩⟩⟩
      · rw [if_neg (sq_n1 c1), Nat.add_zero] at hi
        exact hi
      · rw [if_neg (sq_n2 c2), Nat.add_zero] at hi
        exact hi
      · rw [if_neg (sq_n3 c3), Nat.add_zero] at hi
        exact hi
      · rw [if_neg (sq_n4 c4), Nat.add_zero] at hi
        exact hi
      · rw [if_pos (sq_y c1 c2 c3 c4)] at hi
        exact hi
  have := key l.length 0 (by omega)
  simp only [List.take_zero, List.countP_nil, nI_0] at this
  exact this
theorem c_fullest (hq : OKP q) (hf : OKF f) (hn : fn F ≤ 121) (hF : CF σ f F) (hl : l.length ≤ 60) (hm : ∀ e ∈ l, e < fn F) (hp : PH σ q l) (hon : ∀ e ∈ l, onA (fy F e)) (hsd : Sd (fun e => (fy F e).toInt) l) {x s : Int32} (hs : 0 ≤ s ∧ s ≤ 300) (hne : 0 < l.length)
    (h : ∀ y, (∃ j, j < l.length ∧ y = fy F (l.getD j 0)) → (∀ k, k < l.length → l.countP (sqB F s x (fy F (l.getD k 0))) < l.countP (sqB F s x y) ∨ (l.countP (sqB F s x (fy F (l.getD k 0))) = l.countP (sqB F s x y) ∧ y.toInt ≤ (fy F (l.getD k 0)).toInt)) → Q (some (.int y)) σ) :
    X none (d + 1) mX4_fullestFrom 0 [.ref q, .ref f, .int x, .int s, Unk, Unk, Unk, Unk, Unk, Unk, Unk] [] σ Q := by
  refine vX4_fullestFrom_0 hq hf ?_
  have s0 : 0 ≤ s.toInt ∧ s.toInt ≤ 300 := by
    have a1 := le_I.mp hs.1
    have a2 := le_I.mp hs.2
    rw [show ((0 : Int32)).toInt = 0 by decide] at a1
    rw [show ((300 : Int32)).toInt = 300 by decide] at a2
    exact ⟨a1, a2⟩
  have on : ∀ k, k < l.length → -500 ≤ (fy F (l.getD k 0)).toInt ∧ (fy F (l.getD k 0)).toInt ≤ 500 := fun k hk => onA_I (hon _ (getD_mem hk))
  have ys : ∀ k, k < l.length → (fy F (l.getD k 0) + s).toInt = (fy F (l.getD k 0)).toInt + s.toInt := fun k hk => by
    have := on k hk
    exact add_toI (by omega) (by omega)
  have rd : ∀ k, k < l.length → σ.1 (f + 3) (σ.1 (q + 1) (nI k).toNatClampNeg).toNatClampNeg = fy F (l.getD k 0) := fun k hk => by
    have he := hm _ (getD_mem hk)
    rw [nI_clamp (n := k) (by omega), hp.2 k hk, nI_clamp (n := l.getD k 0) (by omega), (hF.2 _ he).2.2.1]
  have rv : ∀ k, k < l.length → vp_in (nI k) 60 ∧ vp_in (σ.1 (q + 1) (nI k).toNatClampNeg) 121 := fun k hk => by
    have he := hm _ (getD_mem hk)
    rw [nI_clamp (n := k) (by omega), hp.2 k hk]
    exact ⟨inN hk hl (by decide), inN he hn (by decide)⟩
  have l41 : ∀ (v b y : Int32) (u i : Nat), (∀ o', o' ≤ l.length → (∀ k, k < o' → (fy F (l.getD k 0)).toInt ≤ (y + s).toInt) → (∀ k, o' ≤ k → k < l.length → (y + s).toInt < (fy F (l.getD k 0)).toInt) → X none (d + 1) mX4_fullestFrom 89 [.ref q, .ref f, .int x, .int s, .int v, .int b, .int (nI (cc F l x s o') - nI (cc F l x s u)), .int (nI o'), .int (nI u), .int (nI i), .int y] [] σ Q) →
      ∀ m o, l.length = o + m → (∀ k, k < o → (fy F (l.getD k 0)).toInt ≤ (y + s).toInt) → X none (d + 1) mX4_fullestFrom 41 [.ref q, .ref f, .int x, .int s, .int v, .int b, .int (nI (cc F l x s o) - nI (cc F l x s u)), .int (nI o), .int (nI u), .int (nI i), .int y] [] σ Q := by
    intro v b y u i kk m
    induction m with
    | zero =>
      intro o ho hlo
      refine vX4_fullestFrom_41 hq hf ⟨fun _ => kk o (by omega) hlo (fun k q1 q2 => by omega), fun c => absurd (by rw [hp.1]; exact nI_le (by omega) (by omega)) c⟩
    | succ m ih =>
      intro o ho hlo
      have hlt : o < l.length := by omega
      refine vX4_fullestFrom_41 hq hf ⟨fun c => absurd c (by rw [hp.1]; exact nI_ge hlt (by omega)), fun _ => ⟨(rv o hlt).1, (rv o hlt).2, ?_⟩⟩
      rw [rd o hlt]
      refine ⟨fun c => kk o (by omega) hlo (fun k q1 q2 => Int.lt_of_lt_of_le (lt_I.mp c) (hsd o k q1 q2)), fun c => ?_⟩
      refine c_inColumn hq hf hn hF hl hm hp hlt ⟨_, rfl, ?_⟩
      rw [i32_sac, nI_add, ← cc_s hlt, nI_1]
      refine ih (o + 1) (by omega) (fun k hk => ?_)
      by_cases ck : k = o
      · rw [ck]; exact le_I.mp (Int32.not_lt.mp c)
      · exact hlo k (by omega)
  have l89 : ∀ (v b y : Int32) (o i : Nat), (∀ u', u' ≤ l.length → (∀ k, k < u' → (fy F (l.getD k 0)).toInt < y.toInt) → (∀ k, u' ≤ k → k < l.length → y.toInt ≤ (fy F (l.getD k 0)).toInt) →
        ((nI (cc F l x s o) - nI (cc F l x s u') ≤ v → X none (d + 1) mX4_fullestFrom 18 [.ref q, .ref f, .int x, .int s, .int v, .int b, .int (nI (cc F l x s o) - nI (cc F l x s u')), .int (nI o), .int (nI u'), .int (nI i + 1), Unk] [] σ Q) ∧
         (¬ nI (cc F l x s o) - nI (cc F l x s u') ≤ v → X none (d + 1) mX4_fullestFrom 18 [.ref q, .ref f, .int x, .int s, .int (nI (cc F l x s o) - nI (cc F l x s u')), .int y, .int (nI (cc F l x s o) - nI (cc F l x s u')), .int (nI o), .int (nI u'), .int (nI i + 1), Unk] [] σ Q))) →
      ∀ m u, l.length = u + m → (∀ k, k < u → (fy F (l.getD k 0)).toInt < y.toInt) → X none (d + 1) mX4_fullestFrom 89 [.ref q, .ref f, .int x, .int s, .int v, .int b, .int (nI (cc F l x s o) - nI (cc F l x s u)), .int (nI o), .int (nI u), .int (nI i), .int y] [] σ Q := by
    intro v b y o i kk m
    induction m with
    | zero =>
      intro u hu hlo
      refine vX4_fullestFrom_89 hq hf ⟨fun _ => kk u (by omega) hlo (fun k q1 q2 => by omega), fun c => absurd (by rw [hp.1]; exact nI_le (by omega) (by omega)) c⟩
    | succ m ih =>
      intro u hu hlo
      have hlt : u < l.length := by omega
      refine vX4_fullestFrom_89 hq hf ⟨fun c => absurd c (by rw [hp.1]; exact nI_ge hlt (by omega)), fun _ => ⟨(rv u hlt).1, (rv u hlt).2, ?_⟩⟩
      rw [rd u hlt]
      refine ⟨fun c => kk u (by omega) hlo (fun k q1 q2 => Int.le_trans (le_I.mp c) (hsd u k q1 q2)), fun c => ?_⟩
      refine c_inColumn hq hf hn hF hl hm hp hlt ⟨_, rfl, ?_⟩
      rw [i32_ssc, nI_add, ← cc_s hlt, nI_1]
      refine ih (u + 1) (by omega) (fun k hk => ?_)
      by_cases ck : k = u
      · rw [ck]; exact lt_I.mp (Int32.not_le.mp c)
      · exact hlo k (by omega)
  have l18 : ∀ m i o u (v b : Int32), l.length = i + m → o ≤ l.length → u ≤ l.length → (∀ k, k < o → ∀ j, i ≤ j → j < l.length → (fy F (l.getD k 0)).toInt ≤ (fy F (l.getD j 0) + s).toInt) → (∀ k, k < u → ∀ j, i ≤ j → j < l.length → (fy F (l.getD k 0)).toInt < (fy F (l.getD j 0)).toInt) → FI F l s x i v b →
      X none (d + 1) mX4_fullestFrom 18 [.ref q, .ref f, .int x, .int s, .int v, .int b, .int (nI (cc F l x s o) - nI (cc F l x s u)), .int (nI o), .int (nI u), .int (nI i), Unk] [] σ Q := by
    intro m
    induction m with
    | zero =>
      intro i o u v b hi ho hu h1 h2 hI
      refine vX4_fullestFrom_18 hq hf ⟨fun _ => ?_, fun c => absurd (by rw [hp.1]; exact nI_le (by omega) (by omega)) c⟩
      rcases hI with ⟨z, _⟩ | ⟨j, hj, e1, e2, e3⟩
      · omega
      · exact h b ⟨j, by omega, e1⟩ (fun k hk => e3 k (by omega))
    | succ m ih =>
      intro i o u v b hi ho hu h1 h2 hI
      have hlt : i < l.length := by omega
      refine vX4_fullestFrom_18 hq hf ⟨fun c => absurd c (by rw [hp.1]; exact nI_ge hlt (by omega)), fun _ => ⟨(rv i hlt).1, (rv i hlt).2, ?_⟩⟩
      rw [rd i hlt]
      refine l41 v b _ u i (fun o' ho' g1 g2 => ?_) (l.length - o) o (by omega) (fun k hk => h1 k hk i (Nat.le_refl _) hlt)
      refine l89 v b _ o' i (fun u' hu' g3 g4 => ?_) (l.length - u) u (by omega) (fun k hk => h2 k hk i (Nat.le_refl _) hlt)
      have hysi := ys i hlt
      have hwin := win (x := x) hu' ho' g3 g4 g1 g2 (by omega)
      have hco : cc F l x s o' ≤ l.length := cc_le
      have ev : nI (cc F l x s o') - nI (cc F l x s u') = nI (l.countP (sqB F s x (fy F (l.getD i 0)))) := by
        rw [pk_sub (by omega)]
        congr 1
        omega
      have hW : l.countP (sqB F s x (fy F (l.getD i 0))) ≤ l.length := List.countP_le_length
      have j1 : ∀ k, k < o' → ∀ j, i + 1 ≤ j → j < l.length → (fy F (l.getD k 0)).toInt ≤ (fy F (l.getD j 0) + s).toInt := fun k hk j q1 q2 => by
        have a1 := g1 k hk
        have a2 := hsd i j (by omega) q2
        have a3 := ys j q2
        simp only at a2
        omega
      have j2 : ∀ k, k < u' → ∀ j, i + 1 ≤ j → j < l.length → (fy F (l.getD k 0)).toInt < (fy F (l.getD j 0)).toInt := fun k hk j q1 q2 => Int.lt_of_lt_of_le (g3 k hk) (hsd i j (by omega) q2)
      rw [nI_1]
      refine ⟨fun c => ih (i + 1) o' u' v b (by omega) ho' hu' j1 j2 ?_, fun c => ih (i + 1) o' u' _ _ (by omega) ho' hu' j1 j2 ?_⟩
      · rw [ev] at c
        rcases hI with ⟨z, z2⟩ | ⟨j, hj, e1, e2, e3⟩
        · rw [z2] at c
          have := le_I.mp c
          rw [nI_toInt (by omega), show ((-1 : Int32)).toInt = -1 by decide] at this
          omega
        · refine Or.inr ⟨j, by omega, e1, e2, fun k hk => ?_⟩
          by_cases ck : k = i
          · rw [ck]
            have hWb : l.countP (sqB F s x b) ≤ l.length := List.countP_le_length
            rw [e2, nI_leI (by omega) (by omega)] at c
            have a2 := hsd j i (by omega) hlt
            simp only at a2
            rcases Nat.lt_or_eq_of_le c with c | c
            · exact Or.inl c
            · exact Or.inr ⟨c, by rw [e1]; exact a2⟩
          · exact e3 k (by omega)
      · rw [ev] at c ⊢
        refine Or.inr ⟨i, by omega, rfl, rfl, fun k hk => ?_⟩
        by_cases ck : k = i
        · rw [ck]; exact Or.inr ⟨rfl, Int.le_refl _⟩
        · rcases hI with ⟨z, z2⟩ | ⟨j, hj, e1, e2, e3⟩
          · omega
          · have hWb : l.countP (sqB F s x b) ≤ l.length := List.countP_le_length
            rw [e2, nI_leI (by omega) (by omega)] at c
            left
            rcases e3 k (by omega) with q1 | ⟨q1, _⟩ <;> omega
  have := l18 l.length 0 0 0 (-1) 0 (by omega) (by omega) (by omega) (fun k hk => absurd hk (Nat.not_lt_zero k)) (fun k hk => absurd hk (Nat.not_lt_zero k)) (Or.inl ⟨rfl, rfl⟩)
  have e0 : cc F l x s 0 = 0 := rfl
  rw [e0, nI_0, Int32.sub_zero] at this
  exact this
theorem p_square (hC : CL σ S) (hw : WS VA S) {s what : Int32} (h : OutC σ Q (o_square S s what)) : X none (d + 4) mX7_square 0 [.ref 0, .int s, .int what, Unk, Unk, Unk, Unk, Unk, Unk, Unk] [] σ Q := by
  have hwf := hw.1
  have hn := hwf.n120
  have hl : (thL (bF S)).length ≤ 60 := by rw [thL, pik_len]; exact hwf.c60
  refine vX7_square_0 ⟨fun c => h.bad hC (by rw [o_square, if_neg (fun q => absurd q.1.1 (Int32.not_le.mpr c))]), fun c1 => ⟨fun c => h.bad hC (by rw [o_square, if_neg (fun q => absurd q.1.2 (Int32.not_le.mpr c))]), fun c2 => ⟨fun c => h.bad hC (by rw [o_square, if_neg (fun q => absurd q.2.1 (Int32.not_le.mpr c))]), fun c3 => ⟨fun c4 => ?_, fun c => h.bad hC (by rw [o_square, if_neg (fun q => c q.2.2)])⟩⟩⟩⟩
  have hsr : 0 ≤ s ∧ s ≤ 300 := ⟨Int32.not_lt.mp c1, Int32.not_lt.mp c2⟩
  have ho : o_square S s what = (sqR (bF S) s what, S) := by rw [o_square, if_pos ⟨hsr, Int32.not_lt.mp c3, c4⟩]
  have hth : ∀ e ∈ thL (bF S), e < fn (bF S) := pikm
  refine c_pickAll okP_57 okF_1 (by omega) hwf hC.1 (fun τ1 hp1 hs1 => ⟨rfl, ?_⟩)
  have hF1 := hC.1.sm hs1 (fun i k q1 q2 => by unfold SP; omega)
  have hp1' : PH τ1 57 (thL (bF S)) := hp1
  refine c_sortByPlace okP_57 okF_1 (by omega) (by omega) hF1 hl hth hp1' (fun τ2 hp2 hs2 => ⟨rfl, ?_⟩)
  have hF2 := hF1.sm hs2 (fun i k q1 q2 => by unfold SP; omega)
  refine c_pickAll okP_59 okF_1 (by omega) hwf hF2 (fun τ3 hp3 hs3 => ⟨rfl, ?_⟩)
  have hF3 := hF2.sm hs3 (fun i k q1 q2 => by unfold SP; omega)
  have hp3' : PH τ3 59 (thL (bF S)) := hp3
  have hp2a := hp2.sm hs3 (fun i k q1 q2 => by unfold SP; omega)
  refine c_sortByHeight okP_59 okF_1 (by omega) (by omega) hF3 hl hth hp3' (fun τ4 hp4 hs4 => ⟨rfl, ?_⟩)
  have hF4 := hF3.sm hs4 (fun i k q1 q2 => by unfold SP; omega)
  have hp2b := hp2a.sm hs4 (fun i k q1 q2 => by unfold SP; omega)
  have hsA : Sm (fun i _ => 57 ≤ i ∧ i ≤ 63) σ τ4 := (((hs1.mono (fun i k q => by unfold SP at q; omega)).tr (hs2.mono (fun i k q => by unfold SP at q; omega))).tr (hs3.mono (fun i k q => by unfold SP at q; omega))).tr (hs4.mono (fun i k q => by unfold SP at q; omega))
  have hq0 : Q (some (.int (sqR (bF S) s what))) τ4 := h.same hC ho hsA (fun i k q => scr63 i k q)
  have hq : ∀ m x y, SqI (bF S) s (TA (bF S)) m x y → Q (some (.int (sqA what m x y))) τ4 := fun m x y hi => by
    have h0 := hq0
    rw [sqR_of ⟨m, x, y, hi, rfl⟩] at h0
    exact h0
  clear h hq0
  have hsdP := bef_sd (bF S) (thL (bF S))
  have hsdL := hgt_sd (bF S) (thL (bF S))
  have mP : ∀ e, e ∈ srt (befB (bF S)) (thL (bF S)) ↔ e ∈ thL (bF S) := srt_mem _ _
  have mL : ∀ e, e ∈ srt (fun i j => decide (fy (bF S) i < fy (bF S) j)) (thL (bF S)) ↔ e ∈ thL (bF S) := srt_mem _ _
  have eW : ∀ x y, (srt (fun i j => decide (fy (bF S) i < fy (bF S) j)) (thL (bF S))).countP (sqB (bF S) s x y) = Wq (bF S) s x y := fun x y => (srt_perm _ _).countP_eq _
  have lP : (srt (befB (bF S)) (thL (bF S))).length = (thL (bF S)).length := srt_len _ _
  have lL : (srt (fun i j => decide (fy (bF S) i < fy (bF S) j)) (thL (bF S))).length = (thL (bF S)).length := srt_len _ _
  generalize srt (befB (bF S)) (thL (bF S)) = P at hp2b hsdP mP lP
  generalize srt (fun i j => decide (fy (bF S) i < fy (bF S) j)) (thL (bF S)) = L at hp4 hsdL mL lL eW
  have key : ∀ k i m x y, P.length = i + k → SqI (bF S) s (fun a b => ∃ j, j < i ∧ a = fx (bF S) (P.getD j 0) ∧ ∃ f ∈ thL (bF S), b = fy (bF S) f) m x y → X none (d + 4) mX7_square 82 [.ref 0, .int s, .int what, .int (nI m), .int x, .int y, .int (nI i), Unk, Unk, Unk] [] τ4 Q := by
    intro k
    induction k with
    | zero =>
      intro i m x y hi hI
      refine vX7_square_82 ⟨fun _ => ?_, fun c => absurd (by rw [hp2b.1]; exact nI_le (by omega) (by omega)) c⟩
      refine sq_end (hI.le60 hwf) (hq m x y (hI.cong (fun a b => ⟨?_, ?_⟩)))
      · rintro ⟨j, hj, e1, f, hf, e2⟩
        exact ⟨_, (mP _).mp (getD_mem (by omega)), f, hf, e1, e2⟩
      · rintro ⟨e, he, f, hf, e1, e2⟩
        obtain ⟨j, hj, hje⟩ := mem_getD ((mP e).mpr he)
        exact ⟨j, by omega, by rw [hje]; exact e1, f, hf, e2⟩
    | succ k ih =>
      intro i m x y hi hI
      have hlt : i < P.length := by omega
      have heP : P.getD i 0 ∈ thL (bF S) := (mP _).mp (getD_mem hlt)
      have he := hth _ heP
      have h60 := hI.le60 hwf
      have hLne : 0 < L.length := by omega
      refine vX7_square_82 ⟨fun c => absurd c (by rw [hp2b.1]; exact nI_ge hlt (by omega)), fun _ => ?_⟩
      rw [nI_clamp (n := i) (by omega), hp2b.2 i hlt, nI_clamp (n := P.getD i 0) (by omega), (hF4.2 _ he).2.1, nI_1]
      refine ⟨inN hlt (by omega) (by decide), inN he (by omega) (by decide), ?_⟩
      refine c_fullest okP_59 okF_1 (by omega) hF4 (by omega) (fun e q => hth e ((mL e).mp q)) hp4 (fun e q => (hwf.on (hth e ((mL e).mp q))).2) hsdL hsr hLne (fun y0 hy1 hy2 => ⟨_, rfl, ?_⟩)
      refine c_inSquare okP_59 okF_1 (by omega) hF4 (by omega) (fun e q => hth e ((mL e).mp q)) hp4 ⟨_, rfl, ?_⟩
      obtain ⟨j0, hj0, ey0⟩ := hy1
      have hy0 : ∃ f ∈ thL (bF S), y0 = fy (bF S) f := ⟨_, (mL _).mp (getD_mem hj0), ey0⟩
      have hmax : ∀ f ∈ thL (bF S), Wq (bF S) s (fx (bF S) (P.getD i 0)) (fy (bF S) f) < Wq (bF S) s (fx (bF S) (P.getD i 0)) y0 ∨ (Wq (bF S) s (fx (bF S) (P.getD i 0)) (fy (bF S) f) = Wq (bF S) s (fx (bF S) (P.getD i 0)) y0 ∧ y0.toInt ≤ (fy (bF S) f).toInt) := fun f hf => by
        obtain ⟨j, hj, hje⟩ := mem_getD ((mL f).mpr hf)
        have := hy2 j hj
        rw [hje, eW, eW] at this
        exact this
      have hWle : Wq (bF S) s (fx (bF S) (P.getD i 0)) y0 ≤ (thL (bF S)).length := List.countP_le_length
      have hT : ∀ a b, (∃ j, j < i + 1 ∧ a = fx (bF S) (P.getD j 0) ∧ ∃ f ∈ thL (bF S), b = fy (bF S) f) → (∃ j, j < i ∧ a = fx (bF S) (P.getD j 0) ∧ ∃ f ∈ thL (bF S), b = fy (bF S) f) ∨ (a = fx (bF S) (P.getD i 0) ∧ ∃ f ∈ thL (bF S), b = fy (bF S) f) := by
        rintro a b ⟨j, hj, e1, e2⟩
        by_cases cj : j = i
        · rw [cj] at e1
          exact Or.inr ⟨e1, e2⟩
        · exact Or.inl ⟨j, by omega, e1, e2⟩
      rw [eW, nI_leI (by omega) (by omega)]
      refine ⟨fun c => ih (i + 1) m x y (by omega) (hI.keep hT (fun a b ⟨j, hj, e1, e2⟩ => ⟨j, by omega, e1, e2⟩) ?_), fun c => ih (i + 1) _ _ _ (by omega) (hI.take hT ⟨i, by omega, rfl, hy0⟩ (by omega) ?_)⟩
      · rintro a b ⟨e1, f, hf, e2⟩
        have hm := hmax f hf
        rw [e1, e2]
        rcases Nat.lt_or_ge (Wq (bF S) s (fx (bF S) (P.getD i 0)) (fy (bF S) f)) m with z | z
        · exact Or.inl z
        · refine Or.inr ⟨by rcases hm with q | ⟨q, _⟩ <;> omega, ?_⟩
          rcases hI with ⟨z1, _⟩ | ⟨z1, z2, ⟨j, hj, g1, g2⟩, z4⟩
          · exact Or.inl z1
          · right
            have hle := hsdP j i (by omega) hlt
            simp only at hle
            rw [← g1] at hle
            rcases Int.lt_or_eq_of_le hle with q | q
            · exact Or.inl q
            · have hx := Int32.toInt_inj.mp q
              right
              refine ⟨hx, ?_⟩
              rcases z4 (fx (bF S) (P.getD i 0)) (fy (bF S) f) ⟨j, hj, by rw [← hx]; exact g1, f, hf, rfl⟩ with w | ⟨_, w | w⟩
              · omega
              · omega
              · exact w.2
      · rintro a b ⟨e1, f, hf, e2⟩
        rw [e1, e2]
        rcases hmax f hf with q | ⟨q1, q2⟩
        · exact Or.inl q
        · exact Or.inr ⟨q1, Or.inr ⟨rfl, q2⟩⟩
  have := key P.length 0 0 0 0 (by omega) (Or.inl ⟨rfl, fun a b ⟨j, hj, _⟩ => absurd hj (Nat.not_lt_zero j)⟩)
  rw [nI_0] at this
  exact this
end SQC
