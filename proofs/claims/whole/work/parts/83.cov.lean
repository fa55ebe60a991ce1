/-! What an area covers: one stack of answers behind both sides; inside, covers, found, mow of the model. -/
def evS (A : Ar) (x y : Int32) (st : List Bool) (s : Int32) : List Bool := if 0 ≤ s then inR A s.toNatClampNeg x y :: st else if s = -1 then (match st with
    | b :: t => (!b) :: t
    | [] => []) else (match st with
    | r :: l :: t => (if s = -2 then l && r else if s = -3 then l || r else l && !r) :: t
    | t => t)
def ev (A : Ar) (x y : Int32) : Nat → List Bool
  | 0 => []
  | k + 1 => evS A x y (ev A x y k) (ast A k)
def dep (A : Ar) : Nat → Nat
  | 0 => 0
  | k + 1 => if 0 ≤ ast A k then dep A k + 1 else if ast A k = -1 then dep A k else dep A k - 1
/-- what holds of every area that a text can tell -/
def VA0 (A : Ar) : Prop := WA A ∧ (∀ k, k < am A → (ast A k = -1 → 1 ≤ dep A k) ∧ ((ast A k = -2 ∨ ast A k = -3 ∨ ast A k = -4) → 2 ≤ dep A k)) ∧ (∀ k, k ≤ am A → dep A k ≤ 12) ∧ dep A (am A) ≤ 1
def hvl : List Bool → Nat
  | [] => 0
  | b :: t => (if b = true then 1 else 0) + 2 * hvl t
theorem hvl_lt : ∀ st : List Bool, hvl st < 2 ^ st.length
  | [] => by decide
  | b :: t => by
    have := hvl_lt t
    simp only [hvl, List.length_cons, Nat.pow_succ]
    split <;> omega
def hb (n : Nat) : Bool := decide (((nI n <<< ((1 : Int32) &&& 31)) ||| 1) = nI (2 * n + 1) ∧ ((nI n <<< ((1 : Int32) &&& 31)) ||| 0) = nI (2 * n) ∧ (nI n ^^^ 1) = nI (if n % 2 = 1 then n - 1 else n + 1) ∧ ((nI n >>> ((1 : Int32) &&& 31)) &&& ((nI n &&& 1) ||| (-2))) = nI (if n % 2 = 1 then n / 2 else n / 2 - n / 2 % 2) ∧ ((nI n >>> ((1 : Int32) &&& 31)) ||| (nI n &&& 1)) = nI (if n % 2 = 1 then n / 2 - n / 2 % 2 + 1 else n / 2) ∧ ((nI n >>> ((1 : Int32) &&& 31)) &&& ((nI n &&& 1) ^^^ (-1))) = nI (if n % 2 = 1 then n / 2 - n / 2 % 2 else n / 2) ∧ ((nI n &&& 1) = 1 ↔ n % 2 = 1))
theorem hb_all : ∀ a, a < 64 → ∀ b, b < 64 → hb (64 * a + b) = true := by decide +kernel
theorem hb_of (n : Nat) (h : n < 4096) : ((nI n <<< ((1 : Int32) &&& 31)) ||| 1) = nI (2 * n + 1) ∧ ((nI n <<< ((1 : Int32) &&& 31)) ||| 0) = nI (2 * n) ∧ (nI n ^^^ 1) = nI (if n % 2 = 1 then n - 1 else n + 1) ∧ ((nI n >>> ((1 : Int32) &&& 31)) &&& ((nI n &&& 1) ||| (-2))) = nI (if n % 2 = 1 then n / 2 else n / 2 - n / 2 % 2) ∧ ((nI n >>> ((1 : Int32) &&& 31)) ||| (nI n &&& 1)) = nI (if n % 2 = 1 then n / 2 - n / 2 % 2 + 1 else n / 2) ∧ ((nI n >>> ((1 : Int32) &&& 31)) &&& ((nI n &&& 1) ^^^ (-1))) = nI (if n % 2 = 1 then n / 2 - n / 2 % 2 else n / 2) ∧ ((nI n &&& 1) = 1 ↔ n % 2 = 1) := by
  have h1 := hb_all (n / 64) (by omega) (n % 64) (by omega)
  rw [show 64 * (n / 64) + n % 64 = n by omega] at h1
  exact of_decide_eq_true h1
theorem hvl_12 {st : List Bool} (h : st.length ≤ 12) : hvl st < 4096 := Nat.lt_of_lt_of_le (hvl_lt st) (Nat.pow_le_pow_right (by omega) h)
theorem nn_0 {j : Nat} (h : j < 2 ^ 31) : (0 : Int32) ≤ nI j := nI_pos' h
theorem z1 : ¬ (0 : Int32) ≤ -1 := by decide
theorem z2 : ¬ (0 : Int32) ≤ -2 := by decide
theorem z3 : ¬ (0 : Int32) ≤ -3 := by decide
theorem z4 : ¬ (0 : Int32) ≤ -4 := by decide
theorem y2 : ¬ (-2 : Int32) = -1 := by decide
theorem y3 : ¬ (-3 : Int32) = -1 := by decide
theorem y4 : ¬ (-4 : Int32) = -1 := by decide
theorem x3' : ¬ (-3 : Int32) = -2 := by decide
theorem x4' : ¬ (-4 : Int32) = -2 := by decide
theorem u4' : ¬ (-4 : Int32) = -3 := by decide
section EVS
variable {A : Ar} {x y h : Int32} {st t : List Bool} {b r l : Bool} {j k : Nat}
theorem evS_r (hj : j < 2 ^ 31) : evS A x y st (nI j) = inR A j x y :: st := by unfold evS; rw [if_pos (nn_0 hj), nI_clamp hj]
theorem evS_1 : evS A x y (b :: t) (-1) = (!b) :: t := by rw [evS, if_neg z1, if_pos (show (-1 : Int32) = -1 from rfl)]
theorem evS_2 : evS A x y (r :: l :: t) (-2) = (l && r) :: t := by
  rw [evS, if_neg z2, if_neg y2]
  show (if (-2 : Int32) = -2 then l && r else if (-2 : Int32) = -3 then l || r else l && !r) :: t = _
  rw [if_pos (show (-2 : Int32) = -2 from rfl)]
theorem evS_3 : evS A x y (r :: l :: t) (-3) = (l || r) :: t := by
  rw [evS, if_neg z3, if_neg y3]
  show (if (-3 : Int32) = -2 then l && r else if (-3 : Int32) = -3 then l || r else l && !r) :: t = _
  rw [if_neg x3', if_pos (show (-3 : Int32) = -3 from rfl)]
theorem evS_4 : evS A x y (r :: l :: t) (-4) = (l && !r) :: t := by
  rw [evS, if_neg z4, if_neg y4]
  show (if (-4 : Int32) = -2 then l && r else if (-4 : Int32) = -3 then l || r else l && !r) :: t = _
  rw [if_neg x4', if_neg u4']
theorem hst_r (hj : j < 2 ^ 31) : hst A x y h (nI j) = (h <<< ((1 : Int32) &&& 31)) ||| (if inR A j x y = true then 1 else 0) := by rw [hst, if_pos (nn_0 hj), nI_clamp hj]
theorem hst_1 : hst A x y h (-1) = h ^^^ 1 := by rw [hst, if_neg z1, if_pos (show (-1 : Int32) = -1 from rfl)]
theorem hst_2 : hst A x y h (-2) = (h >>> ((1 : Int32) &&& 31)) &&& ((h &&& 1) ||| (-2)) := by rw [hst, if_neg z2, if_neg y2, if_pos (show (-2 : Int32) = -2 from rfl)]
theorem hst_3 : hst A x y h (-3) = (h >>> ((1 : Int32) &&& 31)) ||| (h &&& 1) := by rw [hst, if_neg z3, if_neg y3, if_neg x3', if_pos (show (-3 : Int32) = -3 from rfl)]
theorem hst_4 : hst A x y h (-4) = (h >>> ((1 : Int32) &&& 31)) &&& ((h &&& 1) ^^^ (-1)) := by rw [hst, if_neg z4, if_neg y4, if_neg x4', if_neg u4']
theorem dep_r (hj : j < 2 ^ 31) (e : ast A k = nI j) : dep A (k + 1) = dep A k + 1 := by rw [dep, e, if_pos (nn_0 hj)]
theorem dep_1 (e : ast A k = -1) : dep A (k + 1) = dep A k := by rw [dep, e, if_neg z1, if_pos (show (-1 : Int32) = -1 from rfl)]
theorem dep_2 (e : ast A k = -2 ∨ ast A k = -3 ∨ ast A k = -4) : dep A (k + 1) = dep A k - 1 := by
  rcases e with e | e | e
  · rw [dep, e, if_neg z2, if_neg y2]
  · rw [dep, e, if_neg z3, if_neg y3]
  · rw [dep, e, if_neg z4, if_neg y4]
end EVS
/-- a step's kinds -/
theorem stp_cases {A : Ar} (hw : WA A) {k : Nat} (hk : k < am A) : (∃ j, j < ar A ∧ j < 2 ^ 31 ∧ ast A k = nI j) ∨ ast A k = -1 ∨ ast A k = -2 ∨ ast A k = -3 ∨ ast A k = -4 := by
  rcases hw.2.2 k hk with ⟨j, hj, e⟩ | h
  · exact Or.inl ⟨j, hj, by have := hw.2.1; omega, e⟩
  · exact Or.inr h
theorem len1 {st : List Bool} (h : 1 ≤ st.length) : ∃ b t, st = b :: t := by
  cases st with
  | nil => simp at h
  | cons b t => exact ⟨b, t, rfl⟩
theorem len2 {st : List Bool} (h : 2 ≤ st.length) : ∃ r l t, st = r :: l :: t := by
  cases st with
  | nil => simp at h
  | cons r t => cases t with
    | nil => simp at h
    | cons l t => exact ⟨r, l, t, rfl⟩
theorem ev_len {A : Ar} (hV : VA0 A) (x y : Int32) : ∀ k, k ≤ am A → (ev A x y k).length = dep A k := by
  intro k
  induction k with
  | zero => intro _; rfl
  | succ k ih =>
    intro hk
    have hi := ih (by omega)
    obtain ⟨v1, v2⟩ := hV.2.1 k (by omega)
    rw [ev]
    rcases stp_cases hV.1 (show k < am A by omega) with ⟨j, hj, hj2, e⟩ | e | e | e | e
    · rw [dep_r hj2 e, e, evS_r hj2, List.length_cons, hi]
    · obtain ⟨b, t, hst⟩ := len1 (st := ev A x y k) (by have := v1 e; omega)
      rw [hst] at hi ⊢
      rw [dep_1 e, e, evS_1, ← hi]
      rfl
    · obtain ⟨r, l, t, hst⟩ := len2 (st := ev A x y k) (by have := v2 (Or.inl e); omega)
      rw [hst] at hi ⊢
      rw [dep_2 (Or.inl e), e, evS_2, ← hi]
      rfl
    · obtain ⟨r, l, t, hst⟩ := len2 (st := ev A x y k) (by have := v2 (Or.inr (Or.inl e)); omega)
      rw [hst] at hi ⊢
      rw [dep_2 (Or.inr (Or.inl e)), e, evS_3, ← hi]
      rfl
    · obtain ⟨r, l, t, hst⟩ := len2 (st := ev A x y k) (by have := v2 (Or.inr (Or.inr e)); omega)
      rw [hst] at hi ⊢
      rw [dep_2 (Or.inr (Or.inr e)), e, evS_4, ← hi]
      rfl
theorem hst_ev {A : Ar} (hV : VA0 A) (x y : Int32) {k : Nat} (hk : k < am A) : hst A x y (nI (hvl (ev A x y k))) (ast A k) = nI (hvl (ev A x y (k + 1))) := by
  have hi := ev_len hV x y k (by omega)
  have hd := hV.2.2.1 k (by omega)
  obtain ⟨v1, v2⟩ := hV.2.1 k hk
  obtain ⟨b1, b2, b3, b4, b5, b6, b7⟩ := hb_of (hvl (ev A x y k)) (hvl_12 (by omega))
  rw [ev]
  rcases stp_cases hV.1 hk with ⟨j, hj, hj2, e⟩ | e | e | e | e
  · rw [e, hst_r hj2, evS_r hj2]
    cases inR A j x y
    · rw [if_neg (show ¬ (false = true) by decide), b2]
      congr 1
      simp [hvl]
    · rw [if_pos (show true = true from rfl), b1]
      congr 1
      simp only [hvl, if_true]
      omega
  · obtain ⟨b, t, hst⟩ := len1 (st := ev A x y k) (by have := v1 e; omega)
    rw [e, hst_1, b3, hst, evS_1]
    congr 1
    cases b <;> simp only [hvl, Bool.not_true, Bool.not_false, if_true, if_neg (show ¬ (false = true) by decide)]
    · rw [if_neg (by omega)]; omega
    · rw [if_pos (by omega)]; omega
  · obtain ⟨r, l, t, hst⟩ := len2 (st := ev A x y k) (by have := v2 (Or.inl e); omega)
    rw [e, hst_2, b4, hst, evS_2]
    congr 1
    cases r <;> cases l <;> simp only [hvl, Bool.and_true, Bool.and_false, Bool.true_and, Bool.false_and, Bool.and_self, if_true, if_neg (show ¬ (false = true) by decide)] <;> split <;> omega
  · obtain ⟨r, l, t, hst⟩ := len2 (st := ev A x y k) (by have := v2 (Or.inr (Or.inl e)); omega)
    rw [e, hst_3, b5, hst, evS_3]
    congr 1
    cases r <;> cases l <;> simp only [hvl, Bool.or_true, Bool.or_false, Bool.true_or, Bool.false_or, Bool.or_self, if_true, if_neg (show ¬ (false = true) by decide)] <;> split <;> omega
  · obtain ⟨r, l, t, hst⟩ := len2 (st := ev A x y k) (by have := v2 (Or.inr (Or.inr e)); omega)
    rw [e, hst_4, b6, hst, evS_4]
    congr 1
    cases r <;> cases l <;> simp only [hvl, Bool.not_true, Bool.not_false, Bool.and_true, Bool.and_false, Bool.true_and, Bool.false_and, Bool.and_self, if_true, if_neg (show ¬ (false = true) by decide)] <;> split <;> omega
theorem hpr_ev {A : Ar} (hV : VA0 A) (x y : Int32) : ∀ k, k ≤ am A → hpr A x y k = nI (hvl (ev A x y k)) := by
  intro k
  induction k with
  | zero => intro _; exact nI_0.symm
  | succ k ih =>
    intro hk
    rw [hpr, ih (by omega), hst_ev hV x y (by omega)]
theorem hvl_hd (st : List Bool) : decide (hvl st % 2 = 1) = st.headD false := by
  cases st with
  | nil => rfl
  | cons b t =>
    cases b
    · refine decide_eq_false ?_
      simp only [hvl, if_neg (show ¬ (false = true) by decide)]
      omega
    · refine decide_eq_true ?_
      simp only [hvl, if_true]
      omega
theorem hold_ev {A : Ar} (hV : VA0 A) (x y : Int32) : hold A x y = (ev A x y (am A)).headD false := by
  have hi := ev_len hV x y (am A) (Nat.le_refl _)
  have hd := hV.2.2.1 (am A) (Nat.le_refl _)
  obtain ⟨_, _, _, _, _, _, b7⟩ := hb_of (hvl (ev A x y (am A))) (hvl_12 (by omega))
  rw [← hvl_hd, hold, hpr_ev hV x y _ (Nat.le_refl _)]
  exact decide_eq_decide.mpr b7
/-- the model's stack, its top at the end -/
def LSt (σ : Mem) : List Bool → Prop
  | [] => True
  | b :: t => σ.1 102 t.length = (if b = true then 1 else 0) ∧ LSt σ t
theorem LSt.w {σ : Mem} {k : Nat} {v : Int32} : ∀ {t : List Bool}, LSt σ t → t.length ≤ k → LSt (w1 σ 102 k v) t
  | [], _, _ => trivial
  | b :: t, h, hk => by
    rw [List.length_cons] at hk
    exact ⟨by rw [w1_k _ _ _ _ _ _ (by omega)]; exact h.1, LSt.w h.2 (by omega)⟩
theorem LSt.p {σ τ : Mem} {t : List Bool} {b : Bool} {v : Int32} (h : LSt σ t) (e : τ = w1 σ 102 t.length v) (hv : v = if b = true then 1 else 0) : LSt τ (b :: t) := by
  subst e
  exact ⟨by rw [w1_s]; exact hv, h.w (Nat.le_refl _)⟩
theorem k2' (e : Nat) : (2 : Int32) + nI e = nI (2 + e) := nI_add 2 e
theorem k122 (e : Nat) : (122 : Int32) + nI e = nI (122 + e) := nI_add 122 e
theorem sgn_n {j : Nat} (h : j < 2 ^ 31) : sgn (nI j) = nI j := by
  have ne : ∀ v : Int32, v < 0 → nI j ≠ v := fun v hv q => absurd (nI_pos' h) (by rw [q]; exact Int32.not_le.mpr hv)
  rw [sgn, if_neg (ne _ (by decide)), if_neg (ne _ (by decide)), if_neg (ne _ (by decide)), if_neg (ne _ (by decide))]
def S102 : Nat → Nat → Prop := fun i _ => i = 102
section COV
variable {d : Nat} {σ : Mem} {Q : Option Value → Mem → Prop} {F : Fl} {S : Ab} {VA : Ar → Prop} {A : Ar}
theorem m_isCovered (hV : VA0 A) (hA : MA σ 0 A) {x y : Int32} (h : ∀ τ, Sm S102 σ τ → Q (some (.int (if hold A x y = true then 1 else 0))) τ) : X none (d + 1) mX8_isCovered 0 [.ref 94, .int x, .int y, Unk, Unk, Unk, Unk, Unk] [] σ Q := by
  obtain ⟨a1, a2, a3, a4⟩ := hA
  simp only [Nat.zero_add] at a2 a3 a4
  have w120 := hV.1.1
  have w12 := hV.1.2.1
  have v64 : ∀ z, z < 64 → vp_in (nI z) 64 := fun z hz => vin hz (by decide)
  have v : ∀ z, z < 728 → vp_in (nI z) 728 := fun z hz => vin hz (by decide)
  refine vX8_isCovered_0 ?_
  have key : ∀ m k (τ : Mem), am A = k + m → Sm S102 σ τ → LSt τ (ev A x y k) → X none (d + 1) mX8_isCovered 5 [.ref 94, .int x, .int y, .int (nI (ev A x y k).length), .int (nI k), Unk, Unk, Unk] [] τ Q := by
    intro m
    induction m with
    | zero =>
      intro k τ hk hs hL
      have e96 : ∀ z, τ.1 96 z = σ.1 96 z := fun z => (hs 96 z (by unfold S102; omega)).1
      have ek : k = am A := by omega
      have hl := ev_len hV x y (am A) (Nat.le_refl _)
      have hd1 := hV.2.2.2
      have hh := hold_ev hV x y
      rw [ek] at hL ⊢
      refine vX8_isCovered_5 ⟨fun _ => ?_, fun c => absurd (by rw [e96, a1]; exact nI_le (Nat.le_refl _) (by omega)) c⟩
      cases hst : ev A x y (am A) with
      | nil =>
        rw [hst] at hh
        refine ⟨fun _ => Qe (h τ hs) (by rw [hh]; rfl), fun c => absurd (by show nI 0 ≤ 0; rw [nI_0]; decide) c⟩
      | cons b t =>
        rw [hst] at hh hl hL
        have ht : t = [] := by
          cases t with
          | nil => rfl
          | cons c t => simp at hl; omega
        subst ht
        have h0 : τ.1 102 0 = if b = true then 1 else 0 := hL.1
        refine ⟨fun c => absurd c (by show ¬ nI 1 ≤ 0; decide), fun _ => ?_⟩
        rw [h0]
        cases b
        · exact ⟨fun _ => Qe (h τ hs) (by rw [hh]; rfl), fun c => absurd rfl c⟩
        · exact ⟨fun c => absurd c (by decide), fun _ => Qe (h τ hs) (by rw [hh]; rfl)⟩
    | succ m ih =>
      intro k τ hk hs hL
      have hlt : k < am A := by omega
      have e96 : ∀ z, τ.1 96 z = σ.1 96 z := fun z => (hs 96 z (by unfold S102; omega)).1
      have hl := ev_len hV x y k (by omega)
      have hl1 := ev_len hV x y (k + 1) (by omega)
      have hd := hV.2.2.1 k (by omega)
      obtain ⟨v1, v2⟩ := hV.2.1 k hlt
      have go : ∀ τ1 : Mem, Sm S102 τ τ1 → LSt τ1 (ev A x y (k + 1)) → X none (d + 1) mX8_isCovered 5 [.ref 94, .int x, .int y, .int (nI (ev A x y (k + 1)).length), .int (nI (k + 1)), Unk, Unk, Unk] [] τ1 Q := fun τ1 q1 q2 => ih (k + 1) τ1 (by omega) (hs.tr q1) q2
      have sm1 : ∀ (τ1 : Mem) (z : Nat) (u : Int32), τ1 = w1 τ 102 z u → Sm S102 τ τ1 := fun τ1 z u e => by rw [e]; exact Sm.rf.w1 rfl
      refine vX8_isCovered_5 ?_
      rw [k2', nI_clamp (n := 2 + k) (by omega), e96 (2 + k), a3 k hlt, nI_1 k]
      refine ⟨fun c => absurd c (by rw [e96, a1]; exact nI_ge hlt (by omega)), fun _ => ⟨v _ (by omega), ?_⟩⟩
      rw [ev] at go hl1
      rcases stp_cases hV.1 hlt with ⟨j, hj, hj2, e⟩ | e | e | e | e
      · rw [e, sgn_n hj2]
        rw [e, evS_r hj2, List.length_cons] at go
        rw [i4, k122, nI_1, i_2, i_3, nI_clamp (n := 122 + 4 * j) (by omega), nI_clamp (n := 122 + 4 * j + 1) (by omega), nI_clamp (n := 122 + 4 * j + 2) (by omega), nI_clamp (n := 122 + 4 * j + 3) (by omega), e96, e96, e96, e96, a4 (4 * j) (by omega), Nat.add_assoc, Nat.add_assoc, Nat.add_assoc, a4 (4 * j + 1) (by omega), a4 (4 * j + 2) (by omega), a4 (4 * j + 3) (by omega), nI_clamp (n := (ev A x y k).length) (by omega), nI_1]
        refine ⟨fun _ => ⟨fun _ => ⟨v _ (by omega), v _ (by omega), fun c1 => ⟨v64 _ (by omega), fun τ1 e1 => ?_⟩, fun c1 => ⟨v _ (by omega), v _ (by omega), fun c2 => ⟨v64 _ (by omega), fun τ1 e1 => ?_⟩, fun c2 => ⟨v64 _ (by omega), fun τ1 e1 => ?_⟩⟩⟩, fun c => absurd (nn_0 hj2) c⟩, fun c => absurd c (fun q => absurd (nn_0 hj2) (by rw [q]; decide))⟩
        · refine go τ1 (sm1 _ _ _ e1) (hL.p e1 ?_)
          have : inR A j x y = false := by
            simp only [inR, Bool.and_eq_false_iff, decide_eq_false_iff_not]
            rcases Decidable.not_and_iff_or_not.mp c1 with q | q
            · exact Or.inl (Or.inl (Or.inl q))
            · exact Or.inl (Or.inl (Or.inr q))
          rw [this]; rfl
        · refine go τ1 (sm1 _ _ _ e1) (hL.p e1 ?_)
          have : inR A j x y = false := by
            simp only [inR, Bool.and_eq_false_iff, decide_eq_false_iff_not]
            rcases Decidable.not_and_iff_or_not.mp c2 with q | q
            · exact Or.inl (Or.inr q)
            · exact Or.inr q
          rw [this]; rfl
        · refine go τ1 (sm1 _ _ _ e1) (hL.p e1 ?_)
          simp [inR, c1.1, c1.2, c2.1, c2.2]
      · have h1 := v1 e
        rw [e] at go
        rw [e, show sgn (-1) = -4 by decide]
        cases hst : ev A x y k with
        | nil => rw [hst] at hl; simp at hl; omega
        | cons b t =>
          rw [hst] at hL hl go
          rw [evS_1] at go
          simp only [List.length_cons] at go hl ⊢
          rw [nI_pred, nI_clamp (n := t.length) (by omega), hL.1]
          refine ⟨fun c => absurd trivial c, fun _ => ⟨v64 _ (by omega), fun c => ⟨v64 _ (by omega), fun τ1 e1 => go τ1 (sm1 _ _ _ e1) (hL.2.p e1 ?_)⟩, fun c => ⟨v64 _ (by omega), fun τ1 e1 => go τ1 (sm1 _ _ _ e1) (hL.2.p e1 ?_)⟩⟩⟩
          · rw [b01_o c]; rfl
          · rw [b01_z c]; rfl
      · have h2 := v2 (by rw [e]; decide)
        rw [e] at go
        rw [e, show sgn (-2) = -3 by decide]
        cases hst : ev A x y k with
        | nil => rw [hst] at hl; simp at hl; omega
        | cons r t => cases t with
          | nil => rw [hst] at hl; simp at hl; omega
          | cons l t =>
            rw [hst] at hL hl go
            rw [evS_2] at go
            simp only [List.length_cons] at go hl ⊢
            have hLr : τ.1 102 (t.length + 1) = (if r = true then 1 else 0) := hL.1
            rw [pk_m1, nI_pred, nI_clamp (n := t.length) (by omega), nI_clamp (n := t.length + 1) (by omega), hLr, hL.2.1]
            refine ⟨fun _ => ⟨fun c => absurd c (by decide), fun _ => ⟨v64 _ (by omega), v64 _ (by omega), fun _ => ⟨fun _ => ⟨fun c1 => ⟨v64 _ (by omega), fun τ1 e1 => go τ1 (sm1 _ _ _ e1) (hL.2.2.p e1 ?_)⟩, fun c1 => ⟨fun c2 => ⟨v64 _ (by omega), fun τ1 e1 => go τ1 (sm1 _ _ _ e1) (hL.2.2.p e1 ?_)⟩, fun c2 => ⟨v64 _ (by omega), fun τ1 e1 => go τ1 (sm1 _ _ _ e1) (hL.2.2.p e1 ?_)⟩⟩⟩, fun c => absurd c (by decide)⟩, fun c => absurd c (by decide)⟩⟩, fun c => absurd c (by decide)⟩
            · rw [b01_z c1]; rfl
            · rw [b01_o c1, b01_z c2]; rfl
            · rw [b01_o c1, b01_o c2]; rfl
      · have h2 := v2 (by rw [e]; decide)
        rw [e] at go
        rw [e, show sgn (-3) = -1 by decide]
        cases hst : ev A x y k with
        | nil => rw [hst] at hl; simp at hl; omega
        | cons r t => cases t with
          | nil => rw [hst] at hl; simp at hl; omega
          | cons l t =>
            rw [hst] at hL hl go
            rw [evS_3] at go
            simp only [List.length_cons] at go hl ⊢
            have hLr : τ.1 102 (t.length + 1) = (if r = true then 1 else 0) := hL.1
            rw [pk_m1, nI_pred, nI_clamp (n := t.length) (by omega), nI_clamp (n := t.length + 1) (by omega), hLr, hL.2.1]
            refine ⟨fun _ => ⟨fun c => absurd c (by decide), fun _ => ⟨v64 _ (by omega), v64 _ (by omega), fun c => absurd trivial c, fun _ => ⟨fun c1 => ⟨v64 _ (by omega), fun τ1 e1 => go τ1 (sm1 _ _ _ e1) (hL.2.2.p e1 ?_)⟩, fun c1 => ⟨fun c2 => ⟨v64 _ (by omega), fun τ1 e1 => go τ1 (sm1 _ _ _ e1) (hL.2.2.p e1 ?_)⟩, fun c2 => ⟨v64 _ (by omega), fun τ1 e1 => go τ1 (sm1 _ _ _ e1) (hL.2.2.p e1 ?_)⟩⟩⟩⟩⟩, fun c => absurd c (by decide)⟩
            · rw [b01_o c1]; rfl
            · rw [b01_z c1, b01_z c2]; rfl
            · rw [b01_z c1, b01_o c2]; rfl
      · have h2 := v2 (by rw [e]; decide)
        rw [e] at go
        rw [e, show sgn (-4) = -2 by decide]
        cases hst : ev A x y k with
        | nil => rw [hst] at hl; simp at hl; omega
        | cons r t => cases t with
          | nil => rw [hst] at hl; simp at hl; omega
          | cons l t =>
            rw [hst] at hL hl go
            rw [evS_4] at go
            simp only [List.length_cons] at go hl ⊢
            have hLr : τ.1 102 (t.length + 1) = (if r = true then 1 else 0) := hL.1
            rw [pk_m1, nI_pred, nI_clamp (n := t.length) (by omega), nI_clamp (n := t.length + 1) (by omega), hLr, hL.2.1]
            refine ⟨fun _ => ⟨fun c => absurd c (by decide), fun _ => ⟨v64 _ (by omega), v64 _ (by omega), fun _ => ⟨fun c => absurd trivial c, fun _ => ⟨fun c1 => ⟨v64 _ (by omega), fun τ1 e1 => go τ1 (sm1 _ _ _ e1) (hL.2.2.p e1 ?_)⟩, fun c1 => ⟨fun c2 => ⟨v64 _ (by omega), fun τ1 e1 => go τ1 (sm1 _ _ _ e1) (hL.2.2.p e1 ?_)⟩, fun c2 => ⟨v64 _ (by omega), fun τ1 e1 => go τ1 (sm1 _ _ _ e1) (hL.2.2.p e1 ?_)⟩⟩⟩⟩, fun c => absurd c (by decide)⟩⟩, fun c => absurd c (by decide)⟩
            · rw [b01_z c1]; rfl
            · rw [b01_o c1, b01_o c2]; rfl
            · rw [b01_o c1, b01_z c2]; rfl
  have := key (am A) 0 σ (by omega) Sm.rf trivial
  simp only [ev, List.length_nil, nI_0] at this
  exact this
def SLA : Nat → Nat → Prop := fun i k => i = 100 ∨ i = 102 ∨ (i = 94 ∧ k = 12)
theorem MA.off {τ : Mem} {o : Nat} (h : MA σ o A) (hs : ∀ k, τ.1 96 k = σ.1 96 k) : MA τ o A := by
  obtain ⟨h1, h2, h3, h4⟩ := h
  exact ⟨by rw [hs]; exact h1, by rw [hs]; exact h2, fun k hk => by rw [hs]; exact h3 k hk, fun k hk => by rw [hs]; exact h4 k hk⟩
theorem m_linesArea (hw : WF F) (hM : MZ σ F) (hV : VA0 A) (hA : MA σ 0 A) (h : ∀ τ, LN τ (srt (befB F) (pik (pS F A) (fn F))) → Sm SLA σ τ → Q none τ) : X none (d + 2) mX8_linesArea 0 [.ref 94, Unk] [] σ Q := by
  have hn := hw.n120
  have h60 : cnt (pS F A) (fn F) ≤ 60 := Nat.le_trans (cnt_imp (fun e _ q => by simp [pS] at q; exact q.1)) hw.c60
  refine vX8_linesArea_0 (fun τ1 e1 => ?_)
  have key : ∀ m i (τ : Mem), fn F = i + m → Sm SLA σ τ → LN τ (srt (befB F) (pik (pS F A) i)) → X none (d + 2) mX8_linesArea 7 [.ref 94, .int (nI i)] [] τ Q := by
    intro m
    induction m with
    | zero =>
      intro i τ hi hs hp
      have hM' : MZ τ F := hM.sm (fun k => (hs 95 k (by unfold SLA; omega)).1)
      refine vX8_linesArea_7 ⟨fun _ => h τ ?_ hs, fun c => absurd (by rw [hM'.1.1]; exact nI_le (by omega) (by omega)) c⟩
      rw [show fn F = i by omega]
      exact hp
    | succ m ih =>
      intro i τ hi hs hp
      have hlt : i < fn F := by omega
      have hM' : MZ τ F := hM.sm (fun k => (hs 95 k (by unfold SLA; omega)).1)
      obtain ⟨a1, a2, a3, a4, a5⟩ := hM'.2.1 i hlt
      refine vX8_linesArea_7 ?_
      rw [k494, k128, k250, nI_clamp (n := 494 + i) (by omega), nI_clamp (n := 128 + i) (by omega), nI_clamp (n := 250 + i) (by omega), a2, a3, a5, gz, nI_1]
      refine ⟨fun c => absurd c (by rw [hM'.1.1]; exact nI_ge hlt (by omega)), fun _ => ⟨vin (by omega) (by decide), fun c1 => ?_, fun c1 => ⟨vin (by omega) (by decide), vin (by omega) (by decide), ?_⟩⟩⟩
      · have hp1 : pS F A i = false := by simp [pS, thr, c1]
        exact ih (i + 1) τ (by omega) hs (by simpa [pik, hp1] using hp)
      · refine m_isCovered hV (hA.off (fun k => (hs 96 k (by unfold SLA; omega)).1)) (fun τ2 hs2 => ⟨_, rfl, fun c2 => ?_, fun c2 => ?_⟩)
        · have hp1 : pS F A i = false := by simp [pS, b01_z c2]
          refine ih (i + 1) τ2 (by omega) (hs.tr (hs2.mono (fun i k q => by unfold S102 at q; unfold SLA; omega))) ?_
          rw [pik, hp1, if_neg (by decide)]
          exact ⟨by rw [(hs2 94 12 (by unfold S102; omega)).1]; exact hp.1, fun k hk => by rw [(hs2 100 k (by unfold S102; omega)).1]; exact hp.2 k hk⟩
        · have hp1 : pS F A i = true := by simp [pS, thr, c1, b01_o c2]
          have hl := cnt_lt_of (p := pS F A) hlt hp1
          have hM2 : MZ τ2 F := hM'.sm (fun k => (hs2 95 k (by unfold S102; omega)).1)
          have hp2 : LN τ2 (srt (befB F) (pik (pS F A) i)) := ⟨by rw [(hs2 94 12 (by unfold S102; omega)).1]; exact hp.1, fun k hk => by rw [(hs2 100 k (by unfold S102; omega)).1]; exact hp.2 k hk⟩
          refine m_insert hw hM2 (by rw [srt_len, pik_len]; omega) (fun z hz => by have := pikm z ((srt_mem _ _ _).mp hz); omega) hlt hp2 (fun τ3 hp3 hs3 => ⟨rfl, ?_⟩)
          refine ih (i + 1) τ3 (by omega) ((hs.tr (hs2.mono (fun i k q => by unfold S102 at q; unfold SLA; omega))).tr (hs3.mono (fun i k q => by unfold SL at q; unfold SLA; omega))) ?_
          rw [pik, if_pos hp1, srt_snoc]
          exact hp3
  rw [← nI_0]
  exact key (fn F) 0 τ1 (by omega) (by rw [e1]; exact Sm.rf.w1 (Or.inr (Or.inr ⟨rfl, rfl⟩))) ⟨by rw [e1, w1_s]; rfl, HL.nil⟩
theorem MD.la {τ : Mem} (hva : ∀ A, VA A → WA A) (hw : WS VA S) (hC : MD σ S) (hs : Sm SLA σ τ) : MD τ S ∧ Sm SM94 σ τ := ⟨MD.sm hva hw hC hs (fun i k q => by unfold SLA at q; unfold SCM; omega), hs.mono (fun i k q => by unfold SLA at q; unfold SM94; omega)⟩
theorem sumL_perm (f : Nat → Int32) {l l' : List Nat} (h : l.Perm l') : sumL f l = sumL f l' := by
  unfold sumL
  refine List.Perm.foldl_eq' (h.map f) (fun x _ y _ z => ?_) 0
  rw [Int32.add_assoc, Int32.add_comm x y, ← Int32.add_assoc]
theorem q_inside (hva : ∀ A, VA A → WA A) (hv0 : ∀ A, VA A → VA0 A) (hC : MD σ S) (hw : WS VA S) (h : OutM σ Q (o_inside S)) : X none (d + 3) mX8_inside 0 [.ref 94, Unk, Unk] [] σ Q := by
  have hZ := MZ_iff.mp hC.1
  have hn := hw.1.n120
  refine vX8_inside_0 (m_linesArea hw.1 hZ (hv0 _ hw.2.2.2.1) hC.2.2.2.1 (fun τ hp hs => ⟨rfl, ?_⟩))
  have hh := MD.la hva hw hC hs
  have hZ2 := MZ_iff.mp hh.1.1
  have hQ : Q (some (.int (sumL (wor (bF S)) (arL S)))) τ := h τ hh.1 hh.2
  rw [← sumL_perm (wor (bF S)) (srt_perm (befB (bF S)) (arL S))] at hQ
  have hl : (srt (befB (bF S)) (arL S)).length ≤ 60 := by rw [srt_len]; exact arL_60 hw
  have hm : ∀ e ∈ srt (befB (bF S)) (arL S), e < fn (bF S) := fun e he => pikm e ((srt_mem _ _ _).mp he)
  have hp' : LN τ (srt (befB (bF S)) (arL S)) := hp
  generalize srt (befB (bF S)) (arL S) = l at hQ hl hm hp'
  have key : ∀ m k, l.length = k + m → X none (d + 3) mX8_inside 8 [.ref 94, .int (sumL (wor (bF S)) (l.take k)), .int (nI k)] [] τ Q := by
    intro m
    induction m with
    | zero =>
      intro k hk
      refine vX8_inside_8 ⟨fun _ => Qe hQ ?_, fun c => absurd (by rw [hp'.1]; exact nI_le (by omega) (by omega)) c⟩
      rw [List.take_of_length_le (by omega)]
    | succ m ih =>
      intro k hk
      have hlt : k < l.length := by omega
      have he := hm _ (getD_mem hlt)
      refine vX8_inside_8 ⟨fun c => absurd c (by rw [hp'.1]; exact nI_ge hlt (by omega)), fun _ => ⟨inN hlt hl (by decide), ?_⟩⟩
      rw [nI_clamp (by omega), hp'.2 k hlt]
      refine m_counts (by omega) hZ2 he ⟨_, rfl, ?_⟩
      have := ih (k + 1) (by omega)
      rw [sumL_take _ _ hlt] at this
      rw [nI_1]
      exact this
  have := key l.length 0 (by omega)
  rw [nI_0] at this
  exact this
theorem q_covers (hva : ∀ A, VA A → WA A) (hv0 : ∀ A, VA A → VA0 A) (hC : MD σ S) (hw : WS VA S) {x y : Int32} (h : OutM σ Q (o_covers S x y)) : X none (d + 2) mX8_covers 0 [.ref 94, .int x, .int y] [] σ Q := by
  refine vX8_covers_0 ⟨fun c => OutM.bad hva hw h hC (by rw [o_covers, if_neg (fun q => c q.1)]), fun c1 => ⟨fun c2 => ?_, fun c => OutM.bad hva hw h hC (by rw [o_covers, if_neg (fun q => c q.2)])⟩⟩
  rw [o_covers, if_pos ⟨c1, c2⟩] at h
  refine m_isCovered (hv0 _ hw.2.2.2.1) hC.2.2.2.1 (fun τ hs => ⟨_, rfl, ?_⟩)
  have hh := MD.la hva hw hC (hs.mono (fun i k q => by unfold S102 at q; unfold SLA; omega))
  have hQ : Q (some (.int (if hold (bA S) x y = true then 1 else 0))) τ := h τ hh.1 hh.2
  exact ⟨fun c => Qe hQ (by rw [b01_z c]; rfl), fun c => Qe hQ (by rw [b01_o c]; rfl)⟩
theorem q_found (hva : ∀ A, VA A → WA A) (hv0 : ∀ A, VA A → VA0 A) (hC : MD σ S) (hw : WS VA S) {k : Int32} (h : OutM σ Q (o_found S k)) : X none (d + 3) mX8_found 0 [.ref 94, .int k] [] σ Q := by
  have hZ := MZ_iff.mp hC.1
  have hn := hw.1.n120
  refine vX8_found_0 ⟨fun c2 => ?_, fun c => OutM.bad hva hw h hC (by rw [o_found, if_neg c])⟩
  rw [o_found, if_pos c2] at h
  refine m_linesArea hw.1 hZ (hv0 _ hw.2.2.2.1) hC.2.2.2.1 (fun τ hp hs => ⟨rfl, ?_⟩)
  have hh := MD.la hva hw hC hs
  exact m_kthL (l := srt (befB (bF S)) (arL S)) (by omega) (MZ_iff.mp hh.1.1) (by rw [srt_len]; exact arL_60 hw) (fun e he => pikm e ((srt_mem _ _ _).mp he)) hp c2 (h τ hh.1 hh.2)
theorem q_mow (hva : ∀ A, VA A → WA A) (hv0 : ∀ A, VA A → VA0 A) (hC : MD σ S) (hw : WS VA S) (h : OutM σ Q (o_mow S)) : X none (d + 4) mX8_mow 0 [.ref 94] [] σ Q := by
  have hZ := MZ_iff.mp hC.1
  refine vX8_mow_0 (m_linesArea hw.1 hZ (hv0 _ hw.2.2.2.1) hC.2.2.2.1 (fun τ hp hs => ⟨rfl, ?_⟩))
  have hh := MD.la hva hw hC hs
  refine m_takesLine hva hh.1 hw (arL_60 hw) (fun i hi => ?_) (pik_nodup _ _) hp (fun τ2 h1 h2 => ⟨_, rfl, h τ2 h1 (hh.2.tr h2)⟩)
  have := (pik_mem _ _).mp hi
  simp [pS] at this
  exact ⟨this.1, this.2.1⟩
end COV
