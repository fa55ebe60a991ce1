/-! How a text is read, once, in pure words; what holds of what is read. -/
abbrev Tx : Type := Nat × (Nat → Int32)
abbrev Sx : Type := Nat × Ar
def skF (T : Tx) : Nat → Nat → Nat
  | 0, a => a
  | n + 1, a => if a < T.1 ∧ T.2 a = 32 then skF T n (a + 1) else a
def sk (T : Tx) (a : Nat) : Nat := skF T (T.1 - a) a
def hr (T : Tx) (a : Nat) : Int32 := if a < T.1 then T.2 a else -1
def nx (T : Tx) (a : Nat) : Int32 := hr T (sk T a)
theorem skF_ge (T : Tx) : ∀ n a, a ≤ skF T n a
  | 0, a => Nat.le_refl a
  | n + 1, a => by
    rw [skF]
    split
    · exact Nat.le_trans (Nat.le_succ a) (skF_ge T n (a + 1))
    · exact Nat.le_refl a
theorem skF_le (T : Tx) : ∀ n a, a ≤ T.1 → skF T n a ≤ T.1
  | 0, a, h => h
  | n + 1, a, h => by
    rw [skF]
    split
    · rename_i c
      exact skF_le T n (a + 1) c.1
    · exact h
theorem skF_end (T : Tx) : ∀ n a, T.1 - a ≤ n → ¬ (skF T n a < T.1 ∧ T.2 (skF T n a) = 32)
  | 0, a, h => by
    rw [skF]
    omega
  | n + 1, a, h => by
    rw [skF]
    split
    · exact skF_end T n (a + 1) (by omega)
    · rename_i c
      exact c
theorem sk_ge (T : Tx) (a : Nat) : a ≤ sk T a := skF_ge T _ a
theorem sk_le {T : Tx} {a : Nat} (h : a ≤ T.1) : sk T a ≤ T.1 := skF_le T _ a h
theorem sk_step {T : Tx} {a : Nat} (h : a < T.1 ∧ T.2 a = 32) : sk T a = sk T (a + 1) := by
  unfold sk
  rw [show T.1 - a = (T.1 - (a + 1)) + 1 by omega, skF, if_pos h]
theorem sk_stop {T : Tx} {a : Nat} (h : ¬ (a < T.1 ∧ T.2 a = 32)) : sk T a = a := by
  unfold sk
  cases T.1 - a with
  | zero => rfl
  | succ n => rw [skF, if_neg h]
theorem sk_end (T : Tx) (a : Nat) : ¬ (sk T a < T.1 ∧ T.2 (sk T a) = 32) := skF_end T _ a (Nat.le_refl _)
theorem sk_idem (T : Tx) (a : Nat) : sk T (sk T a) = sk T a := sk_stop (sk_end T a)
theorem nx_idem (T : Tx) (a : Nat) : nx T (sk T a) = nx T a := by rw [nx, nx, sk_idem]
theorem nx_lt {T : Tx} {a : Nat} (h : nx T a ≠ -1) : sk T a < T.1 := by
  rcases Nat.lt_or_ge (sk T a) T.1 with q | q
  · exact q
  · exact absurd (by rw [nx, hr, if_neg (by omega)]) h
def dgF (L : Nat) (T : Tx) : Nat → Nat → Int32 → Nat → Nat × Int32 × Nat
  | 0, a, v, n => (a, v, n)
  | f + 1, a, v, n => if a < T.1 ∧ 48 ≤ T.2 a ∧ T.2 a ≤ 57 then dgF L T f (a + 1) (if n < L then 10 * v + T.2 a - 48 else v) (n + 1) else (a, v, n)
theorem dgF_b (L : Nat) (T : Tx) : ∀ f a v n, a ≤ T.1 → a ≤ (dgF L T f a v n).1 ∧ (dgF L T f a v n).1 ≤ T.1 ∧ (dgF L T f a v n).1 + n = a + (dgF L T f a v n).2.2
  | 0, a, v, n, h => ⟨Nat.le_refl a, h, rfl⟩
  | f + 1, a, v, n, h => by
    rw [dgF]
    split
    · rename_i c
      have := dgF_b L T f (a + 1) (if n < L then 10 * v + T.2 a - 48 else v) (n + 1) c.1
      omega
    · exact ⟨Nat.le_refl a, h, rfl⟩
theorem dgF_34 (T : Tx) : ∀ f a v u n, (n ≤ 3 → v = u) → (dgF 4 T f a v n).1 = (dgF 3 T f a u n).1 ∧ (dgF 4 T f a v n).2.2 = (dgF 3 T f a u n).2.2 ∧ ((dgF 3 T f a u n).2.2 ≤ 3 → (dgF 4 T f a v n).2.1 = (dgF 3 T f a u n).2.1)
  | 0, a, v, u, n, h => ⟨rfl, rfl, h⟩
  | f + 1, a, v, u, n, h => by
    rw [dgF, dgF]
    by_cases c : a < T.1 ∧ 48 ≤ T.2 a ∧ T.2 a ≤ 57
    · rw [if_pos c, if_pos c]
      refine dgF_34 T f (a + 1) _ _ (n + 1) (fun hn => ?_)
      rw [if_pos (show n < 4 by omega), if_pos (show n < 3 by omega), h (by omega)]
    · rw [if_neg c, if_neg c]
      exact ⟨rfl, rfl, h⟩
def dg (L : Nat) (T : Tx) (a : Nat) : Nat × Int32 × Nat := dgF L T (T.1 - a) a 0 0
def numR (lo : Int32) (b : Nat) (m : Bool) (R : Nat × Int32 × Nat) : Sum Nat (Nat × Int32) :=
  if R.2.2 = 0 then .inl R.1 else if 3 < R.2.2 ∨ (if m = true then -R.2.1 else R.2.1) < lo ∨ 500 < (if m = true then -R.2.1 else R.2.1) then .inl b else .inr (R.1, if m = true then -R.2.1 else R.2.1)
def rdN (T : Tx) (lo : Int32) (a : Nat) : Sum Nat (Nat × Int32) := numR lo (sk T a) (decide (nx T a = 45)) (dg 3 T (if nx T a = 45 then sk T a + 1 else sk T a))
def bd {α β : Type} (x : Sum Nat α) (f : α → Sum Nat β) : Sum Nat β := match x with
  | .inl p => .inl p
  | .inr a => f a
def ex (T : Tx) (c : Int32) (a : Nat) : Sum Nat Nat := if nx T a = c then .inr (sk T a + 1) else .inl (sk T a)
def aS (A : Ar) (s : Int32) : Ar := ((am A + 1, fun k => if k = am A then s else ast A k), A.2)
def aR (A : Ar) (x1 x2 x3 x4 : Int32) : Ar := ((am A + 1, fun k => if k = am A then nI (ar A) else ast A k), (ar A + 1, fun k => if k < 4 * ar A then asd A k else if k = 4 * ar A then x1 else if k = 4 * ar A + 1 then x2 else if k = 4 * ar A + 2 then x3 else x4))
def rct (T : Tx) (s : Sx) : Sum Nat Sx := bd (ex T 91 s.1) fun a1 => bd (rdN T (-500) a1) fun q1 => bd (ex T 44 q1.1) fun a3 => bd (rdN T q1.2 a3) fun q2 => bd (ex T 44 q2.1) fun a5 => bd (rdN T (-500) a5) fun q3 => bd (ex T 44 q3.1) fun a7 => bd (rdN T q3.2 a7) fun q4 => bd (ex T 93 q4.1) fun a9 => .inr (a9, aR s.2 q1.2 q2.2 q3.2 q4.2)
def lpP (T : Tx) (sp : Sx → Sum Nat Sx) : Nat → Sx → Sum Nat Sx
  | 0, s => .inr s
  | n + 1, s => if nx T s.1 = 38 then bd (sp (sk T s.1 + 1, s.2)) (fun t => lpP T sp n (t.1, aS t.2 (-2))) else .inr (sk T s.1, s.2)
def ptP (T : Tx) (sp : Sx → Sum Nat Sx) (s : Sx) : Sum Nat Sx := bd (sp s) (lpP T sp 120)
def laP (T : Tx) (sp : Sx → Sum Nat Sx) : Nat → Sx → Sum Nat Sx
  | 0, s => .inr s
  | n + 1, s => if nx T s.1 = 43 then bd (ptP T sp (sk T s.1 + 1, s.2)) (fun t => laP T sp n (t.1, aS t.2 (-3))) else if nx T s.1 = 45 then bd (ptP T sp (sk T s.1 + 1, s.2)) (fun t => laP T sp n (t.1, aS t.2 (-4))) else .inr (sk T s.1, s.2)
def arP (T : Tx) (sp : Sx → Sum Nat Sx) (s : Sx) : Sum Nat Sx := bd (ptP T sp s) (laP T sp 120)
def spP (T : Tx) : Nat → Sx → Sum Nat Sx
  | 0, s => if nx T s.1 = 91 then rct T (sk T s.1, s.2) else .inl (sk T s.1)
  | r + 1, s => if nx T s.1 = 91 then rct T (sk T s.1, s.2) else if nx T s.1 = 40 then bd (arP T (spP T r) (sk T s.1 + 1, s.2)) (fun t => bd (ex T 41 t.1) (fun a => .inr (a, t.2))) else if nx T s.1 = 33 then bd (spP T r (sk T s.1 + 1, s.2)) (fun t => .inr (t.1, aS t.2 (-1))) else .inl (sk T s.1)
def eA : Ar := ((0, fun _ => 0), (0, fun _ => 0))
def rdP (T : Tx) : Sum Nat Sx := bd (arP T (spP T 12) (0, eA)) (fun t => bd (ex T 59 t.1) (fun a => if nx T a = -1 then .inr (sk T a, t.2) else .inl (sk T a)))
/-! what holds of steps that are read -/
def OKA (A : Ar) (n : Nat) : Prop := (∀ k, k < am A → (∃ j, j < ar A ∧ ast A k = nI j) ∨ ast A k = -1 ∨ ast A k = -2 ∨ ast A k = -3 ∨ ast A k = -4) ∧ (∀ k, k < am A → (ast A k = -1 → 1 ≤ dep A k) ∧ ((ast A k = -2 ∨ ast A k = -3 ∨ ast A k = -4) → 2 ≤ dep A k)) ∧ (∀ k, k ≤ am A → dep A k ≤ ar A) ∧ dep A (am A) = n
theorem dep_congr {A B : Ar} : ∀ k, (∀ j, j < k → ast A j = ast B j) → dep A k = dep B k
  | 0, _ => rfl
  | k + 1, h => by
    rw [dep, dep, h k (by omega), dep_congr k (fun j hj => h j (by omega))]
theorem aS_old {A : Ar} {s : Int32} {k : Nat} (h : k < am A) : ast (aS A s) k = ast A k := if_neg (by omega)
theorem aS_new {A : Ar} {s : Int32} : ast (aS A s) (am A) = s := if_pos rfl
theorem aR_old {A : Ar} {x1 x2 x3 x4 : Int32} {k : Nat} (h : k < am A) : ast (aR A x1 x2 x3 x4) k = ast A k := if_neg (by omega)
theorem aR_new {A : Ar} {x1 x2 x3 x4 : Int32} : ast (aR A x1 x2 x3 x4) (am A) = nI (ar A) := if_pos rfl
theorem OKA.s1 {A : Ar} {n : Nat} (h : OKA A (n + 1)) : OKA (aS A (-1)) (n + 1) := by
  obtain ⟨h1, h2, h3, h4⟩ := h
  have hd : ∀ k, k ≤ am A → dep (aS A (-1)) k = dep A k := fun k hk => dep_congr k (fun j hj => aS_old (by omega))
  have hl : dep (aS A (-1)) (am A + 1) = n + 1 := by
    rw [dep, aS_new, if_neg (by decide), if_pos rfl, hd _ (Nat.le_refl _), h4]
  refine ⟨fun k hk => ?_, fun k hk => ?_, fun k hk => ?_, hl⟩
  · have hk' : k < am A + 1 := hk
    by_cases c : k = am A
    · rw [c, aS_new]; exact Or.inr (Or.inl rfl)
    · rw [aS_old (by omega)]; exact h1 k (by omega)
  · have hk' : k < am A + 1 := hk
    rw [hd k (by omega)]
    by_cases c : k = am A
    · rw [c, aS_new, h4]
      exact ⟨fun _ => by omega, fun q => absurd q (by decide)⟩
    · rw [aS_old (by omega)]; exact h2 k (by omega)
  · have hk' : k ≤ am A + 1 := hk
    show dep (aS A (-1)) k ≤ ar A
    by_cases c : k = am A + 1
    · rw [c, hl, ← h4]; exact h3 _ (Nat.le_refl _)
    · rw [hd k (by omega)]; exact h3 k (by omega)
theorem OKA.s2 {A : Ar} {n : Nat} {s : Int32} (hs : s = -2 ∨ s = -3 ∨ s = -4) (h : OKA A (n + 2)) : OKA (aS A s) (n + 1) := by
  obtain ⟨h1, h2, h3, h4⟩ := h
  have hd : ∀ k, k ≤ am A → dep (aS A s) k = dep A k := fun k hk => dep_congr k (fun j hj => aS_old (by omega))
  have n0 : ¬ (0 : Int32) ≤ s := by rcases hs with rfl | rfl | rfl <;> decide
  have n1 : ¬ s = -1 := by rcases hs with rfl | rfl | rfl <;> decide
  have hl : dep (aS A s) (am A + 1) = n + 1 := by
    rw [dep, aS_new, if_neg n0, if_neg n1, hd _ (Nat.le_refl _), h4]
    omega
  refine ⟨fun k hk => ?_, fun k hk => ?_, fun k hk => ?_, hl⟩
  · have hk' : k < am A + 1 := hk
    by_cases c : k = am A
    · rw [c, aS_new]; exact Or.inr (Or.inr hs)
    · rw [aS_old (by omega)]; exact h1 k (by omega)
  · have hk' : k < am A + 1 := hk
    rw [hd k (by omega)]
    by_cases c : k = am A
    · rw [c, aS_new, h4]
      exact ⟨fun q => absurd q n1, fun _ => by omega⟩
    · rw [aS_old (by omega)]; exact h2 k (by omega)
  · have hk' : k ≤ am A + 1 := hk
    show dep (aS A s) k ≤ ar A
    by_cases c : k = am A + 1
    · have := h3 _ (Nat.le_refl (am A))
      rw [c, hl]; omega
    · rw [hd k (by omega)]; exact h3 k (by omega)
theorem OKA.r {A : Ar} {n : Nat} {x1 x2 x3 x4 : Int32} (ha : ar A < 2 ^ 30) (h : OKA A n) : OKA (aR A x1 x2 x3 x4) (n + 1) := by
  obtain ⟨h1, h2, h3, h4⟩ := h
  have hd : ∀ k, k ≤ am A → dep (aR A x1 x2 x3 x4) k = dep A k := fun k hk => dep_congr k (fun j hj => aR_old (by omega))
  have n0 : (0 : Int32) ≤ nI (ar A) := nn_0 (by omega)
  have hl : dep (aR A x1 x2 x3 x4) (am A + 1) = n + 1 := by
    rw [dep, aR_new, if_pos n0, hd _ (Nat.le_refl _), h4]
  refine ⟨fun k hk => ?_, fun k hk => ?_, fun k hk => ?_, hl⟩
  · have hk' : k < am A + 1 := hk
    by_cases c : k = am A
    · rw [c, aR_new]; exact Or.inl ⟨ar A, Nat.lt_succ_self _, rfl⟩
    · rw [aR_old (by omega)]
      rcases h1 k (by omega) with ⟨j, hj, e⟩ | q
      · exact Or.inl ⟨j, Nat.lt_succ_of_lt hj, e⟩
      · exact Or.inr q
  · have hk' : k < am A + 1 := hk
    rw [hd k (by omega)]
    by_cases c : k = am A
    · rw [c, aR_new]
      refine ⟨fun q => absurd n0 (by rw [q]; decide), fun q => absurd n0 ?_⟩
      rcases q with q | q | q <;> rw [q] <;> decide
    · rw [aR_old (by omega)]; exact h2 k (by omega)
  · have hk' : k ≤ am A + 1 := hk
    show dep (aR A x1 x2 x3 x4) k ≤ ar A + 1
    by_cases c : k = am A + 1
    · have := h3 _ (Nat.le_refl (am A))
      rw [c, hl]; omega
    · have := h3 k (by omega)
      rw [hd k (by omega)]; omega
theorem OKA.e : OKA eA 0 := ⟨fun k hk => absurd hk (Nat.not_lt_zero k), fun k hk => absurd hk (Nat.not_lt_zero k), fun k hk => by rw [show k = 0 from Nat.le_zero.mp hk]; exact Nat.le_refl 0, rfl⟩
theorem OKA.va {A : Ar} (h : OKA A 1) (h1 : am A ≤ 120) (h2 : ar A ≤ 12) : VA0 A := ⟨⟨h1, h2, h.1⟩, h.2.1, fun k hk => Nat.le_trans (h.2.2.1 k hk) h2, by rw [h.2.2.2]; exact Nat.le_refl 1⟩
/-! how far reading goes -/
def PB (T : Tx) (s : Sx) : Prop := s.1 ≤ T.1 ∧ am s.2 ≤ s.1 ∧ 10 * ar s.2 ≤ s.1
def GB (T : Tx) (s : Sx) (x : Sum Nat Sx) : Prop := match x with
  | .inl p => p ≤ T.1
  | .inr t => (s.1 < t.1 ∧ t.1 ≤ T.1 ∧ am t.2 + s.1 ≤ am s.2 + t.1 ∧ 10 * ar t.2 + s.1 ≤ 10 * ar s.2 + t.1 + 1) ∧ ∀ n, OKA s.2 n → OKA t.2 (n + 1)
def GL (T : Tx) (s : Sx) (x : Sum Nat Sx) : Prop := match x with
  | .inl p => p ≤ T.1
  | .inr t => (s.1 ≤ t.1 ∧ t.1 ≤ T.1 ∧ am t.2 + s.1 ≤ am s.2 + t.1 ∧ 10 * ar t.2 + s.1 ≤ 10 * ar s.2 + t.1) ∧ ∀ n, OKA s.2 (n + 1) → OKA t.2 (n + 1)
theorem ex_b {T : Tx} {c : Int32} {a : Nat} (hc : c ≠ -1) (ha : a ≤ T.1) : match ex T c a with
    | .inl p => p ≤ T.1
    | .inr b => a < b ∧ b ≤ T.1 := by
  unfold ex
  have h1 := sk_ge T a
  by_cases c1 : nx T a = c
  · rw [if_pos c1]
    have := nx_lt (T := T) (a := a) (by rw [c1]; exact hc)
    show a < sk T a + 1 ∧ sk T a + 1 ≤ T.1
    omega
  · rw [if_neg c1]
    exact sk_le ha
theorem rdN_b {T : Tx} {lo : Int32} {a : Nat} (ha : a ≤ T.1) : match rdN T lo a with
    | .inl p => p ≤ T.1
    | .inr q => a < q.1 ∧ q.1 ≤ T.1 := by
  have h1 := sk_ge T a
  have h2 := sk_le ha
  have h3 : (if nx T a = 45 then sk T a + 1 else sk T a) ≤ T.1 ∧ sk T a ≤ (if nx T a = 45 then sk T a + 1 else sk T a) := by
    split
    · rename_i c
      have := nx_lt (T := T) (a := a) (by rw [c]; decide)
      omega
    · omega
  have h4 := dgF_b 3 T (T.1 - (if nx T a = 45 then sk T a + 1 else sk T a)) (if nx T a = 45 then sk T a + 1 else sk T a) 0 0 h3.1
  unfold rdN numR
  rw [dg]
  generalize dgF 3 T (T.1 - (if nx T a = 45 then sk T a + 1 else sk T a)) (if nx T a = 45 then sk T a + 1 else sk T a) 0 0 = R at h4
  by_cases c1 : R.2.2 = 0
  · rw [if_pos c1]; exact h4.2.1
  · rw [if_neg c1]
    by_cases c2 : 3 < R.2.2 ∨ (if decide (nx T a = 45) = true then -R.2.1 else R.2.1) < lo ∨ 500 < (if decide (nx T a = 45) = true then -R.2.1 else R.2.1)
    · rw [if_pos c2]; exact h2
    · rw [if_neg c2]
      show a < R.1 ∧ R.1 ≤ T.1
      omega
theorem g_rct {T : Tx} (hT : T.1 ≤ 120) {s : Sx} (h : PB T s) : GB T s (rct T s) := by
  obtain ⟨p1, p2, p3⟩ := h
  unfold rct
  have b1 := ex_b (T := T) (c := 91) (a := s.1) (by decide) p1
  cases e1 : ex T 91 s.1 with
  | inl p => rw [e1] at b1; exact b1
  | inr a1 =>
    rw [e1] at b1
    simp only [bd]
    have b2 := rdN_b (T := T) (lo := -500) (a := a1) b1.2
    cases e2 : rdN T (-500) a1 with
    | inl p => rw [e2] at b2; exact b2
    | inr q1 =>
      rw [e2] at b2
      simp only
      have b3 := ex_b (T := T) (c := 44) (a := q1.1) (by decide) b2.2
      cases e3 : ex T 44 q1.1 with
      | inl p => rw [e3] at b3; exact b3
      | inr a3 =>
        rw [e3] at b3
        simp only
        have b4 := rdN_b (T := T) (lo := q1.2) (a := a3) b3.2
        cases e4 : rdN T q1.2 a3 with
        | inl p => rw [e4] at b4; exact b4
        | inr q2 =>
          rw [e4] at b4
          simp only
          have b5 := ex_b (T := T) (c := 44) (a := q2.1) (by decide) b4.2
          cases e5 : ex T 44 q2.1 with
          | inl p => rw [e5] at b5; exact b5
          | inr a5 =>
            rw [e5] at b5
            simp only
            have b6 := rdN_b (T := T) (lo := -500) (a := a5) b5.2
            cases e6 : rdN T (-500) a5 with
            | inl p => rw [e6] at b6; exact b6
            | inr q3 =>
              rw [e6] at b6
              simp only
              have b7 := ex_b (T := T) (c := 44) (a := q3.1) (by decide) b6.2
              cases e7 : ex T 44 q3.1 with
              | inl p => rw [e7] at b7; exact b7
              | inr a7 =>
                rw [e7] at b7
                simp only
                have b8 := rdN_b (T := T) (lo := q3.2) (a := a7) b7.2
                cases e8 : rdN T q3.2 a7 with
                | inl p => rw [e8] at b8; exact b8
                | inr q4 =>
                  rw [e8] at b8
                  simp only
                  have b9 := ex_b (T := T) (c := 93) (a := q4.1) (by decide) b8.2
                  cases e9 : ex T 93 q4.1 with
                  | inl p => rw [e9] at b9; exact b9
                  | inr a9 =>
                    rw [e9] at b9
                    simp only at b1 b2 b3 b4 b5 b6 b7 b8 b9
                    refine ⟨?_, fun n hn => hn.r (by omega)⟩
                    show s.1 < a9 ∧ a9 ≤ T.1 ∧ (am s.2 + 1) + s.1 ≤ am s.2 + a9 ∧ 10 * (ar s.2 + 1) + s.1 ≤ 10 * ar s.2 + a9 + 1
                    omega
section READ
variable {T : Tx} {sp : Sx → Sum Nat Sx}
theorem g_lp (hT : T.1 ≤ 120) (hsp : ∀ s, PB T s → GB T s (sp s)) : ∀ n s, s.1 ≤ T.1 → am s.2 ≤ s.1 → 10 * ar s.2 ≤ s.1 + 1 → GL T s (lpP T sp n s) := by
  intro n
  induction n with
  | zero => intro s h1 h2 h3; exact ⟨⟨Nat.le_refl _, h1, Nat.le_refl _, Nat.le_refl _⟩, fun n hn => hn⟩
  | succ n ih =>
    intro s h1 h2 h3
    rw [lpP]
    have k1 := sk_ge T s.1
    have k2 := sk_le h1
    by_cases c : nx T s.1 = 38
    · rw [if_pos c]
      have k3 := nx_lt (T := T) (a := s.1) (by rw [c]; decide)
      have g1 := hsp (sk T s.1 + 1, s.2) ⟨k3, by show am s.2 ≤ sk T s.1 + 1; omega, by show 10 * ar s.2 ≤ sk T s.1 + 1; omega⟩
      cases e1 : sp (sk T s.1 + 1, s.2) with
      | inl p => rw [e1] at g1; exact g1
      | inr t =>
        rw [e1] at g1
        obtain ⟨⟨g2, g3, g4, g5⟩, g6⟩ := g1
        simp only at g2 g4 g5
        have g7 := ih (t.1, aS t.2 (-2)) g3 (by show am t.2 + 1 ≤ t.1; omega) (by show 10 * ar t.2 ≤ t.1 + 1; omega)
        show GL T s (lpP T sp n (t.1, aS t.2 (-2)))
        cases e2 : lpP T sp n (t.1, aS t.2 (-2)) with
        | inl p => rw [e2] at g7; exact g7
        | inr u =>
          rw [e2] at g7
          obtain ⟨⟨f2, f3, f4, f5⟩, f6⟩ := g7
          have f2' : t.1 ≤ u.1 := f2
          have f4' : am u.2 + t.1 ≤ (am t.2 + 1) + u.1 := f4
          have f5' : 10 * ar u.2 + t.1 ≤ 10 * ar t.2 + u.1 := f5
          exact ⟨⟨by omega, f3, by omega, by omega⟩, fun n hn => f6 n ((g6 (n + 1) hn).s2 (Or.inl rfl))⟩
    · rw [if_neg c]
      exact ⟨⟨k1, k2, by show am s.2 + s.1 ≤ am s.2 + sk T s.1; omega, by show 10 * ar s.2 + s.1 ≤ 10 * ar s.2 + sk T s.1; omega⟩, fun n hn => hn⟩
theorem g_pt (hT : T.1 ≤ 120) (hsp : ∀ s, PB T s → GB T s (sp s)) {s : Sx} (h : PB T s) : GB T s (ptP T sp s) := by
  obtain ⟨p1, p2, p3⟩ := h
  unfold ptP
  have g1 := hsp s ⟨p1, p2, p3⟩
  cases e1 : sp s with
  | inl p => rw [e1] at g1; exact g1
  | inr t =>
    rw [e1] at g1
    obtain ⟨⟨g2, g3, g4, g5⟩, g6⟩ := g1
    have g7 := g_lp hT hsp 120 t g3 (by omega) (by omega)
    show GB T s (lpP T sp 120 t)
    cases e2 : lpP T sp 120 t with
    | inl p => rw [e2] at g7; exact g7
    | inr u =>
      rw [e2] at g7
      obtain ⟨⟨f2, f3, f4, f5⟩, f6⟩ := g7
      exact ⟨⟨by omega, f3, by omega, by omega⟩, fun n hn => f6 n (g6 n hn)⟩
theorem g_la1 (hT : T.1 ≤ 120) (hsp : ∀ s, PB T s → GB T s (sp s)) {n : Nat} (ih : ∀ s, s.1 ≤ T.1 → am s.2 ≤ s.1 → 10 * ar s.2 ≤ s.1 + 1 → GL T s (laP T sp n s)) {s : Sx} (h1 : s.1 ≤ T.1) (h2 : am s.2 ≤ s.1) (h3 : 10 * ar s.2 ≤ s.1 + 1) (c : nx T s.1 ≠ -1) {z : Int32} (hz : z = -2 ∨ z = -3 ∨ z = -4) : GL T s (bd (ptP T sp (sk T s.1 + 1, s.2)) (fun t => laP T sp n (t.1, aS t.2 z))) := by
  have k1 := sk_ge T s.1
  have k3 := nx_lt (T := T) (a := s.1) c
  have g1 := g_pt hT hsp (s := (sk T s.1 + 1, s.2)) ⟨k3, by show am s.2 ≤ sk T s.1 + 1; omega, by show 10 * ar s.2 ≤ sk T s.1 + 1; omega⟩
  cases e1 : ptP T sp (sk T s.1 + 1, s.2) with
  | inl p => rw [e1] at g1; exact g1
  | inr t =>
    rw [e1] at g1
    obtain ⟨⟨g2, g3, g4, g5⟩, g6⟩ := g1
    simp only at g2 g4 g5
    have g7 := ih (t.1, aS t.2 z) g3 (by show am t.2 + 1 ≤ t.1; omega) (by show 10 * ar t.2 ≤ t.1 + 1; omega)
    show GL T s (laP T sp n (t.1, aS t.2 z))
    cases e2 : laP T sp n (t.1, aS t.2 z) with
    | inl p => rw [e2] at g7; exact g7
    | inr u =>
      rw [e2] at g7
      obtain ⟨⟨f2, f3, f4, f5⟩, f6⟩ := g7
      have f2' : t.1 ≤ u.1 := f2
      have f4' : am u.2 + t.1 ≤ (am t.2 + 1) + u.1 := f4
      have f5' : 10 * ar u.2 + t.1 ≤ 10 * ar t.2 + u.1 := f5
      exact ⟨⟨by omega, f3, by omega, by omega⟩, fun n hn => f6 n ((g6 (n + 1) hn).s2 hz)⟩
theorem g_la (hT : T.1 ≤ 120) (hsp : ∀ s, PB T s → GB T s (sp s)) : ∀ n s, s.1 ≤ T.1 → am s.2 ≤ s.1 → 10 * ar s.2 ≤ s.1 + 1 → GL T s (laP T sp n s) := by
  intro n
  induction n with
  | zero => intro s h1 h2 h3; exact ⟨⟨Nat.le_refl _, h1, Nat.le_refl _, Nat.le_refl _⟩, fun n hn => hn⟩
  | succ n ih =>
    intro s h1 h2 h3
    rw [laP]
    have k1 := sk_ge T s.1
    have k2 := sk_le h1
    by_cases c : nx T s.1 = 43
    · rw [if_pos c]
      exact g_la1 hT hsp ih h1 h2 h3 (by rw [c]; decide) (Or.inr (Or.inl rfl))
    · rw [if_neg c]
      by_cases c2 : nx T s.1 = 45
      · rw [if_pos c2]
        exact g_la1 hT hsp ih h1 h2 h3 (by rw [c2]; decide) (Or.inr (Or.inr rfl))
      · rw [if_neg c2]
        exact ⟨⟨k1, k2, by show am s.2 + s.1 ≤ am s.2 + sk T s.1; omega, by show 10 * ar s.2 + s.1 ≤ 10 * ar s.2 + sk T s.1; omega⟩, fun n hn => hn⟩
theorem g_ar (hT : T.1 ≤ 120) (hsp : ∀ s, PB T s → GB T s (sp s)) {s : Sx} (h : PB T s) : GB T s (arP T sp s) := by
  obtain ⟨p1, p2, p3⟩ := h
  unfold arP
  have g1 := g_pt hT hsp (s := s) ⟨p1, p2, p3⟩
  cases e1 : ptP T sp s with
  | inl p => rw [e1] at g1; exact g1
  | inr t =>
    rw [e1] at g1
    obtain ⟨⟨g2, g3, g4, g5⟩, g6⟩ := g1
    have g7 := g_la hT hsp 120 t g3 (by omega) (by omega)
    show GB T s (laP T sp 120 t)
    cases e2 : laP T sp 120 t with
    | inl p => rw [e2] at g7; exact g7
    | inr u =>
      rw [e2] at g7
      obtain ⟨⟨f2, f3, f4, f5⟩, f6⟩ := g7
      exact ⟨⟨by omega, f3, by omega, by omega⟩, fun n hn => f6 n (g6 n hn)⟩
theorem GB.sk {s : Sx} {x : Sum Nat Sx} (h : GB T (sk T s.1, s.2) x) : GB T s x := by
  have k1 := sk_ge T s.1
  cases x with
  | inl p => exact h
  | inr t =>
    obtain ⟨⟨g2, g3, g4, g5⟩, g6⟩ := h
    simp only at g2 g4 g5
    exact ⟨⟨by omega, g3, by omega, by omega⟩, g6⟩
theorem g_sp (hT : T.1 ≤ 120) : ∀ r s, PB T s → GB T s (spP T r s) := by
  intro r
  induction r with
  | zero =>
    intro s h
    have k1 := sk_ge T s.1
    have k2 := sk_le h.1
    rw [spP]
    split
    · exact (g_rct hT (s := (sk T s.1, s.2)) ⟨k2, by have := h.2.1; show am s.2 ≤ sk T s.1; omega, by have := h.2.2; show 10 * ar s.2 ≤ sk T s.1; omega⟩).sk
    · exact k2
  | succ r ih =>
    intro s h
    have k1 := sk_ge T s.1
    have k2 := sk_le h.1
    have h2 := h.2.1
    have h3 := h.2.2
    rw [spP]
    split
    · exact (g_rct hT (s := (sk T s.1, s.2)) ⟨k2, by show am s.2 ≤ sk T s.1; omega, by show 10 * ar s.2 ≤ sk T s.1; omega⟩).sk
    · split
      · rename_i c
        have k3 := nx_lt (T := T) (a := s.1) (by rw [c]; decide)
        have g1 := g_ar hT ih (s := (sk T s.1 + 1, s.2)) ⟨k3, by show am s.2 ≤ sk T s.1 + 1; omega, by show 10 * ar s.2 ≤ sk T s.1 + 1; omega⟩
        cases e1 : arP T (spP T r) (sk T s.1 + 1, s.2) with
        | inl p => rw [e1] at g1; exact g1
        | inr t =>
          rw [e1] at g1
          obtain ⟨⟨g2, g3, g4, g5⟩, g6⟩ := g1
          simp only at g2 g4 g5
          have b1 := ex_b (T := T) (c := 41) (a := t.1) (by decide) g3
          show GB T s (bd (ex T 41 t.1) (fun a => .inr (a, t.2)))
          cases e2 : ex T 41 t.1 with
          | inl p => rw [e2] at b1; exact b1
          | inr a =>
            rw [e2] at b1
            simp only at b1
            refine ⟨?_, g6⟩
            show s.1 < a ∧ a ≤ T.1 ∧ am t.2 + s.1 ≤ am s.2 + a ∧ 10 * ar t.2 + s.1 ≤ 10 * ar s.2 + a + 1
            omega
      · split
        · rename_i c
          have k3 := nx_lt (T := T) (a := s.1) (by rw [c]; decide)
          have g1 := ih (sk T s.1 + 1, s.2) ⟨k3, by show am s.2 ≤ sk T s.1 + 1; omega, by show 10 * ar s.2 ≤ sk T s.1 + 1; omega⟩
          cases e1 : spP T r (sk T s.1 + 1, s.2) with
          | inl p => rw [e1] at g1; exact g1
          | inr t =>
            rw [e1] at g1
            obtain ⟨⟨g2, g3, g4, g5⟩, g6⟩ := g1
            simp only at g2 g4 g5
            refine ⟨?_, fun n hn => (g6 n hn).s1⟩
            show s.1 < t.1 ∧ t.1 ≤ T.1 ∧ (am t.2 + 1) + s.1 ≤ am s.2 + t.1 ∧ 10 * ar t.2 + s.1 ≤ 10 * ar s.2 + t.1 + 1
            omega
        · exact k2
theorem g_rd (hT : T.1 ≤ 120) : match rdP T with
    | .inl p => p ≤ T.1
    | .inr t => VA0 t.2 := by
  unfold rdP
  have g1 := g_ar hT (g_sp hT 12) (s := (0, eA)) ⟨Nat.zero_le _, Nat.le_refl _, Nat.le_refl _⟩
  cases e1 : arP T (spP T 12) (0, eA) with
  | inl p => rw [e1] at g1; exact g1
  | inr t =>
    rw [e1] at g1
    obtain ⟨⟨g2, g3, g4, g5⟩, g6⟩ := g1
    have g4' : am t.2 + 0 ≤ 0 + t.1 := g4
    have g5' : 10 * ar t.2 + 0 ≤ 10 * 0 + t.1 + 1 := g5
    have b1 := ex_b (T := T) (c := 59) (a := t.1) (by decide) g3
    simp only [bd]
    cases e2 : ex T 59 t.1 with
    | inl p => rw [e2] at b1; exact b1
    | inr a =>
      rw [e2] at b1
      simp only at b1 ⊢
      by_cases c : nx T a = -1
      · rw [if_pos c]
        exact (g6 0 OKA.e).va (by omega) (by omega)
      · rw [if_neg c]
        exact sk_le b1.2
end READ
