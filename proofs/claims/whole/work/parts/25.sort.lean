/-! Sorting by insertion, and what else Picks do with their row. -/
def pos (B : Nat → Nat → Bool) (e : Nat) (l : List Nat) : Nat → Nat
  | 0 => 0
  | t + 1 => if B e (l.getD t 0) = true then pos B e l t else t + 1
theorem pos_le (B : Nat → Nat → Bool) (e : Nat) (l : List Nat) : ∀ t, pos B e l t ≤ t
  | 0 => Nat.le_refl 0
  | t + 1 => by
    simp only [pos]
    split
    · exact Nat.le_trans (pos_le B e l t) (Nat.le_succ t)
    · exact Nat.le_refl _
def ins (B : Nat → Nat → Bool) (e : Nat) (l : List Nat) : List Nat := l.take (pos B e l l.length) ++ e :: l.drop (pos B e l l.length)
theorem ins_len (B : Nat → Nat → Bool) (e : Nat) (l : List Nat) : (ins B e l).length = l.length + 1 := by
  have := pos_le B e l l.length
  simp [ins]
  omega
theorem insAt_getD (l : List Nat) (e p k : Nat) (hp : p ≤ l.length) : (l.take p ++ e :: l.drop p).getD k 0 = if k < p then l.getD k 0 else if k = p then e else l.getD (k - 1) 0 := by
  have hl : (l.take p).length = p := by rw [List.length_take]; omega
  simp only [List.getD_eq_getElem?_getD]
  by_cases h1 : k < p
  · rw [if_pos h1, List.getElem?_append_left (by omega), List.getElem?_take, if_pos h1]
  · rw [if_neg h1, List.getElem?_append_right (by omega), hl]
    by_cases h2 : k = p
    · subst h2
      rw [if_pos rfl, Nat.sub_self]
      rfl
    · rw [if_neg h2, show k - p = (k - p - 1) + 1 by omega, List.getElem?_cons_succ, List.getElem?_drop, show p + (k - p - 1) = k - 1 by omega]
def srt (B : Nat → Nat → Bool) (l : List Nat) : List Nat := l.foldl (fun acc e => ins B e acc) []
theorem srt_snoc (B : Nat → Nat → Bool) (l : List Nat) (e : Nat) : srt B (l ++ [e]) = ins B e (srt B l) := by simp [srt]
theorem srt_len (B : Nat → Nat → Bool) (l : List Nat) : (srt B l).length = l.length := by
  suffices h : ∀ (l acc : List Nat), (l.foldl (fun acc e => ins B e acc) acc).length = acc.length + l.length by
    have := h l []
    simpa [srt] using this
  intro l
  induction l with
  | nil => intro acc; rfl
  | cons a t ih =>
    intro acc
    rw [List.foldl_cons, ih, ins_len]
    simp only [List.length_cons]
    omega
theorem ins_mem (B : Nat → Nat → Bool) (e : Nat) (l : List Nat) (a : Nat) : a ∈ ins B e l ↔ a = e ∨ a ∈ l := by
  unfold ins
  rw [List.mem_append, List.mem_cons]
  constructor
  · rintro (h | h | h)
    · exact Or.inr (List.mem_of_mem_take h)
    · exact Or.inl h
    · exact Or.inr (List.mem_of_mem_drop h)
  · rintro (h | h)
    · exact Or.inr (Or.inl h)
    · rw [← List.take_append_drop (pos B e l l.length) l, List.mem_append] at h
      rcases h with h | h
      · exact Or.inl h
      · exact Or.inr (Or.inr h)
theorem srt_mem (B : Nat → Nat → Bool) (l : List Nat) (a : Nat) : a ∈ srt B l ↔ a ∈ l := by
  suffices h : ∀ (l acc : List Nat), a ∈ l.foldl (fun acc e => ins B e acc) acc ↔ a ∈ acc ∨ a ∈ l by
    have := h l []
    simpa [srt] using this
  intro l
  induction l with
  | nil => intro acc; simp
  | cons b t ih =>
    intro acc
    rw [List.foldl_cons, ih, ins_mem, List.mem_cons]
    constructor
    · rintro ((h | h) | h)
      · exact Or.inr (Or.inl h)
      · exact Or.inl h
      · exact Or.inr (Or.inr h)
    · rintro (h | h | h)
      · exact Or.inl (Or.inr h)
      · exact Or.inl (Or.inl h)
      · exact Or.inr h
theorem take_snoc (l : List Nat) {k : Nat} (hk : k < l.length) : l.take (k + 1) = l.take k ++ [l.getD k 0] := by
  rw [List.take_succ, List.getElem?_eq_getElem hk]
  simp [List.getD_eq_getElem?_getD, List.getElem?_eq_getElem hk]
theorem getD_mem {l : List Nat} {k : Nat} (hk : k < l.length) : l.getD k 0 ∈ l := by
  rw [List.getD_eq_getElem?_getD, List.getElem?_eq_getElem hk]
  exact List.getElem_mem hk
theorem getD_take {l : List Nat} {i k : Nat} (hk : k < i) : (l.take i).getD k 0 = l.getD k 0 := by
  rw [List.getD_eq_getElem?_getD, List.getElem?_take, if_pos hk, ← List.getD_eq_getElem?_getD]
section SORT
variable {d f q q2 b : Nat} {σ : Mem} {Q : Option Value → Mem → Prop} {F : Fl} {l : List Nat}
/-- the two orders of the class -/
def ordB (F : Fl) (h : Int32) : Nat → Nat → Bool := fun i j => if h = 0 then befB F i j else decide (fy F i < fy F j)
theorem nar_b (c : Bool) : narrow .boolean (.int (if c = true then 1 else 0)) = .int (if c = true then 1 else 0) := by cases c <;> rfl
theorem c_isBefore (hf : OKF f) (hn : fn F ≤ 121) (hF : CF σ f F) {i j : Nat} (hi : i < fn F) (hj : j < fn F) {hh : Int32} (hq : Q (some (.int (if ordB F hh i j = true then 1 else 0))) σ) : X none (d + 1) mX4_isBefore 0 [.ref f, .int (nI i), .int (nI j), .int hh] [] σ Q := by
  have hb := inN hi hn (by decide)
  have hb2 := inN hj hn (by decide)
  obtain ⟨a1, a2, a3, a4, a5⟩ := hF.2 i hi
  obtain ⟨b1, b2, b3, b4, b5⟩ := hF.2 j hj
  refine vX4_isBefore_0 hf ⟨fun c => ?_, fun c => ⟨hb, hb2, ?_⟩⟩
  · refine c_isBeforeByPlace hf hn hF hi hj ⟨_, rfl, nar_b _, Qe hq ?_⟩
    rw [ordB, if_pos c]
  · rw [nI_clamp (n := i) (by omega), nI_clamp (n := j) (by omega), a3, b3]
    refine ⟨fun c1 => Qe hq ?_, fun c1 => Qe hq ?_⟩
    · simp [ordB, c, Int32.not_lt.mpr c1]
    · simp [ordB, c, Int32.not_le.mp c1]
theorem c_sort (hq : OKP q) (hf : OKF f) (hqf : q + 1 < f ∨ f + 5 < q) (hn : fn F ≤ 121) (hF : CF σ f F) {hh : Int32} (hl : l.length ≤ 60) (hm : ∀ e ∈ l, e < fn F) (hp : PH σ q l) (h : ∀ τ, PH τ q (srt (ordB F hh) l) → Sm (SP q) σ τ → Q none τ) : X none (d + 2) mX4_sort 0 [.ref q, .ref f, .int hh, Unk, Unk, Unk] [] σ Q := by
  refine vX4_sort_0 hq hf ?_
  -- the inner loop
  have inner : ∀ (a : List Nat) (e : Nat), a.length < l.length → e < fn F → (∀ x ∈ a, x < fn F) → ∀ t (τ : Mem), t ≤ a.length → Sm (SP q) σ τ → τ.1 q 1 = nI l.length →
      pos (ordB F hh) e a a.length = pos (ordB F hh) e a t →
      (∀ k, k < t → τ.1 (q + 1) k = nI (a.getD k 0)) → (∀ k, t < k → k ≤ a.length → τ.1 (q + 1) k = nI (a.getD (k - 1) 0)) → (∀ k, a.length < k → k < l.length → τ.1 (q + 1) k = nI (l.getD k 0)) →
      (∀ τ' : Mem, Sm (SP q) σ τ' → τ'.1 q 1 = nI l.length → (∀ k, k ≤ a.length → τ'.1 (q + 1) k = nI ((ins (ordB F hh) e a).getD k 0)) → (∀ k, a.length < k → k < l.length → τ'.1 (q + 1) k = nI (l.getD k 0)) →
        X none (d + 2) mX4_sort 2 [.ref q, .ref f, .int hh, .int (nI a.length + 1), Unk, Unk] [] τ' Q) →
      X none (d + 2) mX4_sort 21 [.ref q, .ref f, .int hh, .int (nI a.length), .int (nI e), .int (nI t)] [] τ Q := by
    intro a e hal he ha t
    induction t with
    | zero =>
      intro τ ht hs hq1 hps hlo hhi hre kk
      refine vX4_sort_21 hq hf ⟨fun _ => ⟨inN (show 0 < 60 by omega) (Nat.le_refl _) (by decide), fun τ1 e1 => ?_⟩, fun c => absurd (by rw [nI_0]; decide) c⟩
      rw [nI_clamp (n := 0) (by decide)] at e1
      refine kk τ1 (by rw [e1]; exact hs.w1 ⟨by omega, by omega⟩) (by rw [e1, w1_a _ _ _ _ _ _ (by omega)]; exact hq1) (fun k hk => ?_) (fun k hk1 hk2 => ?_)
      · unfold ins
        rw [hps, show pos (ordB F hh) e a 0 = 0 from rfl, insAt_getD _ _ _ _ (Nat.zero_le _)]
        rw [if_neg (Nat.not_lt_zero k)]
        by_cases hk0 : k = 0
        · rw [if_pos hk0, e1, hk0, w1_s]
        · rw [if_neg hk0, e1, w1_k _ _ _ _ _ _ hk0]
          exact hhi k (by omega) hk
      · rw [e1, w1_k _ _ _ _ _ _ (by omega)]
        exact hre k hk1 hk2
    | succ t ih =>
      intro τ ht hs hq1 hps hlo hhi hre kk
      have hF' := hF.sm hs (fun i k h1 h2 hc => by unfold SP at hc; omega)
      have e0 : nI (t + 1) - 1 = nI t := nI_pred t
      have hct : (nI t).toNatClampNeg = t := nI_clamp (by omega)
      have hct1 : (nI (t + 1)).toNatClampNeg = t + 1 := nI_clamp (by omega)
      have hb : vp_in (nI t) 60 := inN (show t < 60 by omega) (Nat.le_refl _) (by decide)
      have hb1 : vp_in (nI (t + 1)) 60 := inN (show t + 1 < 60 by omega) (Nat.le_refl _) (by decide)
      refine vX4_sort_21 hq hf ?_
      rw [e0, hct, hct1, hlo t (by omega), pk_m1]
      refine ⟨fun c => absurd c (nI_nle (by omega) (by omega)), fun _ => ⟨hb, ?_⟩⟩
      have het : a.getD t 0 < fn F := ha _ (getD_mem (by omega))
      refine c_isBefore hf hn hF' he het ⟨_, rfl, fun c => ⟨hb1, fun τ1 e1 => ?_⟩, fun c => ⟨hb, hb1, fun τ1 e1 => ?_⟩⟩
      · have hB := b01_z c
        have hps2 : pos (ordB F hh) e a a.length = t + 1 := by rw [hps]; simp only [pos]; rw [hB]; rfl
        refine kk τ1 (by rw [e1]; exact hs.w1 ⟨by omega, by omega⟩) (by rw [e1, w1_a _ _ _ _ _ _ (by omega)]; exact hq1) (fun k hk => ?_) (fun k hk1 hk2 => ?_)
        · unfold ins
          rw [hps2, insAt_getD _ _ _ _ ht]
          by_cases hk1 : k < t + 1
          · rw [if_pos hk1, e1, w1_k _ _ _ _ _ _ (by omega)]
            exact hlo k hk1
          · rw [if_neg hk1]
            by_cases hk2 : k = t + 1
            · rw [if_pos hk2, e1, hk2, w1_s]
            · rw [if_neg hk2, e1, w1_k _ _ _ _ _ _ hk2]
              exact hhi k (by omega) hk
        · rw [e1, w1_k _ _ _ _ _ _ (by omega)]
          exact hre k hk1 hk2
      · have hB := b01_o c
        rw [hlo t (by omega)] at e1
        refine ih τ1 (by omega) (by rw [e1]; exact hs.w1 ⟨by omega, by omega⟩) (by rw [e1, w1_a _ _ _ _ _ _ (by omega)]; exact hq1) (by rw [hps]; simp only [pos]; rw [hB]; rfl) (fun k hk => ?_) (fun k hk1 hk2 => ?_) (fun k hk1 hk2 => ?_) kk
        · rw [e1, w1_k _ _ _ _ _ _ (by omega)]
          exact hlo k (by omega)
        · by_cases hk3 : k = t + 1
          · rw [e1, hk3, w1_s]; rfl
          · rw [e1, w1_k _ _ _ _ _ _ hk3]
            exact hhi k (by omega) hk2
        · rw [e1, w1_k _ _ _ _ _ _ (by omega)]
          exact hre k hk1 hk2
  have outer : ∀ m i (τ : Mem), 1 ≤ i → l.length ≤ i + m → Sm (SP q) σ τ → τ.1 q 1 = nI l.length → (∀ k, k < i → k < l.length → τ.1 (q + 1) k = nI ((srt (ordB F hh) (l.take i)).getD k 0)) → (∀ k, i ≤ k → k < l.length → τ.1 (q + 1) k = nI (l.getD k 0)) →
      i < 2 ^ 30 → X none (d + 2) mX4_sort 2 [.ref q, .ref f, .int hh, .int (nI i), Unk, Unk] [] τ Q := by
    intro m
    induction m with
    | zero =>
      intro i τ h1 hm0 hs hq1 hlo hhi hi30
      refine vX4_sort_2 hq hf ⟨fun _ => ?_, fun c => absurd (by rw [hq1]; exact nI_le (by omega) (by omega)) c⟩
      refine h τ ⟨by rw [hq1, srt_len], fun k hk => ?_⟩ hs
      rw [srt_len] at hk
      rw [hlo k (by omega) hk, List.take_of_length_le (by omega)]
    | succ m ih =>
      intro i τ h1 hm0 hs hq1 hlo hhi hi30
      refine vX4_sort_2 hq hf ⟨fun c => ?_, fun c => ?_⟩
      · rw [hq1] at c
        have hle : l.length ≤ i := by
          rcases Nat.lt_or_ge i l.length with q1 | q1
          · exact absurd c (nI_ge q1 (by omega))
          · exact q1
        refine h τ ⟨by rw [hq1, srt_len], fun k hk => ?_⟩ hs
        rw [srt_len] at hk
        rw [hlo k (by omega) hk, List.take_of_length_le (by omega)]
      · rw [hq1] at c
        have hlt : i < l.length := by
          rcases Nat.lt_or_ge i l.length with q1 | q1
          · exact q1
          · exact absurd (nI_le q1 (by omega)) c
        have hlen : (srt (ordB F hh) (l.take i)).length = i := by rw [srt_len, List.length_take]; omega
        refine ⟨inN hlt hl (by decide), ?_⟩
        rw [nI_clamp (by omega), hhi i (Nat.le_refl _) hlt]
        have hin := inner (srt (ordB F hh) (l.take i)) (l.getD i 0) (by omega) (hm _ (getD_mem hlt)) (fun x hx => hm x (List.mem_of_mem_take ((srt_mem _ _ _).mp hx))) i τ (by omega) hs hq1 (by rw [hlen]) (fun k hk => hlo k hk (by omega)) (fun k hk1 hk2 => by omega) (fun k hk1 hk2 => hhi k (by omega) hk2)
          (fun τ' hs' hq1' hlo' hhi' => by
            rw [hlen] at hlo' hhi' ⊢
            rw [nI_1]
            refine ih (i + 1) τ' (by omega) (by omega) hs' hq1' (fun k hk hk2 => ?_) (fun k hk hk2 => hhi' k (by omega) hk2) (by omega)
            rw [take_snoc l hlt, srt_snoc]
            exact hlo' k (by omega))
        rw [hlen] at hin
        exact hin
  have e1 : (1 : Int32) = nI 1 := rfl
  rw [e1]
  refine outer l.length 1 σ (Nat.le_refl _) (by omega) Sm.rf hp.1 (fun k hk hk2 => ?_) (fun k _ hk2 => hp.2 k hk2) (by decide)
  have hk0 : k = 0 := by omega
  subst hk0
  rw [hp.2 0 hk2, take_snoc l hk2]
  rfl
theorem c_sortByPlace (hq : OKP q) (hf : OKF f) (hqf : q + 1 < f ∨ f + 5 < q) (hn : fn F ≤ 121) (hF : CF σ f F) (hl : l.length ≤ 60) (hm : ∀ e ∈ l, e < fn F) (hp : PH σ q l) (h : ∀ τ, PH τ q (srt (befB F) l) → Sm (SP q) σ τ → Q none τ) : X none (d + 3) mX4_sortByPlace 0 [.ref q, .ref f] [] σ Q := by
  have e0 : ordB F 0 = befB F := by funext i j; simp [ordB]
  refine vX4_sortByPlace_0 hq hf (c_sort hq hf hqf hn hF hl hm hp (fun τ h1 h2 => ⟨rfl, h τ (by rw [← e0]; exact h1) h2⟩))
theorem c_sortByHeight (hq : OKP q) (hf : OKF f) (hqf : q + 1 < f ∨ f + 5 < q) (hn : fn F ≤ 121) (hF : CF σ f F) (hl : l.length ≤ 60) (hm : ∀ e ∈ l, e < fn F) (hp : PH σ q l) (h : ∀ τ, PH τ q (srt (fun i j => decide (fy F i < fy F j)) l) → Sm (SP q) σ τ → Q none τ) : X none (d + 3) mX4_sortByHeight 0 [.ref q, .ref f] [] σ Q := by
  have e0 : ordB F 1 = (fun i j => decide (fy F i < fy F j)) := by funext i j; simp [ordB]
  refine vX4_sortByHeight_0 hq hf (c_sort hq hf hqf hn hF hl hm hp (fun τ h1 h2 => ⟨rfl, h τ (by rw [← e0]; exact h1) h2⟩))
/-- what stands at a place of a list of numbers -/
def nthO (l : List Nat) (k : Int32) : Int32 := if k < 0 then -2000000001 else if k.toNatClampNeg < l.length then nI (l.getD k.toNatClampNeg 0) else -2000000001
theorem c_numberOf (hq : OKP q) (hf : OKF f) (hn : fn F ≤ 121) (hF : CF σ f F) (hl : l.length ≤ 60) (hm : ∀ e ∈ l, e < fn F) (hp : PH σ q l) {k : Int32} (h : Q (some (.int (nthO (l.map (fnum F)) k))) σ) : X none d mX4_numberOf 0 [.ref q, .ref f, .int k] [] σ Q := by
  refine vX4_numberOf_0 hq hf ⟨fun c => Qe h ?_, fun c => ?_⟩
  · simp [nthO, c]
  · rw [hp.1]
    rcases pk_ix k (show l.length < 2 ^ 31 by omega) with c1 | c1 | ⟨j, hj, rfl⟩
    · exact absurd c1 c
    · refine ⟨fun _ => Qe h ?_, fun c2 => absurd c1 c2⟩
      have h0 : l.length ≤ k.toNatClampNeg := by
        obtain ⟨j, hj, rfl⟩ := nI_of c
        rw [nI_clamp hj]
        exact (nI_leI (by omega) hj).mp c1
      simp only [nthO, List.length_map]
      rw [if_neg c, if_neg (by omega)]
    · have hcl : (nI j).toNatClampNeg = j := nI_clamp (by omega)
      have he := hm _ (getD_mem hj)
      refine ⟨fun c2 => absurd c2 (nI_ge hj (by omega)), fun _ => ⟨inN hj hl (by decide), ?_⟩⟩
      rw [hcl, hp.2 j hj, nI_clamp (n := l.getD j 0) (by omega), (hF.2 _ he).1]
      refine ⟨inN he hn (by decide), Qe h ?_⟩
      simp only [nthO, List.length_map, hcl]
      rw [if_neg c, if_pos hj]
      simp [List.getD_eq_getElem?_getD, List.getElem?_map, List.getElem?_eq_getElem hj]
theorem sumL_take (g : Nat → Int32) (l : List Nat) {k : Nat} (hk : k < l.length) : sumL g (l.take (k + 1)) = sumL g (l.take k) + g (l.getD k 0) := by rw [take_snoc l hk, sumL_snoc]
theorem c_worthOfAll (hq : OKP q) (hf : OKF f) (hn : fn F ≤ 121) (hF : CF σ f F) (hl : l.length ≤ 60) (hm : ∀ e ∈ l, e < fn F) (hp : PH σ q l) (h : Q (some (.int (sumL (wor F) l))) σ) : X none (d + 2) mX4_worthOfAll 0 [.ref q, .ref f, Unk, Unk] [] σ Q := by
  refine vX4_worthOfAll_0 hq hf ?_
  have key : ∀ m k, l.length = k + m → X none (d + 2) mX4_worthOfAll 4 [.ref q, .ref f, .int (sumL (wor F) (l.take k)), .int (nI k)] [] σ Q := by
    intro m
    induction m with
    | zero =>
      intro k hk
      refine vX4_worthOfAll_4 hq hf ⟨fun _ => Qe h ?_, fun c => absurd (by rw [hp.1]; exact nI_le (by omega) (by omega)) c⟩
      rw [List.take_of_length_le (by omega)]
    | succ m ih =>
      intro k hk
      have hlt : k < l.length := by omega
      have he := hm _ (getD_mem hlt)
      refine vX4_worthOfAll_4 hq hf ⟨fun c => absurd c (by rw [hp.1]; exact nI_ge hlt (by omega)), fun _ => ⟨inN hlt hl (by decide), ?_⟩⟩
      rw [nI_clamp (by omega), hp.2 k hlt]
      refine c_worth hf hn hF he ⟨_, rfl, ?_⟩
      have := ih (k + 1) (by omega)
      rw [sumL_take _ _ hlt] at this
      rw [nI_1]
      exact this
  have := key l.length 0 (by omega)
  rw [nI_0] at this
  exact this
theorem c_turnToNumbers (hq : OKP q) (hf : OKF f) (hqf : q + 1 < f ∨ f + 5 < q) (hn : fn F ≤ 121) (hF : CF σ f F) (hl : l.length ≤ 60) (hm : ∀ e ∈ l, e < fn F) (hp : PH σ q l) (h : ∀ τ, PH τ q (l.map (fnum F)) → Sm (SP q) σ τ → Q none τ) : X none d mX4_turnToNumbers 0 [.ref q, .ref f, Unk] [] σ Q := by
  refine vX4_turnToNumbers_0 hq hf ?_
  have gm : ∀ k, k < l.length → (l.map (fnum F)).getD k 0 = fnum F (l.getD k 0) := fun k hk => by simp [List.getD_eq_getElem?_getD, List.getElem?_map, List.getElem?_eq_getElem hk]
  have key : ∀ m k (τ : Mem), l.length = k + m → Sm (SP q) σ τ → τ.1 q 1 = nI l.length → (∀ j, j < k → τ.1 (q + 1) j = nI (fnum F (l.getD j 0))) → (∀ j, k ≤ j → j < l.length → τ.1 (q + 1) j = nI (l.getD j 0)) → X none d mX4_turnToNumbers 2 [.ref q, .ref f, .int (nI k)] [] τ Q := by
    intro m
    induction m with
    | zero =>
      intro k τ hk hs hq1 hlo hhi
      refine vX4_turnToNumbers_2 hq hf ⟨fun _ => h τ ⟨by rw [hq1, List.length_map], fun j hj => ?_⟩ hs, fun c => absurd (by rw [hq1]; exact nI_le (by omega) (by omega)) c⟩
      rw [List.length_map] at hj
      rw [gm j hj]
      exact hlo j (by omega)
    | succ m ih =>
      intro k τ hk hs hq1 hlo hhi
      have hF' := hF.sm hs (fun i k h1 h2 hc => by unfold SP at hc; omega)
      have hlt : k < l.length := by omega
      have he := hm _ (getD_mem hlt)
      have hb := inN hlt hl (by decide)
      refine vX4_turnToNumbers_2 hq hf ⟨fun c => absurd c (by rw [hq1]; exact nI_ge hlt (by omega)), fun _ => ⟨hb, ?_⟩⟩
      rw [nI_clamp (n := k) (by omega), hhi k (Nat.le_refl _) hlt, nI_clamp (n := l.getD k 0) (by omega), (hF'.2 _ he).1, nI_1]
      refine ⟨inN he hn (by decide), hb, fun τ1 e1 => ?_⟩
      refine ih (k + 1) τ1 (by omega) (by rw [e1]; exact hs.w1 ⟨by omega, by omega⟩) (by rw [e1, w1_a _ _ _ _ _ _ (by omega)]; exact hq1) (fun j hj => ?_) (fun j hj1 hj2 => ?_)
      · by_cases hjk : j = k
        · rw [hjk, e1, w1_s]
        · rw [e1, w1_k _ _ _ _ _ _ hjk]
          exact hlo j (by omega)
      · rw [e1, w1_k _ _ _ _ _ _ (by omega)]
        exact hhi j (by omega) hj2
  rw [← nI_0]
  exact key l.length 0 σ (by omega) Sm.rf hp.1 (fun j hj => absurd hj (Nat.not_lt_zero j)) (fun j _ hj => hp.2 j hj)
theorem countP_take (p : Nat → Bool) (l : List Nat) {k : Nat} (hk : k < l.length) : (l.take (k + 1)).countP p = (l.take k).countP p + (if p (l.getD k 0) = true then 1 else 0) := by
  rw [take_snoc l hk, List.countP_append]
  simp [List.countP_cons]
theorem c_tops (hq : OKP q) (hf : OKF f) (hn : fn F ≤ 121) (hF : CF σ f F) (hl : l.length ≤ 60) (hm : ∀ e ∈ l, e < fn F) (hp : PH σ q l) {i : Nat} (hi : i < fn F) (h : Q (some (.int (if l.any (topB F i) = true then 1 else 0))) σ) : X none (d + 1) mX4_tops 0 [.ref q, .ref f, .int (nI i), Unk] [] σ Q := by
  refine vX4_tops_0 hq hf ?_
  have key : ∀ m k, l.length = k + m → (l.take k).any (topB F i) = false → X none (d + 1) mX4_tops 2 [.ref q, .ref f, .int (nI i), .int (nI k)] [] σ Q := by
    intro m
    induction m with
    | zero =>
      intro k hk h0
      refine vX4_tops_2 hq hf ⟨fun _ => Qe h ?_, fun c => absurd (by rw [hp.1]; exact nI_le (by omega) (by omega)) c⟩
      rw [List.take_of_length_le (by omega)] at h0
      rw [h0]
      rfl
    | succ m ih =>
      intro k hk h0
      have hlt : k < l.length := by omega
      have he := hm _ (getD_mem hlt)
      refine vX4_tops_2 hq hf ⟨fun c => absurd c (by rw [hp.1]; exact nI_ge hlt (by omega)), fun _ => ⟨inN hlt hl (by decide), ?_⟩⟩
      rw [nI_clamp (by omega), hp.2 k hlt, nI_1]
      refine c_isTopped hf hn hF hi he ⟨_, rfl, fun c => ?_, fun c => Qe h ?_⟩
      · refine ih (k + 1) (by omega) ?_
        rw [take_snoc l hlt, List.any_append, h0]
        simp only [List.any_cons, List.any_nil, b01_z c]
        rfl
      · have : l.any (topB F i) = true := List.any_eq_true.mpr ⟨_, getD_mem hlt, b01_o c⟩
        rw [this]
        rfl
  rw [← nI_0]
  exact key l.length 0 (by omega) rfl
theorem filter_take (p : Nat → Bool) (l : List Nat) {k : Nat} (hk : k < l.length) : (l.take (k + 1)).filter p = (l.take k).filter p ++ (if p (l.getD k 0) = true then [l.getD k 0] else []) := by
  rw [take_snoc l hk, List.filter_append]
  congr 1
  by_cases hp : p (l.getD k 0) = true
  · rw [if_pos hp, List.filter_cons_of_pos hp]; rfl
  · rw [if_neg hp, List.filter_cons_of_neg hp]; rfl
theorem c_pickStairs (hq : OKP q) (hf : OKF f) (hq2 : OKP q2) (hqf : q + 1 < f ∨ f + 5 < q) (hqq : q + 1 < q2 ∨ q2 + 1 < q) (hn : fn F ≤ 121) (hF : CF σ f F) (hl : l.length ≤ 60) (hm : ∀ e ∈ l, e < fn F) (hp : PH σ q2 l) (h : ∀ τ, PH τ q (l.filter (fun i => !(l.any (topB F i)))) → Sm (SP q) σ τ → Q none τ) : X none (d + 2) mX4_pickStairs 0 [.ref q, .ref f, .ref q2, Unk] [] σ Q := by
  refine vX4_pickStairs_0 hq hf hq2 (fun τ1 e1 => ?_)
  have key : ∀ m k (τ : Mem), l.length = k + m → Sm (SP q) σ τ → PH τ q ((l.take k).filter (fun i => !(l.any (topB F i)))) → X none (d + 2) mX4_pickStairs 7 [.ref q, .ref f, .ref q2, .int (nI k)] [] τ Q := by
    intro m
    induction m with
    | zero =>
      intro k τ hk hs hpq
      have hp' := hp.sm hs (fun i k h1 h2 hc => by unfold SP at hc; omega)
      refine vX4_pickStairs_7 hq hf hq2 ⟨fun _ => h τ ?_ hs, fun c => absurd (by rw [hp'.1]; exact nI_le (by omega) (by omega)) c⟩
      rw [List.take_of_length_le (by omega)] at hpq
      exact hpq
    | succ m ih =>
      intro k τ hk hs hpq
      have hF' := hF.sm hs (fun i k h1 h2 hc => by unfold SP at hc; omega)
      have hp' := hp.sm hs (fun i k h1 h2 hc => by unfold SP at hc; omega)
      have hlt : k < l.length := by omega
      have he := hm _ (getD_mem hlt)
      have hb := inN hlt hl (by decide)
      have hfl := List.length_filter_le (fun i => !(l.any (topB F i))) (l.take k)
      rw [List.length_take] at hfl
      refine vX4_pickStairs_7 hq hf hq2 ⟨fun c => absurd c (by rw [hp'.1]; exact nI_ge hlt (by omega)), fun _ => ⟨hb, ?_⟩⟩
      rw [nI_clamp (n := k) (by omega), hp'.2 k hlt, nI_1]
      refine c_tops hq2 hf hn hF' hl hm hp' he ⟨_, rfl, fun c => ?_, fun c => ⟨hb, ?_⟩⟩
      · refine ih (k + 1) τ (by omega) hs ?_
        rw [filter_take _ _ hlt, b01_o c]
        simpa using hpq
      · rw [hpq.1, nI_clamp (by omega), hp'.2 k hlt]
        refine ⟨fun c2 => absurd c2 (show ¬ (60 : Int32) ≤ _ from nI_ge (b := 60) (by omega) (by decide)), fun _ => ⟨inN (show _ < 60 by omega) (Nat.le_refl _) (by decide), fun τ3 e3 τ4 e4 => ?_⟩⟩
        have r3 : τ3.1 q 1 = nI ((l.take k).filter (fun i => !(l.any (topB F i)))).length := by rw [e3, w1_a _ _ _ _ _ _ (by omega), hpq.1]
        rw [r3, nI_1] at e4
        refine ih (k + 1) τ4 (by omega) (by rw [e4, e3]; exact (hs.w1 ⟨by omega, by omega⟩).w1 ⟨by omega, by omega⟩) ?_
        rw [filter_take _ _ hlt, b01_z c]
        simp only [Bool.not_false, if_true]
        refine ⟨by rw [e4, w1_s, List.length_append]; rfl, fun j hj => ?_⟩
        rw [e4, w1_a _ _ _ _ _ _ (by omega), e3]
        exact HL.snoc hpq.2 j hj
  rw [← nI_0]
  refine key l.length 0 τ1 (by omega) (by rw [e1]; exact Sm.rf.w1 ⟨by omega, by omega⟩) ⟨by rw [e1, w1_s]; rfl, HL.nil⟩
theorem c_within (hq : OKP q) (hf : OKF f) (hn : fn F ≤ 121) (hF : CF σ f F) (hl : l.length ≤ 60) (hm : ∀ e ∈ l, e < fn F) (hp : PH σ q l) {x y r : Int32} (h : Q (some (.int (nI (l.countP (fun e => decide (dst F e x y ≤ r)))))) σ) : X none (d + 2) mX4_within 0 [.ref q, .ref f, .int x, .int y, .int r, Unk, Unk] [] σ Q := by
  refine vX4_within_0 hq hf ?_
  have key : ∀ m k, l.length = k + m → X none (d + 2) mX4_within 6 [.ref q, .ref f, .int x, .int y, .int r, .int (nI ((l.take k).countP (fun e => decide (dst F e x y ≤ r)))), .int (nI k)] [] σ Q := by
    intro m
    induction m with
    | zero =>
      intro k hk
      refine vX4_within_6 hq hf ⟨fun _ => Qe h ?_, fun c => absurd (by rw [hp.1]; exact nI_le (by omega) (by omega)) c⟩
      rw [List.take_of_length_le (by omega)]
    | succ m ih =>
      intro k hk
      have hlt : k < l.length := by omega
      have he := hm _ (getD_mem hlt)
      refine vX4_within_6 hq hf ⟨fun c => absurd c (by rw [hp.1]; exact nI_ge hlt (by omega)), fun _ => ⟨inN hlt hl (by decide), ?_⟩⟩
      rw [nI_clamp (by omega), hp.2 k hlt, nI_1, nI_1]
      have := ih (k + 1) (by omega)
      rw [countP_take _ _ hlt] at this
      simp only [decide_eq_true_eq] at this
      refine c_distance hf hn hF he ⟨_, rfl, fun c => ?_, fun c => ?_⟩
      · rw [if_neg (Int32.not_le.mpr c), Nat.add_zero] at this
        exact this
      · rw [if_pos (Int32.not_lt.mp c)] at this
        exact this
  have := key l.length 0 (by omega)
  simp only [List.take_zero, List.countP_nil, nI_0] at this
  exact this
end SORT
