/-! Field: laying anew, going away, copying; what keeps WF. -/
theorem pik_pre (p : Nat → Bool) : ∀ {n i j : Nat}, i ≤ n → j < cnt p i → (pik p n).getD j 0 = (pik p i).getD j 0 := by
  intro n
  induction n with
  | zero => intro i j hi _; rw [Nat.le_zero.mp hi]
  | succ n ih =>
    intro i j hi hj
    by_cases he : i = n + 1
    · rw [he]
    · have h1 := ih (i := i) (j := j) (by omega) hj
      have h2 := cnt_mono p (show i ≤ n by omega)
      simp only [pik]
      split
      · rw [getD_snoc_lt (by rw [pik_len]; omega)]; exact h1
      · exact h1
theorem pik_sorted (p : Nat → Bool) : ∀ {n i j : Nat}, i < j → j < (pik p n).length → (pik p n).getD i 0 < (pik p n).getD j 0 := by
  intro n
  induction n with
  | zero => intro i j _ h; exact absurd h (Nat.not_lt_zero j)
  | succ n ih =>
    intro i j hij hj
    simp only [pik] at hj ⊢
    split
    · rename_i hp
      rw [if_pos hp, List.length_append, List.length_singleton] at hj
      by_cases he : j = (pik p n).length
      · subst he
        rw [getD_snoc_eq, getD_snoc_lt hij]
        exact (pik_lt p hij).1
      · rw [getD_snoc_lt (by omega), getD_snoc_lt (by omega)]
        exact ih hij (by omega)
    · rename_i hp
      rw [if_neg hp] at hj
      exact ih hij hj
theorem cnt_drop {p q : Nat → Bool} {k : Nat} (hp : p k = true) (hq : q k = false) (ho : ∀ e, e ≠ k → q e = p e) : ∀ {n : Nat}, k < n → cnt q n + 1 = cnt p n
  | n + 1, hk => by
    simp only [cnt]
    by_cases he : k = n
    · subst he
      rw [hp, hq, cnt_congr (p := q) (q := p) (fun e h => ho e (by omega))]
      simp
    · have := cnt_drop hp hq ho (n := n) (by omega)
      rw [ho n (by omega)]
      omega
theorem cnt_all {p : Nat → Bool} : ∀ {n : Nat}, (∀ e, e < n → p e = true) → cnt p n = n
  | 0, _ => rfl
  | n + 1, h => by
    simp only [cnt]
    rw [cnt_all (fun e he => h e (by omega)), if_pos (h n (by omega))]
def anewF (F : Fl) : Fl := ((cnt (thr F) (fn F), 0, fnx F), (fcar F, fan F + 1, fkd F), fun j => fnum F ((pik (thr F) (fn F)).getD j 0), fun j => fx F ((pik (thr F) (fn F)).getD j 0), fun j => fy F ((pik (thr F) (fn F)).getD j 0), fun j => fw F ((pik (thr F) (fn F)).getD j 0), fun _ => 0)
def goneF (F : Fl) (e : Nat) : Fl := ((fn F, fg F + 1, fnx F), (fcar F + lowb (fg F + 1), fan F, fkd F), fnum F, fx F, fy F, fw F, upN (fgo F) e (fg F + 1))
def goF (F : Fl) (e : Nat) : Fl := if fn F < 2 * (fg F + 1) then anewF (goneF F e) else goneF F e
section FIELD2
variable {d f g : Nat} {σ : Mem} {Q : Option Value → Mem → Prop} {F G : Fl}
theorem c_layAnew (hf : OKF f) (hn : fn F ≤ 121) (hg : ∀ e, e < fn F → fgo F e < 2 ^ 31) (hF : CF σ f F) (hq : ∀ τ, CF τ f (anewF F) → Sm (SF f) σ τ → Q none τ) : X none (d + 1) mX0_layAnew 0 [.ref f, Unk, Unk] [] σ Q := by
  refine vX0_layAnew_0 hf ?_
  have key : ∀ m i (τ : Mem), fn F = i + m → Sm (SF f) σ τ → (∀ k, τ.1 f k = σ.1 f k) →
      (∀ j, j < cnt (thr F) i → τ.1 (f + 1) j = nI (fnum F ((pik (thr F) (fn F)).getD j 0)) ∧ τ.1 (f + 2) j = fx F ((pik (thr F) (fn F)).getD j 0) ∧ τ.1 (f + 3) j = fy F ((pik (thr F) (fn F)).getD j 0) ∧ τ.1 (f + 4) j = fw F ((pik (thr F) (fn F)).getD j 0) ∧ τ.1 (f + 5) j = 0) →
      (∀ j, cnt (thr F) i ≤ j → τ.1 (f + 1) j = σ.1 (f + 1) j ∧ τ.1 (f + 2) j = σ.1 (f + 2) j ∧ τ.1 (f + 3) j = σ.1 (f + 3) j ∧ τ.1 (f + 4) j = σ.1 (f + 4) j ∧ τ.1 (f + 5) j = σ.1 (f + 5) j) →
      X none (d + 1) mX0_layAnew 4 [.ref f, .int (nI (cnt (thr F) i)), .int (nI i)] [] τ Q := by
    intro m
    induction m with
    | zero =>
      intro i τ hi hsm ho hlo hhi
      have hin : fn F = i := by omega
      refine vX0_layAnew_4 hf ⟨fun _ τ1 e1 τ2 e2 τ3 e3 => ?_, fun hc => ?_⟩
      · have q1 : ∀ a k, a ≠ f → τ3.1 a k = τ.1 a k := fun a k ha => by rw [e3, w1_a _ _ _ _ _ _ ha, e2, w1_a _ _ _ _ _ _ ha, e1, w1_a _ _ _ _ _ _ ha]
        refine hq τ3 ⟨⟨?_, ?_, ?_, ?_, ?_, ?_⟩, fun e he => ?_⟩ ?_
        · rw [e3, w1_k _ _ _ _ _ _ (by omega), e2, w1_k _ _ _ _ _ _ (by omega), e1, w1_s, ← hin]; rfl
        · rw [e3, w1_k _ _ _ _ _ _ (by omega), e2, w1_s]; exact nI_0.symm
        · rw [e3, w1_k _ _ _ _ _ _ (by omega), e2, w1_k _ _ _ _ _ _ (by omega), e1, w1_k _ _ _ _ _ _ (by omega), ho, hF.1.2.2.1]; rfl
        · rw [e3, w1_s, e2, w1_k _ _ _ _ _ _ (by omega), e1, w1_k _ _ _ _ _ _ (by omega), ho, hF.1.2.2.2.1]; rfl
        · rw [e3, w1_k _ _ _ _ _ _ (by omega), e2, w1_k _ _ _ _ _ _ (by omega), e1, w1_k _ _ _ _ _ _ (by omega), ho, hF.1.2.2.2.2.1]; rfl
        · rw [e3, w1_k _ _ _ _ _ _ (by omega), e2, w1_k _ _ _ _ _ _ (by omega), e1, w1_k _ _ _ _ _ _ (by omega), ho, hF.1.2.2.2.2.2]; rfl
        · have he2 : e < cnt (thr F) i := by rw [← hin]; exact he
          obtain ⟨a1, a2, a3, a4, a5⟩ := hlo e he2
          rw [q1 _ _ (by omega), q1 _ _ (by omega), q1 _ _ (by omega), q1 _ _ (by omega), q1 _ _ (by omega)]
          exact ⟨a1, a2, a3, a4, by rw [a5]; exact nI_0.symm⟩
        · rw [e3, e2, e1]
          exact ((hsm.w1 ⟨by omega, by omega⟩).w1 ⟨by omega, by omega⟩).w1 ⟨by omega, by omega⟩
      · rw [ho, hF.1.1, hin] at hc
        exact absurd (nI_le (Nat.le_refl i) (by omega)) hc
    | succ m ih =>
      intro i τ hi hsm ho hlo hhi
      have hlt : i < fn F := by omega
      have hc1 := cnt_le (thr F) i
      have hb := inN hlt hn (by decide)
      have hb2 : vp_in (nI (cnt (thr F) i)) 121 := inN (show cnt (thr F) i < fn F by omega) hn (by decide)
      have hcl : (nI i).toNatClampNeg = i := nI_clamp (by omega)
      have hcl2 : (nI (cnt (thr F) i)).toNatClampNeg = cnt (thr F) i := nI_clamp (by omega)
      obtain ⟨a1, a2, a3, a4, a5⟩ := hF.2 i hlt
      obtain ⟨b1, b2, b3, b4, b5⟩ := hhi i hc1
      refine vX0_layAnew_4 hf ⟨fun hc => ?_, fun _ => ⟨hb, fun h1 => ?_, fun h1 => ⟨hb, hb2, fun τ4 e4 => ⟨hb, hb2, fun τ5 e5 => ⟨hb, hb2, fun τ6 e6 => ⟨hb, hb2, fun τ7 e7 => ⟨hb2, fun τ8 e8 => ?_⟩⟩⟩⟩⟩⟩⟩
      · rw [ho, hF.1.1] at hc
        exact absurd hc (nI_ge hlt (by omega))
      · rw [hcl, b5, a5, nI_z (hg i hlt)] at h1
        have hp : thr F i = false := by simp [thr, h1]
        have hci : cnt (thr F) (i + 1) = cnt (thr F) i := by simp [cnt, hp]
        have := ih (i + 1) τ (by omega) hsm ho (by rw [hci]; exact hlo) (by rw [hci]; exact hhi)
        rw [hci] at this
        rw [nI_1]
        exact this
      · rw [hcl, b5, a5, nI_z (hg i hlt)] at h1
        have hp : thr F i = true := by simp [thr, h1]
        have hci : cnt (thr F) (i + 1) = cnt (thr F) i + 1 := by simp [cnt, hp]
        have hgi := pik_get (thr F) hlt hp
        rw [hcl, hcl2] at e4 e5 e6 e7
        rw [hcl2] at e8
        have := ih (i + 1) τ8 (by omega) (by rw [e8, e7, e6, e5, e4]; exact ((((hsm.w1 ⟨by omega, by omega⟩).w1 ⟨by omega, by omega⟩).w1 ⟨by omega, by omega⟩).w1 ⟨by omega, by omega⟩).w1 ⟨by omega, by omega⟩)
          (fun k => by rw [e8, w1_a _ _ _ _ _ _ (by omega), e7, w1_a _ _ _ _ _ _ (by omega), e6, w1_a _ _ _ _ _ _ (by omega), e5, w1_a _ _ _ _ _ _ (by omega), e4, w1_a _ _ _ _ _ _ (by omega), ho])
          (fun j hj => by
            rw [hci] at hj
            by_cases hjk : j = cnt (thr F) i
            · subst hjk
              rw [hgi]
              subst e4 e5 e6 e7 e8
              simp [w1, b1, b2, b3, b4, a1, a2, a3, a4]
            · obtain ⟨c1, c2, c3, c4, c5⟩ := hlo j (by omega)
              subst e4 e5 e6 e7 e8
              simp [w1, hjk, c1, c2, c3, c4, c5])
          (fun j hj => by
            rw [hci] at hj
            have hjk : j ≠ cnt (thr F) i := by omega
            obtain ⟨c1, c2, c3, c4, c5⟩ := hhi j (by omega)
            subst e4 e5 e6 e7 e8
            simp [w1, hjk, c1, c2, c3, c4, c5])
        rw [hci] at this
        rw [nI_1, nI_1]
        exact this
  have := key (fn F) 0 σ (by omega) Sm.rf (fun _ => rfl) (fun j hj => absurd hj (Nat.not_lt_zero j)) (fun j _ => ⟨rfl, rfl, rfl, rfl, rfl⟩)
  simp only [cnt, nI_0] at this
  exact this
theorem c_goAway (hf : OKF f) (hw : WF F) (hF : CF σ f F) {e : Nat} (he : e < fn F) (ht : thr F e = true) (hq : ∀ τ, CF τ f (goF F e) → Sm (SF f) σ τ → Q (some (.int (fw F e))) τ) : X none (d + 2) mX0_goAway 0 [.ref f, .int (nI e), Unk] [] σ Q := by
  have hn := hw.n120
  have hg60 := hw.g60
  have hgn := hw.1.2.1
  have hcnt := hw.2.1
  have hpos : 0 < cnt (thr F) (fn F) := by have := cnt_lt_of (p := thr F) he ht; omega
  obtain ⟨⟨h5, h6, h7, h8, h9, h10⟩, hr⟩ := hF
  obtain ⟨a1, a2, a3, a4, a5⟩ := hr e he
  have hb := inN he (show fn F ≤ 121 by omega) (by decide)
  have hcl : (nI e).toNatClampNeg = e := nI_clamp (by omega)
  refine vX0_goAway_0 hf ⟨fun hc => absurd hc (nI_pos (by omega)), fun _ => ⟨fun _ => ⟨hb, fun τ1 e1 => ⟨hb, fun τ2 e2 τ3 e3 => ?_⟩⟩, fun hc => absurd (by rw [h5]; exact nI_lt he (by omega)) hc⟩⟩
  rw [h6, nI_1] at e1
  have r1 : τ1.1 f 6 = nI (fg F + 1) := by rw [e1, w1_s]
  rw [r1, hcl] at e2
  have r26 : τ2.1 f 6 = nI (fg F + 1) := by rw [e2, w1_a _ _ _ _ _ _ (by omega), r1]
  have r27 : τ2.1 f 7 = fcar F := by rw [e2, w1_a _ _ _ _ _ _ (by omega), e1, w1_k _ _ _ _ _ _ (by omega), h7]
  rw [r26, r27] at e3
  have r36 : τ3.1 f 6 = nI (fg F + 1) := by rw [e3, w1_k _ _ _ _ _ _ (by omega), r26]
  have r35 : τ3.1 f 5 = nI (fn F) := by rw [e3, w1_k _ _ _ _ _ _ (by omega), e2, w1_a _ _ _ _ _ _ (by omega), e1, w1_k _ _ _ _ _ _ (by omega), h5]
  have ok : ∀ k, k ≠ 5 → k ≠ 6 → k ≠ 7 → τ3.1 f k = σ.1 f k := fun k k5 k6 k7 => by rw [e3, w1_k _ _ _ _ _ _ k7, e2, w1_a _ _ _ _ _ _ (by omega), e1, w1_k _ _ _ _ _ _ k6]
  have hsm : Sm (SF f) σ τ3 := by
    rw [e3, e2, e1]
    exact ((Sm.rf.w1 ⟨by omega, by omega⟩).w1 ⟨by omega, by omega⟩).w1 ⟨by omega, by omega⟩
  have hG : CF τ3 f (goneF F e) := by
    refine ⟨⟨r35, r36, ?_, ?_, ?_, ?_⟩, fun j hj => ?_⟩
    · rw [e3, w1_s]; rfl
    · rw [ok 8 (by omega) (by omega) (by omega), h8]; rfl
    · rw [ok 9 (by omega) (by omega) (by omega), h9]; rfl
    · rw [ok 10 (by omega) (by omega) (by omega), h10]; rfl
    · obtain ⟨c1, c2, c3, c4, c5⟩ := hr j hj
      show τ3.1 (f + 1) j = nI (fnum F j) ∧ τ3.1 (f + 2) j = fx F j ∧ τ3.1 (f + 3) j = fy F j ∧ τ3.1 (f + 4) j = fw F j ∧ τ3.1 (f + 5) j = nI (upN (fgo F) e (fg F + 1) j)
      by_cases hje : j = e
      · subst hje
        subst e1 e2 e3
        simp [w1, upN, c1, c2, c3, c4]
      · subst e1 e2 e3
        simp [w1, upN, hje, c1, c2, c3, c4, c5]
  have hcond : (τ3.1 f 6 ≤ τ3.1 f 5 - τ3.1 f 6) ↔ ¬ fn F < 2 * (fg F + 1) := by
    rw [r36, r35, pk_sub (by omega), nI_leI (by omega) (by omega)]
    omega
  refine ⟨fun hc => ?_, fun hc => ?_⟩
  · have h1 := hcond.mp hc
    have h2 : goF F e = goneF F e := by rw [goF, if_neg h1]
    rw [hcl, a4]
    exact hq τ3 (by rw [h2]; exact hG) hsm
  · have h1 : fn F < 2 * (fg F + 1) := by
      rcases Nat.lt_or_ge (fn F) (2 * (fg F + 1)) with q | q
      · exact q
      · exact absurd (hcond.mpr (by omega)) hc
    have h2 : goF F e = anewF (goneF F e) := by rw [goF, if_pos h1]
    refine c_layAnew hf (F := goneF F e) (show fn F ≤ 121 by omega) (fun j hj => ?_) hG (fun τ hA hs => ⟨rfl, ?_⟩)
    · have := (hw.2.2.1 j hj).2.2.2.2
      show upN (fgo F) e (fg F + 1) j < _
      unfold upN
      split <;> omega
    · rw [hcl, a4]
      exact hq τ (by rw [h2]; exact hA) (hsm.tr hs)
theorem wc_lo {σ : Mem} {a b n k : Nat} (h : k < n) : (wc σ a b 0 0 n).1 b k = σ.1 a k := by simp [wc, h]
theorem wc_a (σ : Mem) (a b sp dp n i j : Nat) (h : i ≠ b) : (wc σ a b sp dp n).1 i j = σ.1 i j := by simp [wc, h]
theorem c_copyFrom (hf : OKF f) (hg : OKF g) (hfg : g + 5 < f ∨ f + 5 < g) (hn : fn G ≤ 121) (hG : CF σ g G) (hq : ∀ τ, CF τ f G → Sm (SF f) σ τ → Q none τ) : X none (d + 1) mX0_copyFrom 0 [.ref f, .ref g, Unk] [] σ Q := by
  obtain ⟨⟨h5, h6, h7, h8, h9, h10⟩, hr⟩ := hG
  have hcl : (nI (fn G)).toNatClampNeg = fn G := nI_clamp (by omega)
  have hz : (0 : Int32).toNatClampNeg = 0 := by decide
  refine vX0_copyFrom_0 hf hg ?_
  rw [h5, hcl, hz, Nat.zero_add]
  have hneg : ¬ nI (fn G) < 0 := nI_pos (by omega)
  refine ⟨hneg, hn, hn, fun τ1 e1 => ⟨hneg, hn, hn, fun τ2 e2 => ⟨hneg, hn, hn, fun τ3 e3 => ⟨hneg, hn, hn, fun τ4 e4 => ⟨hneg, hn, hn, fun τ5 e5 τ6 e6 τ7 e7 τ8 e8 τ9 e9 τ10 e10 τ11 e11 => ?_⟩⟩⟩⟩⟩
  have o5 : ∀ i k, (i < f + 1 ∨ f + 5 < i) → τ5.1 i k = σ.1 i k := fun i k hi => by
    rw [e5, wc_a _ _ _ _ _ _ _ _ (by omega), e4, wc_a _ _ _ _ _ _ _ _ (by omega), e3, wc_a _ _ _ _ _ _ _ _ (by omega), e2, wc_a _ _ _ _ _ _ _ _ (by omega), e1, wc_a _ _ _ _ _ _ _ _ (by omega)]
  have og : ∀ k, τ5.1 g k = σ.1 g k := fun k => o5 g k (by omega)
  have hgf : g ≠ f := by omega
  have s6 : ∀ k, τ6.1 g k = σ.1 g k := fun k => by rw [e6, w1_a _ _ _ _ _ _ hgf, og]
  have s7 : ∀ k, τ7.1 g k = σ.1 g k := fun k => by rw [e7, w1_a _ _ _ _ _ _ hgf, s6]
  have s8 : ∀ k, τ8.1 g k = σ.1 g k := fun k => by rw [e8, w1_a _ _ _ _ _ _ hgf, s7]
  have s9 : ∀ k, τ9.1 g k = σ.1 g k := fun k => by rw [e9, w1_a _ _ _ _ _ _ hgf, s8]
  have s10 : ∀ k, τ10.1 g k = σ.1 g k := fun k => by rw [e10, w1_a _ _ _ _ _ _ hgf, s9]
  rw [s6, h6] at e7
  rw [s7, h7] at e8
  rw [s8, h8] at e9
  rw [s9, h9] at e10
  rw [s10, h10] at e11
  have o11 : ∀ i k, i ≠ f → τ11.1 i k = τ5.1 i k := fun i k hi => by
    rw [e11, w1_a _ _ _ _ _ _ hi, e10, w1_a _ _ _ _ _ _ hi, e9, w1_a _ _ _ _ _ _ hi, e8, w1_a _ _ _ _ _ _ hi, e7, w1_a _ _ _ _ _ _ hi, e6, w1_a _ _ _ _ _ _ hi]
  refine hq τ11 ⟨⟨?_, ?_, ?_, ?_, ?_, ?_⟩, fun e he => ?_⟩ ?_
  · rw [e11, w1_k _ _ _ _ _ _ (by omega), e10, w1_k _ _ _ _ _ _ (by omega), e9, w1_k _ _ _ _ _ _ (by omega), e8, w1_k _ _ _ _ _ _ (by omega), e7, w1_k _ _ _ _ _ _ (by omega), e6, w1_s]
  · rw [e11, w1_k _ _ _ _ _ _ (by omega), e10, w1_k _ _ _ _ _ _ (by omega), e9, w1_k _ _ _ _ _ _ (by omega), e8, w1_k _ _ _ _ _ _ (by omega), e7, w1_s]
  · rw [e11, w1_k _ _ _ _ _ _ (by omega), e10, w1_k _ _ _ _ _ _ (by omega), e9, w1_k _ _ _ _ _ _ (by omega), e8, w1_s]
  · rw [e11, w1_k _ _ _ _ _ _ (by omega), e10, w1_k _ _ _ _ _ _ (by omega), e9, w1_s]
  · rw [e11, w1_k _ _ _ _ _ _ (by omega), e10, w1_s]
  · rw [e11, w1_s]
  · obtain ⟨a1, a2, a3, a4, a5⟩ := hr e he
    rw [o11 _ _ (by omega), o11 _ _ (by omega), o11 _ _ (by omega), o11 _ _ (by omega), o11 _ _ (by omega)]
    refine ⟨?_, ?_, ?_, ?_, ?_⟩
    · rw [e5, wc_a _ _ _ _ _ _ _ _ (by omega), e4, wc_a _ _ _ _ _ _ _ _ (by omega), e3, wc_a _ _ _ _ _ _ _ _ (by omega), e2, wc_a _ _ _ _ _ _ _ _ (by omega), e1, wc_lo he, a1]
    · rw [e5, wc_a _ _ _ _ _ _ _ _ (by omega), e4, wc_a _ _ _ _ _ _ _ _ (by omega), e3, wc_a _ _ _ _ _ _ _ _ (by omega), e2, wc_lo he, e1, wc_a _ _ _ _ _ _ _ _ (by omega), a2]
    · rw [e5, wc_a _ _ _ _ _ _ _ _ (by omega), e4, wc_a _ _ _ _ _ _ _ _ (by omega), e3, wc_lo he, e2, wc_a _ _ _ _ _ _ _ _ (by omega), e1, wc_a _ _ _ _ _ _ _ _ (by omega), a3]
    · rw [e5, wc_a _ _ _ _ _ _ _ _ (by omega), e4, wc_lo he, e3, wc_a _ _ _ _ _ _ _ _ (by omega), e2, wc_a _ _ _ _ _ _ _ _ (by omega), e1, wc_a _ _ _ _ _ _ _ _ (by omega), a4]
    · rw [e5, wc_lo he, e4, wc_a _ _ _ _ _ _ _ _ (by omega), e3, wc_a _ _ _ _ _ _ _ _ (by omega), e2, wc_a _ _ _ _ _ _ _ _ (by omega), e1, wc_a _ _ _ _ _ _ _ _ (by omega), a5]
  · rw [e11, e10, e9, e8, e7, e6, e5, e4, e3, e2, e1]
    exact ((((((((((Sm.rf.wc (fun _ => ⟨by omega, by omega⟩)).wc (fun _ => ⟨by omega, by omega⟩)).wc (fun _ => ⟨by omega, by omega⟩)).wc (fun _ => ⟨by omega, by omega⟩)).wc (fun _ => ⟨by omega, by omega⟩)).w1 ⟨by omega, by omega⟩).w1 ⟨by omega, by omega⟩).w1 ⟨by omega, by omega⟩).w1 ⟨by omega, by omega⟩).w1 ⟨by omega, by omega⟩).w1 ⟨by omega, by omega⟩
end FIELD2
theorem WF.come {F : Fl} (h : WF F) (hr : fn F < fg F + 60) (hx : fnx F < 10000) {x y w : Int32} (cx : -500 ≤ x ∧ x ≤ 500) (cy : -500 ≤ y ∧ y ≤ 500) (cw : 1 ≤ w ∧ w ≤ 100) : WF (comeF F x y w) := by
  obtain ⟨⟨h1, h2, h3, h4, h5⟩, h6, h7, h8, h9⟩ := h
  have et : ∀ e, e < fn F → thr (comeF F x y w) e = thr F e := fun e he => by
    show decide (upN (fgo F) (fn F) 0 e = 0) = _
    rw [upN, if_neg (by omega)]; rfl
  refine ⟨⟨?_, ?_, ?_, h4, h5⟩, ?_, fun e he => ?_, fun i j hij hj => ?_, fun i j hi hj hij h0 => ?_⟩
  · show fn F + 1 ≤ fg F + 60; omega
  · show 2 * fg F ≤ fn F + 1; omega
  · show fnx F + 1 ≤ 10000; omega
  · show cnt (thr (comeF F x y w)) (fn F + 1) + fg F = fn F + 1
    have e0 : thr (comeF F x y w) (fn F) = true := by
      show decide (upN (fgo F) (fn F) 0 (fn F) = 0) = true
      simp [upN]
    simp only [cnt, e0, if_true]
    rw [cnt_congr et]
    omega
  · have he2 : e < fn F + 1 := he
    show upN (fnum F) (fn F) (fnx F) e < fnx F + 1 ∧ (-500 ≤ upN (fx F) (fn F) x e ∧ upN (fx F) (fn F) x e ≤ 500) ∧ (-500 ≤ upN (fy F) (fn F) y e ∧ upN (fy F) (fn F) y e ≤ 500) ∧ (1 ≤ upN (fw F) (fn F) w e ∧ upN (fw F) (fn F) w e ≤ 100) ∧ upN (fgo F) (fn F) 0 e ≤ fg F
    by_cases hk : e = fn F
    · simp only [upN, if_pos hk]
      exact ⟨by omega, cx, cy, cw, Nat.zero_le _⟩
    · simp only [upN, if_neg hk]
      obtain ⟨q1, q2⟩ := h7 e (by omega)
      exact ⟨by omega, q2⟩
  · have hj2 : j < fn F + 1 := hj
    show upN (fnum F) (fn F) (fnx F) i < upN (fnum F) (fn F) (fnx F) j
    unfold upN
    rw [if_neg (show i ≠ fn F by omega)]
    by_cases hk : j = fn F
    · rw [if_pos hk]
      exact (h7 i (by omega)).1
    · rw [if_neg hk]
      exact h8 i j hij (by omega)
  · have hi2 : i < fn F + 1 := hi
    have hj2 : j < fn F + 1 := hj
    change upN (fgo F) (fn F) 0 i = upN (fgo F) (fn F) 0 j at hij
    change upN (fgo F) (fn F) 0 i ≠ 0 at h0
    unfold upN at hij h0
    by_cases hk : i = fn F
    · rw [if_pos hk] at h0
      exact absurd rfl h0
    · rw [if_neg hk] at hij h0
      by_cases hk2 : j = fn F
      · rw [if_pos hk2] at hij
        exact absurd hij h0
      · rw [if_neg hk2] at hij
        exact h9 i j (by omega) (by omega) hij h0
theorem WF.go {F : Fl} (h : WF F) {e : Nat} (he : e < fn F) (ht : thr F e = true) : WF (goF F e) := by
  obtain ⟨⟨h1, h2, h3, h4, h5⟩, h6, h7, h8, h9⟩ := h
  have hd : cnt (thr (goneF F e)) (fn F) + 1 = cnt (thr F) (fn F) := cnt_drop ht (by show decide (upN (fgo F) e (fg F + 1) e = 0) = false; simp [upN]) (fun j hj => by show decide (upN (fgo F) e (fg F + 1) j = 0) = _; rw [upN, if_neg hj]; rfl) he
  unfold goF
  split
  · rename_i hlt
    have hlen : (pik (thr (goneF F e)) (fn F)).length = cnt (thr (goneF F e)) (fn F) := pik_len _ _
    refine ⟨⟨?_, ?_, h3, h4, h5⟩, ?_, fun j hj => ?_, fun i j hij hj => ?_, fun i j _ _ _ h0 => absurd rfl h0⟩
    · show cnt (thr (goneF F e)) (fn F) ≤ 0 + 60; omega
    · show 2 * 0 ≤ _; omega
    · show cnt (thr (anewF (goneF F e))) (cnt (thr (goneF F e)) (fn F)) + 0 = cnt (thr (goneF F e)) (fn F)
      rw [cnt_all (p := thr (anewF (goneF F e))) (fun _ _ => rfl)]; rfl
    · have hj2 : j < (pik (thr (goneF F e)) (fn F)).length := by rw [hlen]; exact hj
      obtain ⟨q1, q2, q3, q4, q5⟩ := h7 _ (pik_lt _ hj2).1
      exact ⟨q1, q2, q3, q4, Nat.zero_le _⟩
    · have hj2 : j < (pik (thr (goneF F e)) (fn F)).length := by rw [hlen]; exact hj
      exact h8 _ _ (pik_sorted _ hij hj2) (pik_lt _ hj2).1
  · rename_i hlt
    refine ⟨⟨?_, ?_, h3, h4, h5⟩, ?_, fun j hj => ?_, h8, fun i j hi hj hij h0 => ?_⟩
    · show fn F ≤ fg F + 1 + 60; omega
    · show 2 * (fg F + 1) ≤ fn F; omega
    · show cnt (thr (goneF F e)) (fn F) + (fg F + 1) = fn F; omega
    · obtain ⟨q1, q2, q3, q4, q5⟩ := h7 j hj
      refine ⟨q1, q2, q3, q4, ?_⟩
      show upN (fgo F) e (fg F + 1) j ≤ fg F + 1
      unfold upN
      split <;> omega
    · change upN (fgo F) e (fg F + 1) i = upN (fgo F) e (fg F + 1) j at hij
      change upN (fgo F) e (fg F + 1) i ≠ 0 at h0
      have b1 := (h7 i hi).2.2.2.2
      have b2 := (h7 j hj).2.2.2.2
      unfold upN at hij h0
      by_cases k1 : i = e
      · by_cases k2 : j = e
        · omega
        · rw [if_pos k1, if_neg k2] at hij; omega
      · rw [if_neg k1] at hij h0
        by_cases k2 : j = e
        · rw [if_pos k2] at hij; omega
        · rw [if_neg k2] at hij
          exact h9 i j hi hj hij h0
