/-! The model: strip, pairs, stair, layers, type, clear. -/
theorem pik_countP (p q : Nat → Bool) : ∀ n, (pik p n).countP q = cnt (fun e => p e && q e) n
  | 0 => rfl
  | n + 1 => by
    have ih := pik_countP p q n
    simp only [pik, cnt]
    by_cases hp : p n = true
    · rw [if_pos hp, List.countP_append, ih]
      simp [List.countP_cons, hp]
    · rw [if_neg hp, ih]
      simp [hp]
def sumN (f : Nat → Nat) : Nat → Nat
  | 0 => 0
  | n + 1 => sumN f n + f n
theorem sumN_pik (p : Nat → Bool) (f : Nat → Nat) : ∀ n, ((pik p n).map f).sum = sumN (fun e => if p e = true then f e else 0) n
  | 0 => rfl
  | n + 1 => by
    have ih := sumN_pik p f n
    simp only [pik, sumN]
    split
    · rw [List.map_append, List.sum_append, ih]; simp
    · rw [ih]; rfl
theorem prL2_eq (F : Fl) : prL2 F (thL F) = sumN (fun i => if thr F i = true then cnt (fun j => thr F j && lssB F i j) (fn F) else 0) (fn F) := by
  unfold prL2 thL
  rw [sumN_pik]
  congr 1
  funext i
  rw [pik_countP]
theorem pik_any (p q : Nat → Bool) (n : Nat) : (pik p n).any q = decide (∃ e, e < n ∧ p e = true ∧ q e = true) := by
  by_cases h : ∃ e, e < n ∧ p e = true ∧ q e = true
  · rw [decide_eq_true h]
    obtain ⟨e, h1, h2, h3⟩ := h
    exact List.any_eq_true.mpr ⟨e, (pik_mem p n).mpr ⟨h1, h2⟩, h3⟩
  · rw [decide_eq_false h]
    cases hb : (pik p n).any q with
    | false => rfl
    | true =>
      obtain ⟨e, h1, h2⟩ := List.any_eq_true.mp hb
      have := (pik_mem p n).mp h1
      exact absurd ⟨e, this.1, this.2, h2⟩ h
theorem pik_filter (p q : Nat → Bool) : ∀ n, (pik p n).filter q = pik (fun e => p e && q e) n
  | 0 => rfl
  | n + 1 => by
    have ih := pik_filter p q n
    simp only [pik]
    by_cases hp : p n = true
    · rw [if_pos hp, List.filter_append, ih]
      by_cases hq : q n = true
      · simp [hp, hq]
      · simp [hp, hq]
    · rw [if_neg hp, ih]
      simp [hp]
section M5
variable {d : Nat} {σ : Mem} {Q : Option Value → Mem → Prop} {F : Fl} {S : Ab} {VA : Ar → Prop}
theorem q_strip (hva : ∀ A, VA A → WA A) (hC : MD σ S) (hw : WS VA S) {what : Int32} (h : OutM σ Q (o_strip S what)) : X none (d + 3) mX8_strip 0 [.ref 94, .int what, Unk, Unk, Unk, Unk] [] σ Q := by
  have hZ := MZ_iff.mp hC.1
  have hwf := hw.1
  have hn := hwf.n120
  refine vX8_strip_0 ⟨fun c => ?_, fun c => OutM.bad hva hw h hC (by rw [o_strip, if_neg c])⟩
  rw [o_strip, if_pos c] at h
  refine m_lines hwf hZ (fun τ2 hp hs => ⟨rfl, ?_⟩)
  have hh := MD.ln hva hw hC hs
  have hZ2 := MZ_iff.mp hh.1.1
  have hQ := h τ2 hh.1 hh.2
  have hl0 : (thL (bF S)).length ≤ 60 := by rw [thL, pik_len]; exact hwf.c60
  rw [srX, pkX_all hwf] at hp
  have hlen : (srt (befB (bF S)) (thL (bF S))).length = (thL (bF S)).length := srt_len _ _
  generalize hsl : srt (befB (bF S)) (thL (bF S)) = l at hlen hp
  have hm : ∀ e ∈ l, e < fn (bF S) := fun e he => by rw [← hsl] at he; exact pikm e ((srt_mem _ _ _).mp he)
  have hQ2 : Q (some (.int (stripV (stp (bF S) l (thL (bF S)).length) what))) τ2 := by rw [← hsl]; exact hQ
  have fin : ∀ (s : Int32 × Int32), s = stp (bF S) l (thL (bF S)).length → ((¬ s.1 = 0 → ((¬ what = 0 → Q (some (.int s.2)) τ2) ∧ (what = 0 → Q (some (.int s.1)) τ2))) ∧ (s.1 = 0 → Q (some (.int (-2000000001))) τ2)) := fun s es => by
    rw [← es] at hQ2
    refine ⟨fun c2 => ⟨fun c3 => Qe hQ2 ?_, fun c3 => Qe hQ2 ?_⟩, fun c2 => Qe hQ2 ?_⟩
    · rw [stripV, if_neg c2, if_neg c3]
    · rw [stripV, if_neg c2, if_pos c3]
    · rw [stripV, if_pos c2]
  have key : ∀ m k, 1 ≤ k → l.length ≤ k + m → k ≤ l.length ∨ k = 1 → X none (d + 3) mX8_strip 38 [.ref 94, .int what, .int (stp (bF S) l k).1, .int (stp (bF S) l k).2, .int (nI k), Unk] [] τ2 Q := by
    intro m
    induction m with
    | zero =>
      intro k h1 hk hk2
      refine vX8_strip_38 ⟨fun _ => fin _ ?_, fun c => absurd (by rw [hp.1]; exact nI_le (by omega) (by omega)) c⟩
      rcases hk2 with q | q
      · rw [show k = (thL (bF S)).length by omega]
      · subst q
        rcases (show (thL (bF S)).length = 0 ∨ (thL (bF S)).length = 1 by omega) with q | q <;> rw [q] <;> rfl
    | succ m ih =>
      intro k h1 hk hk2
      by_cases hlt : k < l.length
      · obtain ⟨j, rfl⟩ : ∃ j, k = j + 1 := ⟨k - 1, by omega⟩
        have he := hm _ (getD_mem hlt)
        have he2 := hm _ (getD_mem (show j < l.length by omega))
        have hi := ih (j + 2) (by omega) (by omega) (Or.inl (by omega))
        refine vX8_strip_38 ⟨fun c => absurd c (by rw [hp.1]; exact nI_ge hlt (by omega)), fun _ => ?_⟩
        rw [nI_pred, nI_clamp (n := j) (by omega), nI_clamp (n := j + 1) (by omega), hp.2 j (by omega), hp.2 (j + 1) hlt, k128, k128, nI_clamp (n := 128 + l.getD j 0) (by omega), nI_clamp (n := 128 + l.getD (j + 1) 0) (by omega), (hZ2.2.1 _ he).2.1, (hZ2.2.1 _ he2).2.1, nI_1]
        simp only [stp] at hi
        have v : ∀ z, z < 7458 → vp_in (nI z) 7458 := fun z hz => vin hz (by decide)
        have w : ∀ z, z < 60 → vp_in (nI z) 60 := fun z hz => vin hz (by decide)
        refine ⟨w _ (by omega), v _ (by omega), w _ (by omega), v _ (by omega), fun c => ⟨fun c2 => ?_, fun c2 => absurd c c2⟩, fun c => ⟨w _ (by omega), v _ (by omega), fun c2 => absurd c2 c, fun c2 => ?_⟩⟩
        · rw [if_neg (Int32.not_lt.mpr c)] at hi
          exact hi
        · rw [if_pos (Int32.not_le.mp c)] at hi
          exact hi
      · refine vX8_strip_38 ⟨fun _ => fin _ ?_, fun c => absurd (by rw [hp.1]; exact nI_le (by omega) (by omega)) c⟩
        rcases hk2 with q | q
        · rw [show k = (thL (bF S)).length by omega]
        · subst q
          rcases (show (thL (bF S)).length = 0 ∨ (thL (bF S)).length = 1 by omega) with q | q <;> rw [q] <;> rfl
  exact key l.length 1 (Nat.le_refl _) (by omega) (Or.inr rfl)
theorem q_pairs (hC : MD σ S) (hw : WS VA S) (h : OutM σ Q (o_pairs S)) : X none (d + 1) mX8_pairs 0 [.ref 94, Unk, Unk, Unk] [] σ Q := by
  have hZ := MZ_iff.mp hC.1
  have hn := hw.1.n120
  have hQ : Q (some (.int (nI (prL2 (bF S) (thL (bF S)))))) σ := h σ hC Sm.rf
  rw [prL2_eq] at hQ
  refine vX8_pairs_0 ?_
  have v : ∀ z, z < 7458 → vp_in (nI z) 7458 := fun z hz => vin hz (by decide)
  have inner : ∀ i, i < fn (bF S) → ∀ m j (acc : Nat), fn (bF S) = j + m → (X none (d + 1) mX8_pairs 4 [.ref 94, .int (nI (acc + (if thr (bF S) i = true then cnt (fun j => thr (bF S) j && lssB (bF S) i j) (fn (bF S)) else 0))), .int (nI i + 1), Unk] [] σ Q) → X none (d + 1) mX8_pairs 16 [.ref 94, .int (nI (acc + (if thr (bF S) i = true then cnt (fun j => thr (bF S) j && lssB (bF S) i j) j else 0))), .int (nI i), .int (nI j)] [] σ Q := by
    intro i hi m
    induction m with
    | zero =>
      intro j acc hj kk
      refine vX8_pairs_16 ⟨fun _ => ?_, fun c => absurd (by rw [hZ.1.1]; exact nI_le (by omega) (by omega)) c⟩
      rw [show fn (bF S) = j by omega] at kk
      exact kk
    | succ m ih =>
      intro j acc hj kk
      have hlt : j < fn (bF S) := by omega
      obtain ⟨a1, a2, a3, a4, a5⟩ := hZ.2.1 i hi
      obtain ⟨b1, b2, b3, b4, b5⟩ := hZ.2.1 j hlt
      have hn1 := ih (j + 1) acc (by omega) kk
      refine vX8_pairs_16 ?_
      rw [k494, k494, k128, k128, k250, k250, nI_clamp (n := 494 + i) (by omega), nI_clamp (n := 494 + j) (by omega), nI_clamp (n := 128 + i) (by omega), nI_clamp (n := 128 + j) (by omega), nI_clamp (n := 250 + i) (by omega), nI_clamp (n := 250 + j) (by omega), a2, a3, a5, b2, b3, b5, gz, gz, nI_1 j, Int32.add_zero]
      refine ⟨fun c => absurd c (by rw [hZ.1.1]; exact nI_ge hlt (by omega)), fun _ => ⟨v _ (by omega), fun c1 => ?_, fun c1 => ⟨v _ (by omega), fun c2 => ?_, fun c2 => ⟨v _ (by omega), v _ (by omega), fun c3 => ?_, fun c3 => ⟨v _ (by omega), v _ (by omega), fun c4 => ?_, fun c4 => ?_⟩⟩⟩⟩⟩
      · have ht : ¬ thr (bF S) i = true := by simp [thr, c1]
        rw [if_neg ht] at hn1 ⊢
        exact hn1
      · have ht : thr (bF S) i = true := by simp [thr, c1]
        rw [if_pos ht] at hn1 ⊢
        simp only [cnt] at hn1
        rw [if_neg (by simp [thr, c2])] at hn1
        exact hn1
      · have ht : thr (bF S) i = true := by simp [thr, c1]
        rw [if_pos ht] at hn1 ⊢
        simp only [cnt] at hn1
        rw [if_neg (by simp [lssB, Int32.not_lt.mpr c3])] at hn1
        exact hn1
      · have ht : thr (bF S) i = true := by simp [thr, c1]
        rw [if_pos ht] at hn1 ⊢
        simp only [cnt] at hn1
        rw [if_neg (by simp [lssB, Int32.not_lt.mpr c4])] at hn1
        exact hn1
      · have ht : thr (bF S) i = true := by simp [thr, c1]
        rw [if_pos ht] at hn1 ⊢
        simp only [cnt] at hn1
        rw [if_pos (by simp [lssB, thr, c2, Int32.not_le.mp c3, Int32.not_le.mp c4]), ← Nat.add_assoc] at hn1
        rw [nI_1]
        exact hn1
  have outer : ∀ m i, fn (bF S) = i + m → X none (d + 1) mX8_pairs 4 [.ref 94, .int (nI (sumN (fun i => if thr (bF S) i = true then cnt (fun j => thr (bF S) j && lssB (bF S) i j) (fn (bF S)) else 0) i)), .int (nI i), Unk] [] σ Q := by
    intro m
    induction m with
    | zero =>
      intro i hi
      refine vX8_pairs_4 ⟨fun _ => Qe hQ ?_, fun c => absurd (by rw [hZ.1.1]; exact nI_le (by omega) (by omega)) c⟩
      congr 1
      rw [show i = fn (bF S) by omega]
    | succ m ih =>
      intro i hi
      have hlt : i < fn (bF S) := by omega
      refine vX8_pairs_4 ⟨fun c => absurd c (by rw [hZ.1.1]; exact nI_ge hlt (by omega)), fun _ => ?_⟩
      have hnx := ih (i + 1) (by omega)
      simp only [sumN] at hnx
      have := inner i hlt (fn (bF S)) 0 (sumN (fun i => if thr (bF S) i = true then cnt (fun j => thr (bF S) j && lssB (bF S) i j) (fn (bF S)) else 0) i) (by omega) (by rw [nI_1]; exact hnx)
      simp only [cnt, ite_self, Nat.add_zero, nI_0] at this
      exact this
  have := outer (fn (bF S)) 0 (by omega)
  simp only [sumN, nI_0] at this
  exact this
theorem m_isStair (hn : fn F ≤ 121) (hM : MZ σ F) {i : Nat} (hi : i < fn F) (hq : Q (some (.int (if (thL F).any (topB F i) = true then 0 else 1))) σ) : X none (d + 1) mX8_isStair 0 [.ref 94, .int (nI i), Unk, Unk] [] σ Q := by
  refine vX8_isStair_0 ?_
  have v : ∀ z, z < 7458 → vp_in (nI z) 7458 := fun z hz => vin hz (by decide)
  obtain ⟨a1, a2, a3, a4, a5⟩ := hM.2.1 i hi
  have key : ∀ m j, fn F = j + m → (∀ k, k < j → (thr F k && topB F i k) = false) → X none (d + 1) mX8_isStair 2 [.ref 94, .int (nI i), .int (nI j), Unk] [] σ Q := by
    intro m
    induction m with
    | zero =>
      intro j hj h0
      refine vX8_isStair_2 ⟨fun _ => Qe hq ?_, fun c => absurd (by rw [hM.1.1]; exact nI_le (by omega) (by omega)) c⟩
      rw [thL, pik_any, if_neg]
      rw [decide_eq_true_eq]
      rintro ⟨k, h1, h2, h3⟩
      have := h0 k (by omega)
      rw [h2, h3] at this
      exact absurd this (by decide)
    | succ m ih =>
      intro j hj h0
      have hlt : j < fn F := by omega
      obtain ⟨b1, b2, b3, b4, b5⟩ := hM.2.1 j hlt
      have nx : (thr F j && topB F i j) = false → X none (d + 1) mX8_isStair 2 [.ref 94, .int (nI i), .int (nI (j + 1)), Unk] [] σ Q := fun hp => by
        refine ih (j + 1) (by omega) (fun k hk => ?_)
        by_cases hkj : k = j
        · rw [hkj]; exact hp
        · exact h0 k (by omega)
      have hit : thr F j = true → topB F i j = true → Q (some (.int 0)) σ := fun h1 h2 => Qe hq (by
        rw [thL, pik_any, if_pos (by rw [decide_eq_true_eq]; exact ⟨j, hlt, h1, h2⟩)])
      refine vX8_isStair_2 ?_
      rw [k494, k128, k128, k250, k250, nI_clamp (n := 494 + j) (by omega), nI_clamp (n := 128 + i) (by omega), nI_clamp (n := 128 + j) (by omega), nI_clamp (n := 250 + i) (by omega), nI_clamp (n := 250 + j) (by omega), a2, a3, b2, b3, b5, gz, nI_1]
      refine ⟨fun c => absurd c (by rw [hM.1.1]; exact nI_ge hlt (by omega)), fun _ => ⟨v _ (by omega), v _ (by omega), fun c => ⟨v _ (by omega), fun c1 => nx (by simp [thr, c1]), fun c1 => ⟨v _ (by omega), v _ (by omega), fun c2 => nx (by simp [topB, Int32.not_le.mpr c2]), fun c2 => ⟨v _ (by omega), v _ (by omega), fun c3 => nx (by simp [topB, Int32.not_le.mpr c3]), fun c3 => hit (by simp [thr, c1]) (by simp [topB, c, Int32.not_lt.mp c2, Int32.not_lt.mp c3])⟩⟩⟩, fun c => ⟨v _ (by omega), v _ (by omega), fun c0 => ⟨v _ (by omega), fun c1 => nx (by simp [thr, c1]), fun c1 => ⟨v _ (by omega), v _ (by omega), fun c2 => nx (by simp [topB, Int32.not_le.mpr c2]), fun c2 => ⟨v _ (by omega), v _ (by omega), fun c3 => nx (by simp [topB, Int32.not_le.mpr c3]), fun c3 => hit (by simp [thr, c1]) (by simp [topB, c, c0, Int32.not_lt.mp c3])⟩⟩⟩, fun c0 => ⟨v _ (by omega), ?_⟩⟩⟩⟩
      have hf : topB F i j = false := by simp [topB, c, c0]
      first
        | exact ⟨fun c1 => nx (by simp [hf]), fun c1 => nx (by simp [hf])⟩
        | exact nx (by simp [hf])
  rw [← nI_0]
  exact key (fn F) 0 (by omega) (fun k hk => absurd hk (Nat.not_lt_zero k))
theorem q_stair (hva : ∀ A, VA A → WA A) (hC : MD σ S) (hw : WS VA S) {k : Int32} (h : OutM σ Q (o_stair S k)) : X none (d + 2) mX8_stair 0 [.ref 94, .int k, Unk] [] σ Q := by
  have hZ := MZ_iff.mp hC.1
  have hwf := hw.1
  have hn := hwf.n120
  have hsl : stL (bF S) = pik (fun e => thr (bF S) e && !((thL (bF S)).any (topB (bF S) e))) (fn (bF S)) := by
    rw [stL, thL, pik_filter]
  have h60 : cnt (fun e => thr (bF S) e && !((thL (bF S)).any (topB (bF S) e))) (fn (bF S)) ≤ 60 := Nat.le_trans (cnt_imp (q := thr (bF S)) (fun e _ h => by simp at h; exact h.1)) hwf.c60
  refine vX8_stair_0 ⟨fun c => fun τ1 e1 => ?_, fun c => OutM.bad hva hw h hC (by rw [o_stair, if_neg c])⟩
  rw [o_stair, if_pos c] at h
  have key : ∀ m i (τ : Mem), fn (bF S) = i + m → Sm SL σ τ → LN τ (srt (befB (bF S)) (pik (fun e => thr (bF S) e && !((thL (bF S)).any (topB (bF S) e))) i)) → X none (d + 2) mX8_stair 17 [.ref 94, .int k, .int (nI i)] [] τ Q := by
    intro m
    induction m with
    | zero =>
      intro i τ hi hs hp
      have hh := MD.ln hva hw hC hs
      have hM' := MZ_iff.mp hh.1.1
      rw [show i = fn (bF S) by omega, ← hsl] at hp
      have hl : (srt (befB (bF S)) (stL (bF S))).length ≤ 60 := by rw [srt_len, hsl, pik_len]; exact h60
      refine vX8_stair_17 ⟨fun _ => ⟨fun c2 => ?_, fun c2 => ?_⟩, fun c => absurd (by rw [hM'.1.1]; exact nI_le (by omega) (by omega)) c⟩
      · rw [if_neg c2] at h
        have hk0 : 0 ≤ k := by
          have h1 := le_I.mp c
          have e1 : (-1 : Int32).toInt = -1 := by decide
          have h2 : k.toInt ≠ -1 := fun q => c2 (Int32.toInt_inj.mp (by rw [q, e1]))
          rw [le_I, z_I]
          omega
        exact m_kthL (by omega) hM' hl (fun e he => by have := (srt_mem _ _ _).mp he; rw [hsl] at this; exact pikm e this) hp hk0 (h τ hh.1 hh.2)
      · rw [if_pos c2] at h
        rw [hp.1, srt_len]
        exact h τ hh.1 hh.2
    | succ m ih =>
      intro i τ hi hs hp
      have hlt : i < fn (bF S) := by omega
      have hM' : MZ τ (bF S) := hZ.sm (fun k => (hs 95 k (by unfold SL; omega)).1)
      obtain ⟨a1, a2, a3, a4, a5⟩ := hM'.2.1 i hlt
      refine vX8_stair_17 ?_
      rw [k494, nI_clamp (n := 494 + i) (by omega), a5, gz, nI_1]
      refine ⟨fun c => absurd c (by rw [hM'.1.1]; exact nI_ge hlt (by omega)), fun _ => ⟨vin (by omega) (by decide), fun c1 => ?_, fun c1 => ?_⟩⟩
      · have hp1 : (thr (bF S) i && !((thL (bF S)).any (topB (bF S) i))) = false := by simp [thr, c1]
        exact ih (i + 1) τ (by omega) hs (by simp only [pik]; rw [if_neg (by rw [hp1]; decide)]; exact hp)
      · refine m_isStair (by omega) hM' hlt ⟨_, rfl, fun c2 => ?_, fun c2 => ?_⟩
        · have ht : (thL (bF S)).any (topB (bF S) i) = true := by
            cases hb : (thL (bF S)).any (topB (bF S) i) with
            | true => rfl
            | false => rw [hb] at c2; exact absurd c2 (by decide)
          have hp1 : (thr (bF S) i && !((thL (bF S)).any (topB (bF S) i))) = false := by rw [ht]; simp
          exact ih (i + 1) τ (by omega) hs (by simp only [pik]; rw [if_neg (by rw [hp1]; decide)]; exact hp)
        · have ht : (thL (bF S)).any (topB (bF S) i) = false := by
            cases hb : (thL (bF S)).any (topB (bF S) i) with
            | false => rfl
            | true => rw [hb] at c2; exact absurd rfl c2
          have hp1 : (thr (bF S) i && !((thL (bF S)).any (topB (bF S) i))) = true := by rw [ht]; simp [thr, c1]
          have hl := cnt_lt_of (p := fun e => thr (bF S) e && !((thL (bF S)).any (topB (bF S) e))) hlt hp1
          refine m_insert hwf hM' (by rw [srt_len, pik_len]; omega) (fun z hz => by have := pikm z ((srt_mem _ _ _).mp hz); omega) hlt hp (fun τ2 hp2 hs2 => ⟨rfl, ?_⟩)
          refine ih (i + 1) τ2 (by omega) (hs.tr hs2) ?_
          simp only [pik]
          rw [if_pos hp1, srt_snoc]
          exact hp2
  rw [← nI_0]
  exact key (fn (bF S)) 0 τ1 (by omega) (by rw [e1]; exact Sm.rf.w1 (Or.inr ⟨rfl, rfl⟩)) ⟨by rw [e1, w1_s]; rfl, HL.nil⟩
theorem i_of {x : Int32} {n : Int32} (m : Int) (hm : n.toInt = m) : x = n ↔ x.toInt = m := by rw [← Int32.toInt_inj, hm]
theorem rng {x lo hi : Int32} (a b : Int) (ha : lo.toInt = a) (hb : hi.toInt = b) : (lo ≤ x ∧ x ≤ hi) ↔ ¬ (x.toInt < a ∨ b < x.toInt) := by
  rw [le_I, le_I, ha, hb]
  omega
theorem q_layers (hva : ∀ A, VA A → WA A) (hC : MD σ S) (hw : WS VA S) {what : Int32} (h : OutM σ Q (o_layers S what)) : X none (d + 1) mX8_layers 0 [.ref 94, .int what] [] σ Q := by
  have hZ := MZ_iff.mp hC.1
  refine vX8_layers_0 ?_
  rw [rng 0 4 (by decide) (by decide), i_of (n := 0) 0 (by decide), i_of (n := 1) 1 (by decide), i_of (n := 2) 2 (by decide), i_of (n := 3) 3 (by decide), hZ.1.1, hZ.1.2.1, hZ.1.2.2.1, hZ.1.2.2.2.1, hC.2.2.2.2.2.2.1]
  refine ⟨fun c => OutM.bad hva hw h hC (by rw [o_layers, if_pos (Decidable.not_not.mp c)]), fun c => ?_⟩
  rw [o_layers, if_neg c] at h
  have hQ : Q (some (.int (layV S what))) σ := h σ hC Sm.rf
  refine ⟨fun c0 => ⟨fun c1 => ⟨fun c2 => ⟨fun c3 => Qe hQ ?_, fun c3 => Qe hQ ?_⟩, fun c2 => Qe hQ ?_⟩, fun c1 => Qe hQ ?_⟩, fun c0 => Qe hQ ?_⟩
  · simp [layV, c0, c1, c2, c3]
  · simp [layV, c3]
  · simp [layV, c2]
  · simp [layV, c1]
  · simp [layV, c0]
theorem MD.tx {τ : Mem} {T : Nat × (Nat → Int32)} (hva : ∀ A, VA A → WA A) (hw : WS VA S) (h : MD σ S) (hs : Sm (fun i k => i = 98 ∨ (i = 94 ∧ k = 6)) σ τ) (h1 : τ.1 94 6 = nI T.1) (h2 : ∀ k, k < T.1 → τ.1 98 k = T.2 k) : MD τ (setT S T) ∧ Sm SM94 σ τ := by
  obtain ⟨g1, g2, g3, g4, ⟨g5, g6⟩, ⟨g7, g8⟩, g9, g10, g11, g12⟩ := h
  have wa := hva _ hw.2.2.2.1
  have e1 : ∀ i k, i ≠ 98 → (i ≠ 94 ∨ k ≠ 6) → τ.1 i k = σ.1 i k := fun i k q1 q2 => (hs i k (by omega)).1
  refine ⟨⟨g1.sm hw.1 (fun k _ _ => e1 95 k (by omega) (by omega)), MH.sm hw.2.1.2 g2 (e1 94 2 (by omega) (by omega)) (fun k _ => e1 95 k (by omega) (by omega)), fun i hi => ⟨?_, fun hk => ⟨?_, ?_⟩⟩, g4.sm ⟨wa.1, wa.2.1⟩ (fun k _ _ => e1 96 k (by omega) (by omega)), ⟨h1, h2⟩, ⟨?_, ?_⟩, ?_, ?_, ?_, ?_⟩, hs.mono (fun i k q => by unfold SM94; omega)⟩
  · rw [e1 97 i (by omega) (by omega)]; exact (g3 i hi).1
  · exact ((g3 i hi).2 hk).1.sm (hw.2.2.1 i hi hk).1 (fun k _ _ => e1 95 k (by omega) (by omega))
  · have wi := hva _ (hw.2.2.1 i hi hk).2
    exact ((g3 i hi).2 hk).2.sm ⟨wi.1, wi.2.1⟩ (fun k _ _ => e1 96 k (by omega) (by omega))
  · rw [(hs 94 7 (by omega)).2]; exact g7
  · rw [(hs 94 8 (by omega)).2]; exact g8
  · rw [e1 94 3 (by omega) (by omega)]; exact g9
  · rw [e1 99 0 (by omega) (by omega)]; exact g10
  · rw [e1 99 1 (by omega) (by omega)]; exact g11
  · rw [e1 99 2 (by omega) (by omega)]; exact g12
theorem q_type (hva : ∀ A, VA A → WA A) (hC : MD σ S) (hw : WS VA S) {c : Int32} (h : OutM σ Q (o_type S c)) : X none (d + 1) mX8_type 0 [.ref 94, .int c] [] σ Q := by
  have ht := hw.2.2.2.2.1
  have h5 := hC.2.2.2.2.1.1
  have h6 := hC.2.2.2.2.1.2
  refine vX8_type_0 ?_
  rw [h5, show (120 : Int32) = nI 120 from rfl, nI_eq (by omega) (by decide)]
  refine ⟨fun c1 => ⟨fun c2 => ⟨vin (by omega) (by decide), fun τ2 e2 τ3 e3 => ?_⟩, fun c2 => OutM.full hva hw h hC (by rw [o_type, if_pos c1, if_neg (by omega)])⟩, fun c1 => OutM.bad hva hw h hC (by rw [o_type, if_neg c1])⟩
  rw [o_type, if_pos c1, if_pos (show (bT S).1 < 120 by omega)] at h
  rw [nI_clamp (by omega)] at e2
  have r2 : τ2.1 94 6 = nI (bT S).1 := by rw [e2, w1_a _ _ _ _ _ _ (by omega), h5]
  rw [r2, nI_1] at e3
  have r3 : τ3.1 94 6 = nI ((bT S).1 + 1) := by rw [e3, w1_s]
  rw [r3]
  have hh := MD.tx (T := ((bT S).1 + 1, upN (bT S).2 (bT S).1 c)) hva hw hC (τ := τ3) (by rw [e3, e2]; exact (Sm.rf.w1 (Or.inl rfl)).w1 (Or.inr ⟨rfl, rfl⟩)) r3 (fun k hk => by
    have hk2 : k < (bT S).1 + 1 := hk
    rw [e3, w1_a _ _ _ _ _ _ (by omega), e2]
    by_cases hkk : k = (bT S).1
    · rw [hkk, w1_s]
      exact (show c = (if (bT S).1 = (bT S).1 then c else (bT S).2 (bT S).1) from (if_pos rfl).symm)
    · rw [w1_k _ _ _ _ _ _ hkk, h6 k (by omega)]
      exact (show (bT S).2 k = (if k = (bT S).1 then c else (bT S).2 k) from (if_neg hkk).symm))
  exact h τ3 hh.1 hh.2
theorem q_clear (hva : ∀ A, VA A → WA A) (hC : MD σ S) (hw : WS VA S) (h : OutM σ Q (o_clear S)) : X none d mX8_clear 0 [.ref 94, Unk] [] σ Q := by
  have h5 := hC.2.2.2.2.1.1
  refine vX8_clear_0 (fun τ3 e3 => ?_)
  rw [h5]
  have hh := MD.tx (T := (0, (bT S).2)) hva hw hC (τ := τ3) (by rw [e3]; exact Sm.rf.w1 (Or.inr ⟨rfl, rfl⟩)) (by rw [e3, w1_s]; exact nI_0.symm) (fun k hk => absurd hk (Nat.not_lt_zero k))
  exact h τ3 hh.1 hh.2
end M5
