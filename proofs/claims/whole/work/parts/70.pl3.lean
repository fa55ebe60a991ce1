/-! The class's digest. -/
def OutCL (σ : Mem) (Q : Option Value → Mem → Prop) (o : Int64 × Ab) : Prop := ∀ τ, CL τ o.2 → Sm S94 σ τ → Q (some (.long o.1)) τ
section P3
variable {d : Nat} {σ : Mem} {Q : Option Value → Mem → Prop} {F : Fl} {S : Ab} {VA : Ar → Prop}
theorem no7 : ∀ k, k < 8 → ¬ (7 : Int32) < nI k := by decide
theorem no4 : ∀ k, k < 5 → ¬ (4 : Int32) < nI k := by decide
theorem o_size_in {k : Nat} (hk : k < 8) : o_size S (nI k) = (sizV S k, S) := by
  have ht := nI_toInt (n := k) (by omega)
  rw [o_size, ht, if_neg (by omega)]
theorem o_layers_in {k : Nat} (hk : k < 5) : o_layers S (nI k) = (layV S (nI k), S) := by
  have ht := nI_toInt (n := k) (by omega)
  rw [o_layers, ht, if_neg (by omega)]
theorem p_digest (hC : CL σ S) (hw : WS VA S) (h : OutCL σ Q (o_digest S)) : X none (d + 3) mX7_digest 0 [.ref 0, Unk, Unk, Unk] [] σ Q := by
  have hn := hw.1.n120
  have pts : ∀ m i (τ : Mem), CL τ S → Sm S94 σ τ → fn (bF S) = i + m → X none (d + 3) mX7_digest 59 [.ref 0, .long (dgL S i), Unk, .int (nI i)] [] τ Q := by
    intro m
    induction m with
    | zero =>
      intro i τ hτ hs hi
      refine vX7_digest_59 ⟨fun _ => ?_, fun c => absurd ?_ c⟩
      · rw [hτ.2.2.2.2.2.1.1, hτ.2.2.2.2.2.1.2]
        have := h τ hτ hs
        rw [show i = fn (bF S) by omega]
        exact this
      · rw [hτ.1.1.1]
        exact nI_le (by omega) (by omega)
    | succ m ih =>
      intro i τ hτ hs hi
      have hlt : i < fn (bF S) := by omega
      have hcl : (nI i).toNatClampNeg = i := nI_clamp (by omega)
      obtain ⟨a1, a2, a3, a4, a5⟩ := hτ.1.2 i hlt
      have b1 : τ.1 2 i = nI (fnum (bF S) i) := a1
      have b2 : τ.1 3 i = fx (bF S) i := a2
      have b3 : τ.1 4 i = fy (bF S) i := a3
      have b4 : τ.1 5 i = fw (bF S) i := a4
      have b5 : τ.1 6 i = nI (fgo (bF S) i) := a5
      have hnx := ih (i + 1) τ hτ hs (by omega)
      simp only [dgL] at hnx
      have b : vp_in (nI i) 121 := vin (by omega) (by decide)
      refine vX7_digest_59 ?_
      rw [hcl, b1, b2, b3, b4, b5, nI_1, nI_z (hw.1.go31 i hlt), hτ.1.1.1]
      refine ⟨fun c => absurd c (nI_ge hlt (by omega)), fun _ => ⟨b, fun c => ?_, fun c => ⟨b, b, b, b, c_worth okF_1 (by omega) hτ.1 hlt ⟨_, rfl, ?_⟩⟩⟩⟩
      · rw [if_neg (by simp [thr, c])] at hnx
        exact hnx
      · rw [if_pos (by simp [thr, c])] at hnx
        exact hnx
  have lay : ∀ m i (τ : Mem), CL τ S → Sm S94 σ τ → 5 = i + m → X none (d + 3) mX7_digest 33 [.ref 0, .long (dg5 S i), Unk, .int (nI i)] [] τ Q := by
    intro m
    induction m with
    | zero =>
      intro i τ hτ hs hi
      have hi5 : i = 5 := by omega
      subst hi5
      refine vX7_digest_33 ⟨fun _ => ?_, fun c => absurd (show (4 : Int32) < nI 5 by decide) c⟩
      rw [← nI_0]
      exact pts (fn (bF S)) 0 τ hτ hs (by omega)
    | succ m ih =>
      intro i τ hτ hs hi
      refine vX7_digest_33 ⟨fun c => absurd c (no4 i (by omega)), fun _ => p_layers hτ (fun τ1 h1 s1 => ⟨_, rfl, ?_⟩)⟩
      rw [o_layers_in (by omega)] at h1 ⊢
      rw [nI_1]
      exact ih (i + 1) τ1 h1 (hs.tr s1) (by omega)
  have siz : ∀ m i (τ : Mem), CL τ S → Sm S94 σ τ → 8 = i + m → X none (d + 3) mX7_digest 6 [.ref 0, .long (dg8 S i), Unk, .int (nI i)] [] τ Q := by
    intro m
    induction m with
    | zero =>
      intro i τ hτ hs hi
      have hi5 : i = 8 := by omega
      subst hi5
      refine vX7_digest_6 ⟨fun _ => ?_, fun c => absurd (show (7 : Int32) < nI 8 by decide) c⟩
      rw [← nI_0]
      exact lay 5 0 τ hτ hs (by omega)
    | succ m ih =>
      intro i τ hτ hs hi
      refine vX7_digest_6 ⟨fun c => absurd c (no7 i (by omega)), fun _ => p_size hτ hw (fun τ1 h1 s1 => ⟨_, rfl, ?_⟩)⟩
      rw [o_size_in (by omega)] at h1 ⊢
      rw [nI_1]
      exact ih (i + 1) τ1 h1 (hs.tr s1) (by omega)
  refine vX7_digest_0 ?_
  rw [← nI_0]
  exact siz 8 0 σ hC Sm.rf (by omega)
end P3
