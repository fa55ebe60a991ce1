/-! Facts of the static shape. -/
theorem kd_0 : kd 0 = 7 := by decide
theorem kd_7 : kd 7 = 2 := by decide
theorem kd_8 : kd 8 = 11 := by decide
theorem ln_8 : ln 8 = 8 := by decide
theorem kd_58 : kd 58 = 9 := by decide
theorem ln_58 : ln 58 = 60 := by decide
theorem kd_60 : kd 60 = 9 := by decide
theorem ln_60 : ln 60 = 60 := by decide
theorem kd_62 : kd 62 = 9 := by decide
theorem ln_62 : ln 62 = 120 := by decide
theorem kd_63 : kd 63 = 9 := by decide
theorem ln_63 : ln 63 = 48 := by decide
theorem kd_65 : kd 65 = 9 := by decide
theorem ln_65 : ln 65 = 120 := by decide
theorem kd_66 : kd 66 = 9 := by decide
theorem ln_66 : ln 66 = 48 := by decide
theorem kd_67 : kd 67 = 5 := by decide
theorem kd_68 : kd 68 = 9 := by decide
theorem ln_68 : ln 68 = 120 := by decide
theorem kd_70 : kd 70 = 9 := by decide
theorem ln_70 : ln 70 = 120 := by decide
theorem kd_71 : kd 71 = 9 := by decide
theorem ln_71 : ln 71 = 48 := by decide
theorem kd_72 : kd 72 = 1 := by decide
theorem kd_73 : kd 73 = 12 := by decide
theorem ln_73 : ln 73 = 2 := by decide
theorem kd_94 : kd 94 = 8 := by decide
theorem kd_95 : kd 95 = 9 := by decide
theorem ln_95 : ln 95 = 7458 := by decide
theorem kd_96 : kd 96 = 9 := by decide
theorem ln_96 : ln 96 = 728 := by decide
theorem kd_97 : kd 97 = 10 := by decide
theorem ln_97 : ln 97 = 2 := by decide
theorem kd_98 : kd 98 = 9 := by decide
theorem ln_98 : ln 98 = 120 := by decide
theorem kd_99 : kd 99 = 9 := by decide
theorem ln_99 : ln 99 = 3 := by decide
theorem kd_100 : kd 100 = 9 := by decide
theorem ln_100 : ln 100 = 60 := by decide
theorem kd_101 : kd 101 = 9 := by decide
theorem ln_101 : ln 101 = 128 := by decide
theorem kd_102 : kd 102 = 10 := by decide
theorem ln_102 : ln 102 = 64 := by decide
theorem rf_7_0 : rf 7 0 = 8 := by decide
theorem rf_67_0 : rf 67 0 = 68 := by decide
theorem rf_67_1 : rf 67 1 = 69 := by decide
theorem rf_0_0 : rf 0 0 = 1 := by decide
theorem rf_0_1 : rf 0 1 = 7 := by decide
theorem rf_0_2 : rf 0 2 = 57 := by decide
theorem rf_0_3 : rf 0 3 = 59 := by decide
theorem rf_0_4 : rf 0 4 = 61 := by decide
theorem rf_0_5 : rf 0 5 = 64 := by decide
theorem rf_0_6 : rf 0 6 = 67 := by decide
theorem rf_0_7 : rf 0 7 = 72 := by decide
theorem rf_0_8 : rf 0 8 = 73 := by decide
theorem rf_94_0 : rf 94 0 = 95 := by decide
theorem rf_94_1 : rf 94 1 = 96 := by decide
theorem rf_94_4 : rf 94 4 = 97 := by decide
theorem rf_94_5 : rf 94 5 = 98 := by decide
theorem rf_94_9 : rf 94 9 = 99 := by decide
theorem rf_94_11 : rf 94 11 = 100 := by decide
theorem rf_94_15 : rf 94 15 = 101 := by decide
theorem rf_94_18 : rf 94 18 = 102 := by decide
def OKF (f : Nat) : Prop := kd f = 0 ∧ (rf f 0 = f + 1 ∧ kd (f + 1) = 9 ∧ ln (f + 1) = 121) ∧ (rf f 1 = f + 2 ∧ kd (f + 2) = 9 ∧ ln (f + 2) = 121) ∧ (rf f 2 = f + 3 ∧ kd (f + 3) = 9 ∧ ln (f + 3) = 121) ∧ (rf f 3 = f + 4 ∧ kd (f + 4) = 9 ∧ ln (f + 4) = 121) ∧ (rf f 4 = f + 5 ∧ kd (f + 5) = 9 ∧ ln (f + 5) = 121)
def OKP (f : Nat) : Prop := kd f = 4 ∧ rf f 0 = f + 1 ∧ kd (f + 1) = 9 ∧ ln (f + 1) = 60
def OKS (f : Nat) : Prop := kd f = 6 ∧ (rf f 0 = f + 1 ∧ kd (f + 1) = 9 ∧ ln (f + 1) = 120) ∧ (rf f 1 = f + 2 ∧ kd (f + 2) = 9 ∧ ln (f + 2) = 48)
def OKI (f : Nat) : Prop := kd f = 3 ∧ (rf f 0 = f + 1 ∧ OKF (f + 1)) ∧ (rf f 1 = f + 7 ∧ OKS (f + 7))
theorem OKF.k {f : Nat} (h : OKF f) : kd f = 0 := h.1
theorem OKF.r0 {f : Nat} (h : OKF f) : rf f 0 = f + 1 := h.2.1.1
theorem OKF.a0 {f : Nat} (h : OKF f) : kd (f + 1) = 9 := h.2.1.2.1
theorem OKF.n0 {f : Nat} (h : OKF f) : ln (f + 1) = 121 := h.2.1.2.2
theorem OKF.r1 {f : Nat} (h : OKF f) : rf f 1 = f + 2 := h.2.2.1.1
theorem OKF.a1 {f : Nat} (h : OKF f) : kd (f + 2) = 9 := h.2.2.1.2.1
theorem OKF.n1 {f : Nat} (h : OKF f) : ln (f + 2) = 121 := h.2.2.1.2.2
theorem OKF.r2 {f : Nat} (h : OKF f) : rf f 2 = f + 3 := h.2.2.2.1.1
theorem OKF.a2 {f : Nat} (h : OKF f) : kd (f + 3) = 9 := h.2.2.2.1.2.1
theorem OKF.n2 {f : Nat} (h : OKF f) : ln (f + 3) = 121 := h.2.2.2.1.2.2
theorem OKF.r3 {f : Nat} (h : OKF f) : rf f 3 = f + 4 := h.2.2.2.2.1.1
theorem OKF.a3 {f : Nat} (h : OKF f) : kd (f + 4) = 9 := h.2.2.2.2.1.2.1
theorem OKF.n3 {f : Nat} (h : OKF f) : ln (f + 4) = 121 := h.2.2.2.2.1.2.2
theorem OKF.r4 {f : Nat} (h : OKF f) : rf f 4 = f + 5 := h.2.2.2.2.2.1
theorem OKF.a4 {f : Nat} (h : OKF f) : kd (f + 5) = 9 := h.2.2.2.2.2.2.1
theorem OKF.n4 {f : Nat} (h : OKF f) : ln (f + 5) = 121 := h.2.2.2.2.2.2.2
theorem OKP.k {f : Nat} (h : OKP f) : kd f = 4 := h.1
theorem OKP.r0 {f : Nat} (h : OKP f) : rf f 0 = f + 1 := h.2.1
theorem OKP.a0 {f : Nat} (h : OKP f) : kd (f + 1) = 9 := h.2.2.1
theorem OKP.n0 {f : Nat} (h : OKP f) : ln (f + 1) = 60 := h.2.2.2
theorem OKS.k {f : Nat} (h : OKS f) : kd f = 6 := h.1
theorem OKS.r0 {f : Nat} (h : OKS f) : rf f 0 = f + 1 := h.2.1.1
theorem OKS.a0 {f : Nat} (h : OKS f) : kd (f + 1) = 9 := h.2.1.2.1
theorem OKS.n0 {f : Nat} (h : OKS f) : ln (f + 1) = 120 := h.2.1.2.2
theorem OKS.r1 {f : Nat} (h : OKS f) : rf f 1 = f + 2 := h.2.2.1
theorem OKS.a1 {f : Nat} (h : OKS f) : kd (f + 2) = 9 := h.2.2.2.1
theorem OKS.n1 {f : Nat} (h : OKS f) : ln (f + 2) = 48 := h.2.2.2.2
theorem OKI.k {f : Nat} (h : OKI f) : kd f = 3 := h.1
theorem OKI.r0 {f : Nat} (h : OKI f) : rf f 0 = f + 1 := h.2.1.1
theorem OKI.f {f : Nat} (h : OKI f) : OKF (f + 1) := h.2.1.2
theorem OKI.r1 {f : Nat} (h : OKI f) : rf f 1 = f + 7 := h.2.2.1
theorem OKI.s {f : Nat} (h : OKI f) : OKS (f + 7) := h.2.2.2
theorem okF_1 : OKF 1 := by unfold OKF; decide
theorem okF_9 : OKF 9 := by unfold OKF; decide
theorem okF_15 : OKF 15 := by unfold OKF; decide
theorem okF_21 : OKF 21 := by unfold OKF; decide
theorem okF_27 : OKF 27 := by unfold OKF; decide
theorem okF_33 : OKF 33 := by unfold OKF; decide
theorem okF_39 : OKF 39 := by unfold OKF; decide
theorem okF_45 : OKF 45 := by unfold OKF; decide
theorem okF_51 : OKF 51 := by unfold OKF; decide
theorem okP_57 : OKP 57 := by unfold OKP; decide
theorem okP_59 : OKP 59 := by unfold OKP; decide
theorem okS_61 : OKS 61 := by unfold OKS; decide
theorem okS_64 : OKS 64 := by unfold OKS; decide
theorem okS_69 : OKS 69 := by unfold OKS; decide
theorem okF_75 : OKF 75 := by unfold OKF; decide
theorem okS_81 : OKS 81 := by unfold OKS; decide
theorem okF_85 : OKF 85 := by unfold OKF; decide
theorem okS_91 : OKS 91 := by unfold OKS; decide
theorem okI_74 : OKI 74 := ⟨by decide, ⟨by decide, okF_75⟩, ⟨by decide, okS_81⟩⟩
theorem okI_84 : OKI 84 := ⟨by decide, ⟨by decide, okF_85⟩, ⟨by decide, okS_91⟩⟩
theorem vp_in_lt {i : Int32} {n : Nat} (h : vp_in i n) : i.toNatClampNeg < n := Nat.not_le.mp fun q => h (Or.inr q)
theorem slt_all : ∀ k, k < 8 → rf 8 k = 9 + 6 * k := by decide
theorem slt_rf {i : Int32} (h : vp_in i 8) : rf 8 i.toNatClampNeg = 9 + 6 * i.toNatClampNeg := slt_all _ (vp_in_lt h)
theorem slt_okk : ∀ k, k < 8 → OKF (9 + 6 * k) := by
  intro k hk
  match k, hk with
  | 0, _ => exact okF_9
  | 1, _ => exact okF_15
  | 2, _ => exact okF_21
  | 3, _ => exact okF_27
  | 4, _ => exact okF_33
  | 5, _ => exact okF_39
  | 6, _ => exact okF_45
  | 7, _ => exact okF_51
  | k + 8, hk => exact absurd hk (by omega)
theorem slt_ok {i : Int32} (h : vp_in i 8) : OKF (9 + 6 * i.toNatClampNeg) := slt_okk _ (vp_in_lt h)
theorem kpt_all : ∀ k, k < 2 → rf 73 k = 74 + 10 * k := by decide
theorem kpt_rf {i : Int32} (h : vp_in i 2) : rf 73 i.toNatClampNeg = 74 + 10 * i.toNatClampNeg := kpt_all _ (vp_in_lt h)
theorem kpt_okk : ∀ k, k < 2 → OKI (74 + 10 * k) := by
  intro k hk
  match k, hk with
  | 0, _ => exact okI_74
  | 1, _ => exact okI_84
  | k + 2, hk => exact absurd hk (by omega)
theorem kpt_ok {i : Int32} (h : vp_in i 2) : OKI (74 + 10 * i.toNatClampNeg) := kpt_okk _ (vp_in_lt h)
theorem b01_ne {c : Prop} [Decidable c] (h : (if c then (1 : Int32) else 0) = 0) : ¬ c := by
  intro hc
  rw [if_pos hc] at h
  exact absurd h (by decide)
theorem b01_eq {c : Prop} [Decidable c] (h : ¬ (if c then (1 : Int32) else 0) = 0) : c := by
  rcases Decidable.em c with hc | hc
  · exact hc
  · rw [if_neg hc] at h
    exact absurd rfl h
theorem nar01 (c : Prop) [Decidable c] : narrow .boolean (.int (if c then 1 else 0)) = .int (if c then 1 else 0) := by split <;> rfl
theorem vp_nar01 (c : Prop) [Decidable c] : vp_nar .boolean (if c then 1 else 0) = (if c then 1 else 0) := by split <;> rfl
/-! memory reads behind writes -/
theorem w1_s (σ : Mem) (a k : Nat) (v : Int32) : (w1 σ a k v).1 a k = v := by simp [w1]
theorem w1_n (σ : Mem) (a k : Nat) (v : Int32) (i j : Nat) (h : ¬ (i = a ∧ j = k)) : (w1 σ a k v).1 i j = σ.1 i j := by simp [w1, h]
theorem w1_a (σ : Mem) (a k : Nat) (v : Int32) (i j : Nat) (h : i ≠ a) : (w1 σ a k v).1 i j = σ.1 i j := by simp [w1, h]
theorem w1_k (σ : Mem) (a k : Nat) (v : Int32) (i j : Nat) (h : j ≠ k) : (w1 σ a k v).1 i j = σ.1 i j := by simp [w1, h]
theorem w1_2 (σ : Mem) (a k : Nat) (v : Int32) : (w1 σ a k v).2 = σ.2 := rfl
theorem w2_1 (σ : Mem) (a k : Nat) (v : Int64) : (w2 σ a k v).1 = σ.1 := rfl
theorem w2_s (σ : Mem) (a k : Nat) (v : Int64) : (w2 σ a k v).2 a k = v := by simp [w2]
theorem w2_n (σ : Mem) (a k : Nat) (v : Int64) (i j : Nat) (h : ¬ (i = a ∧ j = k)) : (w2 σ a k v).2 i j = σ.2 i j := by simp [w2, h]
theorem wc_2 (σ : Mem) (a b sp dp n : Nat) : (wc σ a b sp dp n).2 = σ.2 := rfl
