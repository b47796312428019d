/-! the class: terms that are as told; the results of a constraint -/
def R19 (σ : S2) : Nat → Nat → Prop := fun s x => bt (σ.1 19 s) x = true
theorem c_fitting {σ : S2} {v : VT} (h : IC σ v) (hn : v.2.1 0 ≤ 12) {j : Nat} (hj : j < v.2.1 0) : fn_X5_fittingTerms σ (nI j) = some (σ.1 19 j) := by
  unfold fn_X5_fittingTerms
  rw [has_t h.1.1 hj hn]
  show (if (1 : Int32) = 0 then some 0 else ck (nI j) 12 (some (σ.1 19 (nI j).toNatClampNeg))) = _
  rw [if_neg one_ne, nI_clamp (by omega)]
  unfold ck
  rw [if_neg (nI_in (show j < 12 by omega) (by omega))]
def GV (F : Nat → Nat → Prop) (v : VT) (c : Nat) (g : Int32) : Prop :=
  ((kn v c = 0 ∨ kn v c = 1 ∨ kn v c = 3 ∨ kn v c = 4 ∨ (11 ≤ kn v c ∧ kn v c ≤ 16)) → ∀ x w, w < 32 → (bt g w = true ↔ ¬ WR F v x (kn v c) (v.2.2 6 c) (v.2.2 7 c) w)) ∧
  (kn v c = 17 → ∀ w, w < 32 → (bt g w = true ↔ F (v.2.2 6 c).toNatClampNeg w))
theorem GV_of {F : Nat → Nat → Prop} {v : VT} {c : Nat} {g : Int32} {k : Nat} (e : kn v c = k) (hk : k ≠ 17) (h : ∀ x w, w < 32 → (bt g w = true ↔ ¬ WR F v x k (v.2.2 6 c) (v.2.2 7 c) w)) : GV F v c g := by
  unfold GV
  rw [e]
  exact ⟨fun _ => h, fun z => absurd z hk⟩
theorem GV_no {F : Nat → Nat → Prop} {v : VT} {c : Nat} {g : Int32} {k : Nat} (e : kn v c = k) (hk : ¬ (k = 0 ∨ k = 1 ∨ k = 3 ∨ k = 4 ∨ (11 ≤ k ∧ k ≤ 16)) ∧ k ≠ 17) : GV F v c g := by
  unfold GV
  rw [e]
  exact ⟨fun z => absurd z hk.1, fun z => absurd z hk.2⟩
theorem c_good {σ : S2} {v : VT} (h : IC σ v) (hv : IV v) {c : Nat} (hc : c < v.2.1 2) : wp (fn_X5_goodValues σ (nI c)) (GV (R19 σ) v c) := by
  obtain ⟨h1, h2, h3, h4, h5⟩ := IV_c hv hc
  have h12 := hv.1
  have h40 := hv.2.2.1
  obtain ⟨r14, r15, r16, r17⟩ := h.2.2.2.2.2 c hc
  unfold fn_X5_goodValues
  refine wp_ckN rfl (show c < 40 by omega) (by omega) (wp_lt (wp_ckN rfl (show c < 40 by omega) (by omega) (wp_lt (wp_ckN rfl (show c < 40 by omega) (by omega) ?_))))
  rw [nI_clamp (show c < 2 ^ 31 by omega), r15, r16, r17, h4]
  have fA : 11 ≤ kn v c → ∃ j, j < v.2.1 0 ∧ v.2.2 6 c = nI j ∧ fn_X5_fittingTerms σ (v.2.2 6 c) = some (σ.1 19 j) := by
    intro q
    obtain ⟨j, hj, e⟩ := h5.2.2.2.2.2.1 q
    exact ⟨j, hj, e, by rw [e]; exact c_fitting h h12 hj⟩
  have fB : 12 ≤ kn v c → kn v c ≤ 14 → ∃ j, j < v.2.1 0 ∧ v.2.2 7 c = nI j ∧ fn_X5_fittingTerms σ (v.2.2 7 c) = some (σ.1 19 j) := by
    intro q q2
    obtain ⟨j, hj, e⟩ := h5.2.2.2.2.2.2.1 q q2
    exact ⟨j, hj, e, by rw [e]; exact c_fitting h h12 hj⟩
  rcases k18 h2 with e | e | e | e | e | e | e | e | e | e | e | e | e | e | e | e | e | e
  all_goals rw [e]
  all_goals repeat refine wp_if_f (by decide) ?_
  · refine wp_if_t (by decide) (wp_bn ?_)
    obtain ⟨j, hj, ea⟩ := h5.2.1 e
    rw [ea]
    refine wp_mono (c_ofClass h hj) (fun r hr => wp_some (GV_of e (by omega) (fun x w hw => ?_)))
    rw [hr w hw, ea]
    show _ ↔ ¬ ¬ OFC v w (nI j).toNatClampNeg
    rw [nI_clamp (by omega)]
    exact Classical.not_not.symm
  · refine wp_if_t (by decide) (wp_lt (wp_some (GV_of e (by omega) (fun x w hw => ?_))))
    obtain ⟨j, hj, ea⟩ := h5.2.2.1 e
    rw [ea, sort_b j hj w hw, decide_eq_true_iff]
    show _ ↔ ¬ ¬ SRT (nI j).toNatClampNeg w
    rw [nI_clamp (by omega)]
    exact Classical.not_not.symm
  · exact wp_some (GV_no e (by omega))
  · refine wp_if_t (by decide) (wp_bn ?_)
    refine wp_mono (c_btw _ _) (fun r hr => wp_some (GV_of e (by omega) (fun x w hw => ?_)))
    rw [hr w hw]
    exact Classical.not_not.symm
  · refine wp_if_t (by decide) (wp_some (GV_of e (by omega) (fun x w hw => ?_)))
    show _ ↔ ¬ (bt _ w = false)
    simp
  · exact wp_some (GV_no e (by omega))
  · exact wp_some (GV_no e (by omega))
  · exact wp_some (GV_no e (by omega))
  · exact wp_some (GV_no e (by omega))
  · exact wp_some (GV_no e (by omega))
  · exact wp_some (GV_no e (by omega))
  · refine wp_if_t (by decide) (wp_bn ?_)
    obtain ⟨j, hj, ea, ef⟩ := fA (by omega)
    rw [ef]
    refine wp_some (wp_some (GV_of e (by omega) (fun x w hw => ?_)))
    rw [b_not _ hw, ea]
    show _ ↔ ¬ R19 σ (nI j).toNatClampNeg w
    rw [nI_clamp (by omega)]
    unfold R19
    simp
  · refine wp_if_t (by decide) (wp_bn ?_)
    obtain ⟨j, hj, ea, ef⟩ := fA (by omega)
    obtain ⟨i, hi, eb, eg⟩ := fB (by omega) (by omega)
    rw [ef]
    refine wp_some (wp_bn ?_)
    rw [eg]
    refine wp_some (wp_some (GV_of e (by omega) (fun x w hw => ?_)))
    rw [b_and, ea, eb]
    show _ ↔ ¬ ¬ (R19 σ (nI j).toNatClampNeg w ∧ R19 σ (nI i).toNatClampNeg w)
    rw [nI_clamp (by omega), nI_clamp (by omega), Bool.and_eq_true]
    exact Classical.not_not.symm
  · refine wp_if_t (by decide) (wp_bn ?_)
    obtain ⟨j, hj, ea, ef⟩ := fA (by omega)
    obtain ⟨i, hi, eb, eg⟩ := fB (by omega) (by omega)
    rw [ef]
    refine wp_some (wp_bn ?_)
    rw [eg]
    refine wp_some (wp_some (GV_of e (by omega) (fun x w hw => ?_)))
    rw [b_or, ea, eb]
    show _ ↔ ¬ ¬ (R19 σ (nI j).toNatClampNeg w ∨ R19 σ (nI i).toNatClampNeg w)
    rw [nI_clamp (by omega), nI_clamp (by omega), Bool.or_eq_true]
    exact Classical.not_not.symm
  · refine wp_if_t (by decide) (wp_bn ?_)
    obtain ⟨j, hj, ea, ef⟩ := fA (by omega)
    obtain ⟨i, hi, eb, eg⟩ := fB (by omega) (by omega)
    rw [ef]
    refine wp_some (wp_bn ?_)
    rw [eg]
    refine wp_some (wp_some (GV_of e (by omega) (fun x w hw => ?_)))
    rw [b_xor, ea, eb]
    show _ ↔ ¬ (R19 σ (nI j).toNatClampNeg w ↔ R19 σ (nI i).toNatClampNeg w)
    rw [nI_clamp (by omega), nI_clamp (by omega)]
    unfold R19
    cases bt (σ.1 19 j) w <;> cases bt (σ.1 19 i) w <;> simp
  · refine wp_if_t (by decide) (wp_bn ?_)
    obtain ⟨j, hj, ea, ef⟩ := fA (by omega)
    rw [ef]
    refine wp_some (wp_some (GV_of e (by omega) (fun x w hw => ?_)))
    rw [ea]
    show _ ↔ ¬ ¬ R19 σ (nI j).toNatClampNeg w
    rw [nI_clamp (by omega)]
    exact Classical.not_not.symm
  · refine wp_if_t (by decide) (wp_bn ?_)
    obtain ⟨j, hj, ea, ef⟩ := fA (by omega)
    rw [ef]
    refine wp_some (wp_some (GV_of e (by omega) (fun x w hw => ?_)))
    rw [ea]
    show _ ↔ ¬ ¬ R19 σ (nI j).toNatClampNeg w
    rw [nI_clamp (by omega)]
    exact Classical.not_not.symm
  · refine wp_if_t (by decide) (wp_bn ?_)
    obtain ⟨j, hj, ea, ef⟩ := fA (by omega)
    rw [ef]
    refine wp_some (wp_some ⟨fun z => by omega, fun _ w hw => ?_⟩)
    rw [ea, nI_clamp (by omega)]
    exact Iff.rfl
theorem sh4 : ∀ n, n < 256 → nI n >>> (4 &&& 31) = nI (n / 16) := by decide +kernel
theorem an15 : ∀ n, n < 256 → nI n &&& 15 = nI (n % 16) := by decide +kernel
theorem c_faults {σ : S2} {v : VT} {F : Nat → Nat → Prop} (h : IC σ v) (hv : IV v) {c : Nat} (hc : c < v.2.1 2) {x : Nat} (hx : x < 32) {vals g : Int32} (hg : GV F v c g) (hvals : ∀ w, w < 32 → (bt vals w = true ↔ VAL v (ow v c) x w)) : wp (fn_X5_faultsOf σ (nI c) (nI x) vals g) (fun f => FLT f F v c x) := by
  obtain ⟨h1, h2, h3, h4, h5⟩ := IV_c hv hc
  have h12 := hv.1
  have h40 := hv.2.2.1
  obtain ⟨r14, r15, r16, r17⟩ := h.2.2.2.2.2 c hc
  unfold fn_X5_faultsOf
  refine wp_ckN rfl (show c < 40 by omega) (by omega) (wp_lt (wp_ckN rfl (show c < 40 by omega) (by omega) (wp_lt (wp_ckN rfl (show c < 40 by omega) (by omega) ?_))))
  rw [nI_clamp (show c < 2 ^ 31 by omega), r15, r16, r17, h4]
  have plain : (kn v c = 0 ∨ kn v c = 1 ∨ kn v c = 3 ∨ kn v c = 4 ∨ (11 ≤ kn v c ∧ kn v c ≤ 16)) → wp (lt (fn_X5_withValues (vals &&& (g ^^^ (-1)))) (fun r39 => some r39)) (fun f => FLT f F v c x) := by
    intro q
    have hq := hg.1 q x
    refine wp_lt (wp_some (FLT_w ?_ ?_))
    · rcases q with e | e | e | e | ⟨e, e2⟩
      · rw [e]; exact id
      · rw [e]; exact id
      · rw [e]; exact id
      · rw [e]; exact id
      · rcases (show kn v c = 11 ∨ kn v c = 12 ∨ kn v c = 13 ∨ kn v c = 14 ∨ kn v c = 15 ∨ kn v c = 16 by omega) with e | e | e | e | e | e <;> (rw [e]; exact id)
    · intro w hw
      have key : VB F v (ow v c) x (kn v c) (v.2.2 6 c) (v.2.2 7 c) w ↔ VAL v (ow v c) x w ∧ WR F v x (kn v c) (v.2.2 6 c) (v.2.2 7 c) w := by
        rcases q with e | e | e | e | ⟨e, e2⟩
        · rw [e]; exact Iff.rfl
        · rw [e]; exact Iff.rfl
        · rw [e]; exact Iff.rfl
        · rw [e]; exact Iff.rfl
        · rcases (show kn v c = 11 ∨ kn v c = 12 ∨ kn v c = 13 ∨ kn v c = 14 ∨ kn v c = 15 ∨ kn v c = 16 by omega) with e | e | e | e | e | e <;> (rw [e]; exact Iff.rfl)
      rw [key, b_and, Bool.and_eq_true, b_not _ hw, hvals w hw, Bool.not_eq_true', ← Bool.not_eq_true, hq w hw, Classical.not_not]
  rcases k18 h2 with e | e | e | e | e | e | e | e | e | e | e | e | e | e | e | e | e | e
  all_goals rw [e]
  all_goals repeat refine wp_if_f (by decide) ?_
  · exact plain (by omega)
  · exact plain (by omega)
  · refine wp_if_t (by decide) (wp_lt (wp_lt (wp_lt (wp_some (FLT_u ?_ ?_)))))
    · rw [e, btw_0, bitCount_cnt, cn_bt hvals]
      exact Iff.rfl
    · intro w _; rw [e]; exact id
  · exact plain (by omega)
  · exact plain (by omega)
  · refine wp_if_t (by decide) (wp_lt (wp_lt (wp_some (FLT_u ?_ ?_))))
    · rw [e]
      obtain ⟨j, hj, ea⟩ := h5.2.2.2.1 e
      rw [ea, hold_bt hj]
      show _ ↔ ¬ VAL v (ow v c) x (nI j).toNatClampNeg
      rw [nI_clamp (by omega), ← hvals j hj, bi_ne]
      simp
    · intro w _; rw [e]; exact id
  · refine wp_if_t (by decide) (wp_bn ?_)
    obtain ⟨j, hj, ea⟩ := h5.2.2.2.2.1 (by omega) (by omega)
    rw [ea]
    refine wp_mono (c_ahead h hx hj) (fun r hr => wp_lt (wp_some (FLT_w ?_ ?_)))
    · rw [e]; exact id
    · intro w hw
      rw [e, ea, b_xor]
      show _ ↔ ¬ (VAL v (ow v c) x w ↔ TR v x (nI j).toNatClampNeg w)
      rw [nI_clamp (by omega), ← hvals w hw, ← hr w hw]
      cases bt vals w <;> cases bt r w <;> simp
  · refine wp_if_t (by decide) (wp_bn ?_)
    obtain ⟨j, hj, ea⟩ := h5.2.2.2.2.1 (by omega) (by omega)
    rw [ea]
    refine wp_mono (c_ahead h hx hj) (fun r hr => wp_lt (wp_some (FLT_w ?_ ?_)))
    · rw [e]; exact id
    · intro w hw
      rw [e, ea, b_and]
      show _ ↔ (VAL v (ow v c) x w ∧ TR v x (nI j).toNatClampNeg w)
      rw [nI_clamp (by omega), ← hvals w hw, ← hr w hw, Bool.and_eq_true]
  · refine wp_if_t (by decide) (wp_bn ?_)
    obtain ⟨j, hj, ea⟩ := h5.2.2.2.2.1 (by omega) (by omega)
    rw [ea]
    refine wp_mono (c_ahead h hx hj) (fun r hr => wp_bn (wp_mono (c_sml r) (fun q hq => wp_lt (wp_some (FLT_w ?_ ?_)))))
    · rw [e]; exact id
    · intro w hw
      rw [e, ea, b_and, b_not _ hw]
      show _ ↔ (VAL v (ow v c) x w ∧ ¬ LES v x (nI j).toNatClampNeg w)
      rw [nI_clamp (by omega), ← hvals w hw, Bool.and_eq_true, Bool.not_eq_true', ← Bool.not_eq_true, hq w hw]
      refine and_congr Iff.rfl (not_congr (and_congr Iff.rfl ?_))
      exact ⟨fun z u hu y => z u hu ((hr u hu).mpr y), fun z u hu y => z u hu ((hr u hu).mp y)⟩
  · refine wp_if_t (by decide) (wp_lt (wp_lt (wp_lt (wp_some (FLT_w ?_ ?_)))))
    · rw [e]; exact id
    · intro w hw
      rw [e, b_or, Bool.or_eq_true]
      rw [c_two (P := fun u => VAL v (ow v c) x u ∧ 20 ≤ u ∧ u % 2 = 0) (fun u hu => by rw [b_and, Bool.and_eq_true, hvals u hu, tag0_b u hu, decide_eq_true_iff]) hw]
      rw [c_two (P := fun u => VAL v (ow v c) x u ∧ 20 ≤ u ∧ u % 2 = 1) (fun u hu => by rw [b_and, Bool.and_eq_true, hvals u hu, tag1_b u hu, decide_eq_true_iff]) hw]
      show _ ↔ TGS (VAL v (ow v c) x) w
      unfold TGS
      constructor
      · rintro (⟨⟨z1, z2, z3⟩, z4, u, z5, z6, z7, z8, z9⟩ | ⟨⟨z1, z2, z3⟩, z4, u, z5, z6, z7, z8, z9⟩)
        · exact ⟨z2, z1, fun y y1 y2 y3 y4 => z4 y y2 ⟨y4, y1, by omega⟩, u, z5, z6, by omega, z7⟩
        · exact ⟨z2, z1, fun y y1 y2 y3 y4 => z4 y y2 ⟨y4, y1, by omega⟩, u, z5, z6, by omega, z7⟩
      · rintro ⟨z1, z2, z3, u, z4, z5, z6, z7⟩
        rcases (show w % 2 = 0 ∨ w % 2 = 1 by omega) with q | q
        · exact Or.inl ⟨⟨z2, z1, q⟩, fun y y1 y2 => z3 y y2.2.1 y1 (by omega) y2.1, u, z4, z5, z7, by omega, by omega⟩
        · exact Or.inr ⟨⟨z2, z1, q⟩, fun y y1 y2 => z3 y y2.2.1 y1 (by omega) y2.1, u, z4, z5, z7, by omega, by omega⟩
  · refine wp_if_t (by decide) (wp_bn ?_)
    refine wp_mono (c_but h _ _) (fun r hr => wp_lt (wp_some (FLT_w ?_ ?_)))
    · rw [e]; exact id
    · intro w hw
      rw [e, hr w hw]
      show _ ↔ CLO v (v.2.2 6 c) (VAL v (ow v c) x) w
      unfold CLO
      constructor
      · rintro ⟨y, z1, z2, z3⟩
        rw [b_and, Bool.and_eq_true, hvals y (by omega)] at z2
        exact ⟨y, z1, z2.1, z3⟩
      · rintro ⟨y, z1, z2, z3⟩
        refine ⟨y, z1, ?_, z3⟩
        rw [b_and, Bool.and_eq_true, hvals y (by omega), nodes_b y (by omega), decide_eq_true_iff]
        exact ⟨z2, z1⟩
  · exact plain (by omega)
  · exact plain (by omega)
  · exact plain (by omega)
  · exact plain (by omega)
  · exact plain (by omega)
  · exact plain (by omega)
  · refine wp_if_t (by decide) (wp_lt (wp_lt (wp_lt (wp_some (FLT_u ?_ ?_)))))
    · obtain ⟨j, hj, eb⟩ := h5.2.2.2.2.2.2.2 e
      rw [e, eb, sh4 j hj, an15 j hj, btw_0, bitCount_cnt, cn_bt (P := fun w => VAL v (ow v c) x w ∧ F (v.2.2 6 c).toNatClampNeg w) (fun w hw => by rw [b_and, Bool.and_eq_true, hvals w hw, hg.2 e w hw])]
      show _ ↔ ¬ ((nI j).toNatClampNeg / 16 ≤ cn (fun w => VAL v (ow v c) x w ∧ F (v.2.2 6 c).toNatClampNeg w) 32 ∧ cn (fun w => VAL v (ow v c) x w ∧ F (v.2.2 6 c).toNatClampNeg w) 32 ≤ (nI j).toNatClampNeg % 16)
      have hm := cn_le (fun w => VAL v (ow v c) x w ∧ F (v.2.2 6 c).toNatClampNeg w) 32
      generalize cn (fun w => VAL v (ow v c) x w ∧ F (v.2.2 6 c).toNatClampNeg w) 32 = m at hm ⊢
      rw [nI_clamp (show j < 2 ^ 31 by omega), nI_ltI (by omega) (by omega), nI_ltI (by omega) (by omega)]
      omega
    · intro w _; rw [e]; exact id
