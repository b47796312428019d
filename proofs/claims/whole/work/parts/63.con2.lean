/-! a constraint comes -/
theorem ED_C {v : VT} {s k a b : Int32} {c x y : Nat} (hc : c < v.2.1 2) : ED (vC v s k a b) c x y ↔ ED v c x y := by
  unfold ED
  rw [vC_o (Or.inl (by omega)), vC_o (Or.inl (by omega)), vC_o (Or.inl (by omega)), vC_o (Or.inl (by omega))]
theorem ED_N {v : VT} {s k : Nat} {a b : Int32} (hs : s < 12) (hk : k < 18) {x y : Nat} : ED (vC v (nI s) (nI k) a b) (v.2.1 2) x y ↔ x = s ∧ y < 12 ∧ ((11 ≤ k ∧ a = nI y) ∨ (12 ≤ k ∧ k ≤ 14 ∧ b = nI y)) := by
  unfold ED
  rw [vC_s, vC_k, vC_a, vC_b]
  constructor
  · rintro ⟨h1, h2, h3, k', h4, h5, h6⟩
    have e1 := (nI_eq (by omega) (by omega)).mp h3
    have e2 := (nI_eq (by omega) (by omega)).mp h5
    subst e1
    subst e2
    exact ⟨rfl, h2, h6⟩
  · rintro ⟨e, h2, h6⟩
    subst e
    exact ⟨hs, h2, rfl, k, hk, rfl, h6⟩
theorem EDGE_C {v : VT} {s k : Nat} {a b : Int32} (hs : s < 12) (hk : k < 18) {x y : Nat} : EDGE (vC v (nI s) (nI k) a b) x y ↔ EDGE v x y ∨ (x = s ∧ y < 12 ∧ ((11 ≤ k ∧ a = nI y) ∨ (12 ≤ k ∧ k ≤ 14 ∧ b = nI y))) := by
  unfold EDGE
  rw [vC_2]
  constructor
  · rintro ⟨c, h1, h2⟩
    by_cases e : c = v.2.1 2
    · subst e; exact Or.inr ((ED_N hs hk).mp h2)
    · exact Or.inl ⟨c, by omega, (ED_C (by omega)).mp h2⟩
  · rintro (⟨c, h1, h2⟩ | h)
    · exact ⟨c, by omega, (ED_C h1).mpr h2⟩
    · exact ⟨v.2.1 2, by omega, (ED_N hs hk).mpr h⟩
theorem c118 {σ : S2} {v : VT} (h : IC σ v) (hn : v.2.1 2 < 40) (s k a b : Int32) : ∃ τ, fn_X0_constraint_118 σ s k a b = some (nI (v.2.1 2), τ) ∧ IC τ (vC v s k a b) ∧ fr [0, 4, 14, 15, 16, 17] σ τ ∧ τ.1 0 0 = 0 := by
  unfold fn_X0_constraint_118 fn_X4_add
  have e0 : (st σ 0 0 0).1 4 0 = nI (v.2.1 2) := by rw [st_ne (by omega), h.1.2.2]
  have hin := nI_in hn (by omega)
  have hcl := nI_clamp (show v.2.1 2 < 2 ^ 31 by omega)
  have hin2 : ¬ (nI (v.2.1 2) < 0 ∨ 40 ≤ v.2.1 2) := fun z => z.elim (nI_pos (by omega)) (by omega)
  simp only [lt, e0, ck, hcl, hin2, if_false]
  rw [if_neg (show ¬ (40 : Int32) ≤ nI (v.2.1 2) from nI_ge (b := 40) hn (by omega))]
  simp only [bn2]
  refine ⟨_, rfl, ?_, ?_, ?_⟩
  · refine IC_C h ?_ ?_ ?_ ?_ ?_ ?_
    · intro j j0 j4 j10 j14 j15 j16 j17
      rw [st_ne j4, st_ne j17, st_ne j16, st_ne j15, st_ne j14, st_ne j0]
    · rw [st_at, if_pos rfl, st_ne (by omega), st_ne (by omega), st_ne (by omega), st_ne (by omega), e0, nI_1]
    · intro j; rw [st_ne (by omega), st_ne (by omega), st_ne (by omega), st_ne (by omega), st_at, st_ne (by omega)]
    · intro j; rw [st_ne (by omega), st_ne (by omega), st_ne (by omega), st_at, st_ne (by omega), st_ne (by omega)]
    · intro j; rw [st_ne (by omega), st_ne (by omega), st_at, st_ne (by omega), st_ne (by omega), st_ne (by omega)]
    · intro j; rw [st_ne (by omega), st_at, st_ne (by omega), st_ne (by omega), st_ne (by omega), st_ne (by omega)]
  · exact fr_tr (fr_st (by simp)) (fr_tr (fr_st (by simp)) (fr_tr (fr_st (by simp)) (fr_tr (fr_st (by simp)) (fr_tr (fr_st (by simp)) (fr_st (by simp))))))
  · rw [st_ne (by omega), st_ne (by omega), st_ne (by omega), st_ne (by omega), st_ne (by omega), st_at, if_pos rfl]
theorem m67 {μ : S2} {v : VT} (h : IM μ v) (hn : v.2.1 2 < 40) (s k a b : Int32) : ∃ τ, fn_X6_constraint_67 μ s k a b = some (nI (v.2.1 2), τ) ∧ IM τ (vC v s k a b) ∧ fr [7, 8, 9, 10, 23, 24] μ τ ∧ τ.1 24 0 = 0 := by
  unfold fn_X6_constraint_67
  rw [h.1.2.2, if_neg (show ¬ nI (v.2.1 2) = 40 from nI_ne (b := 40) (by omega) (by omega) (by omega))]
  have hcl := nI_clamp (show v.2.1 2 < 2 ^ 31 by omega)
  have hin2 : ¬ (nI (v.2.1 2) < 0 ∨ 40 ≤ v.2.1 2) := fun z => z.elim (nI_pos (by omega)) (by omega)
  have k1 : ∀ x, (st μ 7 (v.2.1 2) x).1 23 0 = nI (v.2.1 2) := fun x => by rw [st_ne (by omega), h.1.2.2]
  have k2 : ∀ x y, (st (st μ 7 (v.2.1 2) x) 8 (v.2.1 2) y).1 23 0 = nI (v.2.1 2) := fun x y => by rw [st_ne (by omega), k1]
  have k3 : ∀ x y z, (st (st (st μ 7 (v.2.1 2) x) 8 (v.2.1 2) y) 9 (v.2.1 2) z).1 23 0 = nI (v.2.1 2) := fun x y z => by rw [st_ne (by omega), k2]
  have k4 : ∀ x y z w, (st (st (st (st μ 7 (v.2.1 2) x) 8 (v.2.1 2) y) 9 (v.2.1 2) z) 10 (v.2.1 2) w).1 23 0 = nI (v.2.1 2) := fun x y z w => by rw [st_ne (by omega), k3]
  simp only [lt, ck, hcl, hin2, if_false, k1, k2, k3, k4, nI_1]
  refine ⟨_, sm_eq ?_, ?_, ?_, ?_⟩
  · rw [st_ne (by omega), st_at, if_pos rfl]
    exact nI_pred _
  · refine IM_C h ?_ ?_ ?_ ?_ ?_ ?_
    · intro j j7 j8 j9 j10 j13 j23 j24
      rw [st_ne j24, st_ne j23, st_ne j10, st_ne j9, st_ne j8, st_ne j7]
    · rw [st_ne (by omega), st_at, if_pos rfl]
    · intro j; rw [st_ne (by omega), st_ne (by omega), st_ne (by omega), st_ne (by omega), st_ne (by omega), st_at]
    · intro j; rw [st_ne (by omega), st_ne (by omega), st_ne (by omega), st_ne (by omega), st_at, st_ne (by omega)]
    · intro j; rw [st_ne (by omega), st_ne (by omega), st_ne (by omega), st_at, st_ne (by omega), st_ne (by omega)]
    · intro j; rw [st_ne (by omega), st_ne (by omega), st_at, st_ne (by omega), st_ne (by omega), st_ne (by omega)]
  · exact fr_tr (fr_st (by simp)) (fr_tr (fr_st (by simp)) (fr_tr (fr_st (by simp)) (fr_tr (fr_st (by simp)) (fr_tr (fr_st (by simp)) (fr_st (by simp))))))
  · rw [st_at, if_pos rfl]
theorem m67f {μ : S2} {v : VT} (h : IM μ v) (hn : v.2.1 2 = 40) (s k a b : Int32) : fn_X6_constraint_67 μ s k a b = some (-3, μ) := by
  unfold fn_X6_constraint_67
  rw [h.1.2.2, hn, if_pos (show nI 40 = 40 from rfl)]
theorem na_t {k : Nat} (h : 11 ≤ k) (hk : k < 18) : fn_X0_namesShapeByA (nI k) = 1 := by
  unfold fn_X0_namesShapeByA fn_X0_isBetween
  simp only [lt]
  rw [if_neg (show ¬ nI k < 11 from nI_nlt (b := 11) h (by omega)), if_neg (show ¬ (17 : Int32) < nI k from nI_nlt (a := 17) (by omega) (by omega))]
theorem na_f {k : Nat} (h : k < 11) : fn_X0_namesShapeByA (nI k) = 0 := by
  unfold fn_X0_namesShapeByA fn_X0_isBetween
  simp only [lt]
  rw [if_pos (show nI k < 11 from nI_lt (b := 11) h (by omega))]
theorem nb_t {k : Nat} (h : 12 ≤ k) (hk : k ≤ 14) : fn_X0_namesShapeByB (nI k) = 1 := by
  unfold fn_X0_namesShapeByB fn_X0_isBetween
  simp only [lt]
  rw [if_neg (show ¬ nI k < 12 from nI_nlt (b := 12) h (by omega)), if_neg (show ¬ (14 : Int32) < nI k from nI_nlt (a := 14) (by omega) (by omega))]
theorem nb_f {k : Nat} (h : k < 12 ∨ 14 < k) (hk : k < 18) : fn_X0_namesShapeByB (nI k) = 0 := by
  unfold fn_X0_namesShapeByB fn_X0_isBetween
  simp only [lt]
  rcases h with h | h
  · rw [if_pos (show nI k < 12 from nI_lt (b := 12) h (by omega))]
  · by_cases q : nI k < 12
    · rw [if_pos q]
    · rw [if_neg q, if_pos (show (14 : Int32) < nI k from nI_lt (a := 14) h (by omega))]
section CL
variable {σ : S2} {x1 x2 x3 x4 x5 x6 : Int32}
theorem c53_0 : fn_X0_constraint_53 σ x1 x2 x3 x4 x5 0 = fn_X0_constraint_74 σ x1 x2 x3 x4 x5 0 := if_pos rfl
theorem c53_1 : fn_X0_constraint_53 σ x1 x2 x3 x4 x5 1 = bn (fn_X2_leads σ x4 x1) (fun r3 => if r3 = 0 then fn_X0_constraint_74 σ x1 x2 x3 x4 x5 1 else some (-2, σ)) := if_neg one_ne
theorem c74_f (h : ¬ σ.1 4 0 < 40) : fn_X0_constraint_74 σ x1 x2 x3 x4 x5 x6 = some (-3, σ) := if_neg h
theorem c74_0 (h : σ.1 4 0 < 40) : fn_X0_constraint_74 σ x1 x2 x3 x4 0 x6 = fn_X0_constraint_103 σ x1 x2 x3 x4 x6 := by unfold fn_X0_constraint_74; rw [if_pos h, if_pos rfl]
theorem c74_1 (h : σ.1 4 0 < 40) : fn_X0_constraint_74 σ x1 x2 x3 x4 1 x6 = bn (fn_X2_join σ x1 x3) (fun σ4 => fn_X0_constraint_103 σ4 x1 x2 x3 x4 x6) := by unfold fn_X0_constraint_74; rw [if_pos h, if_neg one_ne]
theorem c103_0 : fn_X0_constraint_103 σ x1 x2 x3 x4 0 = fn_X0_constraint_118 σ x1 x2 x3 x4 := if_pos rfl
theorem c103_1 : fn_X0_constraint_103 σ x1 x2 x3 x4 1 = bn (fn_X2_join σ x1 x4) (fun σ3 => fn_X0_constraint_118 σ3 x1 x2 x3 x4) := if_neg one_ne
theorem m47_0 (h : fn_X6_namesTwo x2 = 0) : fn_X6_constraint_47 σ x1 x2 x3 x4 = fn_X6_constraint_67 σ x1 x2 x3 x4 := by unfold fn_X6_constraint_47; simp only [lt]; rw [if_pos h]
theorem m47_1 (h : fn_X6_namesTwo x2 = 1) : fn_X6_constraint_47 σ x1 x2 x3 x4 = bn2 (fn_X6_leadsTo σ x4 x1) (fun r5 σ4 => if r5 = 0 then fn_X6_constraint_67 σ4 x1 x2 x3 x4 else some (-2, σ4)) := by unfold fn_X6_constraint_47; simp only [lt]; rw [if_neg (by rw [h]; exact one_ne)]
end CL
theorem lt40 {σ : S2} {n : Nat} (h : σ.1 4 0 = nI n) (hn : n < 40) : σ.1 4 0 < 40 := by rw [h]; exact nI_lt (b := 40) hn (by omega)
theorem nlt40 {σ : S2} {n : Nat} (h : σ.1 4 0 = nI n) (hn : n = 40) : ¬ σ.1 4 0 < 40 := by rw [h, hn]; decide
/-- what a call of constraint comes to -/
def PC2 (σ μ : S2) (v : VT) (s k a b : Int32) (σ' μ' : S2) : Prop := (σ' = σ ∧ fr [13] μ μ') ∨ (IV (vC v s k a b) ∧ IC σ' (vC v s k a b) ∧ IM μ' (vC v s k a b) ∧ FUR σ' (vC v s k a b) ∧ fr [0, 4, 10, 14, 15, 16, 17] σ σ' ∧ fr [7, 8, 9, 10, 13, 23, 24] μ μ' ∧ σ'.1 0 0 = 0 ∧ μ'.1 24 0 = 0)
theorem gr_fr {σ τ : S2} (h : τ.1 10 = σ.1 10) : ∀ s t, gr σ s t ↔ gr τ s t := fun s t => by unfold gr; rw [h]
theorem op_constraint {σ μ : S2} {v : VT} (hv : IV v) (h : IC σ v) (hM : IM μ v) (hF : FUR σ v) (x y a b : Int32) : ∃ r σ' μ', fn_X0_constraint σ x y a b = some (r, σ') ∧ fn_X6_constraint μ x y a b = some (r, μ') ∧ PC2 σ μ v x y a b σ' μ' := by
  have h12 := hv.1
  have h40 := hv.2.2.1
  unfold fn_X0_constraint fn_X6_constraint
  simp only [lt]
  rcases arg_shape hv.1 h.1.1 hM.1.1 x with ⟨h1, h2⟩ | ⟨s, hs, es, h1, h2⟩
  · rw [h1, h2, if_pos rfl, if_pos rfl]
    exact ⟨_, _, _, rfl, rfl, Or.inl ⟨rfl, fr_rf⟩⟩
  · rw [h1, h2, if_neg one_ne, if_neg one_ne]
    rcases arg_in y (N := 18) (by omega) (by omega) with ⟨q1, q2⟩ | ⟨k, hk, ek, q1⟩
    · have e1 : fn_X0_isConstraint σ y a b = 0 := by
        have f1 : fn_X0_namesShapeByA y = 0 := by
          unfold fn_X0_namesShapeByA fn_X0_isBetween
          simp only [lt]
          rcases q2 with z | z
          · rw [if_pos (by rw [Int32.lt_iff_toInt_lt] at z ⊢; have : (0 : Int32).toInt = 0 := by decide
                           have : (11 : Int32).toInt = 11 := by decide
                           omega)]
          · by_cases w : y < 11
            · rw [if_pos w]
            · rw [if_neg w, if_pos (by rw [Int32.le_iff_toInt_le] at z; rw [Int32.lt_iff_toInt_lt]; have : (nI 18).toInt = 18 := by decide
                                       have : (17 : Int32).toInt = 17 := by decide
                                       omega)]
        have f2 : fn_X0_namesShapeByB y = 0 := by
          unfold fn_X0_namesShapeByB fn_X0_isBetween
          simp only [lt]
          rcases q2 with z | z
          · rw [if_pos (by rw [Int32.lt_iff_toInt_lt] at z ⊢; have : (0 : Int32).toInt = 0 := by decide
                           have : (12 : Int32).toInt = 12 := by decide
                           omega)]
          · by_cases w : y < 12
            · rw [if_pos w]
            · rw [if_neg w, if_pos (by rw [Int32.le_iff_toInt_le] at z; rw [Int32.lt_iff_toInt_lt]; have : (nI 18).toInt = 18 := by decide
                                       have : (14 : Int32).toInt = 14 := by decide
                                       omega)]
        unfold fn_X0_isConstraint fn_X0_isConstraint_20 fn_X0_isConstraint_40
        simp only [lt]
        rw [f1, if_pos rfl, f2, if_pos rfl, if_neg (show ¬ y = 0 from out_ne (j := 0) q2 (by omega) (by omega)), if_neg (show ¬ y = 1 from out_ne (j := 1) q2 (by omega) (by omega)), if_neg (show ¬ y = 2 from out_ne (j := 2) q2 (by omega) (by omega)), if_neg (show ¬ y = 5 from out_ne (j := 5) q2 (by omega) (by omega)), if_neg (show ¬ y = 6 from out_ne (j := 6) q2 (by omega) (by omega)), if_neg (show ¬ y = 7 from out_ne (j := 7) q2 (by omega) (by omega)), if_neg (show ¬ y = 8 from out_ne (j := 8) q2 (by omega) (by omega)), if_neg (show ¬ y = 17 from out_ne (j := 17) q2 (by omega) (by omega))]
        exact q1
      rw [e1, if_pos rfl, show fn_X6_in y 0 17 = 0 from q1, if_pos rfl]
      exact ⟨_, _, _, rfl, rfl, Or.inl ⟨rfl, fr_rf⟩⟩
    · rw [show fn_X6_in y 0 17 = 1 from q1, if_neg one_ne]
      subst es
      subst ek
      rcases ce_all hv.1 h.1.1 hM.1.1 a b hk with ⟨w1, w2⟩ | ⟨w1, w2, hok⟩
      · rw [w1, w2, if_pos rfl, if_pos rfl]
        exact ⟨_, _, _, rfl, rfl, Or.inl ⟨rfl, fr_rf⟩⟩
      · rw [w1, w2, if_neg one_ne, if_neg one_ne]
        by_cases k11 : k < 11
        · rw [na_f k11, nb_f (Or.inl (by omega)) hk, n1_f k11, if_pos rfl, if_pos rfl, c53_0, m47_0 (n2_f (Or.inl (by omega)) (by omega))]
          by_cases e40 : v.2.1 2 = 40
          · rw [c74_f (nlt40 h.1.2.2 e40), m67f hM e40]
            exact ⟨_, _, _, rfl, rfl, Or.inl ⟨rfl, fr_rf⟩⟩
          · rw [c74_0 (lt40 h.1.2.2 (by omega)), c103_0]
            obtain ⟨τ, p1, p2, p3, p4⟩ := c118 h (by omega) (nI s) (nI k) a b
            obtain ⟨ρ, r1, r2, r3, r4⟩ := m67 hM (by omega) (nI s) (nI k) a b
            refine ⟨_, τ, ρ, p1, r1, Or.inr ⟨IV_C hv hs hok (by omega) rfl rfl, p2, r2, ?_, fr_up p3 (by intro k hk; simp at hk ⊢; omega), fr_up r3 (by intro k hk; simp at hk ⊢; omega), p4, r4⟩⟩
            unfold FUR
            rw [vC_0]
            refine FG_g (FG_E hF (fun s' u => ?_)) (gr_fr (p3 10 (by simp)))
            rw [EDGE_C (by omega) hk]
            constructor
            · exact Or.inl
            · rintro (z | z)
              · exact z
              · omega
        · obtain ⟨a', ha', ea⟩ := hok.2.2.2.2.2.1 (by omega)
          subst ea
          rw [na_t (by omega) hk, n1_t (by omega) (by omega), if_neg one_ne, if_neg one_ne]
          obtain ⟨r, l1, l2⟩ := c_leads h hF h12 (show a' < 32 by omega) (show s < 32 by omega)
          obtain ⟨q, l3, l4, l5⟩ := m_leadsTo hv hM hF ha' hs
          rw [l1, l3]
          simp only [bn, bn2]
          rcases l2 with ⟨er, l2⟩ | ⟨er, l2⟩
          · have eq1 : q.1 = 1 := l4.elim (fun z => z.1) (fun z => absurd l2 z.2)
            rw [er, eq1, if_neg one_ne, if_neg one_ne]
            exact ⟨_, _, _, rfl, rfl, Or.inl ⟨rfl, l5⟩⟩
          · have eq0 : q.1 = 0 := l4.elim (fun z => absurd z.2 l2) (fun z => z.1)
            rw [er, eq0, if_pos rfl, if_pos rfl]
            have hM2 := IM13 hM l5
            by_cases k12 : k < 12 ∨ 14 < k
            · rw [nb_f k12 hk, c53_0, m47_0 (n2_f k12 (by omega))]
              by_cases e40 : v.2.1 2 = 40
              · rw [c74_f (nlt40 h.1.2.2 e40), m67f hM2 e40]
                exact ⟨_, _, _, rfl, rfl, Or.inl ⟨rfl, l5⟩⟩
              · rw [c74_1 (lt40 h.1.2.2 (by omega))]
                obtain ⟨τ1, j1, j2, j3⟩ := c_join h12 hs ha' h hF l2
                have h' : IC τ1 v := IC_fr h j2 (fun k hk => by simp at hk; omega)
                obtain ⟨τ, p1, p2, p3, p4⟩ := c118 h' (by omega) (nI s) (nI k) (nI a') b
                obtain ⟨ρ, r1, r2, r3, r4⟩ := m67 hM2 (by omega) (nI s) (nI k) (nI a') b
                rw [j1]
                simp only [bn]
                rw [c103_0]
                refine ⟨_, τ, ρ, p1, r1, Or.inr ⟨IV_C hv hs hok (by omega) rfl rfl, p2, r2, ?_, fr_tr (fr_up j2 (by intro k hk; simp at hk ⊢; omega)) (fr_up p3 (by intro k hk; simp at hk ⊢; omega)), fr_tr (fr_up l5 (by intro k hk; simp at hk ⊢; omega)) (fr_up r3 (by intro k hk; simp at hk ⊢; omega)), p4, r4⟩⟩
                unfold FUR
                rw [vC_0]
                refine FG_g (FG_g (FG_E (FG_jn hF hs ha' l2) (fun s' u => ?_)) (fun s t => (j3 s t).symm)) (gr_fr (p3 10 (by simp)))
                rw [EDGE_C (by omega) hk]
                constructor
                · rintro (z | ⟨z1, z2⟩)
                  · exact Or.inl z
                  · exact Or.inr ⟨z1, by omega, Or.inl ⟨by omega, by rw [z2]⟩⟩
                · rintro (z | ⟨z1, z2, z3 | z3⟩)
                  · exact Or.inl z
                  · exact Or.inr ⟨z1, ((nI_eq (by omega) (by omega)).mp z3.2).symm⟩
                  · omega
            · obtain ⟨b', hb', eb⟩ := hok.2.2.2.2.2.2.1 (by omega) (by omega)
              subst eb
              rw [nb_t (by omega) (by omega), c53_1, m47_1 (n2_t (by omega) (by omega))]
              obtain ⟨r', b1, b2⟩ := c_leads h hF h12 (show b' < 32 by omega) (show s < 32 by omega)
              obtain ⟨q', b3, b4, b5⟩ := m_leadsTo hv hM2 hF hb' hs
              rw [b1, b3]
              simp only [bn, bn2]
              rcases b2 with ⟨er', b2⟩ | ⟨er', b2⟩
              · have eq1 : q'.1 = 1 := b4.elim (fun z => z.1) (fun z => absurd b2 z.2)
                rw [er', eq1, if_neg one_ne, if_neg one_ne]
                exact ⟨_, _, _, rfl, rfl, Or.inl ⟨rfl, fr_tr l5 b5⟩⟩
              · have eq0 : q'.1 = 0 := b4.elim (fun z => absurd z.2 b2) (fun z => z.1)
                rw [er', eq0, if_pos rfl, if_pos rfl]
                have hM3 := IM13 hM2 b5
                by_cases e40 : v.2.1 2 = 40
                · rw [c74_f (nlt40 h.1.2.2 e40), m67f hM3 e40]
                  exact ⟨_, _, _, rfl, rfl, Or.inl ⟨rfl, fr_tr l5 b5⟩⟩
                · rw [c74_1 (lt40 h.1.2.2 (by omega))]
                  obtain ⟨τ1, j1, j2, j3⟩ := c_join h12 hs ha' h hF l2
                  have h' : IC τ1 v := IC_fr h j2 (fun k hk => by simp at hk; omega)
                  have hG1 := FG_g (FG_jn hF hs ha' l2) (fun s t => (j3 s t).symm)
                  have hno : ¬ LG (gr τ1) b' s := by
                    rintro (z | z)
                    · exact b2 (Or.inl z)
                    · rcases (j3 b' s).mp z with z | z
                      · exact b2 (Or.inr z)
                      · exact b2 z.1
                  -- the second join, over the rows as they are now
                  have hj := c_join2 h12 hs hb' h' hG1 hno
                  obtain ⟨τ2, i1, i2, i3⟩ := hj
                  have h'' : IC τ2 v := IC_fr h' i2 (fun k hk => by simp at hk; omega)
                  obtain ⟨τ, p1, p2, p3, p4⟩ := c118 h'' (by omega) (nI s) (nI k) (nI a') (nI b')
                  obtain ⟨ρ, r1, r2, r3, r4⟩ := m67 hM3 (by omega) (nI s) (nI k) (nI a') (nI b')
                  rw [j1]
                  simp only [bn]
                  rw [c103_1, i1]
                  simp only [bn]
                  refine ⟨_, τ, ρ, p1, r1, Or.inr ⟨IV_C hv hs hok (by omega) rfl rfl, p2, r2, ?_, fr_tr (fr_up j2 (by intro k hk; simp at hk ⊢; omega)) (fr_tr (fr_up i2 (by intro k hk; simp at hk ⊢; omega)) (fr_up p3 (by intro k hk; simp at hk ⊢; omega))), fr_tr (fr_up l5 (by intro k hk; simp at hk ⊢; omega)) (fr_tr (fr_up b5 (by intro k hk; simp at hk ⊢; omega)) (fr_up r3 (by intro k hk; simp at hk ⊢; omega))), p4, r4⟩⟩
                  unfold FUR
                  rw [vC_0]
                  refine FG_g (FG_g (FG_E (FG_jn hG1 hs hb' hno) (fun s' u => ?_)) (fun s t => (i3 s t).symm)) (gr_fr (p3 10 (by simp)))
                  rw [EDGE_C (by omega) hk]
                  constructor
                  · rintro ((z | ⟨z1, z2⟩) | ⟨z1, z2⟩)
                    · exact Or.inl z
                    · exact Or.inr ⟨z1, by omega, Or.inl ⟨by omega, by rw [z2]⟩⟩
                    · exact Or.inr ⟨z1, by omega, Or.inr ⟨by omega, by omega, by rw [z2]⟩⟩
                  · rintro (z | ⟨z1, z2, z3 | z3⟩)
                    · exact Or.inl (Or.inl z)
                    · exact Or.inl (Or.inr ⟨z1, ((nI_eq (by omega) (by omega)).mp z3.2).symm⟩)
                    · exact Or.inr ⟨z1, ((nI_eq (by omega) (by omega)).mp z3.2.2).symm⟩
