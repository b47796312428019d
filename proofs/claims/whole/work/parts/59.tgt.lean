/-! a target comes; a constraint comes -/
def vG (v : VT) (s k a : Int32) : VT := (v.1, inc v.2.1 1, upr (upr (upr v.2.2 1 (v.2.1 1) s) 2 (v.2.1 1) k) 3 (v.2.1 1) a)
def vC (v : VT) (s k a b : Int32) : VT := (v.1, inc v.2.1 2, upr (upr (upr (upr v.2.2 4 (v.2.1 2) s) 5 (v.2.1 2) k) 6 (v.2.1 2) a) 7 (v.2.1 2) b)
section VG
variable {v : VT} {s k a b : Int32}
theorem vG_0 : (vG v s k a).2.1 0 = v.2.1 0 := inc_f (f := v.2.1) (k := 1) (j := 0) (by omega)
theorem vG_1 : (vG v s k a).2.1 1 = v.2.1 1 + 1 := inc_t (f := v.2.1) (k := 1)
theorem vG_2 : (vG v s k a).2.1 2 = v.2.1 2 := inc_f (f := v.2.1) (k := 1) (j := 2) (by omega)
theorem vG_o {r i : Nat} (h : i ≠ v.2.1 1 ∨ (r ≠ 1 ∧ r ≠ 2 ∧ r ≠ 3)) : (vG v s k a).2.2 r i = v.2.2 r i := by
  show upr (upr (upr v.2.2 1 (v.2.1 1) s) 2 (v.2.1 1) k) 3 (v.2.1 1) a r i = _
  rcases h with h | h
  · rw [upr_i h, upr_i h, upr_i h]
  · rw [upr_k h.2.2, upr_k h.2.1, upr_k h.1]
theorem vG_s : (vG v s k a).2.2 1 (v.2.1 1) = s := by
  show upr (upr (upr v.2.2 1 (v.2.1 1) s) 2 (v.2.1 1) k) 3 (v.2.1 1) a 1 (v.2.1 1) = _
  rw [upr_k (by omega), upr_k (by omega), upr_t]
theorem vG_k : (vG v s k a).2.2 2 (v.2.1 1) = k := by
  show upr (upr (upr v.2.2 1 (v.2.1 1) s) 2 (v.2.1 1) k) 3 (v.2.1 1) a 2 (v.2.1 1) = _
  rw [upr_k (by omega), upr_t]
theorem vG_a : (vG v s k a).2.2 3 (v.2.1 1) = a := upr_t
theorem vC_0 : (vC v s k a b).2.1 0 = v.2.1 0 := inc_f (f := v.2.1) (k := 2) (j := 0) (by omega)
theorem vC_1 : (vC v s k a b).2.1 1 = v.2.1 1 := inc_f (f := v.2.1) (k := 2) (j := 1) (by omega)
theorem vC_2 : (vC v s k a b).2.1 2 = v.2.1 2 + 1 := inc_t (f := v.2.1) (k := 2)
theorem vC_o {r i : Nat} (h : i ≠ v.2.1 2 ∨ r < 4) : (vC v s k a b).2.2 r i = v.2.2 r i := by
  show upr (upr (upr (upr v.2.2 4 (v.2.1 2) s) 5 (v.2.1 2) k) 6 (v.2.1 2) a) 7 (v.2.1 2) b r i = _
  rcases h with h | h
  · rw [upr_i h, upr_i h, upr_i h, upr_i h]
  · rw [upr_k (by omega), upr_k (by omega), upr_k (by omega), upr_k (by omega)]
theorem vC_s : (vC v s k a b).2.2 4 (v.2.1 2) = s := by
  show upr (upr (upr (upr v.2.2 4 (v.2.1 2) s) 5 (v.2.1 2) k) 6 (v.2.1 2) a) 7 (v.2.1 2) b 4 (v.2.1 2) = _
  rw [upr_k (by omega), upr_k (by omega), upr_k (by omega), upr_t]
theorem vC_k : (vC v s k a b).2.2 5 (v.2.1 2) = k := by
  show upr (upr (upr (upr v.2.2 4 (v.2.1 2) s) 5 (v.2.1 2) k) 6 (v.2.1 2) a) 7 (v.2.1 2) b 5 (v.2.1 2) = _
  rw [upr_k (by omega), upr_k (by omega), upr_t]
theorem vC_a : (vC v s k a b).2.2 6 (v.2.1 2) = a := by
  show upr (upr (upr (upr v.2.2 4 (v.2.1 2) s) 5 (v.2.1 2) k) 6 (v.2.1 2) a) 7 (v.2.1 2) b 6 (v.2.1 2) = _
  rw [upr_k (by omega), upr_t]
theorem vC_b : (vC v s k a b).2.2 7 (v.2.1 2) = b := upr_t
theorem IC_G {σ τ : S2} (h : IC σ v) (hk : ∀ j, j ≠ 0 → j ≠ 3 → j ≠ 11 → j ≠ 12 → j ≠ 13 → τ.1 j = σ.1 j) (h3 : τ.1 3 0 = nI (v.2.1 1 + 1)) (h11 : ∀ j, τ.1 11 j = if j = v.2.1 1 then s else σ.1 11 j) (h12 : ∀ j, τ.1 12 j = if j = v.2.1 1 then k else σ.1 12 j) (h13 : ∀ j, τ.1 13 j = if j = v.2.1 1 then a else σ.1 13 j) : IC τ (vG v s k a) := by
  obtain ⟨⟨g1, g2, g3⟩, g4, g5, g6, g7, g8⟩ := h
  unfold IC
  rw [vG_0, vG_1, vG_2]
  refine ⟨⟨by rw [hk 2 (by omega) (by omega) (by omega) (by omega) (by omega)]; exact g1, h3, by rw [hk 4 (by omega) (by omega) (by omega) (by omega) (by omega)]; exact g3⟩, by rw [hk 6 (by omega) (by omega) (by omega) (by omega) (by omega)]; exact g4, by rw [hk 7 (by omega) (by omega) (by omega) (by omega) (by omega)]; exact g5, ?_, ?_, ?_⟩
  · intro i hi
    rw [hk 8 (by omega) (by omega) (by omega) (by omega) (by omega), vG_o (Or.inr (by omega))]
    exact g6 i hi
  · intro i hi
    rw [h11, h12, h13]
    by_cases e : i = v.2.1 1
    · rw [if_pos e, if_pos e, if_pos e, e, vG_s, vG_k, vG_a]
      exact ⟨rfl, rfl, rfl⟩
    · rw [if_neg e, if_neg e, if_neg e, vG_o (Or.inl e), vG_o (Or.inl e), vG_o (Or.inl e)]
      exact g7 i (by omega)
  · intro i hi
    rw [hk 14 (by omega) (by omega) (by omega) (by omega) (by omega), hk 15 (by omega) (by omega) (by omega) (by omega) (by omega), hk 16 (by omega) (by omega) (by omega) (by omega) (by omega), hk 17 (by omega) (by omega) (by omega) (by omega) (by omega), vG_o (Or.inr (by omega)), vG_o (Or.inr (by omega)), vG_o (Or.inr (by omega)), vG_o (Or.inr (by omega))]
    exact g8 i hi
theorem IM_G {σ τ : S2} (h : IM σ v) (hk : ∀ j, j ≠ 4 → j ≠ 5 → j ≠ 6 → j ≠ 22 → j ≠ 24 → τ.1 j = σ.1 j) (h3 : τ.1 22 0 = nI (v.2.1 1 + 1)) (h11 : ∀ j, τ.1 4 j = if j = v.2.1 1 then s else σ.1 4 j) (h12 : ∀ j, τ.1 5 j = if j = v.2.1 1 then k else σ.1 5 j) (h13 : ∀ j, τ.1 6 j = if j = v.2.1 1 then a else σ.1 6 j) : IM τ (vG v s k a) := by
  obtain ⟨⟨g1, g2, g3⟩, g4, g6, g7, g8⟩ := h
  unfold IM
  rw [vG_0, vG_1, vG_2]
  refine ⟨⟨by rw [hk 21 (by omega) (by omega) (by omega) (by omega) (by omega)]; exact g1, h3, by rw [hk 23 (by omega) (by omega) (by omega) (by omega) (by omega)]; exact g3⟩, by rw [hk 1 (by omega) (by omega) (by omega) (by omega) (by omega)]; exact g4, ?_, ?_, ?_⟩
  · intro i hi
    rw [hk 2 (by omega) (by omega) (by omega) (by omega) (by omega), vG_o (Or.inr (by omega))]
    exact g6 i hi
  · intro i hi
    rw [h11, h12, h13]
    by_cases e : i = v.2.1 1
    · rw [if_pos e, if_pos e, if_pos e, e, vG_s, vG_k, vG_a]
      exact ⟨rfl, rfl, rfl⟩
    · rw [if_neg e, if_neg e, if_neg e, vG_o (Or.inl e), vG_o (Or.inl e), vG_o (Or.inl e)]
      exact g7 i (by omega)
  · intro i hi
    rw [hk 7 (by omega) (by omega) (by omega) (by omega) (by omega), hk 8 (by omega) (by omega) (by omega) (by omega) (by omega), hk 9 (by omega) (by omega) (by omega) (by omega) (by omega), hk 10 (by omega) (by omega) (by omega) (by omega) (by omega), vG_o (Or.inr (by omega)), vG_o (Or.inr (by omega)), vG_o (Or.inr (by omega)), vG_o (Or.inr (by omega))]
    exact g8 i hi
theorem IC_C {σ τ : S2} (h : IC σ v) (hk : ∀ j, j ≠ 0 → j ≠ 4 → j ≠ 10 → j ≠ 14 → j ≠ 15 → j ≠ 16 → j ≠ 17 → τ.1 j = σ.1 j) (h3 : τ.1 4 0 = nI (v.2.1 2 + 1)) (h14 : ∀ j, τ.1 14 j = if j = v.2.1 2 then s else σ.1 14 j) (h15 : ∀ j, τ.1 15 j = if j = v.2.1 2 then k else σ.1 15 j) (h16 : ∀ j, τ.1 16 j = if j = v.2.1 2 then a else σ.1 16 j) (h17 : ∀ j, τ.1 17 j = if j = v.2.1 2 then b else σ.1 17 j) : IC τ (vC v s k a b) := by
  obtain ⟨⟨g1, g2, g3⟩, g4, g5, g6, g7, g8⟩ := h
  unfold IC
  rw [vC_0, vC_1, vC_2]
  have o : ∀ j, j ≠ 0 → j ≠ 4 → j ≠ 10 → j < 14 → τ.1 j = σ.1 j := fun j h0 h4 h10 h => hk j h0 h4 h10 (by omega) (by omega) (by omega) (by omega)
  refine ⟨⟨by rw [o 2 (by omega) (by omega) (by omega) (by omega)]; exact g1, by rw [o 3 (by omega) (by omega) (by omega) (by omega)]; exact g2, h3⟩, by rw [o 6 (by omega) (by omega) (by omega) (by omega)]; exact g4, by rw [o 7 (by omega) (by omega) (by omega) (by omega)]; exact g5, ?_, ?_, ?_⟩
  · intro i hi
    rw [o 8 (by omega) (by omega) (by omega) (by omega), vC_o (Or.inr (by omega))]
    exact g6 i hi
  · intro i hi
    rw [o 11 (by omega) (by omega) (by omega) (by omega), o 12 (by omega) (by omega) (by omega) (by omega), o 13 (by omega) (by omega) (by omega) (by omega), vC_o (Or.inr (by omega)), vC_o (Or.inr (by omega)), vC_o (Or.inr (by omega))]
    exact g7 i hi
  · intro i hi
    rw [h14, h15, h16, h17]
    by_cases e : i = v.2.1 2
    · rw [if_pos e, if_pos e, if_pos e, if_pos e, e, vC_s, vC_k, vC_a, vC_b]
      exact ⟨rfl, rfl, rfl, rfl⟩
    · rw [if_neg e, if_neg e, if_neg e, if_neg e, vC_o (Or.inl e), vC_o (Or.inl e), vC_o (Or.inl e), vC_o (Or.inl e)]
      exact g8 i (by omega)
theorem IM_C {σ τ : S2} (h : IM σ v) (hk : ∀ j, j ≠ 7 → j ≠ 8 → j ≠ 9 → j ≠ 10 → j ≠ 13 → j ≠ 23 → j ≠ 24 → τ.1 j = σ.1 j) (h3 : τ.1 23 0 = nI (v.2.1 2 + 1)) (h14 : ∀ j, τ.1 7 j = if j = v.2.1 2 then s else σ.1 7 j) (h15 : ∀ j, τ.1 8 j = if j = v.2.1 2 then k else σ.1 8 j) (h16 : ∀ j, τ.1 9 j = if j = v.2.1 2 then a else σ.1 9 j) (h17 : ∀ j, τ.1 10 j = if j = v.2.1 2 then b else σ.1 10 j) : IM τ (vC v s k a b) := by
  obtain ⟨⟨g1, g2, g3⟩, g4, g6, g7, g8⟩ := h
  unfold IM
  rw [vC_0, vC_1, vC_2]
  have o : ∀ j, j < 7 ∨ j = 21 ∨ j = 22 → τ.1 j = σ.1 j := fun j h => hk j (by omega) (by omega) (by omega) (by omega) (by omega) (by omega) (by omega)
  refine ⟨⟨by rw [o 21 (by omega)]; exact g1, by rw [o 22 (by omega)]; exact g2, h3⟩, by rw [o 1 (by omega)]; exact g4, ?_, ?_, ?_⟩
  · intro i hi
    rw [o 2 (by omega), vC_o (Or.inr (by omega))]
    exact g6 i hi
  · intro i hi
    rw [o 4 (by omega), o 5 (by omega), o 6 (by omega), vC_o (Or.inr (by omega)), vC_o (Or.inr (by omega)), vC_o (Or.inr (by omega))]
    exact g7 i hi
  · intro i hi
    rw [h14, h15, h16, h17]
    by_cases e : i = v.2.1 2
    · rw [if_pos e, if_pos e, if_pos e, if_pos e, e, vC_s, vC_k, vC_a, vC_b]
      exact ⟨rfl, rfl, rfl, rfl⟩
    · rw [if_neg e, if_neg e, if_neg e, if_neg e, vC_o (Or.inl e), vC_o (Or.inl e), vC_o (Or.inl e), vC_o (Or.inl e)]
      exact g8 i (by omega)
theorem IV_G (hv : IV v) {s' k' a' : Nat} (hs : s' < v.2.1 0) (hg : okG k' a') (hn : v.2.1 1 < 24) (e1 : s = nI s') (e2 : k = nI k') (e3 : a = nI a') : IV (vG v s k a) := by
  obtain ⟨g1, g2, g3, g4, g5, g6⟩ := hv
  unfold IV
  rw [vG_0, vG_1, vG_2]
  refine ⟨g1, by omega, g3, ?_, ?_, ?_⟩
  · intro i hi
    rw [vG_o (Or.inr (by omega))]
    exact g4 i hi
  · intro i hi
    by_cases e : i = v.2.1 1
    · rw [e, vG_s, vG_k, vG_a]
      exact ⟨s', k', a', hs, hg, e1, e2, e3⟩
    · rw [vG_o (Or.inl e), vG_o (Or.inl e), vG_o (Or.inl e)]
      exact g5 i (by omega)
  · intro i hi
    rw [vG_o (Or.inr (by omega)), vG_o (Or.inr (by omega)), vG_o (Or.inr (by omega)), vG_o (Or.inr (by omega))]
    exact g6 i hi
theorem IV_C (hv : IV v) {s' k' : Nat} (hs : s' < v.2.1 0) (hg : okC (v.2.1 0) k' a b) (hn : v.2.1 2 < 40) (e1 : s = nI s') (e2 : k = nI k') : IV (vC v s k a b) := by
  obtain ⟨g1, g2, g3, g4, g5, g6⟩ := hv
  unfold IV
  rw [vC_0, vC_1, vC_2]
  refine ⟨g1, g2, by omega, ?_, ?_, ?_⟩
  · intro i hi
    rw [vC_o (Or.inr (by omega))]
    exact g4 i hi
  · intro i hi
    rw [vC_o (Or.inr (by omega)), vC_o (Or.inr (by omega)), vC_o (Or.inr (by omega))]
    exact g5 i hi
  · intro i hi
    by_cases e : i = v.2.1 2
    · rw [e, vC_s, vC_k, vC_a, vC_b]
      exact ⟨s', k', hs, hg, e1, e2⟩
    · rw [vC_o (Or.inl e), vC_o (Or.inl e), vC_o (Or.inl e), vC_o (Or.inl e)]
      exact g6 i (by omega)
end VG
theorem out_ne {x : Int32} {N j : Nat} (h : x < 0 ∨ nI N ≤ x) (hj : j < N) (hN : N < 2 ^ 31) : ¬ x = nI j := by
  intro e
  subst e
  rcases h with h | h
  · exact nI_pos (by omega) h
  · exact nI_ge hj hN h
theorem isT_0 {b c : Int32} (e : b = 0) : fn_X0_isTarget b c = fn_X0_isTerm c := by unfold fn_X0_isTarget; rw [if_pos e]; rfl
theorem isT_1 {b c : Int32} (e : b = 1) : fn_X0_isTarget b c = fn_X0_isNode c := by subst e; rfl
theorem isT_2 {b c : Int32} (e : b = 2 ∨ b = 3) : fn_X0_isTarget b c = fn_X0_isPredicate c := by rcases e with e | e <;> subst e <;> rfl
theorem isT_n {b c : Int32} (h0 : ¬ b = 0) (h1 : ¬ b = 1) (h2 : ¬ b = 2) (h3 : ¬ b = 3) : fn_X0_isTarget b c = 0 := by unfold fn_X0_isTarget; rw [if_neg h0, if_neg h1, if_neg h2, if_neg h3]
theorem m_t50 {μ : S2} {a b c : Int32} : fn_X6_target_50 μ a b c = some (-1, μ) := by
  unfold fn_X6_target_50 fn_X6_target_53
  rw [if_pos rfl]
theorem op_target {σ μ : S2} {v : VT} (hv : IV v) (h : IC σ v) (hM : IM μ v) (a b c : Int32) : ∃ r σ' μ', fn_X0_target σ a b c = some (r, σ') ∧ fn_X6_target μ a b c = some (r, μ') ∧
    ((σ' = σ ∧ μ' = μ) ∨ (IV (vG v a b c) ∧ IC σ' (vG v a b c) ∧ IM μ' (vG v a b c) ∧ fr [0, 3, 11, 12, 13] σ σ' ∧ fr [4, 5, 6, 22, 24] μ μ' ∧ σ'.1 0 0 = 0 ∧ μ'.1 24 0 = 0)) := by
  unfold fn_X0_target fn_X6_target
  simp only [lt, m_t50]
  have h24 := hv.2.1
  rcases arg_shape hv.1 h.1.1 hM.1.1 a with ⟨h1, h2⟩ | ⟨s, hs, e, h1, h2⟩
  · rw [h1, h2, if_pos rfl, if_pos rfl]
    exact ⟨_, _, _, rfl, rfl, Or.inl ⟨rfl, rfl⟩⟩
  · rw [h1, h2, if_neg one_ne, if_neg one_ne]
    have go : ∀ k a', okG k a' → b = nI k → c = nI a' → ∃ r σ' μ', (if σ.1 3 0 < 24 then bn (fn_X3_add σ a b c) (fun σ7 => some ((st σ7 0 0 0).1 3 0, st σ7 0 0 0)) else some (-3, σ)) = some (r, σ') ∧ fn_X6_target_53 μ a b c 1 = some (r, μ') ∧
        ((σ' = σ ∧ μ' = μ) ∨ (IV (vG v a b c) ∧ IC σ' (vG v a b c) ∧ IM μ' (vG v a b c) ∧ fr [0, 3, 11, 12, 13] σ σ' ∧ fr [4, 5, 6, 22, 24] μ μ' ∧ σ'.1 0 0 = 0 ∧ μ'.1 24 0 = 0)) := by
      intro k a' hg eb ec
      unfold fn_X6_target_53
      rw [if_neg one_ne, h.1.2.1, hM.1.2.1]
      by_cases e24 : v.2.1 1 = 24
      · rw [e24, if_neg (show ¬ nI 24 < 24 from by decide), if_pos (show nI 24 = 24 from rfl)]
        exact ⟨_, _, _, rfl, rfl, Or.inl ⟨rfl, rfl⟩⟩
      · have hlt : v.2.1 1 < 24 := by omega
        rw [if_pos (show nI (v.2.1 1) < 24 from nI_lt (b := 24) hlt (by omega)), if_neg (show ¬ nI (v.2.1 1) = 24 from nI_ne (b := 24) (by omega) (by omega) e24)]
        unfold fn_X3_add
        rw [h.1.2.1, if_neg (show ¬ (24 : Int32) ≤ nI (v.2.1 1) from nI_ge (b := 24) hlt (by omega))]
        have hin := nI_in hlt (by omega)
        have hcl := nI_clamp (show v.2.1 1 < 2 ^ 31 by omega)
        have hin2 : ¬ (nI (v.2.1 1) < 0 ∨ 24 ≤ v.2.1 1) := fun z => z.elim (nI_pos (by omega)) (by omega)
        simp only [lt, ck, hin, hin2, if_false, hcl]
        have f1 : ∀ x, (st σ 11 (v.2.1 1) x).1 3 0 = nI (v.2.1 1) := fun x => by rw [st_ne (by omega), h.1.2.1]
        have f2 : ∀ x y, (st (st σ 11 (v.2.1 1) x) 12 (v.2.1 1) y).1 3 0 = nI (v.2.1 1) := fun x y => by rw [st_ne (by omega), f1]
        have f3 : ∀ x y z, (st (st (st σ 11 (v.2.1 1) x) 12 (v.2.1 1) y) 13 (v.2.1 1) z).1 3 0 = nI (v.2.1 1) := fun x y z => by rw [st_ne (by omega), f2]
        have k1 : ∀ x, (st μ 4 (v.2.1 1) x).1 22 0 = nI (v.2.1 1) := fun x => by rw [st_ne (by omega), hM.1.2.1]
        have k2 : ∀ x y, (st (st μ 4 (v.2.1 1) x) 5 (v.2.1 1) y).1 22 0 = nI (v.2.1 1) := fun x y => by rw [st_ne (by omega), k1]
        have k3 : ∀ x y z, (st (st (st μ 4 (v.2.1 1) x) 5 (v.2.1 1) y) 6 (v.2.1 1) z).1 22 0 = nI (v.2.1 1) := fun x y z => by rw [st_ne (by omega), k2]
        simp only [f1, f2, f3, k1, k2, k3, hin, hin2, if_false, hcl, bn, nI_1]
        refine ⟨nI (v.2.1 1 + 1), _, _, sm_eq ?_, sm_eq ?_, Or.inr ⟨?_, ?_, ?_, ?_, ?_, ?_, ?_⟩⟩
        · rw [st_ne (by omega), st_at, if_pos rfl]
        · rw [st_ne (by omega), st_at, if_pos rfl]
        · exact IV_G hv hs hg hlt e eb ec
        · refine IC_G h ?_ ?_ ?_ ?_ ?_
          · intro j j0 j3 j11 j12 j13
            rw [st_ne j0, st_ne j3, st_ne j13, st_ne j12, st_ne j11]
          · rw [st_ne (by omega), st_at, if_pos rfl]
          · intro j; rw [st_ne (by omega), st_ne (by omega), st_ne (by omega), st_ne (by omega), st_at]
          · intro j; rw [st_ne (by omega), st_ne (by omega), st_ne (by omega), st_at, st_ne (by omega)]
          · intro j; rw [st_ne (by omega), st_ne (by omega), st_at, st_ne (by omega), st_ne (by omega)]
        · refine IM_G hM ?_ ?_ ?_ ?_ ?_
          · intro j j4 j5 j6 j22 j24
            rw [st_ne j24, st_ne j22, st_ne j6, st_ne j5, st_ne j4]
          · rw [st_ne (by omega), st_at, if_pos rfl]
          · intro j; rw [st_ne (by omega), st_ne (by omega), st_ne (by omega), st_ne (by omega), st_at]
          · intro j; rw [st_ne (by omega), st_ne (by omega), st_ne (by omega), st_at, st_ne (by omega)]
          · intro j; rw [st_ne (by omega), st_ne (by omega), st_at, st_ne (by omega), st_ne (by omega)]
        · exact fr_tr (fr_st (by simp)) (fr_tr (fr_st (by simp)) (fr_tr (fr_st (by simp)) (fr_tr (fr_st (by simp)) (fr_st (by simp)))))
        · exact fr_tr (fr_st (by simp)) (fr_tr (fr_st (by simp)) (fr_tr (fr_st (by simp)) (fr_tr (fr_st (by simp)) (fr_st (by simp)))))
        · rw [st_at, if_pos rfl]
        · rw [st_at, if_pos rfl]
    rcases arg_in b (N := 4) (by omega) (by omega) with ⟨q1, q2⟩ | ⟨k, hk, eb, q1⟩
    · rw [isT_n (show ¬ b = 0 from out_ne (j := 0) q2 (by omega) (by omega)) (show ¬ b = 1 from out_ne (j := 1) q2 (by omega) (by omega)) (show ¬ b = 2 from out_ne (j := 2) q2 (by omega) (by omega)) (show ¬ b = 3 from out_ne (j := 3) q2 (by omega) (by omega)), if_pos rfl, show fn_X6_in b 0 3 = 0 from q1, if_pos rfl]
      exact ⟨_, _, _, rfl, rfl, Or.inl ⟨rfl, rfl⟩⟩
    · rw [show fn_X6_in b 0 3 = 1 from q1, if_neg one_ne]
      by_cases k0 : k = 0
      · subst k0
        rw [isT_0 (show b = 0 from eb), if_pos (show b = 0 from eb)]
        rcases arg_term c with ⟨w1, w2⟩ | ⟨j, hj, ec, w1, w2⟩
        · rw [w1, w2, if_pos rfl, if_pos rfl]
          exact ⟨_, _, _, rfl, rfl, Or.inl ⟨rfl, rfl⟩⟩
        · rw [w1, w2, if_neg one_ne, if_neg one_ne]
          exact go 0 j ⟨by omega, fun _ => hj, fun z => by omega, fun z => by omega⟩ eb ec
      · have n0 : ¬ b = 0 := by rw [eb]; exact nI_ne (b := 0) (by omega) (by omega) k0
        rw [if_neg n0]
        by_cases k1 : k = 1
        · subst k1
          rw [isT_1 (show b = 1 from eb), if_pos (show b = 1 from eb)]
          rcases arg_node c with ⟨w1, w2⟩ | ⟨j, hj, ec, w1, w2⟩
          · rw [w1, w2, if_pos rfl, if_pos rfl]
            exact ⟨_, _, _, rfl, rfl, Or.inl ⟨rfl, rfl⟩⟩
          · rw [w1, w2, if_neg one_ne, if_neg one_ne]
            exact go 1 j ⟨by omega, fun z => by omega, fun _ => hj, fun z => by omega⟩ eb ec
        · have n1 : ¬ b = 1 := by rw [eb]; exact nI_ne (b := 1) (by omega) (by omega) k1
          rw [if_neg n1]
          have k23 : b = 2 ∨ b = 3 := by
            rcases (show k = 2 ∨ k = 3 by omega) with z | z
            · left; rw [eb, z]; rfl
            · right; rw [eb, z]; rfl
          rw [isT_2 k23]
          rcases arg_pred c with ⟨w1, w2⟩ | ⟨j, hj, ec, w1, w2⟩
          · rw [w1, w2, if_pos rfl, if_pos rfl]
            exact ⟨_, _, _, rfl, rfl, Or.inl ⟨rfl, rfl⟩⟩
          · rw [w1, w2, if_neg one_ne, if_neg one_ne]
            exact go k j ⟨hk, fun z => by omega, fun z => by omega, fun _ => hj⟩ eb ec
