/-! a constraint's numbers -/
theorem arg_0_255 (x : Int32) : (fn_X0_isBetween x 0 255 = 0 ∧ fn_X6_in x 0 255 = 0) ∨ ∃ j, j < 256 ∧ x = nI j ∧ fn_X0_isBetween x 0 255 = 1 ∧ fn_X6_in x 0 255 = 1 := by
  rcases arg_in x (N := 256) (by omega) (by omega) with ⟨h1, h2⟩ | ⟨j, h1, h2, h3⟩
  · exact Or.inl ⟨h1, h1⟩
  · exact Or.inr ⟨j, h1, h2, h3, h3⟩
theorem arg_0_3 (x : Int32) : (fn_X0_isBetween x 0 3 = 0 ∧ fn_X6_in x 0 3 = 0) ∨ ∃ j, j < 4 ∧ x = nI j ∧ fn_X0_isBetween x 0 3 = 1 ∧ fn_X6_in x 0 3 = 1 := by
  rcases arg_in x (N := 4) (by omega) (by omega) with ⟨h1, h2⟩ | ⟨j, h1, h2, h3⟩
  · exact Or.inl ⟨h1, h1⟩
  · exact Or.inr ⟨j, h1, h2, h3, h3⟩
theorem okC_low {n k : Nat} {a b : Int32} (h : k < 18) (h0 : k = 0 → ∃ j, j < 20 ∧ a = nI j) (h1 : k = 1 → ∃ j, j < 4 ∧ a = nI j) (h5 : k = 5 → ∃ j, j < 32 ∧ a = nI j) (h6 : 6 ≤ k → k ≤ 8 → ∃ j, j < 8 ∧ a = nI j) (hk : k < 11) : okC n k a b :=
  ⟨h, h0, h1, h5, h6, fun z => by omega, fun z => by omega, fun z => by omega⟩
/-- either both refuse, or the numbers are good -/
def CE (σ μ : S2) (n : Nat) (k : Nat) (a b : Int32) : Prop := (fn_X0_isConstraint σ (nI k) a b = 0 ∧ fn_X6_isConstraint μ (nI k) a b = 0) ∨ (fn_X0_isConstraint σ (nI k) a b = 1 ∧ fn_X6_isConstraint μ (nI k) a b = 1 ∧ okC n k a b)
section CEV
variable {σ μ : S2} {n : Nat}
theorem ce_0 (a b : Int32) : CE σ μ n 0 a b := by
  have e1 : fn_X0_isConstraint σ (nI 0) a b = fn_X0_isNode a := rfl
  have e2 : fn_X6_isConstraint μ (nI 0) a b = fn_X6_in a 0 19 := rfl
  unfold CE
  rw [e1, e2]
  rcases arg_node a with ⟨q1, q2⟩ | ⟨j, hj, e, q1, q2⟩
  · exact Or.inl ⟨q1, q2⟩
  · exact Or.inr ⟨q1, q2, okC_low (by omega) (fun _ => ⟨j, hj, e⟩) (fun z => by omega) (fun z => by omega) (fun z => by omega) (by omega)⟩
theorem ce_1 (a b : Int32) : CE σ μ n 1 a b := by
  have e1 : fn_X0_isConstraint σ (nI 1) a b = fn_X0_isBetween a 0 3 := rfl
  have e2 : fn_X6_isConstraint μ (nI 1) a b = fn_X6_in a 0 3 := rfl
  unfold CE
  rw [e1, e2]
  rcases arg_0_3 a with ⟨q1, q2⟩ | ⟨j, hj, e, q1, q2⟩
  · exact Or.inl ⟨q1, q2⟩
  · exact Or.inr ⟨q1, q2, okC_low (by omega) (fun z => by omega) (fun _ => ⟨j, hj, e⟩) (fun z => by omega) (fun z => by omega) (by omega)⟩
theorem ce_2 (a b : Int32) : CE σ μ n 2 a b := by
  have e1 : fn_X0_isConstraint σ (nI 2) a b = if a < 0 then 0 else if b < 0 then 0 else 1 := by
    unfold fn_X0_isConstraint fn_X0_isConstraint_20 fn_X0_isConstraint_40
    simp only [lt]
    rw [show fn_X0_namesShapeByA (nI 2) = 0 from rfl, if_pos rfl, show fn_X0_namesShapeByB (nI 2) = 0 from rfl, if_pos rfl, if_neg (show ¬ nI 2 = 0 from by decide), if_neg (show ¬ nI 2 = 1 from by decide), if_pos (show nI 2 = 2 from rfl)]
  have e2 : fn_X6_isConstraint μ (nI 2) a b = if a < 0 then 0 else if b < 0 then 0 else 1 := by
    unfold fn_X6_isConstraint
    rw [if_neg (show ¬ nI 2 = 0 from by decide), if_neg (show ¬ nI 2 = 1 from by decide), if_pos (show nI 2 = 2 from rfl)]
  unfold CE
  rw [e1, e2]
  by_cases q : a < 0
  · rw [if_pos q]; exact Or.inl ⟨rfl, rfl⟩
  · rw [if_neg q]
    by_cases q2 : b < 0
    · rw [if_pos q2]; exact Or.inl ⟨rfl, rfl⟩
    · rw [if_neg q2]
      exact Or.inr ⟨rfl, rfl, okC_low (by omega) (fun z => by omega) (fun z => by omega) (fun z => by omega) (fun z => by omega) (by omega)⟩
theorem ce_5 (a b : Int32) : CE σ μ n 5 a b := by
  have e1 : fn_X0_isConstraint σ (nI 5) a b = fn_X0_isTerm a := rfl
  have e2 : fn_X6_isConstraint μ (nI 5) a b = fn_X6_in a 0 31 := rfl
  unfold CE
  rw [e1, e2]
  rcases arg_term a with ⟨q1, q2⟩ | ⟨j, hj, e, q1, q2⟩
  · exact Or.inl ⟨q1, q2⟩
  · exact Or.inr ⟨q1, q2, okC_low (by omega) (fun z => by omega) (fun z => by omega) (fun _ => ⟨j, hj, e⟩) (fun z => by omega) (by omega)⟩
theorem ce_6 (a b : Int32) {k : Nat} (hk : k = 6 ∨ k = 7 ∨ k = 8) : CE σ μ n k a b := by
  have e1 : fn_X0_isConstraint σ (nI k) a b = fn_X0_isPredicate a := by rcases hk with e | e | e <;> subst e <;> rfl
  have e2 : fn_X6_isConstraint μ (nI k) a b = fn_X6_in a 0 7 := by rcases hk with e | e | e <;> subst e <;> rfl
  unfold CE
  rw [e1, e2]
  rcases arg_pred a with ⟨q1, q2⟩ | ⟨j, hj, e, q1, q2⟩
  · exact Or.inl ⟨q1, q2⟩
  · exact Or.inr ⟨q1, q2, okC_low (by omega) (fun z => by omega) (fun z => by omega) (fun z => by omega) (fun _ _ => ⟨j, hj, e⟩) (by omega)⟩
theorem ce_f (a b : Int32) {k : Nat} (hk : k = 3 ∨ k = 4 ∨ k = 9 ∨ k = 10) : CE σ μ n k a b := by
  have e1 : fn_X0_isConstraint σ (nI k) a b = 1 := by rcases hk with e | e | e | e <;> subst e <;> rfl
  have e2 : fn_X6_isConstraint μ (nI k) a b = 1 := by rcases hk with e | e | e | e <;> subst e <;> rfl
  exact Or.inr ⟨e1, e2, okC_low (by omega) (fun z => by omega) (fun z => by omega) (fun z => by omega) (fun z => by omega) (by omega)⟩
theorem ce_11 (hn : n ≤ 12) (h1 : σ.1 2 0 = nI n) (h2 : μ.1 21 0 = nI n) (a b : Int32) {k : Nat} (hk : k = 11 ∨ k = 15 ∨ k = 16) : CE σ μ n k a b := by
  have e1 : fn_X0_isConstraint σ (nI k) a b = if fn_X2_has σ a = 0 then 0 else 1 := by rcases hk with e | e | e <;> subst e <;> rfl
  have e2 : fn_X6_isConstraint μ (nI k) a b = if fn_X6_isShape μ a = 0 then 0 else 1 := by rcases hk with e | e | e <;> subst e <;> rfl
  unfold CE
  rw [e1, e2]
  rcases arg_shape hn h1 h2 a with ⟨q1, q2⟩ | ⟨j, hj, e, q1, q2⟩
  · rw [q1, q2]; exact Or.inl ⟨rfl, rfl⟩
  · rw [q1, q2]
    exact Or.inr ⟨rfl, rfl, by omega, fun z => by omega, fun z => by omega, fun z => by omega, fun z => by omega, fun _ => ⟨j, hj, e⟩, fun z => by omega, fun z => by omega⟩
theorem ce_12 (hn : n ≤ 12) (h1 : σ.1 2 0 = nI n) (h2 : μ.1 21 0 = nI n) (a b : Int32) {k : Nat} (hk : k = 12 ∨ k = 13 ∨ k = 14) : CE σ μ n k a b := by
  have e1 : fn_X0_isConstraint σ (nI k) a b = if fn_X2_has σ a = 0 then 0 else if fn_X2_has σ b = 0 then 0 else 1 := by
    have f1 : fn_X0_namesShapeByA (nI k) = 1 := by rcases hk with e | e | e <;> subst e <;> rfl
    have f2 : fn_X0_namesShapeByB (nI k) = 1 := by rcases hk with e | e | e <;> subst e <;> rfl
    have f3 : fn_X0_isConstraint_40 σ (nI k) a b = 1 := by rcases hk with e | e | e <;> subst e <;> rfl
    unfold fn_X0_isConstraint fn_X0_isConstraint_20
    simp only [lt]
    rw [f1, if_neg one_ne, f2, if_neg one_ne, f3]
  have e2 : fn_X6_isConstraint μ (nI k) a b = if fn_X6_isShape μ a = 0 then 0 else if fn_X6_isShape μ b = 0 then 0 else 1 := by
    rcases hk with e | e | e
    · subst e
      unfold fn_X6_isConstraint
      simp only [lt]
      rw [if_neg (show ¬ nI 12 = 0 from by decide), if_neg (show ¬ nI 12 = 1 from by decide), if_neg (show ¬ nI 12 = 2 from by decide), if_neg (show ¬ nI 12 = 5 from by decide), if_neg (show ¬ nI 12 = 6 from by decide), if_neg (show ¬ nI 12 = 7 from by decide), if_neg (show ¬ nI 12 = 8 from by decide), if_pos (show nI 12 = 12 from rfl)]
    · subst e
      unfold fn_X6_isConstraint
      simp only [lt]
      rw [if_neg (show ¬ nI 13 = 0 from by decide), if_neg (show ¬ nI 13 = 1 from by decide), if_neg (show ¬ nI 13 = 2 from by decide), if_neg (show ¬ nI 13 = 5 from by decide), if_neg (show ¬ nI 13 = 6 from by decide), if_neg (show ¬ nI 13 = 7 from by decide), if_neg (show ¬ nI 13 = 8 from by decide), if_neg (show ¬ nI 13 = 12 from by decide), if_pos (show nI 13 = 13 from rfl)]
    · subst e
      unfold fn_X6_isConstraint
      simp only [lt]
      rw [if_neg (show ¬ nI 14 = 0 from by decide), if_neg (show ¬ nI 14 = 1 from by decide), if_neg (show ¬ nI 14 = 2 from by decide), if_neg (show ¬ nI 14 = 5 from by decide), if_neg (show ¬ nI 14 = 6 from by decide), if_neg (show ¬ nI 14 = 7 from by decide), if_neg (show ¬ nI 14 = 8 from by decide), if_neg (show ¬ nI 14 = 12 from by decide), if_neg (show ¬ nI 14 = 13 from by decide), if_pos (show nI 14 = 14 from rfl)]
  unfold CE
  rw [e1, e2]
  rcases arg_shape hn h1 h2 a with ⟨q1, q2⟩ | ⟨j, hj, e, q1, q2⟩
  · rw [q1, q2]; exact Or.inl ⟨rfl, rfl⟩
  · rw [q1, q2, if_neg one_ne, if_neg one_ne]
    rcases arg_shape hn h1 h2 b with ⟨q3, q4⟩ | ⟨i, hi, e', q3, q4⟩
    · rw [q3, q4]; exact Or.inl ⟨rfl, rfl⟩
    · rw [q3, q4]
      exact Or.inr ⟨rfl, rfl, by omega, fun z => by omega, fun z => by omega, fun z => by omega, fun z => by omega, fun _ => ⟨j, hj, e⟩, fun _ _ => ⟨i, hi, e'⟩, fun z => by omega⟩
theorem ce_17 (hn : n ≤ 12) (h1 : σ.1 2 0 = nI n) (h2 : μ.1 21 0 = nI n) (a b : Int32) : CE σ μ n 17 a b := by
  have e1 : fn_X0_isConstraint σ (nI 17) a b = if fn_X2_has σ a = 0 then 0 else fn_X0_isBetween b 0 255 := by
    unfold fn_X0_isConstraint fn_X0_isConstraint_20 fn_X0_isConstraint_40
    simp only [lt]
    rw [show fn_X0_namesShapeByA (nI 17) = 1 from rfl, if_neg one_ne, show fn_X0_namesShapeByB (nI 17) = 0 from rfl, if_pos rfl, if_neg (show ¬ nI 17 = 0 from by decide), if_neg (show ¬ nI 17 = 1 from by decide), if_neg (show ¬ nI 17 = 2 from by decide), if_neg (show ¬ nI 17 = 5 from by decide), if_neg (show ¬ nI 17 = 6 from by decide), if_neg (show ¬ nI 17 = 7 from by decide), if_neg (show ¬ nI 17 = 8 from by decide), if_pos (show nI 17 = 17 from rfl)]
  have e2 : fn_X6_isConstraint μ (nI 17) a b = if fn_X6_isShape μ a = 0 then 0 else if fn_X6_in b 0 255 = 0 then 0 else 1 := by
    unfold fn_X6_isConstraint
    simp only [lt]
    rw [if_neg (show ¬ nI 17 = 0 from by decide), if_neg (show ¬ nI 17 = 1 from by decide), if_neg (show ¬ nI 17 = 2 from by decide), if_neg (show ¬ nI 17 = 5 from by decide), if_neg (show ¬ nI 17 = 6 from by decide), if_neg (show ¬ nI 17 = 7 from by decide), if_neg (show ¬ nI 17 = 8 from by decide), if_neg (show ¬ nI 17 = 12 from by decide), if_neg (show ¬ nI 17 = 13 from by decide), if_neg (show ¬ nI 17 = 14 from by decide), if_pos (show nI 17 = 17 from rfl)]
  unfold CE
  rw [e1, e2]
  rcases arg_shape hn h1 h2 a with ⟨q1, q2⟩ | ⟨j, hj, e, q1, q2⟩
  · rw [q1, q2]; exact Or.inl ⟨rfl, rfl⟩
  · rw [q1, q2, if_neg one_ne, if_neg one_ne]
    rcases arg_0_255 b with ⟨q3, q4⟩ | ⟨i, hi, e', q3, q4⟩
    · rw [q3, q4]; exact Or.inl ⟨rfl, rfl⟩
    · rw [q3, q4]
      exact Or.inr ⟨rfl, rfl, by omega, fun z => by omega, fun z => by omega, fun z => by omega, fun z => by omega, fun _ => ⟨j, hj, e⟩, fun z => by omega, fun _ => ⟨i, hi, e'⟩⟩
theorem ce_all (hn : n ≤ 12) (h1 : σ.1 2 0 = nI n) (h2 : μ.1 21 0 = nI n) (a b : Int32) {k : Nat} (hk : k < 18) : CE σ μ n k a b := by
  rcases (show k = 0 ∨ k = 1 ∨ k = 2 ∨ k = 5 ∨ k = 17 ∨ (k = 6 ∨ k = 7 ∨ k = 8) ∨ (k = 3 ∨ k = 4 ∨ k = 9 ∨ k = 10) ∨ (k = 11 ∨ k = 15 ∨ k = 16) ∨ (k = 12 ∨ k = 13 ∨ k = 14) by omega) with e | e | e | e | e | e | e | e | e
  · subst e; exact ce_0 a b
  · subst e; exact ce_1 a b
  · subst e; exact ce_2 a b
  · subst e; exact ce_5 a b
  · subst e; exact ce_17 hn h1 h2 a b
  · exact ce_6 a b e
  · exact ce_f a b e
  · exact ce_11 hn h1 h2 a b e
  · exact ce_12 hn h1 h2 a b e
end CEV
