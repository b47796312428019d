/-! shapes, severities, targets -/
theorem sm_eq {α β : Type} {a b : α} {c : β} (h : a = b) : some (a, c) = some (b, c) := by rw [h]
def upr (r : Nat → Nat → Int32) (k i : Nat) (x : Int32) : Nat → Nat → Int32 := fun k' i' => if k' = k ∧ i' = i then x else r k' i'
theorem upr_t {r : Nat → Nat → Int32} {k i : Nat} {x : Int32} : upr r k i x k i = x := if_pos ⟨rfl, rfl⟩
theorem upr_k {r : Nat → Nat → Int32} {k i k' i' : Nat} {x : Int32} (h : k' ≠ k) : upr r k i x k' i' = r k' i' := if_neg (fun z => h z.1)
theorem upr_i {r : Nat → Nat → Int32} {k i k' i' : Nat} {x : Int32} (h : i' ≠ i) : upr r k i x k' i' = r k' i' := if_neg (fun z => h z.2)
def inc (f : Nat → Nat) (k : Nat) : Nat → Nat := fun j => if j = k then f k + 1 else f j
theorem inc_t {f : Nat → Nat} {k : Nat} : inc f k k = f k + 1 := if_pos rfl
theorem inc_f {f : Nat → Nat} {k j : Nat} (h : j ≠ k) : inc f k j = f j := if_neg h
theorem okC_mono {n m k : Nat} {a b : Int32} (h : okC n k a b) (hnm : n ≤ m) : okC m k a b := by
  obtain ⟨h0, h1, h2, h3, h4, h5, h6, h7⟩ := h
  refine ⟨h0, h1, h2, h3, h4, fun z => ?_, fun z y => ?_, h7⟩
  · obtain ⟨j, q1, q2⟩ := h5 z; exact ⟨j, by omega, q2⟩
  · obtain ⟨j, q1, q2⟩ := h6 z y; exact ⟨j, by omega, q2⟩
theorem pathArg {x : Int32} : (x < -1 ∧ fn_X6_in x (-1) 15 = 0) ∨ (¬ x < -1 ∧ ¬ x < 16 ∧ fn_X6_in x (-1) 15 = 0) ∨ (¬ x < -1 ∧ x < 16 ∧ fn_X6_in x (-1) 15 = 1 ∧ (x = -1 ∨ ∃ q, q < 16 ∧ x = nI q)) := by
  unfold fn_X6_in
  by_cases h1 : x < -1
  · exact Or.inl ⟨h1, if_pos h1⟩
  · rw [if_neg h1]
    have e1 : (-1 : Int32).toInt = -1 := by decide
    have e2 : (16 : Int32).toInt = 16 := by decide
    have e3 : (15 : Int32).toInt = 15 := by decide
    rw [Int32.lt_iff_toInt_lt, e1] at h1
    by_cases h2 : x < 16
    · right; right
      have h3 : ¬ (15 : Int32) < x := by
        rw [Int32.lt_iff_toInt_lt, e3]
        rw [Int32.lt_iff_toInt_lt, e2] at h2
        omega
      refine ⟨by rw [Int32.lt_iff_toInt_lt, e1]; exact h1, h2, if_neg h3, ?_⟩
      by_cases h4 : x < 0
      · left
        apply Int32.toInt_inj.mp
        rw [e1]
        rw [Int32.lt_iff_toInt_lt, Int32.toInt_zero] at h4
        omega
      · right
        obtain ⟨j, hj, e⟩ := nI_of h4
        subst e
        exact ⟨j, (nI_ltI hj (b := 16) (by omega)).mp h2, rfl⟩
    · right; left
      refine ⟨by rw [Int32.lt_iff_toInt_lt, e1]; exact h1, h2, if_pos ?_⟩
      rw [Int32.lt_iff_toInt_lt, e3]
      rw [Int32.lt_iff_toInt_lt, e2] at h2
      omega
theorem op_shape {σ μ : S2} {v : VT} (hv : IV v) (h : IC σ v) (hM : IM μ v) (a : Int32) : ∃ r σ' μ', fn_X0_shape σ a = some (r, σ') ∧ fn_X6_shape μ a = some (r, μ') ∧
    ((σ' = σ ∧ μ' = μ) ∨ (v.2.1 0 < 12 ∧ IV (v.1, inc v.2.1 0, upr v.2.2 0 (v.2.1 0) a) ∧ IC σ' (v.1, inc v.2.1 0, upr v.2.2 0 (v.2.1 0) a) ∧ IM μ' (v.1, inc v.2.1 0, upr v.2.2 0 (v.2.1 0) a) ∧ fr [0, 2, 8, 9] σ σ' ∧ fr [2, 3, 21, 24] μ μ' ∧ (∀ j, σ'.1 9 j = if j = v.2.1 0 then 2 else σ.1 9 j) ∧ (∀ j, μ'.1 3 j = if j = v.2.1 0 then 2 else μ.1 3 j) ∧ σ'.1 0 0 = 0 ∧ μ'.1 24 0 = 0)) := by
  unfold fn_X0_shape fn_X6_shape
  simp only [lt]
  have h12 := hv.1
  rcases pathArg (x := a) with ⟨h1, h2⟩ | ⟨h1, h2, h3⟩ | ⟨h1, h2, h3, h4⟩
  · rw [if_pos h1, h2, if_pos rfl]
    exact ⟨_, _, _, rfl, rfl, Or.inl ⟨rfl, rfl⟩⟩
  · rw [if_neg h1, if_neg h2, h3, if_pos rfl]
    exact ⟨_, _, _, rfl, rfl, Or.inl ⟨rfl, rfl⟩⟩
  · rw [if_neg h1, if_pos h2, h3, if_neg one_ne, h.1.1, hM.1.1]
    by_cases e : v.2.1 0 = 12
    · rw [e, if_neg (show ¬ nI 12 < 12 from by decide), if_pos (show nI 12 = 12 from rfl)]
      exact ⟨_, _, _, rfl, rfl, Or.inl ⟨rfl, rfl⟩⟩
    · rw [if_pos (show nI (v.2.1 0) < 12 from nI_lt (b := 12) (by omega) (by omega)), if_neg (show ¬ nI (v.2.1 0) = 12 from nI_ne (b := 12) (by omega) (by omega) e)]
      unfold fn_X2_add
      simp only [lt]
      have hin := nI_in (show v.2.1 0 < 12 by omega) (by omega)
      have e0 : (st σ 0 0 0).1 2 0 = nI (v.2.1 0) := by rw [st_ne (by omega), h.1.1]
      have e1 : (st μ 2 (v.2.1 0) a).1 21 0 = nI (v.2.1 0) := by rw [st_ne (by omega), hM.1.1]
      rw [e0, if_neg (show ¬ (12 : Int32) ≤ nI (v.2.1 0) from nI_ge (b := 12) (by omega) (by omega)), nI_clamp (show v.2.1 0 < 2 ^ 31 by omega)]
      simp only [ck, hin, if_false, e1]
      rw [nI_clamp (show v.2.1 0 < 2 ^ 31 by omega)]
      simp only [bn2]
      refine ⟨nI (v.2.1 0), _, _, rfl, sm_eq ?_, Or.inr ⟨by omega, ?_, ?_, ?_, ?_, ?_, ?_, ?_, ?_, ?_⟩⟩
      · rw [st_ne (show (21 : Nat) ≠ 24 by omega), st_at, if_pos rfl, st_ne (show (21 : Nat) ≠ 3 by omega), st_ne (show (21 : Nat) ≠ 2 by omega), hM.1.1, nI_1, show nI (v.2.1 0 + 1) - 1 = nI (v.2.1 0) from nI_pred _]
      · refine ⟨?_, ?_, ?_, ?_, ?_, ?_⟩
        · show inc v.2.1 0 0 ≤ 12; rw [inc_t]; omega
        · show inc v.2.1 0 1 ≤ 24; rw [inc_f (by omega)]; exact hv.2.1
        · show inc v.2.1 0 2 ≤ 40; rw [inc_f (by omega)]; exact hv.2.2.1
        · intro i hi
          have hi : i < inc v.2.1 0 0 := hi
          rw [inc_t] at hi
          show upr v.2.2 0 (v.2.1 0) a 0 i = -1 ∨ ∃ q, q < 16 ∧ upr v.2.2 0 (v.2.1 0) a 0 i = nI q
          by_cases z : i = v.2.1 0
          · rw [z, upr_t]; exact h4
          · rw [upr_i z]; exact hv.2.2.2.1 i (by omega)
        · intro i hi
          have hi : i < inc v.2.1 0 1 := hi
          rw [inc_f (by omega)] at hi
          obtain ⟨s, k, b, q1, q2, q3, q4, q5⟩ := hv.2.2.2.2.1 i hi
          refine ⟨s, k, b, ?_, q2, ?_, ?_, ?_⟩
          · show s < inc v.2.1 0 0; rw [inc_t]; omega
          · show upr v.2.2 0 (v.2.1 0) a 1 i = nI s; rw [upr_k (by omega)]; exact q3
          · show upr v.2.2 0 (v.2.1 0) a 2 i = nI k; rw [upr_k (by omega)]; exact q4
          · show upr v.2.2 0 (v.2.1 0) a 3 i = nI b; rw [upr_k (by omega)]; exact q5
        · intro i hi
          have hi : i < inc v.2.1 0 2 := hi
          rw [inc_f (by omega)] at hi
          obtain ⟨s, k, q1, q2, q3, q4⟩ := hv.2.2.2.2.2 i hi
          refine ⟨s, k, ?_, ?_, ?_, ?_⟩
          · show s < inc v.2.1 0 0; rw [inc_t]; omega
          · show okC (inc v.2.1 0 0) k (upr v.2.2 0 (v.2.1 0) a 6 i) (upr v.2.2 0 (v.2.1 0) a 7 i)
            rw [inc_t, upr_k (by omega), upr_k (by omega)]
            exact okC_mono q2 (by omega)
          · show upr v.2.2 0 (v.2.1 0) a 4 i = nI s; rw [upr_k (by omega)]; exact q3
          · show upr v.2.2 0 (v.2.1 0) a 5 i = nI k; rw [upr_k (by omega)]; exact q4
      · refine ⟨⟨?_, ?_, ?_⟩, ?_, ?_, ?_, ?_, ?_⟩
        · rw [st_at, if_pos rfl, st_ne (by omega), st_ne (by omega), e0, nI_1]
          show _ = nI (inc v.2.1 0 0); rw [inc_t]
        · rw [st_ne (by omega), st_ne (by omega), st_ne (by omega), st_ne (by omega), h.1.2.1]
          show _ = nI (inc v.2.1 0 1); rw [inc_f (by omega)]
        · rw [st_ne (by omega), st_ne (by omega), st_ne (by omega), st_ne (by omega), h.1.2.2]
          show _ = nI (inc v.2.1 0 2); rw [inc_f (by omega)]
        · intro s p o hs hp ho
          rw [st_ne (by omega), st_ne (by omega), st_ne (by omega), st_ne (by omega)]
          exact h.2.1 s p o hs hp ho
        · intro s p o hs hp ho
          rw [st_ne (by omega), st_ne (by omega), st_ne (by omega), st_ne (by omega)]
          exact h.2.2.1 s p o hs hp ho
        · intro i hi
          have hi : i < inc v.2.1 0 0 := hi
          rw [inc_t] at hi
          rw [st_ne (by omega), st_ne (by omega), st_at, st_ne (by omega)]
          show _ = upr v.2.2 0 (v.2.1 0) a 0 i
          by_cases z : i = v.2.1 0
          · rw [if_pos z, z, upr_t]
          · rw [if_neg z, upr_i z]; exact h.2.2.2.1 i (by omega)
        · intro i hi
          have hi : i < inc v.2.1 0 1 := hi
          rw [inc_f (by omega)] at hi
          rw [st_ne (by omega), st_ne (by omega), st_ne (by omega), st_ne (by omega), st_ne (by omega), st_ne (by omega), st_ne (by omega), st_ne (by omega), st_ne (by omega), st_ne (by omega), st_ne (by omega), st_ne (by omega)]
          show _ = upr v.2.2 0 (v.2.1 0) a 1 i ∧ _ = upr v.2.2 0 (v.2.1 0) a 2 i ∧ _ = upr v.2.2 0 (v.2.1 0) a 3 i
          rw [upr_k (by omega), upr_k (by omega), upr_k (by omega)]
          exact h.2.2.2.2.1 i hi
        · intro i hi
          have hi : i < inc v.2.1 0 2 := hi
          rw [inc_f (by omega)] at hi
          rw [st_ne (by omega), st_ne (by omega), st_ne (by omega), st_ne (by omega), st_ne (by omega), st_ne (by omega), st_ne (by omega), st_ne (by omega), st_ne (by omega), st_ne (by omega), st_ne (by omega), st_ne (by omega), st_ne (by omega), st_ne (by omega), st_ne (by omega), st_ne (by omega)]
          show _ = upr v.2.2 0 (v.2.1 0) a 4 i ∧ _ = upr v.2.2 0 (v.2.1 0) a 5 i ∧ _ = upr v.2.2 0 (v.2.1 0) a 6 i ∧ _ = upr v.2.2 0 (v.2.1 0) a 7 i
          rw [upr_k (by omega), upr_k (by omega), upr_k (by omega), upr_k (by omega)]
          exact h.2.2.2.2.2 i hi
      · refine ⟨⟨?_, ?_, ?_⟩, ?_, ?_, ?_, ?_⟩
        · rw [st_ne (by omega), st_at, if_pos rfl, st_ne (by omega), st_ne (by omega), hM.1.1, nI_1]
          show _ = nI (inc v.2.1 0 0); rw [inc_t]
        · rw [st_ne (by omega), st_ne (by omega), st_ne (by omega), st_ne (by omega), hM.1.2.1]
          show _ = nI (inc v.2.1 0 1); rw [inc_f (by omega)]
        · rw [st_ne (by omega), st_ne (by omega), st_ne (by omega), st_ne (by omega), hM.1.2.2]
          show _ = nI (inc v.2.1 0 2); rw [inc_f (by omega)]
        · intro s p o hs hp ho
          rw [st_ne (by omega), st_ne (by omega), st_ne (by omega), st_ne (by omega)]
          exact hM.2.1 s p o hs hp ho
        · intro i hi
          have hi : i < inc v.2.1 0 0 := hi
          rw [inc_t] at hi
          rw [st_ne (by omega), st_ne (by omega), st_ne (by omega), st_at]
          show _ = upr v.2.2 0 (v.2.1 0) a 0 i
          by_cases z : i = v.2.1 0
          · rw [if_pos z, z, upr_t]
          · rw [if_neg z, upr_i z]; exact hM.2.2.1 i (by omega)
        · intro i hi
          have hi : i < inc v.2.1 0 1 := hi
          rw [inc_f (by omega)] at hi
          rw [st_ne (by omega), st_ne (by omega), st_ne (by omega), st_ne (by omega), st_ne (by omega), st_ne (by omega), st_ne (by omega), st_ne (by omega), st_ne (by omega), st_ne (by omega), st_ne (by omega), st_ne (by omega)]
          show _ = upr v.2.2 0 (v.2.1 0) a 1 i ∧ _ = upr v.2.2 0 (v.2.1 0) a 2 i ∧ _ = upr v.2.2 0 (v.2.1 0) a 3 i
          rw [upr_k (by omega), upr_k (by omega), upr_k (by omega)]
          exact hM.2.2.2.1 i hi
        · intro i hi
          have hi : i < inc v.2.1 0 2 := hi
          rw [inc_f (by omega)] at hi
          rw [st_ne (by omega), st_ne (by omega), st_ne (by omega), st_ne (by omega), st_ne (by omega), st_ne (by omega), st_ne (by omega), st_ne (by omega), st_ne (by omega), st_ne (by omega), st_ne (by omega), st_ne (by omega), st_ne (by omega), st_ne (by omega), st_ne (by omega), st_ne (by omega)]
          show _ = upr v.2.2 0 (v.2.1 0) a 4 i ∧ _ = upr v.2.2 0 (v.2.1 0) a 5 i ∧ _ = upr v.2.2 0 (v.2.1 0) a 6 i ∧ _ = upr v.2.2 0 (v.2.1 0) a 7 i
          rw [upr_k (by omega), upr_k (by omega), upr_k (by omega), upr_k (by omega)]
          exact hM.2.2.2.2 i hi
      · exact fr_tr (fr_st (by simp)) (fr_tr (fr_st (by simp)) (fr_tr (fr_st (by simp)) (fr_st (by simp))))
      · exact fr_tr (fr_st (by simp)) (fr_tr (fr_st (by simp)) (fr_tr (fr_st (by simp)) (fr_st (by simp))))
      · intro j
        rw [st_ne (by omega), st_at, st_ne (by omega), st_ne (by omega)]
      · intro j
        rw [st_ne (by omega), st_ne (by omega), st_at, st_ne (by omega)]
      · rw [st_ne (by omega), st_ne (by omega), st_ne (by omega), st_at, if_pos rfl]
      · rw [st_at, if_pos rfl]
theorem op_severity {σ μ : S2} {v : VT} (hv : IV v) (h : IC σ v) (hM : IM μ v) (hs : ∀ i, i < v.2.1 0 → σ.1 9 i = μ.1 3 i) (a b : Int32) : ∃ r σ' μ', fn_X0_severity σ a b = some (r, σ') ∧ fn_X6_severity μ a b = some (r, μ') ∧ fr [9] σ σ' ∧ fr [3] μ μ' ∧ σ'.2 = σ.2 ∧ (∀ i, i < v.2.1 0 → σ'.1 9 i = μ'.1 3 i) := by
  unfold fn_X0_severity fn_X6_severity
  simp only [lt]
  have h12 := hv.1
  rcases arg_shape hv.1 h.1.1 hM.1.1 a with ⟨h1, h2⟩ | ⟨s, hsn, e, h1, h2⟩
  · rw [h1, h2, if_pos rfl, if_pos rfl]
    exact ⟨_, _, _, rfl, rfl, fr_rf, fr_rf, rfl, hs⟩
  · rw [h1, h2, if_neg one_ne, if_neg one_ne, show fn_X0_isBetween b 0 2 = fn_X6_in b 0 2 from rfl]
    by_cases q : fn_X6_in b 0 2 = 0
    · rw [if_pos q, if_pos q]
      exact ⟨_, _, _, rfl, rfl, fr_rf, fr_rf, rfl, hs⟩
    · rw [if_neg q, if_neg q]
      subst e
      unfold fn_X2_severityOf
      simp only [lt]
      rw [h1, if_neg one_ne]
      simp only [ck, nI_in (show s < 12 by omega) (by omega), if_false, bn]
      rw [nI_clamp (by omega), hs s hsn]
      by_cases z : μ.1 3 s = b
      · rw [if_pos z, if_pos z]
        refine ⟨_, _, _, rfl, rfl, fr_rf, fr_st (by simp), rfl, fun i hi => ?_⟩
        rw [st_at]
        by_cases y : i = s
        · rw [if_pos y, y, hs s hsn, z]
        · rw [if_neg y, hs i hi]
      · rw [if_neg z, if_neg z]
        refine ⟨_, _, _, rfl, rfl, fr_st (by simp), fr_st (by simp), rfl, fun i hi => ?_⟩
        rw [st_at, st_at]
        by_cases y : i = s
        · rw [if_pos y, if_pos y]
        · rw [if_neg y, if_neg y, hs i hi]
