/-! the two stand alike -/
theorem wp_eq {α : Type} {o : Option α} {x : α} (h : wp o (fun q => q = x)) : o = some x := by
  obtain ⟨r, h1, h2⟩ := h
  rw [h1, h2]
def RV (v : VT) (σ μ : S2) : Prop := IV v ∧ IC σ v ∧ IM μ v ∧ TC σ μ ∧ (∀ i, i < v.2.1 0 → σ.1 9 i = μ.1 3 i) ∧ FUR σ v ∧ (σ.1 0 0 = 0 ∨ (σ.1 0 0 = 1 ∧ GC σ v)) ∧ (μ.1 24 0 = 0 ∨ (μ.1 24 0 = 1 ∧ GM μ v))
def Rel (σ μ : S2) : Prop := ∃ v, RV v σ μ
theorem FUR_fr {σ τ : S2} {v : VT} (h : FUR σ v) (e : τ.1 10 = σ.1 10) : FUR τ v := by
  unfold FUR gr at h ⊢
  rw [e]; exact h
theorem TC_fr {σ τ μ ν : S2} (h : TC σ μ) (e1 : τ.1 1 = σ.1 1) (e2 : ν.1 20 = μ.1 20) (e3 : ν.1 1 = μ.1 1) : TC τ ν := by
  unfold TC
  rw [e1, e2, e3]; exact h
theorem GM_fr {μ τ : S2} {v : VT} {K : List Nat} (h : GM μ v) (hf : fr K μ τ) (hK : 11 ∉ K ∧ 17 ∉ K ∧ 25 ∉ K ∧ 26 ∉ K) : GM τ v := ⟨STM_fr h.1 hf hK.2, fun u hu => S11L (h.2 u hu) hf hK.1⟩
theorem GC_fr {σ τ : S2} {v : VT} (h : GC σ v) (e5 : τ.1 5 = σ.1 5) (e19 : τ.1 19 = σ.1 19) (e21 : τ.1 21 = σ.1 21) (e22 : τ.1 22 = σ.1 22) (e23 : τ.1 23 = σ.1 23) (e24 : τ.1 24 = σ.1 24) : GC τ v := by
  unfold GC STC
  rw [e5, e19, e21, e22, e23, e24]; exact h
theorem RV_m {v : VT} {σ μ μ' : S2} (h : RV v σ μ) (hf : fr [13, 14] μ μ') : RV v σ μ' := by
  obtain ⟨h1, h2, h3, h4, h5, h6, h7, h8⟩ := h
  refine ⟨h1, h2, IMS h3 hf (fun k hk => by simp at hk; omega), TC_fr h4 rfl (hf 20 (by simp)) (hf 1 (by simp)), ?_, h6, h7, ?_⟩
  · rw [hf 3 (by simp)]; exact h5
  · rw [hf 24 (by simp)]
    exact h8.imp id (fun z => ⟨z.1, GM_fr z.2 hf (by simp)⟩)
theorem EDGE_2 {v w : VT} (e : w.2 = v.2) : EDGE w = EDGE v := by
  funext s u
  unfold EDGE ED
  rw [e]
theorem FUR_w {σ σ' : S2} {v w : VT} (h : FUR σ v) (e10 : σ'.1 10 = σ.1 10) (e0 : w.2.1 0 = v.2.1 0) (eE : EDGE w = EDGE v) : FUR σ' w := by
  unfold FUR gr at h ⊢
  rw [e10, e0, eE]; exact h
theorem Rel_tri {v w : VT} {σ μ σ' μ' : S2} (h : RV v σ μ) (e : w.2 = v.2) (h1 : IC σ' w) (h2 : IM μ' w) (h3 : TC σ' μ') (h4 : fr [0, 1, 6, 7] σ σ') (h5 : fr [1, 20, 24] μ μ') (h6 : σ'.1 0 0 = 0) (h7 : μ'.1 24 0 = 0) : Rel σ' μ' := by
  obtain ⟨g1, g2, g3, g4, g5, g6, g7, g8⟩ := h
  refine ⟨w, ?_, h1, h2, h3, ?_, FUR_w g6 (h4 10 (by simp)) (by rw [e]) (EDGE_2 e), Or.inl h6, Or.inl h7⟩
  · unfold IV at g1 ⊢; rw [e]; exact g1
  · rw [e, h4 9 (by simp), h5 3 (by simp)]; exact g5
theorem k_triple : ok_triple Rel := by
  intro σ μ ⟨v, h⟩ a b c
  obtain ⟨r, σ', μ', e1, e2, z | ⟨w, e, h1, h2, h3, h4, h5, h6, h7⟩⟩ := op_triple h.2.1 h.2.2.1 h.2.2.2.1 a b c
  · exact ⟨r, σ', μ', e1, e2, by rw [z.1, z.2]; exact ⟨v, h⟩⟩
  · exact ⟨r, σ', μ', e1, e2, Rel_tri h e h1 h2 h3 h4 h5 h6 h7⟩
theorem k_drop : ok_drop Rel := by
  intro σ μ ⟨v, h⟩ a b c
  obtain ⟨r, σ', μ', e1, e2, z | ⟨w, e, h1, h2, h3, h4, h5, h6, h7⟩⟩ := op_drop h.2.1 h.2.2.1 h.2.2.2.1 a b c
  · exact ⟨r, σ', μ', e1, e2, by rw [z.1, z.2]; exact ⟨v, h⟩⟩
  · exact ⟨r, σ', μ', e1, e2, Rel_tri h e h1 h2 h3 h4 h5 h6 h7⟩
theorem k_shape : ok_shape Rel := by
  intro σ μ ⟨v, h⟩ a
  obtain ⟨r, σ', μ', e1, e2, z | ⟨h0, h1, h2, h3, h4, h5, h6, h7, h8, h9⟩⟩ := op_shape h.1 h.2.1 h.2.2.1 a
  · exact ⟨r, σ', μ', e1, e2, by rw [z.1, z.2]; exact ⟨v, h⟩⟩
  · obtain ⟨g1, g2, g3, g4, g5, g6, g7, g8⟩ := h
    refine ⟨r, σ', μ', e1, e2, _, h1, h2, h3, TC_fr g4 (h4 1 (by simp)) (h5 20 (by simp)) (h5 1 (by simp)), fun i hi => ?_, ?_, Or.inl h8, Or.inl h9⟩
    · have hi : i < (inc v.2.1 0) 0 := hi
      unfold inc at hi
      rw [if_pos rfl] at hi
      rw [h6 i, h7 i]
      by_cases q : i = v.2.1 0
      · rw [if_pos q, if_pos q]
      · rw [if_neg q, if_neg q]; exact g5 i (by omega)
    · have eE : EDGE (v.1, inc v.2.1 0, upr v.2.2 0 (v.2.1 0) a) = EDGE v := by
        funext s u
        unfold EDGE ED inc upr
        simp
      unfold FUR at g6 ⊢
      rw [eE]
      have eg : gr σ' = gr σ := by unfold gr; rw [h4 10 (by simp)]
      rw [eg]
      have en : (inc v.2.1 0) 0 = v.2.1 0 + 1 := by unfold inc; rw [if_pos rfl]
      show FG ((inc v.2.1 0) 0) _ _
      rw [en]
      exact ⟨fun s t z => by have := g6.1 s t z; omega, g6.2⟩
theorem k_severity : ok_severity Rel := by
  intro σ μ ⟨v, h⟩ a b
  obtain ⟨g1, g2, g3, g4, g5, g6, g7, g8⟩ := h
  obtain ⟨r, σ', μ', e1, e2, h1, h2, h3, h4⟩ := op_severity g1 g2 g3 g5 a b
  refine ⟨r, σ', μ', e1, e2, v, g1, IC_fr g2 h1 (fun k hk => by simp at hk; omega), IM_fr g3 h2 (fun k hk => by simp at hk; omega), TC_fr g4 (h1 1 (by simp)) (h2 20 (by simp)) (h2 1 (by simp)), h4, FUR_fr g6 (h1 10 (by simp)), ?_, ?_⟩
  · rw [h1 0 (by simp)]
    exact g7.imp id (fun z => ⟨z.1, GC_fr z.2 (h1 5 (by simp)) (h1 19 (by simp)) (h1 21 (by simp)) (h1 22 (by simp)) (h1 23 (by simp)) (h1 24 (by simp))⟩)
  · rw [h2 24 (by simp)]
    exact g8.imp id (fun z => ⟨z.1, GM_fr z.2 h2 (by simp)⟩)
theorem k_target : ok_target Rel := by
  intro σ μ ⟨v, h⟩ a b c
  obtain ⟨r, σ', μ', e1, e2, z | ⟨h1, h2, h3, h4, h5, h6, h7⟩⟩ := op_target h.1 h.2.1 h.2.2.1 a b c
  · exact ⟨r, σ', μ', e1, e2, by rw [z.1, z.2]; exact ⟨v, h⟩⟩
  · obtain ⟨g1, g2, g3, g4, g5, g6, g7, g8⟩ := h
    have e0 : (vG v a b c).2.1 0 = v.2.1 0 := by unfold vG inc; simp
    refine ⟨r, σ', μ', e1, e2, _, h1, h2, h3, TC_fr g4 (h4 1 (by simp)) (h5 20 (by simp)) (h5 1 (by simp)), ?_, FUR_w g6 (h4 10 (by simp)) e0 ?_, Or.inl h6, Or.inl h7⟩
    · rw [e0, h4 9 (by simp), h5 3 (by simp)]; exact g5
    · funext s u
      unfold EDGE ED vG inc upr
      simp
theorem k_constraint : ok_constraint Rel := by
  intro σ μ ⟨v, h⟩ a b c d
  obtain ⟨r, σ', μ', e1, e2, z | ⟨h1, h2, h3, h4, h5, h6, h7, h8⟩⟩ := op_constraint h.1 h.2.1 h.2.2.1 h.2.2.2.2.2.1 a b c d
  · exact ⟨r, σ', μ', e1, e2, v, by rw [z.1]; exact RV_m h (fr_up z.2 (fun k hk => by simp at hk ⊢; omega))⟩
  · obtain ⟨g1, g2, g3, g4, g5, g6, g7, g8⟩ := h
    have e0 : (vC v a b c d).2.1 0 = v.2.1 0 := by unfold vC inc; simp
    refine ⟨r, σ', μ', e1, e2, _, h1, h2, h3, TC_fr g4 (h5 1 (by simp)) (h6 20 (by simp)) (h6 1 (by simp)), ?_, h4, Or.inl h7, Or.inl h8⟩
    rw [e0, h5 9 (by simp), h6 3 (by simp)]; exact g5
theorem k_focus : ok_focus Rel := by
  intro σ μ ⟨v, h⟩ a b
  obtain ⟨r, μ', e1, e2, hf⟩ := op_focus h.1 h.2.1 h.2.2.1 a b
  exact ⟨r, μ', e1, e2, v, RV_m h (fr_up hf (fun k hk => by simp at hk ⊢; omega))⟩
theorem k_isOf : ok_isOf Rel := by
  intro σ μ ⟨v, h⟩ a b
  obtain ⟨r, μ', e1, e2, hf⟩ := op_isOf h.2.1 h.2.2.1 a b
  exact ⟨r, μ', e1, e2, v, RV_m h (fr_up hf (fun k hk => by simp at hk ⊢; omega))⟩
theorem k_value : ok_value Rel := by
  intro σ μ ⟨v, h⟩ a b c
  obtain ⟨r, e1, e2⟩ := op_value h.1 h.2.1 h.2.2.1 a b c
  exact ⟨r, e1, e2, v, h⟩
theorem k_count : ok_count Rel := by
  intro σ μ ⟨v, h⟩ a
  obtain ⟨n, _, t1, t2, _⟩ := h.2.2.2.1
  exact ⟨_, rfl, (op_count h.2.1 h.2.2.1 (by rw [t1, t2]) a).symm, v, h⟩
/-! all is worked out -/
theorem work {v : VT} {σ μ : S2} (h : RV v σ μ) : ∃ σ' μ', fn_X5_workOut σ = some σ' ∧ fn_X6_make μ = some μ' ∧ RV v σ' μ' ∧ GC σ' v ∧ GM μ' v := by
  obtain ⟨g1, g2, g3, g4, g5, g6, g7, g8⟩ := h
  obtain ⟨σ', e1, f1, k1, c1⟩ := c_workOut g1 g2 g6 g7
  obtain ⟨μ', e2, f2, k2, c2⟩ := m_make g1 (RK_of g6 g1.1) g3 g8
  refine ⟨σ', μ', e1, e2, ⟨g1, IC_fr g2 f1 (fun k hk => by simp at hk; omega), IMS g3 f2 (fun k hk => by simp at hk; omega), TC_fr g4 (f1 1 (by simp)) (f2 20 (by simp)) (f2 1 (by simp)), ?_, FUR_fr g6 (f1 10 (by simp)), Or.inr ⟨k1, c1⟩, Or.inr ⟨k2, c2⟩⟩, c1, c2⟩
  rw [f1 9 (by simp), f2 3 (by simp)]; exact g5
theorem STM_s {μ : S2} {L : List E4} (h : STM μ L) (q : L.length ≤ 250) : μ.1 25 0 = 0 ∧ μ.1 26 0 = nI L.length := by
  rw [h.1, h.2.1, if_neg (by omega), show min L.length 251 = L.length by omega]
  exact ⟨rfl, rfl⟩
theorem STM_l {μ : S2} {L : List E4} (h : STM μ L) (q : ¬ L.length ≤ 250) : μ.1 25 0 = 1 := by
  rw [h.2.1, if_pos (by omega)]
theorem k_run : ok_run Rel := by
  intro σ μ ⟨v, h⟩
  obtain ⟨σ', μ', e1, e2, hR, hc, hm⟩ := work h
  have hl := AL_len h.1
  unfold fn_X0_run fn_X6_run
  rw [e1, e2]
  by_cases q : (AL v).length ≤ 250
  · refine ⟨nI (AL v).length, σ', μ', wp_eq (wp_bn (wp_some ?_)), wp_eq (wp_bn (wp_some ?_)), v, hR⟩
    · rw [hc.1.1]
      exact wp_if_t (show nI (AL v).length ≤ 250 from nI_le (b := 250) q (by omega)) (wp_some rfl)
    · rw [(STM_s hm.1 q).1, (STM_s hm.1 q).2]
      exact wp_if_t rfl (wp_some rfl)
  · refine ⟨-4, σ', μ', wp_eq (wp_bn (wp_some ?_)), wp_eq (wp_bn (wp_some ?_)), v, hR⟩
    · rw [hc.1.1]
      exact wp_if_f (show ¬ nI (AL v).length ≤ 250 from nI_ge (a := 250) (by omega) hl) (wp_some rfl)
    · rw [STM_l hm.1 q]
      exact wp_if_f one_ne (wp_some rfl)
theorem in_no {x : Int32} {n : Nat} (hn : n < 2 ^ 31) : (fn_X6_in x 0 (nI n - 1) = 0 ∧ (x < 0 ∨ nI n ≤ x)) ∨ ∃ j, j < n ∧ x = nI j ∧ fn_X6_in x 0 (nI n - 1) = 1 := by
  cases n with
  | zero =>
    left
    unfold fn_X6_in
    by_cases q : x < 0
    · exact ⟨if_pos q, Or.inl q⟩
    · rw [if_neg q]
      obtain ⟨j, hj, e⟩ := nI_of q
      subst e
      refine ⟨if_pos ?_, Or.inr (nI_pos' hj)⟩
      rw [show nI 0 - 1 = -1 from by decide, Int32.lt_iff_toInt_lt, nI_toInt hj, show (-1 : Int32).toInt = -1 from by decide]
      omega
  | succ n =>
    rw [nI_pred]
    exact arg_in x (N := n + 1) (by omega) hn
theorem k_result : ok_result Rel := by
  intro σ μ ⟨v, h⟩ a b
  unfold fn_X0_result fn_X6_result
  simp only [lt]
  rcases arg_0_3 b with ⟨q1, q2⟩ | ⟨w, hw, ew, q1, q2⟩
  · rw [q1, q2, if_pos rfl, if_pos rfl]
    exact ⟨_, _, _, rfl, rfl, v, h⟩
  · rw [q1, q2, if_neg one_ne, if_neg one_ne]
    obtain ⟨σ', μ', e1, e2, hR, hc, hm⟩ := work h
    have hl := AL_len h.1
    rw [e1, e2]
    by_cases q : (AL v).length ≤ 250
    · rcases in_no (x := a) hl with ⟨i1, i2⟩ | ⟨j, hj, ej, i1⟩
      · refine ⟨-2, σ', μ', wp_eq (wp_bn (wp_some ?_)), wp_eq (wp_bn (wp_some ?_)), v, hR⟩
        · rw [hc.1.1]
          refine wp_if_t (show nI (AL v).length ≤ 250 from nI_le (b := 250) q (by omega)) (wp_ite (fun _ => wp_some rfl) (fun z => ?_))
          refine wp_if_f (fun y => ?_) (wp_some rfl)
          exact absurd (Int32.lt_of_lt_of_le y (i2.resolve_left z)) Int32.lt_irrefl
        · rw [(STM_s hm.1 q).1, (STM_s hm.1 q).2, i1]
          exact wp_if_t rfl (wp_if_t rfl (wp_some rfl))
      · obtain ⟨e, he⟩ : ∃ e, (AL v)[j]? = some e := ⟨_, List.getElem?_eq_getElem hj⟩
        have hC := hc.1.2 j e he (by omega)
        have hM := hm.1.2.2 j e he (by omega)
        subst ej; subst ew
        have mm : ∀ r : Int32, μ'.1 17 (4 * j + w) = r → wp (bn (some μ') (fun σ4 => if σ4.1 25 0 = 0 then if fn_X6_in (nI j) 0 (σ4.1 26 0 - 1) = 0 then some (-2, σ4) else ck (4 * nI j + nI w) 1004 (some (σ4.1 17 (4 * nI j + nI w).toNatClampNeg, σ4)) else some (-4, σ4))) (fun q => q = (r, μ')) := by
          intro r hr
          refine wp_bn (wp_some ?_)
          rw [(STM_s hm.1 q).1, (STM_s hm.1 q).2, i1, i4, nI_add]
          refine wp_if_t rfl (wp_if_f one_ne (wp_ckN rfl (show 4 * j + w < 1004 by omega) (by omega) ?_))
          rw [nI_clamp (by omega), hr]
          exact wp_some rfl
        have cc : ∀ (r : Int32), wp (if nI w = 0 then ck (nI j) 250 (some (σ'.1 21 (nI j).toNatClampNeg, σ')) else if nI w = 1 then ck (nI j) 250 (some (σ'.1 22 (nI j).toNatClampNeg, σ')) else if nI w = 2 then ck (nI j) 250 (some (σ'.1 23 (nI j).toNatClampNeg, σ')) else ck (nI j) 250 (some (σ'.1 24 (nI j).toNatClampNeg, σ'))) (fun q => q = (r, σ')) →
            wp (bn (some σ') (fun σ4 => if σ4.1 5 0 ≤ 250 then if nI j < 0 then some (-2, σ4) else if nI j < σ4.1 5 0 then if nI w = 0 then ck (nI j) 250 (some (σ4.1 21 (nI j).toNatClampNeg, σ4)) else if nI w = 1 then ck (nI j) 250 (some (σ4.1 22 (nI j).toNatClampNeg, σ4)) else if nI w = 2 then ck (nI j) 250 (some (σ4.1 23 (nI j).toNatClampNeg, σ4)) else ck (nI j) 250 (some (σ4.1 24 (nI j).toNatClampNeg, σ4)) else some (-2, σ4) else some (-4, σ4))) (fun q => q = (r, σ')) := by
          intro r hr
          refine wp_bn (wp_some ?_)
          rw [hc.1.1]
          exact wp_if_t (show nI (AL v).length ≤ 250 from nI_le (b := 250) q (by omega)) (wp_if_f (nI_pos (by omega)) (wp_if_t (nI_lt hj hl) hr))
        have hjj : (nI j).toNatClampNeg = j := nI_clamp (by omega)
        rcases (show w = 0 ∨ w = 1 ∨ w = 2 ∨ w = 3 by omega) with e | e | e | e <;> subst e
        · exact ⟨σ'.1 21 j, σ', μ', wp_eq (cc _ (wp_if_t (by decide) (wp_ckN rfl (show j < 250 by omega) (by omega) (wp_some (by rw [hjj]))))), wp_eq (mm _ (hM.1.trans hC.1.symm)), v, hR⟩
        · exact ⟨σ'.1 22 j, σ', μ', wp_eq (cc _ (wp_if_f (by decide) (wp_if_t (by decide) (wp_ckN rfl (show j < 250 by omega) (by omega) (wp_some (by rw [hjj])))))), wp_eq (mm _ (hM.2.1.trans hC.2.1.symm)), v, hR⟩
        · exact ⟨σ'.1 23 j, σ', μ', wp_eq (cc _ (wp_if_f (by decide) (wp_if_f (by decide) (wp_if_t (by decide) (wp_ckN rfl (show j < 250 by omega) (by omega) (wp_some (by rw [hjj]))))))), wp_eq (mm _ (hM.2.2.1.trans hC.2.2.1.symm)), v, hR⟩
        · exact ⟨σ'.1 24 j, σ', μ', wp_eq (cc _ (wp_if_f (by decide) (wp_if_f (by decide) (wp_if_f (by decide) (wp_ckN rfl (show j < 250 by omega) (by omega) (wp_some (by rw [hjj]))))))), wp_eq (mm _ (hM.2.2.2.trans hC.2.2.2.symm)), v, hR⟩
    · refine ⟨-4, σ', μ', wp_eq (wp_bn (wp_some ?_)), wp_eq (wp_bn (wp_some ?_)), v, hR⟩
      · rw [hc.1.1]
        exact wp_if_f (show ¬ nI (AL v).length ≤ 250 from nI_ge (a := 250) (by omega) hl) (wp_some rfl)
      · rw [STM_l hm.1 q]
        exact wp_if_f one_ne (wp_some rfl)
theorem arg_0_2 (x : Int32) : (fn_X0_isBetween x 0 2 = 0 ∧ fn_X6_in x 0 2 = 0) ∨ (fn_X0_isBetween x 0 2 = 1 ∧ fn_X6_in x 0 2 = 1) := by
  unfold fn_X0_isBetween fn_X6_in
  by_cases q : x < 0
  · rw [if_pos q]; exact Or.inl ⟨rfl, rfl⟩
  · rw [if_neg q]
    by_cases q2 : 2 < x
    · rw [if_pos q2]; exact Or.inl ⟨rfl, rfl⟩
    · rw [if_neg q2]; exact Or.inr ⟨rfl, rfl⟩
theorem c_sev {σ : S2} {v : VT} (h : IC σ v) (hn : v.2.1 0 ≤ 12) {s : Nat} (hs : s < v.2.1 0) : fn_X2_severityOf σ (nI s) = some (σ.1 9 s) := by
  unfold fn_X2_severityOf
  refine wp_eq (wp_lt ?_)
  rw [has_t h.1.1 hs hn]
  refine wp_if_f one_ne (wp_ckN rfl (show s < 12 by omega) (by omega) (wp_some ?_))
  rw [nI_clamp (by omega)]
theorem wo {v : VT} {σ μ : S2} (h : RV v σ μ) (hc : GC σ v) (hm : GM μ v) (hq : (AL v).length ≤ 250) (x : Int32) : ∀ (n i : Nat) (k : Int32), i ≤ (AL v).length → (AL v).length < i + n → ∃ r, fn_X0_worst_38 n σ x k (nI i) = some (r, σ) ∧ fn_X6_worst_19 n μ x k (nI i) = some (r, μ) := by
  have h12 := h.1.1
  have hmin : min (AL v).length 251 = (AL v).length := by omega
  have e25 : μ.1 25 0 = 0 := (STM_s hm.1 hq).1
  intro n
  induction n with
  | zero => intro i k h1 h2; omega
  | succ n ih =>
    intro i k hi hin
    rw [fn_X0_worst_38, fn_X6_worst_19, hc.1.1, hm.1.1, hmin, e25]
    by_cases e : i = (AL v).length
    · subst e
      refine ⟨k, wp_eq (wp_if_t (nI_le (Nat.le_refl _) (by omega)) (wp_some rfl)), wp_eq (wp_if_t (nI_le (Nat.le_refl _) (by omega)) ?_)⟩
      unfold fn_X6_worst_67
      rw [e25]
      exact wp_if_t rfl (wp_some rfl)
    · have hj : i < (AL v).length := by omega
      have he : (AL v)[i]? = some ((AL v)[i]) := List.getElem?_eq_getElem hj
      have hs : ((AL v)[i]).2.1 < v.2.1 0 := AL_s _ (List.getElem_mem hj)
      have hC := (hc.1.2 i _ he (by omega)).2.1
      have hM := (hm.1.2.2 i _ he (by omega)).2.1
      generalize ((AL v)[i]).2.1 = s at hs hC hM
      have hsev := h.2.2.2.2.1 s hs
      rw [i4, show nI (4 * i) + 1 = nI (4 * i + 1) from i4a _ 1, nI_clamp (show i < 2 ^ 31 by omega), nI_clamp (show 4 * i + 1 < 2 ^ 31 by omega), hC, hM, nI_clamp (show s < 2 ^ 31 by omega), c_sev h.2.1 h12 hs, ← hsev, nI_1, Int32.add_zero]
      by_cases q : σ.1 9 s = x
      · obtain ⟨r, r1, r2⟩ := ih (i + 1) (k + 1) (by omega) (by omega)
        refine ⟨r, wp_eq (wp_if_f (nI_ge hj (by omega)) (wp_ckN rfl (show i < 250 by omega) (by omega) (wp_bn (wp_some (wp_if_t q (wp_lt (wp_lt ⟨_, r1, rfl⟩))))))), wp_eq (wp_if_f (nI_ge hj (by omega)) (wp_if_t rfl (wp_ckN rfl (show 4 * i + 1 < 1004 by omega) (by omega) (wp_ckN rfl (show s < 12 by omega) (by omega) (wp_if_t q (wp_lt (wp_lt ⟨_, r2, rfl⟩)))))))⟩
      · obtain ⟨r, r1, r2⟩ := ih (i + 1) k (by omega) (by omega)
        refine ⟨r, wp_eq (wp_if_f (nI_ge hj (by omega)) (wp_ckN rfl (show i < 250 by omega) (by omega) (wp_bn (wp_some (wp_if_f q (wp_lt ⟨_, r1, rfl⟩)))))), wp_eq (wp_if_f (nI_ge hj (by omega)) (wp_if_t rfl (wp_ckN rfl (show 4 * i + 1 < 1004 by omega) (by omega) (wp_ckN rfl (show s < 12 by omega) (by omega) (wp_if_f q (wp_lt (wp_lt ⟨_, r2, rfl⟩)))))))⟩
theorem k_worst : ok_worst Rel := by
  intro σ μ ⟨v, h⟩ a
  unfold fn_X0_worst fn_X6_worst
  simp only [lt]
  rcases arg_0_2 a with ⟨q1, q2⟩ | ⟨q1, q2⟩
  · rw [q1, q2, if_pos rfl, if_pos rfl]
    exact ⟨_, _, _, rfl, rfl, v, h⟩
  · rw [q1, q2, if_neg one_ne, if_neg one_ne]
    obtain ⟨σ', μ', e1, e2, hR, hc, hm⟩ := work h
    have hl := AL_len h.1
    rw [e1, e2]
    by_cases q : (AL v).length ≤ 250
    · obtain ⟨r, r1, r2⟩ := wo hR hc hm q a fu 0 0 (by omega) (by unfold fu; omega)
      refine ⟨r, σ', μ', wp_eq (wp_bn (wp_some ?_)), wp_eq (wp_bn (wp_some ⟨_, r2, rfl⟩)), v, hR⟩
      rw [hc.1.1]
      exact wp_if_t (show nI (AL v).length ≤ 250 from nI_le (b := 250) q (by omega)) ⟨_, r1, rfl⟩
    · refine ⟨-4, σ', μ', wp_eq (wp_bn (wp_some ?_)), wp_eq (wp_bn (wp_some ?_)), v, hR⟩
      · rw [hc.1.1]
        exact wp_if_f (show ¬ nI (AL v).length ≤ 250 from nI_ge (a := 250) (by omega) hl) (wp_some rfl)
      · show wp (fn_X6_worst_19 (999 + 1) μ' a 0 0) _
        rw [fn_X6_worst_19]
        have e25 : μ'.1 25 0 = 1 := by rw [STM_l hm.1 q]
        have fin : wp (fn_X6_worst_67 μ' 0) (fun q => q = ((-4 : Int32), μ')) := by
          unfold fn_X6_worst_67
          rw [e25]
          exact wp_if_f one_ne (wp_some rfl)
        refine wp_ite (fun _ => fin) (fun _ => ?_)
        exact wp_if_f (by rw [e25]; exact one_ne) fin
theorem k_fits : ok_fits Rel := by
  intro σ μ ⟨v, h⟩ a b
  unfold fn_X0_fits fn_X6_fits
  simp only [lt]
  rcases arg_term a with ⟨q1, q2⟩ | ⟨x, hx, ex, q1, q2⟩
  · rw [q1, q2, if_pos rfl, if_pos rfl]
    exact ⟨_, _, _, rfl, rfl, v, h⟩
  · rw [q1, q2, if_neg one_ne, if_neg one_ne]
    rcases arg_shape h.1.1 h.2.1.1.1 h.2.2.1.1.1 b with ⟨p1, p2⟩ | ⟨s, hs, es, p1, p2⟩
    · rw [p1, p2, if_pos rfl, if_pos rfl]
      exact ⟨_, _, _, rfl, rfl, v, h⟩
    · rw [p1, p2, if_neg one_ne, if_neg one_ne]
      obtain ⟨σ', μ', e1, e2, hR, hc, hm⟩ := work h
      have h12 := h.1.1
      rw [e1, e2]
      subst ex; subst es
      have hh := hc.2 s hs x hx
      rcases hm.2 s hs x hx with ⟨z1, z2⟩ | ⟨z1, z2⟩
      · refine ⟨1, σ', μ', wp_eq (wp_bn (wp_some (wp_bn ?_))), wp_eq (wp_bn (wp_some ?_)), v, hR⟩
        · rw [c_fitting hR.2.1 h12 hs]
          refine wp_some ?_
          rw [hold_bt hx, if_pos (hh.mpr z2)]
          exact wp_if_f one_ne (wp_some rfl)
        · rw [ix32]
          refine wp_ckN rfl (show 32 * s + x < 384 by omega) (by omega) ?_
          rw [nI_clamp (by omega), z1]
          exact wp_if_f one_ne (wp_some rfl)
      · refine ⟨0, σ', μ', wp_eq (wp_bn (wp_some (wp_bn ?_))), wp_eq (wp_bn (wp_some ?_)), v, hR⟩
        · rw [c_fitting hR.2.1 h12 hs]
          refine wp_some ?_
          rw [hold_bt hx, if_neg (fun y => z2 (hh.mp y))]
          exact wp_if_t rfl (wp_some rfl)
        · rw [ix32]
          refine wp_ckN rfl (show 32 * s + x < 384 by omega) (by omega) ?_
          rw [nI_clamp (by omega), z1]
          exact wp_if_t rfl (wp_some rfl)
theorem k_all : okAll Rel := ⟨k_triple, k_drop, k_shape, k_severity, k_target, k_constraint, k_run, k_result, k_worst, k_fits, k_focus, k_value, k_isOf, k_count⟩
theorem cnt_no (f : Nat → Bool) (h : ∀ i, f i = false) (n : Nat) : cnt f n = 0 := by
  induction n with
  | zero => rfl
  | succ n ih => rw [cnt, ih, h n]; rfl
theorem Rel_0 : Rel σ0 σ0 := by
  refine ⟨(fun _ _ _ => false, fun _ => 0, fun _ _ => 0), ⟨by decide, by decide, by decide, fun i hi => absurd hi (Nat.not_lt_zero i), fun i hi => absurd hi (Nat.not_lt_zero i), fun i hi => absurd hi (Nat.not_lt_zero i)⟩, ?_, ?_, ?_, fun _ _ => rfl, ?_, Or.inl rfl, Or.inl rfl⟩
  · refine ⟨⟨rfl, rfl, rfl⟩, fun s p o _ _ _ => b_0 o, fun s p o _ _ _ => ?_, fun i hi => absurd hi (Nat.not_lt_zero i), fun i hi => absurd hi (Nat.not_lt_zero i), fun i hi => absurd hi (Nat.not_lt_zero i)⟩
    show bt 0 s = true ↔ _
    rw [b_0]
    exact ⟨fun z => absurd z Bool.false_ne_true, fun z => absurd z.2 Bool.false_ne_true⟩
  · exact ⟨⟨rfl, rfl, rfl⟩, fun s p o _ _ _ => rfl, fun i hi => absurd hi (Nat.not_lt_zero i), fun i hi => absurd hi (Nat.not_lt_zero i), fun i hi => absurd hi (Nat.not_lt_zero i)⟩
  · exact ⟨0, by omega, rfl, rfl, (cnt_no _ (fun i => (by decide : decide ((0 : Int32) = 1) = false)) _).symm⟩
  · have no : ∀ s t, ¬ gr σ0 s t := fun s t z => by
      have := z.2.2
      rw [show σ0.1 10 s = 0 from rfl, b_0] at this
      cases this
    refine ⟨fun s t z => absurd z (no s t), fun s t z => ?_, fun s t u z => absurd z (no s t), fun s => no s s, fun s t z => absurd z (no s t)⟩
    obtain ⟨c, hc, _⟩ := z
    exact absurd hc (Nat.not_lt_zero c)
