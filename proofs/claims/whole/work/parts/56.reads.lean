/-! arguments -/
theorem arg_in (x : Int32) {N : Nat} (h0 : 0 < N) (hN : N < 2 ^ 31) : (fn_X6_in x 0 (nI (N - 1)) = 0 ∧ (x < 0 ∨ nI N ≤ x)) ∨ ∃ j, j < N ∧ x = nI j ∧ fn_X6_in x 0 (nI (N - 1)) = 1 := by
  unfold fn_X6_in
  rcases pk_ix x hN with h | h | ⟨j, h1, h2⟩
  · exact Or.inl ⟨if_pos h, Or.inl h⟩
  · left
    refine ⟨?_, Or.inr h⟩
    by_cases q : x < 0
    · exact if_pos q
    · rw [if_neg q]
      obtain ⟨j, hj, e⟩ := nI_of q
      subst e
      rw [nI_leI hN hj] at h
      exact if_pos (nI_lt (by omega) hj)
  · right
    subst h2
    refine ⟨j, h1, rfl, ?_⟩
    rw [if_neg (nI_pos (by omega)), if_neg (nI_nlt (by omega) (by omega))]
theorem arg_term (x : Int32) : (fn_X0_isTerm x = 0 ∧ fn_X6_in x 0 31 = 0) ∨ ∃ j, j < 32 ∧ x = nI j ∧ fn_X0_isTerm x = 1 ∧ fn_X6_in x 0 31 = 1 := by
  rcases arg_in x (N := 32) (by omega) (by omega) with ⟨h1, h2⟩ | ⟨j, h1, h2, h3⟩
  · left
    refine ⟨?_, h1⟩
    unfold fn_X0_isTerm
    by_cases q : x < 0
    · exact if_pos q
    · rw [if_neg q]; exact if_pos (h2.resolve_left q)
  · exact Or.inr ⟨j, h1, h2, by rw [h2]; exact term_t h1, h3⟩
theorem arg_node (x : Int32) : (fn_X0_isNode x = 0 ∧ fn_X6_in x 0 19 = 0) ∨ ∃ j, j < 20 ∧ x = nI j ∧ fn_X0_isNode x = 1 ∧ fn_X6_in x 0 19 = 1 := by
  rcases arg_in x (N := 20) (by omega) (by omega) with ⟨h1, h2⟩ | ⟨j, h1, h2, h3⟩
  · left
    refine ⟨?_, h1⟩
    unfold fn_X0_isNode
    by_cases q : x < 0
    · exact if_pos q
    · rw [if_neg q]; exact if_pos (h2.resolve_left q)
  · exact Or.inr ⟨j, h1, h2, by rw [h2]; exact node_t h1, h3⟩
theorem arg_pred (x : Int32) : (fn_X0_isPredicate x = 0 ∧ fn_X6_in x 0 7 = 0) ∨ ∃ j, j < 8 ∧ x = nI j ∧ fn_X0_isPredicate x = 1 ∧ fn_X6_in x 0 7 = 1 := by
  rcases arg_in x (N := 8) (by omega) (by omega) with ⟨h1, h2⟩ | ⟨j, h1, h2, h3⟩
  · left
    refine ⟨?_, h1⟩
    unfold fn_X0_isPredicate
    by_cases q : x < 0
    · exact if_pos q
    · rw [if_neg q]; exact if_pos (h2.resolve_left q)
  · exact Or.inr ⟨j, h1, h2, by rw [h2]; exact pred_t h1, h3⟩
theorem btw_in (x l h : Int32) : fn_X0_isBetween x l h = fn_X6_in x l h := rfl
theorem arg_shape {σ μ : S2} {n : Nat} (hn : n ≤ 12) (h1 : σ.1 2 0 = nI n) (h2 : μ.1 21 0 = nI n) (x : Int32) : (fn_X2_has σ x = 0 ∧ fn_X6_isShape μ x = 0) ∨ ∃ j, j < n ∧ x = nI j ∧ fn_X2_has σ x = 1 ∧ fn_X6_isShape μ x = 1 := by
  unfold fn_X2_has fn_X6_isShape
  rw [h1, h2]
  simp only [lt]
  by_cases e : n = 0
  · subst e
    left
    by_cases q : x < 0
    · exact ⟨if_pos q, by unfold fn_X6_in; exact if_pos q⟩
    · obtain ⟨j, hj, e⟩ := nI_of q
      subst e
      refine ⟨by rw [if_neg q]; exact if_pos (nI_le (by omega) hj), ?_⟩
      unfold fn_X6_in
      rw [if_neg q]
      refine if_pos ?_
      rw [Int32.lt_iff_toInt_lt, nI_toInt hj, show (nI 0 - 1).toInt = -1 from by decide]
      omega
  · have e1 : nI n - 1 = nI (n - 1) := pk_sub (a := n) (b := 1) (by omega)
    rw [e1]
    rcases arg_in x (N := n) (by omega) (by omega) with ⟨h1, h2⟩ | ⟨j, h1, h2, h3⟩
    · left
      refine ⟨?_, h1⟩
      by_cases q : x < 0
      · exact if_pos q
      · rw [if_neg q]; exact if_pos (h2.resolve_left q)
    · right
      refine ⟨j, h1, h2, ?_, h3⟩
      rw [h2, if_neg (nI_pos (by omega)), if_neg (nI_ge h1 (by omega))]
theorem has_t {σ : S2} {n j : Nat} (h1 : σ.1 2 0 = nI n) (hj : j < n) (hn : n ≤ 12) : fn_X2_has σ (nI j) = 1 := by
  unfold fn_X2_has
  rw [h1, if_neg (nI_pos (by omega)), if_neg (nI_ge hj (by omega))]
/-! the i-th of a set -/
def NTH (P : Nat → Prop) : Nat → Int32 → Int32 → Prop
  | 0, _, r => r = -2
  | m + 1, l, r => (P (31 - m) ∧ l = 0 ∧ r = nI (31 - m)) ∨ (P (31 - m) ∧ ¬ l = 0 ∧ NTH P m (l - 1) r) ∨ (¬ P (31 - m) ∧ NTH P m l r)
theorem NTH_det {P R : Nat → Prop} : ∀ {m : Nat} {l r r' : Int32}, (∀ x, x < 32 → (P x ↔ R x)) → m ≤ 32 → NTH P m l r → NTH R m l r' → r = r' := by
  intro m
  induction m with
  | zero => intro l r r' _ _ h1 h2; exact Eq.trans h1 (Eq.symm h2)
  | succ m ih =>
    intro l r r' hP hm h1 h2
    have hx := hP (31 - m) (by omega)
    rcases h1 with ⟨a1, a2, a3⟩ | ⟨a1, a2, a3⟩ | ⟨a1, a2⟩ <;> rcases h2 with ⟨b1, b2, b3⟩ | ⟨b1, b2, b3⟩ | ⟨b1, b2⟩
    · rw [a3, b3]
    · exact absurd a2 b2
    · exact absurd (hx.mp a1) b1
    · exact absurd b2 a2
    · exact ih hP (by omega) a3 b3
    · exact absurd (hx.mp a1) b1
    · exact absurd (hx.mpr b1) a1
    · exact absurd (hx.mpr b1) a1
    · exact ih hP (by omega) a2 b2
theorem NTH_no {P : Nat → Prop} : ∀ {m : Nat} {l r : Int32}, (∀ d, d ≤ m → l ≠ nI d) → NTH P m l r → r = -2 := by
  intro m
  induction m with
  | zero => intro l r _ h; exact h
  | succ m ih =>
    intro l r hl h
    rcases h with ⟨-, a2, -⟩ | ⟨-, -, a3⟩ | ⟨-, a2⟩
    · exact absurd a2 (hl 0 (by omega))
    · refine ih (fun d hd e => hl (d + 1) (by omega) ?_) a3
      rw [← nI_1, ← e, Int32.sub_add_cancel]
    · exact ih (fun d hd => hl d (by omega)) a2
theorem neg_no {l : Int32} (h : l < 0) {d : Nat} (hd : d < 2 ^ 31) : l ≠ nI d := by
  intro e
  rw [e] at h
  exact nI_pos hd h
theorem at_loop (x : Int32) : ∀ (n m : Nat) (l : Int32), m ≤ 32 → m < n → wp (fn_X0_termAt_4 n x l (nI (32 - m))) (fun r => NTH (fun w => bt x w = true) m l r) := by
  intro n
  induction n with
  | zero => intro m l h1 h2; omega
  | succ n ih =>
    intro m l hm hn
    rw [fn_X0_termAt_4]
    cases m with
    | zero => exact wp_if_t (nI_le (a := 32) (by omega) (by omega)) (wp_some rfl)
    | succ m =>
      refine wp_if_f (nI_ge (b := 32) (by omega) (by omega)) (wp_lt ?_)
      rw [hold_bt (by omega), show 32 - (m + 1) = 31 - m by omega, nI_1, show 31 - m + 1 = 32 - m by omega]
      by_cases q : bt x (31 - m) = true
      · rw [if_pos q]
        refine wp_if_f one_ne ?_
        by_cases z : l = 0
        · exact wp_if_t z (wp_some (Or.inl ⟨q, z, rfl⟩))
        · refine wp_if_f z (wp_lt (wp_lt ?_))
          refine wp_mono (ih m (l + -1) (by omega) (by omega)) (fun r hr => Or.inr (Or.inl ⟨q, z, ?_⟩))
          rw [show l - 1 = l + -1 from Int32.sub_eq_add_neg l 1]
          exact hr
      · rw [if_neg q]
        refine wp_if_t rfl (wp_lt ?_)
        exact wp_mono (ih m l (by omega) (by omega)) (fun r hr => Or.inr (Or.inr ⟨q, hr⟩))
theorem c_termAt (x i : Int32) : wp (fn_X0_termAt x i) (fun r => NTH (fun w => bt x w = true) 32 i r) := by
  unfold fn_X0_termAt
  exact at_loop x fu 32 i (by omega) (by unfold fu; omega)
theorem focus_loop {v : VT} (hv : IV v) {s : Nat} (hs : s < v.2.1 0) {i : Int32} (hi : ¬ i < 0) : ∀ (n m : Nat) (l : Int32) (μ : S2), m ≤ 32 → m < n → IM μ v → wp (fn_X6_focus_15 n μ (nI s) i l (nI (32 - m))) (fun q => NTH (fun w => FOR v s w) m l q.1 ∧ fr [14] μ q.2) := by
  intro n
  induction n with
  | zero => intro m l μ h1 h2; omega
  | succ n ih =>
    intro m l μ hm hn hM
    rw [fn_X6_focus_15]
    cases m with
    | zero => exact wp_if_t (nI_le (a := 32) (by omega) (by omega)) (wp_some ⟨rfl, fr_rf⟩)
    | succ m =>
      refine wp_if_f (nI_ge (b := 32) (by omega) (by omega)) (wp_if_f hi (wp_bn2 ?_))
      rw [show 32 - (m + 1) = 31 - m by omega]
      refine wp_mono (m_isFor hM hv hs (show 31 - m < 32 by omega)) (fun q hq => ?_)
      rcases hq with ⟨⟨e, hq⟩ | ⟨e, hq⟩, hf⟩
      · refine wp_if_f (by rw [e]; decide) ?_
        by_cases z : l = 0
        · exact wp_if_t z (wp_some ⟨Or.inl ⟨hq, z, rfl⟩, hf⟩)
        · refine wp_if_f z ?_
          unfold fn_X6_focus_47
          refine wp_if_f (by rw [e]; decide) (wp_lt (wp_lt ?_))
          rw [nI_1, show 31 - m + 1 = 32 - m by omega]
          exact wp_mono (ih m (l - 1) q.2 (by omega) (by omega) (IM14 hM hf)) (fun r hr => ⟨Or.inr (Or.inl ⟨hq, z, hr.1⟩), fr_tr hf hr.2⟩)
      · refine wp_if_t e ?_
        unfold fn_X6_focus_47
        refine wp_if_t e (wp_lt (wp_lt ?_))
        rw [nI_1, show 31 - m + 1 = 32 - m by omega, show l - 0 = l from Int32.sub_zero l]
        exact wp_mono (ih m l q.2 (by omega) (by omega) (IM14 hM hf)) (fun r hr => ⟨Or.inr (Or.inr ⟨hq, hr.1⟩), fr_tr hf hr.2⟩)
theorem value_loop {v : VT} (hv : IV v) {x s : Nat} (hx : x < 32) (hs : s < v.2.1 0) {i : Int32} (hi : ¬ i < 0) {μ : S2} (hM : IM μ v) : ∀ (n m : Nat) (l : Int32), m ≤ 32 → m < n → wp (fn_X6_value_26 n μ (nI x) (nI s) i l (nI (32 - m))) (fun r => NTH (fun w => VAL v s x w) m l r) := by
  intro n
  induction n with
  | zero => intro m l h1 h2; omega
  | succ n ih =>
    intro m l hm hn
    rw [fn_X6_value_26]
    cases m with
    | zero => exact wp_if_t (nI_le (a := 32) (by omega) (by omega)) (wp_some rfl)
    | succ m =>
      refine wp_if_f (nI_ge (b := 32) (by omega) (by omega)) (wp_if_f hi (wp_bn ?_))
      rw [show 32 - (m + 1) = 31 - m by omega]
      refine wp_mono (m_isValue hM hv hx hs (show 31 - m < 32 by omega)) (fun q hq => ?_)
      rcases hq with ⟨e, hq⟩ | ⟨e, hq⟩
      · refine wp_if_f (by rw [e]; decide) ?_
        by_cases z : l = 0
        · exact wp_if_t z (wp_some (Or.inl ⟨hq, z, rfl⟩))
        · refine wp_if_f z ?_
          unfold fn_X6_value_60
          refine wp_if_f (by rw [e]; decide) (wp_lt (wp_lt ?_))
          rw [nI_1, show 31 - m + 1 = 32 - m by omega]
          exact wp_mono (ih m (l - 1) (by omega) (by omega)) (fun r hr => Or.inr (Or.inl ⟨hq, z, hr⟩))
      · refine wp_if_t e ?_
        unfold fn_X6_value_60
        refine wp_if_t e (wp_lt (wp_lt ?_))
        rw [nI_1, show 31 - m + 1 = 32 - m by omega, show l - 0 = l from Int32.sub_zero l]
        exact wp_mono (ih m l (by omega) (by omega)) (fun r hr => Or.inr (Or.inr ⟨hq, hr⟩))
/-! the calls that only read -/
theorem op_isOf {σ μ : S2} {v : VT} (h : IC σ v) (hM : IM μ v) (a b : Int32) : ∃ r μ', fn_X0_isOf σ a b = some r ∧ fn_X6_isOf μ a b = some (r, μ') ∧ fr [14] μ μ' := by
  unfold fn_X0_isOf fn_X6_isOf
  simp only [lt]
  rcases arg_term a with ⟨h1, h2⟩ | ⟨t, ht, e, h1, h2⟩
  · rw [h1, h2, if_pos rfl, if_pos rfl]
    exact ⟨_, _, rfl, rfl, fr_rf⟩
  · rw [h1, h2, if_neg one_ne, if_neg one_ne]
    rcases arg_node b with ⟨h3, h4⟩ | ⟨c, hc, e2, h3, h4⟩
    · rw [h3, h4, if_pos rfl, if_pos rfl]
      exact ⟨_, _, rfl, rfl, fr_rf⟩
    · rw [h3, h4, if_neg one_ne, if_neg one_ne]
      subst e
      subst e2
      obtain ⟨r, q1, q2⟩ := c_ofClass h hc
      obtain ⟨q, q3, q4, q5⟩ := m_isOfClass hM ht (show c < 32 by omega)
      rw [q1, q3]
      simp only [bn, bn2]
      rw [hold_bt ht]
      rcases q4 with ⟨e, q4⟩ | ⟨e, q4⟩
      · rw [if_pos ((q2 t ht).mpr q4), if_neg one_ne, if_neg (by rw [e]; decide)]
        exact ⟨_, _, rfl, rfl, q5⟩
      · rw [if_neg (fun z => q4 ((q2 t ht).mp z)), if_pos rfl, if_pos e]
        exact ⟨_, _, rfl, rfl, q5⟩
theorem op_focus {σ μ : S2} {v : VT} (hv : IV v) (h : IC σ v) (hM : IM μ v) (a b : Int32) : ∃ r μ', fn_X0_focus σ a b = some r ∧ fn_X6_focus μ a b = some (r, μ') ∧ fr [14] μ μ' := by
  unfold fn_X0_focus fn_X6_focus
  simp only [lt]
  rcases arg_shape hv.1 h.1.1 hM.1.1 a with ⟨h1, h2⟩ | ⟨s, hs, e, h1, h2⟩
  · rw [h1, h2, if_pos rfl, if_pos rfl]
    exact ⟨_, _, rfl, rfl, fr_rf⟩
  · rw [h1, h2, if_neg one_ne, if_neg one_ne]
    subst e
    obtain ⟨m, q1, q2⟩ := c_termsOf h hv hs
    obtain ⟨r, q3, q4⟩ := c_termAt m b
    rw [q1]
    simp only [bn]
    rw [q3]
    by_cases hb : b < 0
    · have e := NTH_no (fun d hd => neg_no hb (by omega)) q4
      refine ⟨r, μ, rfl, ?_, fr_rf⟩
      rw [show fu = 999 + 1 from rfl, fn_X6_focus_15, if_neg (show ¬ (32 : Int32) ≤ 0 from by decide), if_pos hb, e]
    · obtain ⟨q, q5, q6, q7⟩ := focus_loop hv hs hb fu 32 b μ (by omega) (by unfold fu; omega) hM
      have e := NTH_det q2 (Nat.le_refl 32) q4 q6
      refine ⟨r, q.2, rfl, ?_, q7⟩
      have q5 : fn_X6_focus_15 fu μ (nI s) b b 0 = some q := q5
      rw [q5, e]
theorem op_value {σ μ : S2} {v : VT} (hv : IV v) (h : IC σ v) (hM : IM μ v) (a b c : Int32) : ∃ r, fn_X0_value σ a b c = some r ∧ fn_X6_value μ a b c = some r := by
  unfold fn_X0_value fn_X6_value
  simp only [lt]
  rcases arg_term a with ⟨h1, h2⟩ | ⟨x, hx, e, h1, h2⟩
  · rw [h1, h2, if_pos rfl, if_pos rfl]
    exact ⟨_, rfl, rfl⟩
  · rw [h1, h2, if_neg one_ne, if_neg one_ne]
    rcases arg_shape hv.1 h.1.1 hM.1.1 b with ⟨h3, h4⟩ | ⟨s, hs, e2, h3, h4⟩
    · rw [h3, h4, if_pos rfl, if_pos rfl]
      exact ⟨_, rfl, rfl⟩
    · rw [h3, h4, if_neg one_ne, if_neg one_ne]
      subst e
      subst e2
      have hp : fn_X2_pathOf σ (nI s) = some (v.2.2 0 s) := by
        unfold fn_X2_pathOf
        simp only [lt]
        rw [h3, if_neg one_ne]
        have h12 := hv.1
        obtain ⟨r, q1, q2⟩ := wp_ckN (o := some (σ.1 8 (nI s).toNatClampNeg)) (Q := fun r => r = σ.1 8 (nI s).toNatClampNeg) rfl (show s < 12 by omega) (by omega) (wp_some rfl)
        rw [q1, q2, nI_clamp (by omega), h.2.2.2.1 s hs]
      obtain ⟨m, q1, q2⟩ := c_byPath h hv hx hs
      obtain ⟨r, q3, q4⟩ := c_termAt m c
      rw [hp]
      simp only [bn]
      rw [q1]
      simp only []
      rw [q3]
      by_cases hb : c < 0
      · have e := NTH_no (fun d hd => neg_no hb (by omega)) q4
        refine ⟨r, rfl, ?_⟩
        rw [show fu = 999 + 1 from rfl, fn_X6_value_26, if_neg (show ¬ (32 : Int32) ≤ 0 from by decide), if_pos hb, e]
      · obtain ⟨q, q5, q6⟩ := value_loop hv hx hs hb hM fu 32 c (by omega) (by unfold fu; omega)
        have e := NTH_det q2 (Nat.le_refl 32) q4 q6
        refine ⟨r, rfl, ?_⟩
        have q5 : fn_X6_value_26 fu μ (nI x) (nI s) c c 0 = some q := q5
        rw [q5, e]
theorem op_count {σ μ : S2} {v : VT} (h : IC σ v) (hM : IM μ v) (ht : σ.1 1 0 = μ.1 20 0) (a : Int32) : fn_X0_count σ a = fn_X6_count μ a := by
  unfold fn_X0_count fn_X6_count
  rw [ht, h.1.1, h.1.2.1, h.1.2.2, hM.1.1, hM.1.2.1, hM.1.2.2]
