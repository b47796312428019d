/-! the reference: is a value wrong -/
theorem r_lit {w : Nat} (h : w < 32) : fn_X6_isLiteral (nI w) = if 20 ≤ w then 1 else 0 := by
  unfold fn_X6_isLiteral
  by_cases q : 20 ≤ w
  · rw [if_pos q, if_neg (show ¬ nI w < (20 : Int32) from nI_nlt (b := 20) q (by omega))]
  · rw [if_neg q, if_pos (show nI w < (20 : Int32) from nI_lt (b := 20) (by omega) (by omega))]
theorem r_num : ∀ w, w < 32 → 20 ≤ w → fn_X6_numberOf (nI w) = nI ((w - 20) / 2) := by decide +kernel
theorem r_tag : ∀ w, w < 32 → fn_X6_tagOf (nI w) = nI (w % 2) := by decide +kernel
theorem bel_loop {μ : S2} {v : VT} (h : IM μ v) {x a w : Nat} (hx : x < 32) (ha : a < 8) (hw : w < 32) (hw2 : 20 ≤ w) : ∀ (n i : Nat) (b : Int32), i ≤ 32 → 32 < i + n → (b = 0 ∨ b = 1) →
    wp (fn_X6_isBelowAll_6 n μ (nI x) (nI a) (nI w) b (nI i)) (fun r => (r = 1 ∧ (b = 1 ∧ ∀ u, i ≤ u → u < 32 → TR v x a u → 20 ≤ u ∧ (w - 20) / 2 < (u - 20) / 2)) ∨ (r = 0 ∧ ¬ (b = 1 ∧ ∀ u, i ≤ u → u < 32 → TR v x a u → 20 ≤ u ∧ (w - 20) / 2 < (u - 20) / 2))) := by
  intro n
  induction n with
  | zero => intro i b h1 h2; omega
  | succ n ih =>
    intro i b hi hin hb
    rw [fn_X6_isBelowAll_6]
    by_cases e : i = 32
    · subst e
      refine wp_if_t (by decide) (wp_cb hb (wp_some ?_))
      rcases hb with q | q
      · exact Or.inr ⟨q, fun z => by rw [q] at z; exact absurd z.1.symm one_ne⟩
      · exact Or.inl ⟨q, q, fun u h1 h2 => by omega⟩
    · refine wp_if_f (show ¬ (32 : Int32) ≤ nI i from nI_ge (b := 32) (by omega) (by omega)) ?_
      have bad : ∀ b' : Int32, b' = 0 → (¬ (b = 1 ∧ ∀ u, i ≤ u → u < 32 → TR v x a u → 20 ≤ u ∧ (w - 20) / 2 < (u - 20) / 2)) → wp (lt (nI i + 1) (fun v4 => fn_X6_isBelowAll_6 n μ (nI x) (nI a) (nI w) b' v4)) (fun r => (r = 1 ∧ (b = 1 ∧ ∀ u, i ≤ u → u < 32 → TR v x a u → 20 ≤ u ∧ (w - 20) / 2 < (u - 20) / 2)) ∨ (r = 0 ∧ ¬ (b = 1 ∧ ∀ u, i ≤ u → u < 32 → TR v x a u → 20 ≤ u ∧ (w - 20) / 2 < (u - 20) / 2))) := by
        intro b' eb no
        subst eb
        refine wp_lt ?_
        rw [nI_1]
        refine wp_mono (ih (i + 1) 0 (by omega) (by omega) (Or.inl rfl)) (fun r hr => ?_)
        rcases hr with z | z
        · exact absurd z.2.1.symm one_ne
        · exact Or.inr ⟨z.1, no⟩
      rcases hb with q | q
      · subst q
        exact wp_if_t rfl (bad 0 rfl (fun z => one_ne z.1.symm))
      · subst q
        refine wp_if_f one_ne (wp_bn (wp_mono (m_leads h hx ha (show i < 32 by omega)) (fun r hr => ?_)))
        have good : (TR v x a i → 20 ≤ i ∧ (w - 20) / 2 < (i - 20) / 2) → wp (lt (nI i + 1) (fun v4 => fn_X6_isBelowAll_6 n μ (nI x) (nI a) (nI w) 1 v4)) (fun r => (r = 1 ∧ ((1 : Int32) = 1 ∧ ∀ u, i ≤ u → u < 32 → TR v x a u → 20 ≤ u ∧ (w - 20) / 2 < (u - 20) / 2)) ∨ (r = 0 ∧ ¬ ((1 : Int32) = 1 ∧ ∀ u, i ≤ u → u < 32 → TR v x a u → 20 ≤ u ∧ (w - 20) / 2 < (u - 20) / 2))) := by
          intro g
          refine wp_lt ?_
          rw [nI_1]
          refine wp_mono (ih (i + 1) 1 (by omega) (by omega) (Or.inr rfl)) (fun r hr => ?_)
          rcases hr with z | z
          · refine Or.inl ⟨z.1, rfl, fun u h1 h2 h3 => ?_⟩
            by_cases e2 : u = i
            · subst e2; exact g h3
            · exact z.2.2 u (by omega) h2 h3
          · exact Or.inr ⟨z.1, fun y => z.2 ⟨rfl, fun u h1 h2 h3 => y.2 u (by omega) h2 h3⟩⟩
        rcases hr with ⟨er, hr⟩ | ⟨er, hr⟩
        · subst er
          refine wp_if_f one_ne (wp_lt ?_)
          rw [r_lit (show i < 32 by omega)]
          by_cases q2 : 20 ≤ i
          · rw [if_pos q2]
            refine wp_if_f one_ne (wp_lt (wp_lt ?_))
            rw [r_num i (by omega) q2, r_num w hw hw2]
            by_cases q3 : (i - 20) / 2 ≤ (w - 20) / 2
            · refine wp_if_t (nI_le q3 (by omega)) (bad 0 rfl (fun z => ?_))
              have := (z.2 i (Nat.le_refl _) (by omega) hr).2
              omega
            · exact wp_if_f (nI_ge (by omega) (by omega)) (good (fun _ => ⟨q2, by omega⟩))
          · rw [if_neg q2]
            refine wp_if_t rfl (bad 0 rfl (fun z => ?_))
            have := (z.2 i (Nat.le_refl _) (by omega) hr).1
            omega
        · subst er
          exact wp_if_t rfl (good (fun z => absurd z hr))
theorem m_below {μ : S2} {v : VT} (h : IM μ v) {x a w : Nat} (hx : x < 32) (ha : a < 8) (hw : w < 32) (hw2 : 20 ≤ w) : wp (fn_X6_isBelowAll μ (nI x) (nI a) (nI w)) (fun r => (r = 1 ∧ LES v x a w) ∨ (r = 0 ∧ ¬ LES v x a w)) := by
  unfold fn_X6_isBelowAll
  refine wp_mono (bel_loop h hx ha hw hw2 fu 0 1 (by omega) (by unfold fu; omega) (Or.inr rfl)) (fun r hr => ?_)
  have key : LES v x a w ↔ ((1 : Int32) = 1 ∧ ∀ u, 0 ≤ u → u < 32 → TR v x a u → 20 ≤ u ∧ (w - 20) / 2 < (u - 20) / 2) := by
    unfold LES
    exact ⟨fun z => ⟨rfl, fun u _ h2 h3 => z.2 u h2 h3⟩, fun z => ⟨hw2, fun u h2 h3 => z.2 u (by omega) h2 h3⟩⟩
  rw [key]
  exact hr
/-- shape s's row of the reference tells who fits -/
def S11 (μ : S2) (v : VT) (s : Nat) : Prop := ∀ x, x < 32 → (μ.1 11 (32 * s + x) = 1 ∧ FIT v s x) ∨ (μ.1 11 (32 * s + x) = 0 ∧ ¬ FIT v s x)
def YN (P : Prop) (μ : S2) (q : Int32 × S2) : Prop := ((q.1 = 1 ∧ P) ∨ (q.1 = 0 ∧ ¬ P)) ∧ fr [14] μ q.2
theorem yn_1 {P : Prop} {μ : S2} (h : P) : wp (some ((1 : Int32), μ)) (YN P μ) := wp_some ⟨Or.inl ⟨rfl, h⟩, fr_rf⟩
theorem yn_0 {P : Prop} {μ : S2} (h : ¬ P) : wp (some ((0 : Int32), μ)) (YN P μ) := wp_some ⟨Or.inr ⟨rfl, h⟩, fr_rf⟩
theorem k12 {k : Nat} (h : k = 0 ∨ k = 1 ∨ k = 3 ∨ k = 4 ∨ k = 7 ∨ k = 8 ∨ (11 ≤ k ∧ k ≤ 16)) : k = 0 ∨ k = 1 ∨ k = 3 ∨ k = 4 ∨ k = 7 ∨ k = 8 ∨ k = 11 ∨ k = 12 ∨ k = 13 ∨ k = 14 ∨ k = 15 ∨ k = 16 := by omega
theorem m_wrong {μ : S2} {v : VT} (h : IM μ v) (hv : IV v) {c : Nat} (hc : c < v.2.1 2) (hS : ∀ u, u < v.2.1 0 → EDGE v (ow v c) u → S11 μ v u) {x w : Nat} (hx : x < 32) (hw : w < 32)
    (hq : kn v c = 0 ∨ kn v c = 1 ∨ kn v c = 3 ∨ kn v c = 4 ∨ kn v c = 7 ∨ kn v c = 8 ∨ (11 ≤ kn v c ∧ kn v c ≤ 16)) : wp (fn_X6_isWrong μ (nI c) (nI x) (nI w)) (YN (WR (FIT v) v x (kn v c) (v.2.2 6 c) (v.2.2 7 c) w) μ) := by
  obtain ⟨h1, h2, h3, h4, h5⟩ := IV_c hv hc
  have h12 := hv.1
  have h40 := hv.2.2.1
  obtain ⟨r14, r15, r16, r17⟩ := h.2.2.2.2 c hc
  have fA : 11 ≤ kn v c → ∃ j, j < v.2.1 0 ∧ v.2.2 6 c = nI j ∧ S11 μ v j := by
    intro q
    obtain ⟨j, hj, e⟩ := h5.2.2.2.2.2.1 q
    exact ⟨j, hj, e, hS j hj ⟨c, hc, by omega, by omega, h3, kn v c, h2, h4, Or.inl ⟨q, e⟩⟩⟩
  have fB : 12 ≤ kn v c → kn v c ≤ 14 → ∃ j, j < v.2.1 0 ∧ v.2.2 7 c = nI j ∧ S11 μ v j := by
    intro q q2
    obtain ⟨j, hj, e⟩ := h5.2.2.2.2.2.2.1 q q2
    exact ⟨j, hj, e, hS j hj ⟨c, hc, by omega, by omega, h3, kn v c, h2, h4, Or.inr ⟨q, q2, e⟩⟩⟩
  unfold fn_X6_isWrong
  refine wp_ckN rfl (show c < 40 by omega) (by omega) (wp_lt (wp_ckN rfl (show c < 40 by omega) (by omega) (wp_lt (wp_ckN rfl (show c < 40 by omega) (by omega) ?_))))
  rw [nI_clamp (show c < 2 ^ 31 by omega), r15, r16, r17, h4]
  rcases k12 hq with e | e | e | e | e | e | e | e | e | e | e | e
  all_goals rw [e]
  all_goals repeat refine wp_if_f (by decide) ?_
  · refine wp_if_t (by decide) (wp_bn2 ?_)
    obtain ⟨j, hj, ea⟩ := h5.2.1 e
    rw [ea]
    show wp _ (fun q => wp _ (YN (¬ OFC v w (nI j).toNatClampNeg) μ))
    rw [nI_clamp (by omega)]
    refine wp_mono (m_isOfClass h hw (show j < 32 by omega)) (fun q hq2 => ?_)
    rcases hq2.1 with ⟨z1, z2⟩ | ⟨z1, z2⟩
    · refine wp_if_f (by rw [z1]; exact one_ne) (wp_some ⟨Or.inr ⟨rfl, fun y => y z2⟩, hq2.2⟩)
    · refine wp_if_t z1 (wp_some ⟨Or.inl ⟨rfl, z2⟩, hq2.2⟩)
  · refine wp_if_t (by decide) ?_
    obtain ⟨j, hj, ea⟩ := h5.2.2.1 e
    rw [ea]
    show wp _ (YN (¬ SRT (nI j).toNatClampNeg w) μ)
    rw [nI_clamp (by omega)]
    unfold SRT
    by_cases j0 : j = 0
    · subst j0
      refine wp_if_t rfl (wp_lt ?_)
      rw [r_lit hw]
      by_cases q : 20 ≤ w
      · rw [if_pos q]; exact yn_1 (by omega)
      · rw [if_neg q]; exact yn_0 (by omega)
    · refine wp_if_f (show ¬ nI j = nI 0 from nI_ne (by omega) (by omega) j0) (wp_lt ?_)
      rw [r_lit hw]
      by_cases q : 20 ≤ w
      · rw [if_pos q]
        refine wp_if_f one_ne ?_
        by_cases j1 : j ≤ 1
        · exact wp_if_t (show nI j ≤ nI 1 from nI_le j1 (by omega)) (yn_0 (by omega))
        · refine wp_if_f (show ¬ nI j ≤ nI 1 from nI_ge (by omega) (by omega)) (wp_lt ?_)
          rw [r_tag w hw, show nI j - 2 = nI (j - 2) from pk_sub (a := j) (b := 2) (by omega)]
          by_cases q2 : w % 2 = j - 2
          · exact wp_if_t (by rw [q2]) (yn_0 (by omega))
          · exact wp_if_f (nI_ne (by omega) (by omega) q2) (yn_1 (by omega))
      · rw [if_neg q]
        exact wp_if_t rfl (yn_1 (by omega))
  · refine wp_if_t (by decide) (wp_lt ?_)
    show wp _ (YN (¬ (20 ≤ w ∧ ¬ nI ((w - 20) / 2) < v.2.2 6 c ∧ ¬ v.2.2 7 c < nI ((w - 20) / 2))) μ)
    rw [r_lit hw]
    by_cases q : 20 ≤ w
    · rw [if_pos q]
      refine wp_if_f one_ne (wp_lt ?_)
      rw [r_num w hw q]
      by_cases q2 : nI ((w - 20) / 2) < v.2.2 6 c
      · exact wp_if_t q2 (yn_1 (fun z => z.2.1 q2))
      · refine wp_if_f q2 (wp_lt ?_)
        by_cases q3 : nI ((w - 20) / 2) ≤ v.2.2 7 c
        · refine wp_if_t q3 (yn_0 (fun z => z ⟨q, q2, ?_⟩))
          intro y
          exact absurd (Int32.lt_of_lt_of_le y q3) (Int32.lt_irrefl)
        · refine wp_if_f q3 (yn_1 (fun z => z.2.2 ?_))
          rcases Int32.lt_or_le (v.2.2 7 c) (nI ((w - 20) / 2)) with y | y
          · exact y
          · exact absurd y q3
    · rw [if_neg q]
      exact wp_if_t rfl (yn_1 (fun z => q z.1))
  · refine wp_if_t (by decide) ?_
    show wp _ (YN (bt (v.2.2 6 c) w = false) μ)
    have hb : bt (v.2.2 6 c >>> (nI w &&& 31)) 0 = bt (v.2.2 6 c) w := by rw [b_sshr w hw _ (by omega), if_pos (by omega)]; rfl
    by_cases q : bt (v.2.2 6 c) w = false
    · exact wp_if_t ((b_and1 _).mpr (by rw [hb]; exact q)) (yn_1 q)
    · exact wp_if_f (fun z => q (by rw [← hb]; exact (b_and1 _).mp z)) (yn_0 q)
  · refine wp_if_t (by decide) (wp_bn ?_)
    obtain ⟨j, hj, ea⟩ := h5.2.2.2.2.1 (by omega) (by omega)
    rw [ea]
    show wp _ (fun q => wp _ (YN (TR v x (nI j).toNatClampNeg w) μ))
    rw [nI_clamp (by omega)]
    refine wp_mono (m_leads h hx hj hw) (fun r hr => ?_)
    rcases hr with ⟨er, hr⟩ | ⟨er, hr⟩
    · subst er; exact wp_cb (Or.inr rfl) (yn_1 hr)
    · subst er; exact wp_cb (Or.inl rfl) (yn_0 hr)
  · refine wp_if_t (by decide) (wp_lt ?_)
    obtain ⟨j, hj, ea⟩ := h5.2.2.2.2.1 (by omega) (by omega)
    rw [ea, r_lit hw]
    show wp _ (YN (¬ LES v x (nI j).toNatClampNeg w) μ)
    rw [nI_clamp (by omega)]
    by_cases q : 20 ≤ w
    · rw [if_pos q]
      refine wp_if_f one_ne (wp_bn (wp_mono (m_below h hx hj hw q) (fun r hr => ?_)))
      rcases hr with ⟨er, hr⟩ | ⟨er, hr⟩
      · subst er; exact wp_if_f one_ne (yn_0 (fun z => z hr))
      · subst er; exact wp_if_t rfl (yn_1 hr)
    · rw [if_neg q]
      exact wp_if_t rfl (yn_1 (fun z => q z.1))
  · refine wp_if_t (by decide) ?_
    obtain ⟨j, hj, ea, eS⟩ := fA (by omega)
    rw [ea, ix32]
    show wp _ (YN (FIT v (nI j).toNatClampNeg w) μ)
    rw [nI_clamp (show j < 2 ^ 31 by omega)]
    refine wp_ckN rfl (show 32 * j + w < 384 by omega) (by omega) ?_
    rw [nI_clamp (by omega)]
    rcases eS w hw with ⟨z1, z2⟩ | ⟨z1, z2⟩
    · rw [z1]; exact wp_cb (Or.inr rfl) (yn_1 z2)
    · rw [z1]; exact wp_cb (Or.inl rfl) (yn_0 z2)
  · refine wp_if_t (by decide) ?_
    obtain ⟨j, hj, ea, eS⟩ := fA (by omega)
    obtain ⟨i, hi, eb, eT⟩ := fB (by omega) (by omega)
    rw [ea, eb, ix32, ix32]
    show wp _ (YN (¬ (FIT v (nI j).toNatClampNeg w ∧ FIT v (nI i).toNatClampNeg w)) μ)
    rw [nI_clamp (show j < 2 ^ 31 by omega), nI_clamp (show i < 2 ^ 31 by omega)]
    refine wp_ckN rfl (show 32 * j + w < 384 by omega) (by omega) ?_
    rw [nI_clamp (show 32 * j + w < 2 ^ 31 by omega)]
    rcases eS w hw with ⟨z1, z2⟩ | ⟨z1, z2⟩
    · rw [z1]
      refine wp_if_f one_ne (wp_ckN rfl (show 32 * i + w < 384 by omega) (by omega) ?_)
      rw [nI_clamp (show 32 * i + w < 2 ^ 31 by omega)]
      rcases eT w hw with ⟨y1, y2⟩ | ⟨y1, y2⟩
      · rw [y1]; exact wp_if_f one_ne (yn_0 (fun z => z ⟨z2, y2⟩))
      · rw [y1]; exact wp_if_t rfl (yn_1 (fun z => y2 z.2))
    · rw [z1]; exact wp_if_t rfl (yn_1 (fun z => z2 z.1))
  · refine wp_if_t (by decide) ?_
    obtain ⟨j, hj, ea, eS⟩ := fA (by omega)
    obtain ⟨i, hi, eb, eT⟩ := fB (by omega) (by omega)
    rw [ea, eb, ix32, ix32]
    show wp _ (YN (¬ (FIT v (nI j).toNatClampNeg w ∨ FIT v (nI i).toNatClampNeg w)) μ)
    rw [nI_clamp (show j < 2 ^ 31 by omega), nI_clamp (show i < 2 ^ 31 by omega)]
    refine wp_ckN rfl (show 32 * j + w < 384 by omega) (by omega) ?_
    rw [nI_clamp (show 32 * j + w < 2 ^ 31 by omega)]
    rcases eS w hw with ⟨z1, z2⟩ | ⟨z1, z2⟩
    · rw [z1]
      exact wp_if_f one_ne (yn_0 (fun z => z (Or.inl z2)))
    · rw [z1]
      refine wp_if_t rfl (wp_ckN rfl (show 32 * i + w < 384 by omega) (by omega) ?_)
      rw [nI_clamp (show 32 * i + w < 2 ^ 31 by omega)]
      rcases eT w hw with ⟨y1, y2⟩ | ⟨y1, y2⟩
      · rw [y1]; exact wp_if_f one_ne (yn_0 (fun z => z (Or.inr y2)))
      · rw [y1]; exact wp_if_t rfl (yn_1 (fun z => z.elim z2 y2))
  · refine wp_if_t (by decide) ?_
    obtain ⟨j, hj, ea, eS⟩ := fA (by omega)
    obtain ⟨i, hi, eb, eT⟩ := fB (by omega) (by omega)
    rw [ea, eb, ix32, ix32]
    show wp _ (YN (FIT v (nI j).toNatClampNeg w ↔ FIT v (nI i).toNatClampNeg w) μ)
    rw [nI_clamp (show j < 2 ^ 31 by omega), nI_clamp (show i < 2 ^ 31 by omega)]
    refine wp_ckN rfl (show 32 * j + w < 384 by omega) (by omega) (wp_ckN rfl (show 32 * i + w < 384 by omega) (by omega) ?_)
    rw [nI_clamp (show 32 * j + w < 2 ^ 31 by omega), nI_clamp (show 32 * i + w < 2 ^ 31 by omega)]
    rcases eS w hw with ⟨z1, z2⟩ | ⟨z1, z2⟩
    · rcases eT w hw with ⟨y1, y2⟩ | ⟨y1, y2⟩
      · rw [z1, y1]; exact wp_if_t rfl (yn_1 ⟨fun _ => y2, fun _ => z2⟩)
      · rw [z1, y1]; exact wp_if_f one_ne (yn_0 (fun z => y2 (z.mp z2)))
    · rcases eT w hw with ⟨y1, y2⟩ | ⟨y1, y2⟩
      · rw [z1, y1]; exact wp_if_f (fun z => one_ne z.symm) (yn_0 (fun z => z2 (z.mpr y2)))
      · rw [z1, y1]; exact wp_if_t rfl (yn_1 ⟨fun z => absurd z z2, fun z => absurd z y2⟩)
  all_goals
    obtain ⟨j, hj, ea, eS⟩ := fA (by omega)
    rw [ea, ix32]
    show wp _ (YN (¬ FIT v (nI j).toNatClampNeg w) μ)
    rw [nI_clamp (show j < 2 ^ 31 by omega)]
    refine wp_ckN rfl (show 32 * j + w < 384 by omega) (by omega) ?_
    rw [nI_clamp (by omega)]
    rcases eS w hw with ⟨z1, z2⟩ | ⟨z1, z2⟩
    · rw [z1]; exact wp_if_f one_ne (yn_0 (fun z => z z2))
    · rw [z1]; exact wp_if_t rfl (yn_1 z2)
