/-! sets of literals -/
theorem sort_b : ∀ j, j < 4 → ∀ w, w < 32 → bt (fn_X0_termsOfSort (nI j)) w = decide ((j = 0 ∧ w < 20) ∨ (j = 1 ∧ 20 ≤ w) ∨ (j = 2 ∧ 20 ≤ w ∧ w % 2 = 0) ∨ (j = 3 ∧ 20 ≤ w ∧ w % 2 = 1)) := by decide +kernel
theorem lit_b : ∀ n, n < 6 → ∀ w, w < 32 → bt (fn_X0_literalsWithNumber (nI n)) w = decide (20 ≤ w ∧ (w - 20) / 2 = n) := by decide +kernel
theorem nodes_b : ∀ w, w < 32 → bt 1048575 w = decide (w < 20) := by decide +kernel
theorem tag0_b : ∀ w, w < 32 → bt 1431306240 w = decide (20 ≤ w ∧ w % 2 = 0) := by decide +kernel
theorem tag1_b : ∀ w, w < 32 → bt (-1432354816) w = decide (20 ≤ w ∧ w % 2 = 1) := by decide +kernel
theorem btw_0 {x a b : Int32} : fn_X0_isBetween x a b = 0 ↔ ¬ (¬ x < a ∧ ¬ b < x) := by
  unfold fn_X0_isBetween
  by_cases q : x < a
  · rw [if_pos q]; exact ⟨fun _ z => z.1 q, fun _ => rfl⟩
  · rw [if_neg q]
    by_cases q2 : b < x
    · rw [if_pos q2]; exact ⟨fun _ z => z.2 q2, fun _ => rfl⟩
    · rw [if_neg q2]; exact ⟨fun z => absurd z one_ne, fun z => absurd ⟨q, q2⟩ z⟩
theorem btw_loop {a b : Int32} : ∀ (n i : Nat) (acc : Int32), i ≤ 6 → 6 < i + n → wp (fn_X0_literalsBetween_4 n a b acc (nI i)) (fun r => ∀ w, w < 32 → (bt r w = true ↔ bt acc w = true ∨ ∃ j, i ≤ j ∧ j < 6 ∧ (¬ (nI j < a) ∧ ¬ (b < nI j)) ∧ 20 ≤ w ∧ (w - 20) / 2 = j)) := by
  intro n
  induction n with
  | zero => intro i acc h1 h2; omega
  | succ n ih =>
    intro i acc hi hin
    rw [fn_X0_literalsBetween_4]
    by_cases e : i = 6
    · subst e
      refine wp_if_t (by decide) (wp_some (fun w _ => ?_))
      exact ⟨fun z => Or.inl z, fun z => z.elim id (fun y => absurd y ex_none)⟩
    · refine wp_if_f (show ¬ (6 : Int32) ≤ nI i from nI_ge (b := 6) (by omega) (by omega)) (wp_lt ?_)
      by_cases q : fn_X0_isBetween (nI i) a b = 0
      · refine wp_if_t q (wp_lt ?_)
        rw [nI_1]
        refine wp_mono (ih (i + 1) acc (by omega) (by omega)) (fun r hr w hw => ?_)
        rw [hr w hw, ex_step (show i < 6 by omega)]
        rw [btw_0] at q
        exact ⟨fun z => z.elim Or.inl (fun y => Or.inr (Or.inr y)), fun z => z.elim Or.inl (fun y => y.elim (fun y => absurd y.1 q) Or.inr)⟩
      · refine wp_if_f q (wp_lt (wp_lt (wp_lt ?_)))
        rw [nI_1]
        refine wp_mono (ih (i + 1) _ (by omega) (by omega)) (fun r hr w hw => ?_)
        rw [hr w hw, ex_step (show i < 6 by omega), b_or, Bool.or_eq_true, lit_b i (by omega) w hw, decide_eq_true_iff]
        have q' := Classical.not_not.mp (fun z => q (btw_0.mpr z))
        constructor
        · rintro ((z | z) | z)
          · exact Or.inl z
          · exact Or.inr (Or.inl ⟨q', z⟩)
          · exact Or.inr (Or.inr z)
        · rintro (z | z | z)
          · exact Or.inl (Or.inl z)
          · exact Or.inl (Or.inr z.2)
          · exact Or.inr z
theorem c_btw (a b : Int32) : wp (fn_X0_literalsBetween a b) (fun r => ∀ w, w < 32 → (bt r w = true ↔ 20 ≤ w ∧ ¬ nI ((w - 20) / 2) < a ∧ ¬ b < nI ((w - 20) / 2))) := by
  unfold fn_X0_literalsBetween
  refine wp_mono (btw_loop fu 0 0 (by omega) (by unfold fu; omega)) (fun r hr w hw => ?_)
  rw [hr w hw, b_0]
  constructor
  · rintro (z | ⟨j, -, -, z1, z2, z3⟩)
    · cases z
    · subst z3; exact ⟨z2, z1⟩
  · rintro ⟨z1, z2⟩
    exact Or.inr ⟨(w - 20) / 2, by omega, by omega, z2, z1, rfl⟩
theorem and_0 {x y : Int32} : x &&& y = 0 ↔ ∀ i, i < 32 → ¬ (bt x i = true ∧ bt y i = true) := by
  rw [b_ne0]
  constructor
  · intro h i hi z
    have := h i hi
    rw [b_and, z.1, z.2] at this
    cases this
  · intro h i hi
    rw [b_and]
    cases e1 : bt x i
    · rfl
    · cases e2 : bt y i
      · rfl
      · exact absurd ⟨e1, e2⟩ (h i hi)
theorem sml_loop {t : Int32} (h0 : ∀ u, u < 20 → ¬ bt t u = true) : ∀ (n i : Nat) (acc : Int32), i ≤ 6 → 6 < i + n → (∀ u, u < 32 → bt t u = true → i ≤ (u - 20) / 2) → (∀ w, w < 32 → (bt acc w = true ↔ 20 ≤ w ∧ (w - 20) / 2 < i)) →
    wp (fn_X0_literalsSmallerThanAll_13 n t acc (nI i)) (fun r => ∀ w, w < 32 → (bt r w = true ↔ 20 ≤ w ∧ ∀ u, u < 32 → bt t u = true → 20 ≤ u ∧ (w - 20) / 2 < (u - 20) / 2)) := by
  intro n
  induction n with
  | zero => intro i acc h1 h2; omega
  | succ n ih =>
    intro i acc hi hin hlow hacc
    rw [fn_X0_literalsSmallerThanAll_13]
    by_cases e : i = 6
    · subst e
      refine wp_if_t (by decide) (wp_some (fun w hw => ?_))
      rw [hacc w hw]
      refine and_congr Iff.rfl ⟨fun _ u hu z => ?_, fun _ => by omega⟩
      have := hlow u hu z
      omega
    · refine wp_if_f (show ¬ (6 : Int32) ≤ nI i from nI_ge (b := 6) (by omega) (by omega)) (wp_lt ?_)
      by_cases q : t &&& fn_X0_literalsWithNumber (nI i) = 0
      · refine wp_if_t q (wp_lt (wp_lt (wp_lt ?_)))
        rw [nI_1]
        refine ih (i + 1) _ (by omega) (by omega) (fun u hu z => ?_) (fun w hw => ?_)
        · have h1 := hlow u hu z
          have h2 := and_0.mp q u hu
          rw [lit_b i (by omega) u hu, decide_eq_true_iff] at h2
          have h3 : 20 ≤ u := by
            rcases Nat.lt_or_ge u 20 with y | y
            · exact absurd z (h0 u y)
            · exact y
          have : ¬ (u - 20) / 2 = i := fun y => h2 ⟨z, h3, y⟩
          omega
        · rw [b_or, Bool.or_eq_true, hacc w hw, lit_b i (by omega) w hw, decide_eq_true_iff]
          omega
      · refine wp_if_f q (wp_some (fun w hw => ?_))
        rw [hacc w hw]
        refine and_congr Iff.rfl ⟨fun y u hu z => ?_, fun y => ?_⟩
        · have h1 := hlow u hu z
          refine ⟨?_, by omega⟩
          rcases Nat.lt_or_ge u 20 with y | y
          · exact absurd z (h0 u y)
          · exact y
        · have : ∃ u, u < 32 ∧ bt t u = true ∧ 20 ≤ u ∧ (u - 20) / 2 = i := by
            apply Classical.byContradiction
            intro no
            refine q (and_0.mpr (fun u hu z => no ⟨u, hu, z.1, ?_⟩))
            have := z.2
            rw [lit_b i (by omega) u hu, decide_eq_true_iff] at this
            exact this
          obtain ⟨u, hu, z, -, e2⟩ := this
          have := (y u hu z).2
          omega
theorem c_sml (t : Int32) : wp (fn_X0_literalsSmallerThanAll t) (fun r => ∀ w, w < 32 → (bt r w = true ↔ 20 ≤ w ∧ ∀ u, u < 32 → bt t u = true → 20 ≤ u ∧ (w - 20) / 2 < (u - 20) / 2)) := by
  unfold fn_X0_literalsSmallerThanAll
  by_cases q : t &&& 1048575 = 0
  · refine wp_if_t q (sml_loop (fun u hu z => ?_) fu 0 0 (by omega) (by unfold fu; omega) (fun u _ _ => by omega) (fun w _ => ?_))
    · refine and_0.mp q u (by omega) ⟨z, ?_⟩
      rw [nodes_b u (by omega), decide_eq_true_iff]; exact hu
    · rw [b_0]; exact ⟨fun z => absurd z Bool.false_ne_true, fun z => by omega⟩
  · refine wp_if_f q (wp_some (fun w hw => ?_))
    rw [b_0]
    refine ⟨fun z => (by cases z), fun z => ?_⟩
    exfalso
    refine q (and_0.mpr (fun u hu y => ?_))
    have h1 := (z.2 u hu y.1).1
    have h2 := y.2
    rw [nodes_b u hu, decide_eq_true_iff] at h2
    omega
/-! two or more -/
theorem cnt_1 (f : Nat → Bool) (n : Nat) : 1 ≤ cnt f n ↔ ∃ i, i < n ∧ f i = true := by
  induction n with
  | zero => exact ⟨fun z => absurd z (by unfold cnt; omega), fun ⟨i, h, _⟩ => by omega⟩
  | succ n ih =>
    rw [cnt]
    by_cases q : f n = true
    · rw [if_pos q]; exact ⟨fun _ => ⟨n, by omega, q⟩, fun _ => by omega⟩
    · rw [if_neg q, Nat.add_zero, ih]
      constructor
      · rintro ⟨i, h, z⟩; exact ⟨i, by omega, z⟩
      · rintro ⟨i, h, z⟩
        by_cases e : i = n
        · subst e; exact absurd z q
        · exact ⟨i, by omega, z⟩
theorem cnt_2 (f : Nat → Bool) (n : Nat) : 2 ≤ cnt f n ↔ ∃ i j, i < j ∧ j < n ∧ f i = true ∧ f j = true := by
  induction n with
  | zero => exact ⟨fun z => absurd z (by unfold cnt; omega), fun ⟨i, j, _, h, _⟩ => by omega⟩
  | succ n ih =>
    rw [cnt]
    by_cases q : f n = true
    · rw [if_pos q, show 2 ≤ cnt f n + 1 ↔ 1 ≤ cnt f n by omega, cnt_1]
      constructor
      · rintro ⟨i, h, z⟩; exact ⟨i, n, h, by omega, z, q⟩
      · rintro ⟨i, j, h1, h2, h3, _⟩; exact ⟨i, by omega, h3⟩
    · rw [if_neg q, Nat.add_zero, ih]
      constructor
      · rintro ⟨i, j, h1, h2, z⟩; exact ⟨i, j, h1, by omega, z⟩
      · rintro ⟨i, j, h1, h2, z1, z2⟩
        by_cases e : j = n
        · subst e; exact absurd z2 q
        · exact ⟨i, j, h1, by omega, z1, z2⟩
theorem b_low (t : Int32) {w : Nat} (hw : w < 32) : bt (t &&& -t) w = true ↔ bt t w = true ∧ ∀ u, u < w → ¬ bt t u = true := by
  rw [b_and]
  have : bt (-t) w = (bt t w ^^ decide (∃ j, j < w ∧ bt t j = true)) := by
    unfold bt
    rw [Int32.toBitVec_neg, BitVec.getLsbD_neg]
    simp [hw]
  rw [this]
  cases e : bt t w
  · simp
  · simp
theorem two_le (m : Nat) (h : m ≤ 32) : (2 : Int32) ≤ nI m ↔ 2 ≤ m := nI_leI (a := 2) (by omega) (by omega)
theorem c_two {t : Int32} {P : Nat → Prop} (h : ∀ w, w < 32 → (bt t w = true ↔ P w)) {w : Nat} (hw : w < 32) : bt (fn_X0_leastOfTwoOrMore t) w = true ↔ P w ∧ (∀ u, u < w → ¬ P u) ∧ ∃ u, w < u ∧ u < 32 ∧ P u := by
  unfold fn_X0_leastOfTwoOrMore
  show bt (if 2 ≤ fn_J0_bitCount t then t &&& -t else 0) w = true ↔ _
  rw [bitCount_cnt]
  by_cases q : (2 : Int32) ≤ nI (cnt (bt t) 32)
  · rw [if_pos q, b_low t hw, h w hw]
    rw [two_le _ (cnt_le _ 32), cnt_2] at q
    refine and_congr_right (fun hP => ⟨fun z => ⟨fun u hu y => z u hu ((h u (by omega)).mpr y), ?_⟩, fun z u hu y => z.1 u hu ((h u (by omega)).mp y)⟩)
    obtain ⟨i, j, h1, h2, h3, h4⟩ := q
    refine ⟨j, ?_, h2, (h j h2).mp h4⟩
    have : ¬ i < w := fun y => z i y h3
    omega
  · rw [if_neg q, b_0]
    refine ⟨fun z => (by cases z), fun z => ?_⟩
    exfalso
    obtain ⟨z1, -, u, z2, z3, z4⟩ := z
    refine q ((two_le _ (cnt_le _ 32)).mpr ((cnt_2 _ _).mpr ⟨w, u, z2, z3, (h w hw).mpr z1, (h u z3).mpr z4⟩))
/-! all that nodes lead to by what is not allowed -/
theorem ab_24 {σ : S2} {K : S2 → Int32 → Int32 → Int32 → Int32 → Option Int32} {Q : Int32 → Prop} {x1 al : Int32} {y : Nat} (hy : y < 20) : ∀ (n i : Nat) (acc : Int32), i ≤ 8 → 8 < i + n →
    (∀ r : Int32, (∀ w, w < 32 → (bt r w = true ↔ bt acc w = true ∨ ∃ p, i ≤ p ∧ p < 8 ∧ bt al p = false ∧ bt (σ.1 6 (y * 8 + p)) w = true)) → wp (K σ x1 al r (nI (y + 1))) Q) → wp (fn_X1_termsAheadBut_24 K n σ x1 al acc (nI y) (nI i)) Q := by
  intro n
  induction n with
  | zero => intro i acc h1 h2; omega
  | succ n ih =>
    intro i acc hi hin hK
    rw [fn_X1_termsAheadBut_24]
    by_cases e : i = 8
    · subst e
      refine wp_if_t (by decide) (wp_lt ?_)
      rw [nI_1]
      exact hK acc (fun w _ => ⟨Or.inl, fun z => z.elim id (fun y => absurd y ex_none)⟩)
    · refine wp_if_f (show ¬ (8 : Int32) ≤ nI i from nI_ge (b := 8) (by omega) (by omega)) (wp_lt ?_)
      rw [hold_bt (show i < 32 by omega)]
      by_cases q : bt al i = true
      · rw [if_pos q]
        refine wp_if_f one_ne (wp_lt (wp_lt ?_))
        rw [nI_1]
        refine ih (i + 1) _ (by omega) (by omega) (fun r hr => hK r (fun w hw => ?_))
        rw [hr w hw, ex_step (show i < 8 by omega), b_or, b_0, Bool.or_false, q]
        exact ⟨fun z => z.elim Or.inl (fun y => Or.inr (Or.inr y)), fun z => z.elim Or.inl (fun y => y.elim (fun y => by cases y.1) Or.inr)⟩
      · rw [if_neg q]
        refine wp_if_t rfl ?_
        rw [ix8]
        refine wp_ckN rfl (show y * 8 + i < 160 by omega) (by omega) (wp_lt (wp_lt ?_))
        rw [nI_1, nI_clamp (by omega)]
        refine ih (i + 1) _ (by omega) (by omega) (fun r hr => hK r (fun w hw => ?_))
        rw [hr w hw, ex_step (show i < 8 by omega), b_or, Bool.or_eq_true]
        have q' : bt al i = false := by simpa using q
        constructor
        · rintro ((z | z) | z)
          · exact Or.inl z
          · exact Or.inr (Or.inl ⟨q', z⟩)
          · exact Or.inr (Or.inr z)
        · rintro (z | z | z)
          · exact Or.inl (Or.inl z)
          · exact Or.inl (Or.inr z.2)
          · exact Or.inr z
theorem ab_5 {σ : S2} {x1 al : Int32} : ∀ (n i : Nat) (acc : Int32), i ≤ 20 → 20 < i + n → wp (fn_X1_termsAheadBut_5 n σ x1 al acc (nI i)) (fun r => ∀ w, w < 32 → (bt r w = true ↔ bt acc w = true ∨ ∃ y, i ≤ y ∧ y < 20 ∧ bt x1 y = true ∧ ∃ p, p < 8 ∧ bt al p = false ∧ bt (σ.1 6 (y * 8 + p)) w = true)) := by
  intro n
  induction n with
  | zero => intro i acc h1 h2; omega
  | succ n ih =>
    intro i acc hi hin
    rw [fn_X1_termsAheadBut_5]
    by_cases e : i = 20
    · subst e
      refine wp_if_t (by decide) (wp_some (fun w _ => ?_))
      exact ⟨Or.inl, fun z => z.elim id (fun y => absurd y ex_none)⟩
    · refine wp_if_f (show ¬ (20 : Int32) ≤ nI i from nI_ge (b := 20) (by omega) (by omega)) (wp_lt ?_)
      rw [hold_bt (show i < 32 by omega)]
      by_cases q : bt x1 i = true
      · rw [if_pos q]
        refine wp_if_f one_ne (ab_24 (by omega) fu 0 acc (by omega) (by unfold fu; omega) (fun r hr => ?_))
        refine wp_mono (ih (i + 1) r (by omega) (by omega)) (fun r' hr' w hw => ?_)
        rw [hr' w hw, ex_step (show i < 20 by omega), hr w hw]
        constructor
        · rintro ((z | ⟨p, -, z⟩) | z)
          · exact Or.inl z
          · exact Or.inr (Or.inl ⟨q, p, z⟩)
          · exact Or.inr (Or.inr z)
        · rintro (z | ⟨-, p, z⟩ | z)
          · exact Or.inl (Or.inl z)
          · exact Or.inl (Or.inr ⟨p, by omega, z⟩)
          · exact Or.inr z
      · rw [if_neg q]
        refine wp_if_t rfl (wp_lt ?_)
        rw [nI_1]
        refine wp_mono (ih (i + 1) acc (by omega) (by omega)) (fun r' hr' w hw => ?_)
        rw [hr' w hw, ex_step (show i < 20 by omega)]
        exact ⟨fun z => z.elim Or.inl (fun y => Or.inr (Or.inr y)), fun z => z.elim Or.inl (fun y => y.elim (fun y => absurd y.1 q) Or.inr)⟩
theorem c_but {σ : S2} {v : VT} (h : IC σ v) (x1 al : Int32) : wp (fn_X1_termsAheadBut σ x1 al) (fun r => ∀ w, w < 32 → (bt r w = true ↔ ∃ y, y < 20 ∧ bt x1 y = true ∧ ∃ p, p < 8 ∧ bt al p = false ∧ TR v y p w)) := by
  unfold fn_X1_termsAheadBut
  refine wp_mono (ab_5 fu 0 0 (by omega) (by unfold fu; omega)) (fun r hr w hw => ?_)
  rw [hr w hw, b_0]
  constructor
  · rintro (z | ⟨y, -, h2, h3, p, h4, h5, h6⟩)
    · cases z
    · rw [h.2.1 y p w h2 h4 hw] at h6
      exact ⟨y, h2, h3, p, h4, h5, h2, h6⟩
  · rintro ⟨y, h2, h3, p, h4, h5, h6⟩
    refine Or.inr ⟨y, by omega, h2, h3, p, h4, h5, ?_⟩
    rw [h.2.1 y p w h2 h4 hw]; exact h6.2
