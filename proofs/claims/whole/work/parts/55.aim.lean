/-! whom a shape is for -/
def AIM (v : VT) (k a x : Nat) : Prop := (k = 0 ∧ x = a) ∨ (k = 1 ∧ OFC v x a) ∨ (k = 2 ∧ ∃ o, o < 32 ∧ TR v x a o) ∨ (k = 3 ∧ ∃ s, s < 32 ∧ TR v s a x)
def FOR (v : VT) (s x : Nat) : Prop := ∃ i, i < v.2.1 1 ∧ ∃ k a, v.2.2 1 i = nI s ∧ v.2.2 2 i = nI k ∧ v.2.2 3 i = nI a ∧ okG k a ∧ AIM v k a x
theorem okG_a {k a : Nat} (h : okG k a) : a < 32 := by
  obtain ⟨h0, h1, h2, h3⟩ := h
  rcases (show k = 0 ∨ k = 1 ∨ 2 ≤ k by omega) with z | z | z
  · exact h1 z
  · have := h2 z; omega
  · have := h3 z; omega
theorem led_loop {σ : S2} {p : Nat} (hp : p < 8) : ∀ (n i : Nat) (acc : Int32), i ≤ 20 → 20 < i + n → wp (fn_X1_termsLedTo_4 n σ (nI p) acc (nI i)) (fun r => ∀ o, o < 32 → (bt r o = true ↔ bt acc o = true ∨ ∃ j, i ≤ j ∧ j < 20 ∧ bt (σ.1 6 (j * 8 + p)) o = true)) := by
  intro n
  induction n with
  | zero => intro i acc h1 h2; omega
  | succ n ih =>
    intro i acc hi hn
    rw [fn_X1_termsLedTo_4]
    by_cases h : i = 20
    · subst h
      refine wp_if_t (nI_le (a := 20) (Nat.le_refl _) (by omega)) (wp_some ?_)
      intro s hs
      exact ⟨Or.inl, fun z => z.elim id (fun z => absurd z ex_none)⟩
    · have hlt : i < 20 := by omega
      refine wp_if_f (nI_ge (b := 20) hlt (by omega)) (wp_if_f (nI_pos (by omega)) (wp_if_f (nI_ge (b := 8) hp (by omega)) ?_))
      rw [ix8]
      refine wp_ckN rfl (by omega) (by omega) (wp_lt (wp_lt ?_))
      rw [nI_clamp (by omega), nI_1]
      refine wp_mono (ih (i + 1) _ (by omega) (by omega)) (fun r hr s hs => ?_)
      rw [hr s hs, b_or, ex_step hlt]
      simp only [Bool.or_eq_true, or_assoc]
theorem c_led {σ : S2} {v : VT} (h : IC σ v) {p : Nat} (hp : p < 8) : wp (fn_X1_termsLedTo σ (nI p)) (fun r => ∀ o, o < 32 → (bt r o = true ↔ ∃ s, s < 32 ∧ TR v s p o)) := by
  unfold fn_X1_termsLedTo
  refine wp_mono (led_loop hp fu 0 0 (by omega) (by unfold fu; omega)) (fun r hr o ho => ?_)
  rw [hr o ho, b_0]
  constructor
  · rintro (z | ⟨j, -, h1, h2⟩)
    · cases z
    · exact ⟨j, by omega, h1, by rw [← h.2.1 j p o h1 hp ho]; exact h2⟩
  · rintro ⟨j, h1, h2⟩
    exact Or.inr ⟨j, Nat.zero_le j, h2.1, by rw [h.2.1 j p o h2.1 hp ho]; exact h2.2⟩
theorem c_aimed {σ : S2} {v : VT} (h : IC σ v) {k a : Nat} (hk : okG k a) : wp (fn_X3_termsAimedAt σ (nI k) (nI a)) (fun r => ∀ x, x < 32 → (bt r x = true ↔ AIM v k a x)) := by
  have ha := okG_a hk
  unfold fn_X3_termsAimedAt
  by_cases e0 : k = 0
  · subst e0
    refine wp_if_t rfl (wp_some (fun x hx => ?_))
    rw [b_one a ha hx]
    simp [AIM]
  · refine wp_if_f (nI_ne (b := 0) (by have := hk.1; omega) (by omega) e0) ?_
    by_cases e1 : k = 1
    · subst e1
      refine wp_if_t rfl (wp_bn (wp_mono (c_ofClass h (hk.2.2.1 rfl)) (fun r hr => wp_some (fun x hx => ?_))))
      rw [hr x hx]
      simp [AIM]
    · refine wp_if_f (nI_ne (b := 1) (by have := hk.1; omega) (by omega) e1) ?_
      have h8 : a < 8 := hk.2.2.2 (by omega)
      by_cases e2 : k = 2
      · subst e2
        refine wp_if_t rfl (wp_bn (wp_mono (c_tbo h (-1) h8) (fun r hr => wp_some (fun x hx => ?_))))
        rw [hr x hx]
        unfold AIM
        constructor
        · rintro ⟨j, h1, -, h2⟩
          exact Or.inr (Or.inr (Or.inl ⟨rfl, j, h1, h2⟩))
        · rintro (z | z | ⟨-, j, h1, h2⟩ | z)
          · omega
          · omega
          · exact ⟨j, h1, b_m1 j h1, h2⟩
          · omega
      · refine wp_if_f (nI_ne (b := 2) (by have := hk.1; omega) (by omega) e2) ?_
        have e3 : k = 3 := by have := hk.1; omega
        subst e3
        refine wp_bn (wp_mono (c_led h h8) (fun r hr => wp_some (fun x hx => ?_)))
        rw [hr x hx]
        simp [AIM]
theorem for_loop {σ : S2} {v : VT} (h : IC σ v) (hv : IV v) {s : Nat} (hs : s < v.2.1 0) : ∀ (n i : Nat) (acc : Int32), i ≤ v.2.1 1 → v.2.1 1 < i + n → wp (fn_X3_termsOf_5 n σ (nI s) acc (nI i)) (fun r => ∀ x, x < 32 → (bt r x = true ↔ bt acc x = true ∨ ∃ j, i ≤ j ∧ j < v.2.1 1 ∧ ∃ k a, v.2.2 1 j = nI s ∧ v.2.2 2 j = nI k ∧ v.2.2 3 j = nI a ∧ okG k a ∧ AIM v k a x)) := by
  have h24 := hv.2.1
  have h12 := hv.1
  intro n
  induction n with
  | zero => intro i acc h1 h2; omega
  | succ n ih =>
    intro i acc hi hn
    rw [fn_X3_termsOf_5, h.1.2.1]
    by_cases e : i = v.2.1 1
    · refine wp_if_t (nI_le (by omega) (by omega)) (wp_some ?_)
      intro x hx
      rw [e]
      exact ⟨Or.inl, fun z => z.elim id (fun z => absurd z ex_none)⟩
    · have hlt : i < v.2.1 1 := by omega
      refine wp_if_f (nI_ge hlt (by omega)) (wp_ckN rfl (by omega) (by omega) ?_)
      rw [nI_clamp (by omega)]
      obtain ⟨g1, g2, g3⟩ := h.2.2.2.2.1 i hlt
      obtain ⟨s', k, a, q1, q2, q3, q4, q5⟩ := hv.2.2.2.2.1 i hlt
      have ha := okG_a q2
      have hk := q2.1
      rw [g1, g2, g3, q3, q4, q5]
      by_cases z : s' = s
      · subst z
        refine wp_if_t rfl (wp_ckN rfl (by omega) (by omega) (wp_ckN rfl (by omega) (by omega) (wp_bn ?_)))
        refine wp_mono (c_aimed h q2) (fun r hr => wp_lt (wp_lt ?_))
        rw [nI_1]
        refine wp_mono (ih (i + 1) _ (by omega) (by omega)) (fun r2 hr2 x hx => ?_)
        rw [hr2 x hx, b_or, ex_step hlt, Bool.or_eq_true, hr x hx, or_assoc]
        have : (∃ k a, v.2.2 1 i = nI s' ∧ v.2.2 2 i = nI k ∧ v.2.2 3 i = nI a ∧ okG k a ∧ AIM v k a x) ↔ AIM v k a x := by
          constructor
          · rintro ⟨k2, a2, y1, y2, y3, y4, y5⟩
            rw [q4] at y2
            rw [q5] at y3
            have e1 := (nI_eq (by omega) (by have := y4.1; omega)).mp y2
            have e2 := (nI_eq (by omega) (by have := okG_a y4; omega)).mp y3
            subst e1
            subst e2
            exact y5
          · intro y
            exact ⟨k, a, q3, q4, q5, q2, y⟩
        rw [this]
      · refine wp_if_f (nI_ne (by omega) (by omega) z) (wp_lt ?_)
        rw [nI_1]
        refine wp_mono (ih (i + 1) _ (by omega) (by omega)) (fun r2 hr2 x hx => ?_)
        rw [hr2 x hx, ex_step hlt]
        have : ¬ (∃ k a, v.2.2 1 i = nI s ∧ v.2.2 2 i = nI k ∧ v.2.2 3 i = nI a ∧ okG k a ∧ AIM v k a x) := by
          rintro ⟨k2, a2, y1, -⟩
          rw [q3] at y1
          exact z ((nI_eq (by omega) (by omega)).mp y1)
        simp only [this, false_or]
theorem c_termsOf {σ : S2} {v : VT} (h : IC σ v) (hv : IV v) {s : Nat} (hs : s < v.2.1 0) : wp (fn_X3_termsOf σ (nI s)) (fun r => ∀ x, x < 32 → (bt r x = true ↔ FOR v s x)) := by
  have h24 := hv.2.1
  unfold fn_X3_termsOf
  refine wp_mono (for_loop h hv hs fu 0 0 (by omega) (by unfold fu; omega)) (fun r hr x hx => ?_)
  rw [hr x hx, b_0]
  constructor
  · rintro (z | ⟨j, -, z⟩)
    · cases z
    · exact ⟨j, z⟩
  · rintro ⟨j, z⟩
    exact Or.inr ⟨j, Nat.zero_le j, z⟩
/-! the reference -/
theorem m120 {v : VT} {K5 : S2 → Int32 → Int32 → Int32 → Int32 → Option (Int32 × S2)} {K91 : S2 → Int32 → Int32 → Int32 → Int32 → Int32 → Int32 → Int32 → Option (Int32 × S2)} {Q : Int32 × S2 → Prop} {x1 x4 : Int32} {x k a i : Nat} {μ : S2} (hM : IM μ v) (hx : x < 32) (hk : k < 4) (ha : 2 ≤ k → a < 8) (hi : i < 32)
    (hK : ∀ r : Int32, ((r = 1 ∧ k = 3 ∧ TR v i a x) ∨ (r = 0 ∧ ¬ (k = 3 ∧ TR v i a x))) → wp (K91 μ x1 (nI x) r x4 (nI a) (nI k) (nI (i + 1))) Q) : wp (fn_X6_isFor_120 K5 K91 μ x1 (nI x) x4 (nI a) (nI k) (nI i)) Q := by
  unfold fn_X6_isFor_120
  by_cases e : k = 3
  · subst e
    refine wp_if_t rfl (wp_bn (wp_mono (m_leads hM (s := i) (p := a) (o := x) hi (ha (by omega)) hx) (fun r hr => ?_)))
    rcases hr with ⟨e, hr⟩ | ⟨e, hr⟩
    · subst e
      refine wp_if_f one_ne (wp_lt ?_)
      rw [nI_1]
      exact hK 1 (Or.inl ⟨rfl, rfl, hr⟩)
    · subst e
      refine wp_if_t rfl (wp_lt ?_)
      rw [nI_1]
      exact hK 0 (Or.inr ⟨rfl, fun z => hr z.2⟩)
  · refine wp_if_f (nI_ne (b := 3) (by omega) (by omega) e) (wp_lt ?_)
    rw [nI_1]
    exact hK 0 (Or.inr ⟨rfl, fun z => e z.1⟩)
/-- what the turns from i on find -/
def F23 (v : VT) (k a x i : Nat) : Prop := ∃ j, i ≤ j ∧ j < 32 ∧ ((k = 2 ∧ TR v x a j) ∨ (k = 3 ∧ TR v j a x))
theorem m91 {v : VT} {K5 : S2 → Int32 → Int32 → Int32 → Int32 → Option (Int32 × S2)} {Q : Int32 × S2 → Prop} {x1 x4 : Int32} {x k a : Nat} {μ : S2} (hM : IM μ v) (hx : x < 32) (hk : k < 4) (ha : 2 ≤ k → a < 8) : ∀ (n i : Nat) (b : Int32), i ≤ 32 → 32 < i + n → (b = 0 ∨ b = 1) →
    (∀ r : Int32, ((r = 1 ∧ (b = 1 ∨ F23 v k a x i)) ∨ (r = 0 ∧ ¬ (b = 1 ∨ F23 v k a x i))) → wp (K5 μ x1 (nI x) r (x4 + 1)) Q) → wp (fn_X6_isFor_91 K5 n μ x1 (nI x) b x4 (nI a) (nI k) (nI i)) Q := by
  intro n
  induction n with
  | zero => intro i b h1 h2; omega
  | succ n ih =>
    intro i b hi hn hb hK
    rw [fn_X6_isFor_91]
    by_cases h : i = 32
    · subst h
      refine wp_if_t (nI_le (a := 32) (Nat.le_refl _) (by omega)) (wp_lt ?_)
      have hno : ¬ F23 v k a x 32 := ex_none
      refine hK b ?_
      rcases hb with e | e
      · subst e
        exact Or.inr ⟨rfl, fun z => z.elim (by decide) hno⟩
      · subst e
        exact Or.inl ⟨rfl, Or.inl rfl⟩
    · have hlt : i < 32 := by omega
      have hst : F23 v k a x i ↔ ((k = 2 ∧ TR v x a i) ∨ (k = 3 ∧ TR v i a x)) ∨ F23 v k a x (i + 1) := ex_step hlt
      refine wp_if_f (nI_ge (b := 32) hlt (by omega)) ?_
      rcases hb with e | e
      · subst e
        refine wp_if_t rfl ?_
        have go : ∀ r : Int32, ((r = 1 ∧ ((k = 2 ∧ TR v x a i) ∨ (k = 3 ∧ TR v i a x))) ∨ (r = 0 ∧ ¬ ((k = 2 ∧ TR v x a i) ∨ (k = 3 ∧ TR v i a x)))) → wp (fn_X6_isFor_91 K5 n μ x1 (nI x) r x4 (nI a) (nI k) (nI (i + 1))) Q := by
          intro r hr
          refine ih (i + 1) r (by omega) (by omega) (hr.elim (fun z => Or.inr z.1) (fun z => Or.inl z.1)) (fun r2 hr2 => hK r2 ?_)
          have h10 : ¬ (0 : Int32) = 1 := by decide
          rw [hst]
          rcases hr with ⟨e, z⟩ | ⟨e, z⟩
          · subst e
            simpa [z] using hr2
          · subst e
            simpa [z] using hr2
        by_cases e2 : k = 2
        · subst e2
          refine wp_if_t rfl (wp_bn (wp_mono (m_leads hM (s := x) (p := a) (o := i) hx (ha (by omega)) hlt) (fun r hr => ?_)))
          rcases hr with ⟨e, hr⟩ | ⟨e, hr⟩
          · subst e
            refine wp_if_f one_ne (wp_lt ?_)
            rw [nI_1]
            exact go 1 (Or.inl ⟨rfl, Or.inl ⟨rfl, hr⟩⟩)
          · subst e
            refine wp_if_t rfl ?_
            refine m120 hM hx hk ha hlt (fun r hr2 => go r ?_)
            rcases hr2 with z | z
            · exact absurd z.2.1 (by decide)
            · exact Or.inr ⟨z.1, fun y => y.elim (fun y => hr y.2) (fun y => z.2 y)⟩
        · refine wp_if_f (nI_ne (b := 2) (by omega) (by omega) e2) ?_
          refine m120 hM hx hk ha hlt (fun r hr2 => go r ?_)
          rcases hr2 with z | z
          · exact Or.inl ⟨z.1, Or.inr z.2⟩
          · exact Or.inr ⟨z.1, fun y => y.elim (fun y => e2 y.1) (fun y => z.2 y)⟩
      · subst e
        refine wp_if_f one_ne (wp_lt ?_)
        rw [nI_1]
        refine ih (i + 1) 1 (by omega) (by omega) (Or.inr rfl) (fun r2 hr2 => hK r2 ?_)
        simpa using hr2
theorem aim23 {v : VT} {k a x : Nat} : AIM v k a x ↔ (k = 0 ∧ x = a) ∨ (k = 1 ∧ OFC v x a) ∨ F23 v k a x 0 := by
  unfold AIM F23
  constructor
  · rintro (z | z | ⟨e, j, h1, h2⟩ | ⟨e, j, h1, h2⟩)
    · exact Or.inl z
    · exact Or.inr (Or.inl z)
    · exact Or.inr (Or.inr ⟨j, Nat.zero_le j, h1, Or.inl ⟨e, h2⟩⟩)
    · exact Or.inr (Or.inr ⟨j, Nat.zero_le j, h1, Or.inr ⟨e, h2⟩⟩)
  · rintro (z | z | ⟨j, -, h1, ⟨e, h2⟩ | ⟨e, h2⟩⟩)
    · exact Or.inl z
    · exact Or.inr (Or.inl z)
    · exact Or.inr (Or.inr (Or.inl ⟨e, j, h1, h2⟩))
    · exact Or.inr (Or.inr (Or.inr ⟨e, j, h1, h2⟩))
def FORi (v : VT) (s x i : Nat) : Prop := ∃ j, i ≤ j ∧ j < v.2.1 1 ∧ ∃ k a, v.2.2 1 j = nI s ∧ v.2.2 2 j = nI k ∧ v.2.2 3 j = nI a ∧ okG k a ∧ AIM v k a x
theorem m5 {v : VT} (hv : IV v) {s x : Nat} (hs : s < v.2.1 0) (hx : x < 32) : ∀ (n i : Nat) (μ : S2) (b : Int32), i ≤ v.2.1 1 → v.2.1 1 < i + n → IM μ v → (b = 0 ∨ b = 1) →
    wp (fn_X6_isFor_5 n μ (nI s) (nI x) b (nI i)) (fun q => ((q.1 = 1 ∧ (b = 1 ∨ FORi v s x i)) ∨ (q.1 = 0 ∧ ¬ (b = 1 ∨ FORi v s x i))) ∧ fr [14] μ q.2) := by
  have h24 := hv.2.1
  have h12 := hv.1
  intro n
  induction n with
  | zero => intro i μ b h1 h2; omega
  | succ n ih =>
    intro i μ b hi hn hM hb
    rw [fn_X6_isFor_5, hM.1.2.1]
    have h10 : ¬ (0 : Int32) = 1 := by decide
    by_cases e : i = v.2.1 1
    · refine wp_if_t (nI_le (by omega) (by omega)) (wp_cb hb (wp_some ⟨?_, fr_rf⟩))
      have hno : ¬ FORi v s x i := by rw [e]; exact ex_none
      rcases hb with z | z
      · exact Or.inr ⟨z, by rw [z]; exact fun y => y.elim h10 hno⟩
      · exact Or.inl ⟨z, Or.inl z⟩
    · have hlt : i < v.2.1 1 := by omega
      refine wp_if_f (nI_ge hlt (by omega)) ?_
      rcases hb with z | z
      · subst z
        refine wp_if_t rfl (wp_ckN rfl (by omega) (by omega) ?_)
        rw [nI_clamp (by omega)]
        obtain ⟨g1, g2, g3⟩ := hM.2.2.2.1 i hlt
        obtain ⟨s', k, a, q1, q2, q3, q4, q5⟩ := hv.2.2.2.2.1 i hlt
        have ha := okG_a q2
        have hk := q2.1
        rw [g1, g2, g3, q3, q4, q5]
        have hst : FORi v s x i ↔ (∃ k a, v.2.2 1 i = nI s ∧ v.2.2 2 i = nI k ∧ v.2.2 3 i = nI a ∧ okG k a ∧ AIM v k a x) ∨ FORi v s x (i + 1) := ex_step hlt
        by_cases w : s' = s
        · subst w
          have hthis : (∃ k a, v.2.2 1 i = nI s' ∧ v.2.2 2 i = nI k ∧ v.2.2 3 i = nI a ∧ okG k a ∧ AIM v k a x) ↔ AIM v k a x := by
            constructor
            · rintro ⟨k2, a2, y1, y2, y3, y4, y5⟩
              rw [q4] at y2
              rw [q5] at y3
              have e1 := (nI_eq (by omega) (by have := y4.1; omega)).mp y2
              have e2 := (nI_eq (by omega) (by have := okG_a y4; omega)).mp y3
              subst e1
              subst e2
              exact y5
            · intro y
              exact ⟨k, a, q3, q4, q5, q2, y⟩
          rw [hthis] at hst
          refine wp_if_t rfl (wp_ckN rfl (by omega) (by omega) (wp_lt (wp_ckN rfl (by omega) (by omega) (wp_lt ?_))))
          have go : ∀ (τ : S2) (b : Int32), fr [14] μ τ → ((b = 1 ∧ ((k = 0 ∧ x = a) ∨ (k = 1 ∧ OFC v x a))) ∨ (b = 0 ∧ ¬ ((k = 0 ∧ x = a) ∨ (k = 1 ∧ OFC v x a)))) → wp (fn_X6_isFor_91 (fn_X6_isFor_5 n) fu τ (nI s') (nI x) b (nI i) (nI a) (nI k) 0) (fun q => ((q.1 = 1 ∧ ((0 : Int32) = 1 ∨ FORi v s' x i)) ∨ (q.1 = 0 ∧ ¬ ((0 : Int32) = 1 ∨ FORi v s' x i))) ∧ fr [14] μ q.2) := by
            intro τ b hf hb
            refine m91 (IM14 hM hf) hx hk (q2.2.2.2) fu 0 b (by omega) (by unfold fu; omega) (hb.elim (fun y => Or.inr y.1) (fun y => Or.inl y.1)) (fun r hr => ?_)
            rw [nI_1]
            refine wp_mono (ih (i + 1) τ r (by omega) (by omega) (IM14 hM hf) (hr.elim (fun y => Or.inr y.1) (fun y => Or.inl y.1))) (fun q hq => ⟨?_, fr_tr hf hq.2⟩)
            have hA : r = 1 ↔ AIM v k a x := by
              rw [aim23]
              rcases hb with ⟨eb, y⟩ | ⟨eb, y⟩
              · subst eb
                rcases hr with ⟨er, -⟩ | ⟨-, y2⟩
                · exact ⟨fun _ => y.elim (fun y => Or.inl y) (fun y => Or.inr (Or.inl y)), fun _ => er⟩
                · exact absurd (Or.inl rfl) y2
              · subst eb
                rcases hr with ⟨er, y2⟩ | ⟨er, y2⟩
                · exact ⟨fun _ => Or.inr (Or.inr (y2.resolve_left h10)), fun _ => er⟩
                · subst er
                  refine ⟨fun y3 => absurd y3 h10, fun y3 => ?_⟩
                  rcases y3 with y3 | y3 | y3
                  · exact absurd (Or.inl y3) y
                  · exact absurd (Or.inr y3) y
                  · exact absurd (Or.inr y3) y2
            rw [hst, ← hA]
            simpa [h10] using hq.1
          by_cases e0 : k = 0
          · subst e0
            refine wp_if_t rfl ?_
            by_cases e1 : x = a
            · subst e1
              exact wp_if_t rfl (go μ 1 fr_rf (Or.inl ⟨rfl, Or.inl ⟨rfl, rfl⟩⟩))
            · exact wp_if_f (nI_ne (by omega) (by omega) e1) (go μ 0 fr_rf (Or.inr ⟨rfl, fun y => y.elim (fun y => e1 y.2) (fun y => absurd y.1 (by decide))⟩))
          · refine wp_if_f (nI_ne (b := 0) (by omega) (by omega) e0) ?_
            by_cases e1 : k = 1
            · subst e1
              refine wp_if_t rfl (wp_bn2 (wp_mono (m_isOfClass hM hx (show a < 32 by omega)) (fun q hq => ?_)))
              rcases hq with ⟨⟨er, hq⟩ | ⟨er, hq⟩, hf⟩
              · exact wp_if_f (by rw [er]; decide) (go q.2 1 hf (Or.inl ⟨rfl, Or.inr ⟨rfl, hq⟩⟩))
              · exact wp_if_t er (go q.2 0 hf (Or.inr ⟨rfl, fun y => y.elim (fun y => absurd y.1 (by decide)) (fun y => hq y.2)⟩))
            · refine wp_if_f (nI_ne (b := 1) (by omega) (by omega) e1) ?_
              exact go μ 0 fr_rf (Or.inr ⟨rfl, fun y => y.elim (fun y => e0 y.1) (fun y => e1 y.1)⟩)
        · refine wp_if_f (nI_ne (by omega) (by omega) w) (wp_lt ?_)
          rw [nI_1]
          have hthis : ¬ (∃ k a, v.2.2 1 i = nI s ∧ v.2.2 2 i = nI k ∧ v.2.2 3 i = nI a ∧ okG k a ∧ AIM v k a x) := by
            rintro ⟨k2, a2, y1, -⟩
            rw [q3] at y1
            exact w ((nI_eq (by omega) (by omega)).mp y1)
          refine wp_mono (ih (i + 1) μ 0 (by omega) (by omega) hM (Or.inl rfl)) (fun q hq => ⟨?_, hq.2⟩)
          have hst2 : FORi v s x i ↔ FORi v s x (i + 1) := hst.trans ⟨fun z => z.elim (fun z => absurd z hthis) id, Or.inr⟩
          rw [hst2]
          exact hq.1
      · subst z
        exact wp_if_f one_ne (wp_cb (Or.inr rfl) (wp_some ⟨Or.inl ⟨rfl, Or.inl rfl⟩, fr_rf⟩))
theorem m_isFor {μ : S2} {v : VT} (h : IM μ v) (hv : IV v) {s x : Nat} (hs : s < v.2.1 0) (hx : x < 32) : wp (fn_X6_isFor μ (nI s) (nI x)) (fun q => ((q.1 = 1 ∧ FOR v s x) ∨ (q.1 = 0 ∧ ¬ FOR v s x)) ∧ fr [14] μ q.2) := by
  have h24 := hv.2.1
  unfold fn_X6_isFor
  refine wp_mono (m5 hv hs hx fu 0 μ 0 (by omega) (by unfold fu; omega) h (Or.inl rfl)) (fun q hq => ⟨?_, hq.2⟩)
  have e : FORi v s x 0 ↔ FOR v s x := by
    unfold FORi FOR
    constructor
    · rintro ⟨j, -, z⟩; exact ⟨j, z⟩
    · rintro ⟨j, z⟩; exact ⟨j, Nat.zero_le j, z⟩
  have h10 : ¬ (0 : Int32) = 1 := by decide
  rw [← e]
  simpa [h10] using hq.1
