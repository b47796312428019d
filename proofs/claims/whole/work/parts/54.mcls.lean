/-! classes, in the reference -/
def RS (μ : S2) (u : Nat) : Prop := μ.1 14 u = 1
def B14 (μ : S2) : Prop := ∀ u, u < 32 → μ.1 14 u = 0 ∨ μ.1 14 u = 1
theorem nar_0 : vp_nar .boolean 0 = 0 := rfl
theorem nar_1 : vp_nar .boolean 1 = 1 := rfl
theorem fr1 {k : Nat} {σ τ : S2} {i : Nat} {x : Int32} (h : fr [k] σ τ) : fr [k] σ (st τ k i x) := fr_tr h (fr_st (by simp))
theorem IM14 {μ τ : S2} {v : VT} (h : IM μ v) (hf : fr [14] μ τ) : IM τ v := IM_fr h hf (fun k hk => by simp at hk; omega)
theorem B14_st {μ : S2} (h : B14 μ) {i : Nat} {x : Int32} (hx : x = 0 ∨ x = 1) : B14 (st μ 14 i x) := by
  intro u hu
  rw [st_at]
  by_cases q : u = i
  · rw [if_pos q]; exact hx
  · rw [if_neg q]; exact h u hu
theorem RS_st {μ : S2} {i u : Nat} {x : Int32} : RS (st μ 14 i x) u ↔ (u = i ∧ x = 1) ∨ (u ≠ i ∧ RS μ u) := by
  unfold RS
  rw [st_at]
  by_cases q : u = i
  · rw [if_pos q]; simp [q]
  · rw [if_neg q]; simp [q]
theorem m48 {v : VT} {K29 : S2 → Int32 → Int32 → Option (Int32 × S2)} {K38 : S2 → Int32 → Int32 → Int32 → Option (Int32 × S2)} {Q : Int32 × S2 → Prop} {x2 x3 : Int32} {t : Nat} (ht : t < 20) : ∀ (n i : Nat) (μ : S2), i ≤ 32 → 32 < i + n → IM μ v → B14 μ →
    (∀ τ, fr [14] μ τ → B14 τ → (∀ w, w < 32 → (RS τ w ↔ RS μ w ∨ (RS μ t ∧ i ≤ w ∧ TR v t 1 w))) → wp (K38 τ x2 x3 (nI (t + 1))) Q) → wp (fn_X6_isOfClass_48 K29 K38 n μ x2 x3 (nI t) (nI i)) Q := by
  intro n
  induction n with
  | zero => intro i μ h1 h2; omega
  | succ n ih =>
    intro i μ hi hn hM hB hK
    rw [fn_X6_isOfClass_48]
    by_cases h : i = 32
    · subst h
      refine wp_if_t (nI_le (a := 32) (Nat.le_refl _) (by omega)) (wp_lt ?_)
      rw [nI_1]
      exact hK μ fr_rf hB (fun w hw => ⟨Or.inl, fun z => z.elim id (fun z => by omega)⟩)
    · have hlt : i < 32 := by omega
      refine wp_if_f (nI_ge (b := 32) hlt (by omega)) (wp_ckN rfl (by omega) (by omega) ?_)
      rw [nI_clamp (show t < 2 ^ 31 by omega)]
      rcases hB t (by omega) with q | q
      · refine wp_if_t q (wp_lt ?_)
        rw [nI_1]
        have hn : ¬ RS μ t := fun z => by unfold RS at z; rw [q] at z; exact absurd z (by decide)
        exact hK μ fr_rf hB (fun w hw => ⟨Or.inl, fun z => z.elim id (fun z => absurd z.1 hn)⟩)
      · refine wp_if_f (by rw [q]; decide) (wp_ckN rfl (by omega) (by omega) ?_)
        rw [nI_clamp (show i < 2 ^ 31 by omega)]
        have next : ∀ x : Int32, (x = 0 ∨ x = 1) → (x = 1 ↔ RS μ i ∨ TR v t 1 i) → wp (fn_X6_isOfClass_48 K29 K38 n (st μ 14 i x) x2 x3 (nI t) (nI i + 1)) Q := by
          intro x hx hxe
          rw [nI_1]
          refine ih (i + 1) (st μ 14 i x) (by omega) (by omega) (IM14 hM (fr_st (by simp))) (B14_st hB hx) ?_
          intro τ f1 f2 f3
          refine hK τ (fr_tr (fr_st (by simp)) f1) f2 (fun w hw => ?_)
          have hq : RS μ t := q
          have ht1 : RS (st μ 14 i x) t := by
            rw [RS_st]
            by_cases e : t = i
            · exact Or.inl ⟨e, hxe.mpr (Or.inl (e ▸ hq))⟩
            · exact Or.inr ⟨e, hq⟩
          rw [f3 w hw]
          constructor
          · rintro (z | z)
            · rw [RS_st] at z
              rcases z with ⟨e, hx1⟩ | ⟨e, hr⟩
              · rcases hxe.mp hx1 with y | y
                · exact Or.inl (e ▸ y)
                · exact Or.inr ⟨hq, by omega, e ▸ y⟩
              · exact Or.inl hr
            · exact Or.inr ⟨hq, by omega, z.2.2⟩
          · rintro (z | z)
            · left
              rw [RS_st]
              by_cases e : w = i
              · exact Or.inl ⟨e, hxe.mpr (Or.inl (e ▸ z))⟩
              · exact Or.inr ⟨e, z⟩
            · by_cases e : w = i
              · left
                rw [RS_st]
                exact Or.inl ⟨e, hxe.mpr (Or.inr (e ▸ z.2.2))⟩
              · exact Or.inr ⟨ht1, by omega, z.2.2⟩
        rcases hB i (by omega) with z | z
        · refine wp_if_t z (wp_bn ?_)
          have hn : ¬ RS μ i := fun y => by unfold RS at y; rw [z] at y; exact absurd y (by decide)
          refine wp_mono (m_leads hM (s := t) (p := 1) (o := i) (by omega) (by omega) hlt) (fun r hr => ?_)
          rcases hr with ⟨e, hr⟩ | ⟨e, hr⟩
          · subst e
            refine wp_if_f one_ne (wp_ckN rfl (by omega) (by omega) (wp_lt (wp_lt ?_)))
            exact next 1 (Or.inr rfl) ⟨fun _ => Or.inr hr, fun _ => rfl⟩
          · subst e
            refine wp_if_t rfl (wp_ckN rfl (by omega) (by omega) (wp_lt (wp_lt ?_)))
            exact next 0 (Or.inl rfl) ⟨fun y => absurd y (by decide), fun y => (y.elim hn hr).elim⟩
        · refine wp_if_f (by rw [z]; decide) (wp_ckN rfl (by omega) (by omega) (wp_lt (wp_lt ?_)))
          exact next 1 (Or.inr rfl) ⟨fun _ => Or.inl z, fun _ => rfl⟩
/-- a set that holds what its nodes lead to by BELOW -/
def upc (v : VT) (S : Nat → Prop) : Prop := ∀ a b, a < 20 → b < 32 → S a → TR v a 1 b → S b
theorem m38 {v : VT} {K29 : S2 → Int32 → Int32 → Option (Int32 × S2)} {Q : Int32 × S2 → Prop} {x2 x3 : Int32} : ∀ (n t : Nat) (μ : S2), t ≤ 20 → 20 < t + n → IM μ v → B14 μ →
    (∀ τ, fr [14] μ τ → B14 τ → (∀ w, w < 32 → RS μ w → RS τ w) → (∀ S : Nat → Prop, upc v S → (∀ w, w < 32 → RS μ w → S w) → ∀ w, w < 32 → RS τ w → S w) → (∀ a, t ≤ a → a < 20 → RS μ a → ∀ w, w < 32 → TR v a 1 w → RS τ w) → wp (K29 τ x2 (x3 + 1)) Q) → wp (fn_X6_isOfClass_38 K29 n μ x2 x3 (nI t)) Q := by
  intro n
  induction n with
  | zero => intro t μ h1 h2; omega
  | succ n ih =>
    intro t μ ht hn hM hB hK
    rw [fn_X6_isOfClass_38]
    by_cases h : t = 20
    · subst h
      refine wp_if_t (nI_le (a := 20) (Nat.le_refl _) (by omega)) (wp_lt ?_)
      exact hK μ fr_rf hB (fun _ _ z => z) (fun S _ h w hw z => h w hw z) (fun a h1 h2 => by omega)
    · have hlt : t < 20 := by omega
      refine wp_if_f (nI_ge (b := 20) hlt (by omega)) ?_
      refine m48 hlt fu 0 μ (by omega) (by unfold fu; omega) hM hB ?_
      intro τ f1 f2 f3
      refine ih (t + 1) τ (by omega) (by omega) (IM14 hM f1) f2 ?_
      intro ρ g1 g2 g3 g4 g5
      refine hK ρ (fr_tr f1 g1) g2 (fun w hw z => g3 w hw ((f3 w hw).mpr (Or.inl z))) ?_ ?_
      · intro S hS hs w hw z
        refine g4 S hS (fun w hw z => ?_) w hw z
        rcases (f3 w hw).mp z with y | y
        · exact hs w hw y
        · exact hS t w hlt hw (hs t (by omega) y.1) y.2.2
      · intro a h1 h2 h3 w hw h4
        by_cases e : a = t
        · subst e
          exact g3 w hw ((f3 w hw).mpr (Or.inr ⟨h3, by omega, h4⟩))
        · exact g5 a (by omega) h2 ((f3 a (by omega)).mpr (Or.inl h3)) w hw h4
def nd (μ : S2) : Nat := cnt (fun u => decide (μ.1 14 u = 1)) 20
theorem m29 {v : VT} {t c : Nat} (hc : c < 32) : ∀ (n k : Nat) (μ : S2), k ≤ 20 → 20 < k + n → IM μ v → B14 μ → (∀ w, w < 32 → TR v t 0 w → RS μ w) → (∀ S : Nat → Prop, upc v S → (∀ w, w < 32 → TR v t 0 w → S w) → ∀ w, w < 32 → RS μ w → S w) → (upc v (RS μ) ∨ k + 1 ≤ nd μ) →
    wp (fn_X6_isOfClass_29 n μ (nI c) (nI k)) (fun q => ((q.1 = 1 ∧ OFC v t c) ∨ (q.1 = 0 ∧ ¬ OFC v t c)) ∧ fr [14] μ q.2) := by
  intro n
  induction n with
  | zero => intro k μ h1 h2; omega
  | succ n ih =>
    intro k μ hk hn hM hB hty hso hcl
    have hnd := cnt_le (fun u => decide (μ.1 14 u = 1)) 20
    rw [fn_X6_isOfClass_29]
    by_cases h : k = 20
    · subst h
      have hcl : upc v (RS μ) := hcl.elim id (fun z => by unfold nd at z; omega)
      refine wp_if_t (nI_le (a := 20) (Nat.le_refl _) (by omega)) (wp_ckN rfl hc (by omega) ?_)
      rw [nI_clamp (by omega)]
      refine wp_cb (hB c hc) (wp_some ⟨?_, fr_rf⟩)
      have hO : RS μ c ↔ OFC v t c := by
        constructor
        · intro hr S h1 h2
          apply Classical.byContradiction
          intro hno
          refine hso (fun u => ¬ S u) ?_ ?_ c hc hr h1
          · intro a b ha hb h3 h4 h5
            exact h3 (h2 a b ha hb h5 h4)
          · intro w hw h3 h4
            exact hno ⟨w, hw, h4, h3⟩
        · intro hO
          obtain ⟨d, h1, h2, h3⟩ := hO (fun u => RS μ u → RS μ c) id (fun a b ha hb h3 h4 h5 => h3 (hcl a b ha hb h5 h4))
          exact h2 (hty d h1 h3)
      rcases hB c hc with z | z
      · refine Or.inr ⟨z, fun y => ?_⟩
        have := hO.mpr y
        unfold RS at this
        rw [z] at this
        exact absurd this (by decide)
      · exact Or.inl ⟨z, hO.mp z⟩
    · have hlt : k < 20 := by omega
      refine wp_if_f (nI_ge (b := 20) hlt (by omega)) ?_
      refine m38 fu 0 μ (by omega) (by unfold fu; omega) hM hB ?_
      intro τ f1 f2 f3 f4 f5
      rw [nI_1]
      have goal := ih (k + 1) τ (by omega) (by omega) (IM14 hM f1) f2 (fun w hw z => f3 w hw (hty w hw z)) (fun S hS hs w hw z => f4 S hS (fun w hw z => hso S hS hs w hw z) w hw z) ?_
      · exact wp_mono goal (fun q hq => ⟨hq.1, fr_tr f1 hq.2⟩)
      · rcases hcl with hcl | hcl
        · left
          intro a b ha hb h1 h2
          have e : ∀ w, w < 32 → RS τ w → RS μ w := f4 (RS μ) hcl (fun _ _ z => z)
          exact f3 b hb (hcl a b ha hb (e a (by omega) h1) h2)
        · by_cases q : ∃ i, i < 20 ∧ RS τ i ∧ ¬ RS μ i
          · right
            obtain ⟨i, h1, h2, h3⟩ := q
            have := cnt_lt (f := fun u => decide (μ.1 14 u = 1)) (g := fun u => decide (τ.1 14 u = 1)) (n := 20) (fun i hi z => by simp at z ⊢; exact f3 i (by omega) z) ⟨i, h1, by simp; exact h2, by simp; exact h3⟩
            unfold nd at hcl ⊢
            omega
          · left
            intro a b ha hb h1 h2
            have : RS μ a := Classical.byContradiction (fun z => q ⟨a, ha, h1, z⟩)
            exact f5 a (by omega) ha this b hb h2
theorem m2 {v : VT} {t c : Nat} (ht : t < 32) (hc : c < 32) : ∀ (n i : Nat) (μ : S2), i ≤ 32 → 32 < i + n → IM μ v → (∀ w, w < i → (μ.1 14 w = 1 ∧ TR v t 0 w) ∨ (μ.1 14 w = 0 ∧ ¬ TR v t 0 w)) →
    wp (fn_X6_isOfClass_2 n μ (nI t) (nI c) (nI i)) (fun q => ((q.1 = 1 ∧ OFC v t c) ∨ (q.1 = 0 ∧ ¬ OFC v t c)) ∧ fr [14] μ q.2) := by
  intro n
  induction n with
  | zero => intro i μ h1 h2; omega
  | succ n ih =>
    intro i μ hi hn hM hw
    rw [fn_X6_isOfClass_2]
    by_cases h : i = 32
    · subst h
      refine wp_if_t (nI_le (a := 32) (Nat.le_refl _) (by omega)) ?_
      have hR : ∀ w, w < 32 → (RS μ w ↔ TR v t 0 w) := by
        intro w h
        unfold RS
        rcases hw w h with z | z
        · exact ⟨fun _ => z.2, fun _ => z.1⟩
        · exact ⟨fun y => absurd (z.1.symm.trans y) (by decide), fun y => absurd y z.2⟩
      refine m29 hc fu 0 μ (by omega) (by unfold fu; omega) hM ?_ (fun w h z => (hR w h).mpr z) (fun S _ hs w h z => hs w h ((hR w h).mp z)) ?_
      · intro u hu
        rcases hw u hu with z | z
        · exact Or.inr z.1
        · exact Or.inl z.1
      · by_cases q : ∃ i, i < 20 ∧ RS μ i
        · right
          obtain ⟨i, h1, h2⟩ := q
          have := cnt_lt (f := fun _ => false) (g := fun u => decide (μ.1 14 u = 1)) (n := 20) (fun i _ z => by cases z) ⟨i, h1, by simp; exact h2, by simp⟩
          unfold nd
          omega
        · left
          intro a b ha hb h1 h2
          exact absurd ⟨a, ha, h1⟩ q
    · have hlt : i < 32 := by omega
      refine wp_if_f (nI_ge (b := 32) hlt (by omega)) (wp_bn ?_)
      refine wp_mono (m_leads hM (s := t) (p := 0) (o := i) ht (by omega) hlt) (fun r hr => ?_)
      refine wp_ckN rfl hlt (by omega) (wp_lt (wp_lt ?_))
      rw [nI_clamp (by omega), nI_1]
      have e : vp_nar .boolean r = r := by rcases hr with z | z <;> rw [z.1] <;> rfl
      rw [e]
      have goal := ih (i + 1) (st μ 14 i r) (by omega) (by omega) (IM14 hM (fr_st (by simp))) (fun w h => by
        rw [st_at]
        by_cases y : w = i
        · rw [if_pos y, y]; exact hr
        · rw [if_neg y]; exact hw w (by omega))
      exact wp_mono goal (fun q hq => ⟨hq.1, fr_tr (fr_st (by simp)) hq.2⟩)
theorem m_isOfClass {μ : S2} {v : VT} (h : IM μ v) {t c : Nat} (ht : t < 32) (hc : c < 32) : wp (fn_X6_isOfClass μ (nI t) (nI c)) (fun q => ((q.1 = 1 ∧ OFC v t c) ∨ (q.1 = 0 ∧ ¬ OFC v t c)) ∧ fr [14] μ q.2) := by
  unfold fn_X6_isOfClass
  exact m2 ht hc fu 0 μ (by omega) (by unfold fu; omega) h (fun w h => by omega)
