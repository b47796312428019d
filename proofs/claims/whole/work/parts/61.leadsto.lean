/-! leadsTo, in the reference -/
def SS (μ : S2) (u : Nat) : Prop := μ.1 13 u = 1
def B13 (μ : S2) : Prop := ∀ u, u < 12 → μ.1 13 u = 0 ∨ μ.1 13 u = 1
theorem IM13 {μ τ : S2} {v : VT} (h : IM μ v) (hf : fr [13] μ τ) : IM τ v := IM_fr h hf (fun k hk => by simp at hk; omega)
theorem B13_st {μ : S2} (h : B13 μ) {i : Nat} {x : Int32} (hx : x = 0 ∨ x = 1) : B13 (st μ 13 i x) := by
  intro u hu
  rw [st_at]
  by_cases q : u = i
  · rw [if_pos q]; exact hx
  · rw [if_neg q]; exact h u hu
theorem SS_1 {μ : S2} {i u : Nat} : SS (st μ 13 i 1) u ↔ u = i ∨ SS μ u := by
  unfold SS
  rw [st_at]
  by_cases q : u = i
  · rw [if_pos q]; simp [q]
  · rw [if_neg q]; simp [q]
theorem n1_t {k : Nat} (h : 11 ≤ k) (hk : k < 2 ^ 31) : fn_X6_namesOne (nI k) = 1 := by
  unfold fn_X6_namesOne; rw [if_neg (show ¬ nI k ≤ 10 from nI_ge (a := 10) (by omega) hk)]
theorem n1_f {k : Nat} (h : k < 11) : fn_X6_namesOne (nI k) = 0 := by
  unfold fn_X6_namesOne; rw [if_pos (show nI k ≤ 10 from nI_le (b := 10) (by omega) (by omega))]
theorem n2_t {k : Nat} (h : 12 ≤ k) (hk : k ≤ 14) : fn_X6_namesTwo (nI k) = 1 := by
  unfold fn_X6_namesTwo; rw [if_neg (show ¬ nI k ≤ 11 from nI_ge (a := 11) (by omega) (by omega)), if_neg (show ¬ (15 : Int32) ≤ nI k from nI_ge (b := 15) (by omega) (by omega))]
theorem n2_f {k : Nat} (h : k < 12 ∨ 14 < k) (hk : k < 2 ^ 31) : fn_X6_namesTwo (nI k) = 0 := by
  unfold fn_X6_namesTwo
  rcases h with h | h
  · rw [if_pos (show nI k ≤ 11 from nI_le (b := 11) (by omega) (by omega))]
  · rw [if_neg (show ¬ nI k ≤ 11 from nI_ge (a := 11) (by omega) hk), if_pos (show (15 : Int32) ≤ nI k from nI_le (a := 15) (by omega) hk)]
/-- what a valid constraint names -/
theorem ED_of {v : VT} (hv : IV v) {c : Nat} (hc : c < v.2.1 2) : ∃ s k, s < v.2.1 0 ∧ k < 18 ∧ v.2.2 4 c = nI s ∧ v.2.2 5 c = nI k ∧ okC (v.2.1 0) k (v.2.2 6 c) (v.2.2 7 c) ∧
    (k < 11 → ∀ s' u, ¬ ED v c s' u) ∧ (11 ≤ k → ∃ a, a < v.2.1 0 ∧ v.2.2 6 c = nI a ∧ ED v c s a ∧ (k < 12 ∨ 14 < k → ∀ s' u, ED v c s' u → s' = s ∧ u = a) ∧ (12 ≤ k → k ≤ 14 → ∃ b, b < v.2.1 0 ∧ v.2.2 7 c = nI b ∧ ED v c s b ∧ ∀ s' u, ED v c s' u → s' = s ∧ (u = a ∨ u = b))) := by
  obtain ⟨s, k, h1, h2, h3, h4⟩ := hv.2.2.2.2.2 c hc
  have h12 := hv.1
  have hk := h2.1
  refine ⟨s, k, h1, hk, h3, h4, h2, ?_, ?_⟩
  · rintro h s' u ⟨-, -, -, k', q1, q2, q3⟩
    rw [h4] at q2
    have := (nI_eq (by omega) (by omega)).mp q2
    omega
  · intro h
    obtain ⟨a, ha, ea⟩ := h2.2.2.2.2.2.1 h
    refine ⟨a, ha, ea, ⟨by omega, by omega, h3, k, hk, h4, Or.inl ⟨h, ea⟩⟩, ?_, ?_⟩
    · rintro hk2 s' u ⟨q0, q00, q1, k', q2, q3, q4⟩
      rw [h4] at q3
      rw [h3] at q1
      have e1 := (nI_eq (by omega) (by omega)).mp q3
      have e2 := (nI_eq (by omega) (by omega)).mp q1
      subst e1
      refine ⟨e2.symm, ?_⟩
      rcases q4 with q4 | q4
      · rw [ea] at q4; exact ((nI_eq (by omega) (by omega)).mp q4.2).symm
      · omega
    · intro h5 h6
      obtain ⟨b, hb, eb⟩ := h2.2.2.2.2.2.2.1 h5 h6
      refine ⟨b, hb, eb, ⟨by omega, by omega, h3, k, hk, h4, Or.inr ⟨h5, h6, eb⟩⟩, ?_⟩
      rintro s' u ⟨q0, q00, q1, k', q2, q3, q4⟩
      rw [h3] at q1
      have e2 := (nI_eq (by omega) (by omega)).mp q1
      refine ⟨e2.symm, ?_⟩
      rcases q4 with q4 | q4
      · rw [ea] at q4; exact Or.inl ((nI_eq (by omega) (by omega)).mp q4.2).symm
      · rw [eb] at q4; exact Or.inr ((nI_eq (by omega) (by omega)).mp q4.2.2).symm
/-- a set that holds what its shapes name -/
def edc (v : VT) (Z : Nat → Prop) : Prop := ∀ s u, Z s → EDGE v s u → Z u
theorem m41 {v : VT} (hv : IV v) {K32 : S2 → Int32 → Int32 → Option (Int32 × S2)} {Q : Int32 × S2 → Prop} {x2 x3 : Int32} : ∀ (n i : Nat) (μ : S2), i ≤ v.2.1 2 → v.2.1 2 < i + n → IM μ v → B13 μ →
    (∀ τ, fr [13] μ τ → B13 τ → (∀ w, w < 12 → SS μ w → SS τ w) → (∀ Z : Nat → Prop, edc v Z → (∀ w, w < 12 → SS μ w → Z w) → ∀ w, w < 12 → SS τ w → Z w) → (∀ c, i ≤ c → c < v.2.1 2 → ∀ s u, SS μ s → ED v c s u → SS τ u) → wp (K32 τ x2 (x3 + 1)) Q) → wp (fn_X6_leadsTo_41 K32 n μ x2 x3 (nI i)) Q := by
  have h40 := hv.2.2.1
  have h12 := hv.1
  intro n
  induction n with
  | zero => intro i μ h1 h2; omega
  | succ n ih =>
    intro i μ hi hn hM hB hK
    rw [fn_X6_leadsTo_41, hM.1.2.2]
    by_cases h : i = v.2.1 2
    · refine wp_if_t (nI_le (by omega) (by omega)) (wp_lt ?_)
      exact hK μ fr_rf hB (fun _ _ z => z) (fun S _ h w hw z => h w hw z) (fun a h1 h2 => by omega)
    · have hlt : i < v.2.1 2 := by omega
      refine wp_if_f (nI_ge hlt (by omega)) (wp_ckN rfl (by omega) (by omega) (wp_lt ?_))
      rw [nI_clamp (show i < 2 ^ 31 by omega)]
      obtain ⟨g1, g2, g3, g4⟩ := hM.2.2.2.2 i hlt
      obtain ⟨s, k, hs, hk, e4, e5, hok, hE0, hE1⟩ := ED_of hv hlt
      rw [g2, e5]
      -- the turn goes on with τ
      have next : ∀ τ, fr [13] μ τ → B13 τ → (∀ w, w < 12 → SS μ w → SS τ w) → (∀ w, w < 12 → SS τ w → SS μ w ∨ ∃ s', SS μ s' ∧ s' < 12 ∧ ED v i s' w) → (∀ s' u, SS μ s' → ED v i s' u → SS τ u) → wp (fn_X6_leadsTo_41 K32 n τ x2 x3 (nI i + 1)) Q := by
        intro τ f1 f2 f3 f4 f5
        rw [nI_1]
        refine ih (i + 1) τ (by omega) (by omega) (IM13 hM f1) f2 ?_
        intro ρ r1 r2 r3 r4 r5
        refine hK ρ (fr_tr f1 r1) r2 (fun w hw z => r3 w hw (f3 w hw z)) ?_ ?_
        · intro Z hZ hz w hw z
          refine r4 Z hZ (fun w hw z => ?_) w hw z
          rcases f4 w hw z with y | ⟨s', y1, y2, y3⟩
          · exact hz w hw y
          · exact hZ s' w (hz s' y2 y1) ⟨i, hlt, y3⟩
        · intro c c1 c2 s' u c3 c4
          by_cases e : c = i
          · subst e; exact r3 u c4.2.1 (f5 s' u c3 c4)
          · exact r5 c (by omega) c2 s' u (f3 s' c4.1 c3) c4
      by_cases q : k < 11
      · rw [n1_f q]
        refine wp_if_t rfl (wp_lt ?_)
        exact next μ fr_rf hB (fun _ _ z => z) (fun _ _ z => Or.inl z) (fun s' u _ z => absurd z (hE0 q s' u))
      · rw [n1_t (by omega) (by omega)]
        obtain ⟨a, ha, ea, hEa, hE2, hE3⟩ := hE1 (by omega)
        refine wp_if_f one_ne (wp_ckN rfl (by omega) (by omega) ?_)
        rw [g1, e4]
        refine wp_ckN rfl (show s < 12 by omega) (by omega) ?_
        rw [nI_clamp (show s < 2 ^ 31 by omega)]
        have uniq : ∀ s' u, ED v i s' u → s' = s := by
          intro s' u z
          by_cases y : k < 12 ∨ 14 < k
          · exact (hE2 y s' u z).1
          · obtain ⟨b, -, -, -, hb⟩ := hE3 (by omega) (by omega)
            exact (hb s' u z).1
        rcases hB s (by omega) with z | z
        · refine wp_if_t z (wp_lt ?_)
          refine next μ fr_rf hB (fun _ _ z => z) (fun _ _ z => Or.inl z) (fun s' u y1 y2 => ?_)
          rw [uniq s' u y2] at y1
          unfold SS at y1
          rw [z] at y1
          exact absurd y1 (by decide)
        · refine wp_if_f (by rw [z]; decide) (wp_ckN rfl (by omega) (by omega) ?_)
          rw [g3, ea]
          refine wp_ckN rfl (show a < 12 by omega) (by omega) (wp_lt (wp_ckN rfl (by omega) (by omega) (wp_lt ?_)))
          rw [nI_clamp (show a < 2 ^ 31 by omega), st_ne (show (8 : Nat) ≠ 13 by omega), st_ne (show (10 : Nat) ≠ 13 by omega), g2, e5]
          by_cases y : k < 12 ∨ 14 < k
          · rw [n2_f y (by omega)]
            refine wp_if_t rfl (wp_lt ?_)
            refine next _ (fr_st (by simp)) (B13_st hB (Or.inr rfl)) (fun w _ y => SS_1.mpr (Or.inr y)) ?_ ?_
            · intro w hw y1
              rcases SS_1.mp y1 with y1 | y1
              · subst y1; exact Or.inr ⟨s, z, by omega, hEa⟩
              · exact Or.inl y1
            · intro s' u _ y2
              exact SS_1.mpr (Or.inl (hE2 y s' u y2).2)
          · rw [n2_t (by omega) (by omega)]
            obtain ⟨b, hb, eb, hEb, hE4⟩ := hE3 (by omega) (by omega)
            refine wp_if_f one_ne (wp_ckN rfl (by omega) (by omega) ?_)
            rw [g4, eb]
            refine wp_ckN rfl (show b < 12 by omega) (by omega) (wp_lt (wp_lt ?_))
            rw [nI_clamp (show b < 2 ^ 31 by omega)]
            refine next _ (fr1 (fr_st (by simp))) (B13_st (B13_st hB (Or.inr rfl)) (Or.inr rfl)) (fun w _ y => SS_1.mpr (Or.inr (SS_1.mpr (Or.inr y)))) ?_ ?_
            · intro w hw y1
              rcases SS_1.mp y1 with y1 | y1
              · subst y1; exact Or.inr ⟨s, z, by omega, hEb⟩
              · rcases SS_1.mp y1 with y1 | y1
                · subst y1; exact Or.inr ⟨s, z, by omega, hEa⟩
                · exact Or.inl y1
            · intro s' u _ y2
              rcases (hE4 s' u y2).2 with e | e
              · exact SS_1.mpr (Or.inr (SS_1.mpr (Or.inl e)))
              · exact SS_1.mpr (Or.inl e)
theorem m32 {v : VT} (hv : IV v) {g : Nat → Nat → Prop} {h : Nat → Nat} (hG : FG (v.2.1 0) g (EDGE v)) (hr : ∀ s t, g s t → h t + 1 ≤ h s) {a t : Nat} (ht : t < 12) : ∀ (n k : Nat) (μ : S2), k ≤ 12 → 12 < k + n → IM μ v → B13 μ → (∀ w, w < 12 → SS μ w → LG g a w) → (∀ w, w < 12 → LG g a w → SS μ w ∨ ∃ s, SS μ s ∧ g s w ∧ h s + k ≤ 11) →
    wp (fn_X6_leadsTo_32 n μ (nI t) (nI k)) (fun q => ((q.1 = 1 ∧ LG g a t) ∨ (q.1 = 0 ∧ ¬ LG g a t)) ∧ fr [13] μ q.2) := by
  have h40 := hv.2.2.1
  have h12 := hv.1
  intro n
  induction n with
  | zero => intro k μ h1 h2; omega
  | succ n ih =>
    intro k μ hk hn hM hB hso hpr
    rw [fn_X6_leadsTo_32]
    by_cases e : k = 12
    · subst e
      refine wp_if_t (nI_le (a := 12) (Nat.le_refl _) (by omega)) (wp_ckN rfl ht (by omega) ?_)
      rw [nI_clamp (by omega)]
      refine wp_cb (hB t ht) (wp_some ⟨?_, fr_rf⟩)
      have hO : SS μ t ↔ LG g a t := ⟨hso t ht, fun z => (hpr t ht z).elim id (fun ⟨s, _, _, q⟩ => by omega)⟩
      rcases hB t ht with z | z
      · refine Or.inr ⟨z, fun y => ?_⟩
        have := hO.mpr y
        unfold SS at this
        rw [z] at this
        exact absurd this (by decide)
      · exact Or.inl ⟨z, hO.mp z⟩
    · have hlt : k < 12 := by omega
      refine wp_if_f (nI_ge (b := 12) hlt (by omega)) ?_
      refine m41 hv fu 0 μ (by omega) (by unfold fu; omega) hM hB ?_
      intro τ f1 f2 f3 f4 f5
      rw [nI_1]
      refine wp_mono (ih (k + 1) τ (by omega) (by omega) (IM13 hM f1) f2 ?_ ?_) (fun q hq => ⟨hq.1, fr_tr f1 hq.2⟩)
      · refine f4 (LG g a) ?_ hso
        intro s u z1 z2
        rcases z1 with z1 | z1
        · exact Or.inr (z1 ▸ hG.2.1 s u z2)
        · exact Or.inr (hG.2.2.1 a s u z1 (hG.2.1 s u z2))
      · intro w hw z
        rcases hpr w hw z with y | ⟨s, y1, y2, y3⟩
        · exact Or.inl (f3 w hw y)
        · obtain ⟨u, q1, q2⟩ := hG.2.2.2.2 s w y2
          obtain ⟨c, c1, c2⟩ := q1
          have hu : SS τ u := f5 c (by omega) c1 s u y1 c2
          rcases q2 with q2 | q2
          · exact Or.inl (q2 ▸ hu)
          · have := hr s u (hG.2.1 s u ⟨c, c1, c2⟩)
            exact Or.inr ⟨u, hu, q2, by omega⟩
theorem ml2 {v : VT} (hv : IV v) {g : Nat → Nat → Prop} {h : Nat → Nat} (hG : FG (v.2.1 0) g (EDGE v)) (hr : ∀ s t, g s t → h t + 1 ≤ h s) {a t : Nat} (ha : a < v.2.1 0) (hha : h a ≤ 11) (ht : t < 12) : ∀ (n i : Nat) (μ : S2), i ≤ 12 → 12 < i + n → IM μ v → (∀ w, w < i → (μ.1 13 w = 1 ∧ w = a) ∨ (μ.1 13 w = 0 ∧ w ≠ a)) →
    wp (fn_X6_leadsTo_2 n μ (nI a) (nI t) (nI i)) (fun q => ((q.1 = 1 ∧ LG g a t) ∨ (q.1 = 0 ∧ ¬ LG g a t)) ∧ fr [13] μ q.2) := by
  have h12 := hv.1
  intro n
  induction n with
  | zero => intro i μ h1 h2; omega
  | succ n ih =>
    intro i μ hi hn hM hw
    rw [fn_X6_leadsTo_2]
    by_cases e : i = 12
    · subst e
      refine wp_if_t (nI_le (a := 12) (Nat.le_refl _) (by omega)) ?_
      have hS : ∀ w, w < 12 → (SS μ w ↔ w = a) := by
        intro w h
        unfold SS
        rcases hw w h with z | z
        · exact ⟨fun _ => z.2, fun _ => z.1⟩
        · exact ⟨fun y => absurd (z.1.symm.trans y) (by decide), fun y => absurd y z.2⟩
      refine m32 hv hG hr ht fu 0 μ (by omega) (by unfold fu; omega) hM ?_ (fun w h z => Or.inl ((hS w h).mp z).symm) ?_
      · intro u hu
        rcases hw u hu with z | z
        · exact Or.inr z.1
        · exact Or.inl z.1
      · intro w h z
        rcases z with z | z
        · exact Or.inl ((hS w h).mpr z.symm)
        · exact Or.inr ⟨a, (hS a (by omega)).mpr rfl, z, by omega⟩
    · have hlt : i < 12 := by omega
      refine wp_if_f (nI_ge (b := 12) hlt (by omega)) ?_
      have go : ∀ x : Int32, ((x = 1 ∧ i = a) ∨ (x = 0 ∧ i ≠ a)) → wp (fn_X6_leadsTo_2 n (st μ 13 i x) (nI a) (nI t) (nI i + 1)) (fun q => ((q.1 = 1 ∧ LG g a t) ∨ (q.1 = 0 ∧ ¬ LG g a t)) ∧ fr [13] μ q.2) := by
        intro x hx
        rw [nI_1]
        refine wp_mono (ih (i + 1) (st μ 13 i x) (by omega) (by omega) (IM13 hM (fr_st (by simp))) (fun w h => ?_)) (fun q hq => ⟨hq.1, fr_tr (fr_st (by simp)) hq.2⟩)
        rw [st_at]
        by_cases y : w = i
        · rw [if_pos y, y]; exact hx
        · rw [if_neg y]; exact hw w (by omega)
      by_cases q : i = a
      · refine wp_if_t (by rw [q]) (wp_ckN rfl hlt (by omega) (wp_lt (wp_lt ?_)))
        rw [nI_clamp (by omega)]
        exact go 1 (Or.inl ⟨rfl, q⟩)
      · refine wp_if_f (nI_ne (by omega) (by omega) q) (wp_ckN rfl hlt (by omega) (wp_lt (wp_lt ?_)))
        rw [nI_clamp (by omega)]
        exact go 0 (Or.inr ⟨rfl, q⟩)
theorem m_leadsTo {μ σ : S2} {v : VT} (hv : IV v) (hM : IM μ v) (hF : FUR σ v) {a t : Nat} (ha : a < v.2.1 0) (hta : t < v.2.1 0) : wp (fn_X6_leadsTo μ (nI a) (nI t)) (fun q => ((q.1 = 1 ∧ LG (gr σ) a t) ∨ (q.1 = 0 ∧ ¬ LG (gr σ) a t)) ∧ fr [13] μ q.2) := by
  have h12 := hv.1
  unfold fn_X6_leadsTo
  exact ml2 hv (h := ht σ) hF (fun s t z => ht_lt hF h12 z) ha (ht_le hF h12 ha) (by omega) fu 0 μ (by omega) (by unfold fu; omega) hM (fun w h => by omega)
