/-! the reference settles who fits -/
def RD (μ : S2) (v : VT) (s i : Nat) : Prop := ∀ c, i ≤ c → c < v.2.1 2 → ∀ u, ED v c s u → SS μ u
theorem RD_s {μ : S2} {v : VT} {s i : Nat} (h : i < v.2.1 2) : RD μ v s i ↔ (∀ u, ED v i s u → SS μ u) ∧ RD μ v s (i + 1) := by
  constructor
  · intro z; exact ⟨z i (Nat.le_refl _) h, fun c h1 h2 => z c (by omega) h2⟩
  · rintro ⟨z1, z2⟩ c h1 h2
    by_cases q : c = i
    · subst q; exact z1
    · exact z2 c (by omega) h2
theorem rd_4 {v : VT} (hv : IV v) {μ : S2} (h : IM μ v) (hB : B13 μ) {s : Nat} (hs : s < v.2.1 0) : ∀ (n i : Nat) (b : Int32), i ≤ v.2.1 2 → v.2.1 2 < i + n → (b = 0 ∨ b = 1) → wp (fn_X6_isReady_4 n μ (nI s) b (nI i)) (fun r => (r = 1 ∧ (b = 1 ∧ RD μ v s i)) ∨ (r = 0 ∧ ¬ (b = 1 ∧ RD μ v s i))) := by
  have h12 := hv.1
  have h40 := hv.2.2.1
  intro n
  induction n with
  | zero => intro i b h1 h2; omega
  | succ n ih =>
    intro i b hi hin hb
    rw [fn_X6_isReady_4, h.1.2.2]
    by_cases e : i = v.2.1 2
    · subst e
      refine wp_if_t (nI_le (Nat.le_refl _) (by omega)) (wp_cb hb (wp_some ?_))
      rcases hb with q | q
      · exact Or.inr ⟨q, fun z => by rw [q] at z; exact one_ne z.1.symm⟩
      · exact Or.inl ⟨q, q, fun c h1 h2 => by omega⟩
    · have hlt : i < v.2.1 2 := by omega
      obtain ⟨s', k, g1, g2, g3, g4, g5, g6, g7⟩ := ED_of hv hlt
      obtain ⟨r7, r8, r9, r10⟩ := h.2.2.2.2 i hlt
      refine wp_if_f (nI_ge hlt (by omega)) (wp_ckN rfl (show i < 40 by omega) (by omega) ?_)
      rw [nI_clamp (show i < 2 ^ 31 by omega), r7, r8, r9, r10, g3, g4]
      have keep : (∀ u, ED v i s u → SS μ u) → wp (lt (nI i + 1) (fun v9 => fn_X6_isReady_4 n μ (nI s) b v9)) (fun r => (r = 1 ∧ (b = 1 ∧ RD μ v s i)) ∨ (r = 0 ∧ ¬ (b = 1 ∧ RD μ v s i))) := by
        intro y
        refine wp_lt ?_
        rw [nI_1, RD_s hlt]
        refine wp_mono (ih (i + 1) b (by omega) (by omega) hb) (fun r hr => ?_)
        rcases hr with z | z
        · exact Or.inl ⟨z.1, z.2.1, y, z.2.2⟩
        · exact Or.inr ⟨z.1, fun w => z.2 ⟨w.1, w.2.2⟩⟩
      have lose : ¬ (b = 1 ∧ ∀ u, ED v i s u → SS μ u) → wp (lt (nI i + 1) (fun v9 => fn_X6_isReady_4 n μ (nI s) 0 v9)) (fun r => (r = 1 ∧ (b = 1 ∧ RD μ v s i)) ∨ (r = 0 ∧ ¬ (b = 1 ∧ RD μ v s i))) := by
        intro y
        refine wp_lt ?_
        rw [nI_1, RD_s hlt]
        refine wp_mono (ih (i + 1) 0 (by omega) (by omega) (Or.inl rfl)) (fun r hr => ?_)
        rcases hr with z | z
        · exact absurd z.2.1 (fun w => one_ne w.symm)
        · exact Or.inr ⟨z.1, fun w => y ⟨w.1, w.2.1⟩⟩
      by_cases q : s' = s
      · subst q
        refine wp_if_t rfl (wp_ckN rfl (show i < 40 by omega) (by omega) (wp_lt ?_))
        by_cases q1 : 11 ≤ k
        · obtain ⟨a, ha, ea, hE, hone, htwo⟩ := g7 q1
          rw [n1_t q1 (by omega)]
          refine wp_if_f one_ne ?_
          rcases hb with q2 | q2
          · subst q2
            exact wp_if_t rfl (lose (fun z => one_ne z.1.symm))
          · subst q2
            refine wp_if_f one_ne (wp_ckN rfl (show i < 40 by omega) (by omega) ?_)
            rw [ea]
            refine wp_ckN rfl (show a < 12 by omega) (by omega) ?_
            rw [nI_clamp (show a < 2 ^ 31 by omega)]
            rcases hB a (by omega) with y | y
            · refine wp_if_t y (lose (fun z => ?_))
              have := z.2 a hE
              unfold SS at this
              rw [y] at this
              exact one_ne this.symm
            · refine wp_if_f (by rw [y]; exact one_ne) (wp_ckN rfl (show i < 40 by omega) (by omega) (wp_lt ?_))
              by_cases q3 : 12 ≤ k ∧ k ≤ 14
              · obtain ⟨b', hb', eb, hE2, hall⟩ := htwo q3.1 q3.2
                rw [n2_t q3.1 q3.2, eb]
                refine wp_if_f one_ne (wp_ckN rfl (show i < 40 by omega) (by omega) (wp_ckN rfl (show b' < 12 by omega) (by omega) ?_))
                rw [nI_clamp (show b' < 2 ^ 31 by omega)]
                rcases hB b' (by omega) with y2 | y2
                · refine wp_if_t y2 (lose (fun z => ?_))
                  have := z.2 b' hE2
                  unfold SS at this
                  rw [y2] at this
                  exact one_ne this.symm
                · refine wp_if_f (by rw [y2]; exact one_ne) (keep (fun u hu => ?_))
                  rcases (hall s' u hu).2 with z | z
                  · rw [z]; exact y
                  · rw [z]; exact y2
              · rw [n2_f (by omega) (by omega)]
                refine wp_if_t rfl (keep (fun u hu => ?_))
                rw [(hone (by omega) s' u hu).2]; exact y
        · rw [n1_f (by omega)]
          exact wp_if_t rfl (keep (fun u hu => absurd hu (g6 (by omega) s' u)))
      · refine wp_if_f (nI_ne (by omega) (by omega) q) (keep (fun u hu => ?_))
        exfalso
        have := hu.2.2.1
        rw [g3] at this
        exact q ((nI_eq (by omega) (by omega)).mp this)
theorem m_ready {v : VT} (hv : IV v) {μ : S2} (h : IM μ v) (hB : B13 μ) {s : Nat} (hs : s < v.2.1 0) : wp (fn_X6_isReady μ (nI s)) (fun r => (r = 1 ∧ RD μ v s 0) ∨ (r = 0 ∧ ¬ RD μ v s 0)) := by
  have h40 := hv.2.2.1
  unfold fn_X6_isReady
  refine wp_mono (rd_4 hv h hB hs fu 0 1 (by omega) (by unfold fu; omega) (Or.inr rfl)) (fun r hr => ?_)
  rcases hr with z | z
  · exact Or.inl ⟨z.1, z.2.2⟩
  · exact Or.inr ⟨z.1, fun y => z.2 ⟨rfl, y⟩⟩
def SI (μ0 μ : S2) (v : VT) (s x : Nat) : Prop := fr [11, 14, 15, 16] μ0 μ ∧ (∀ t y, t ≠ s → y < 32 → μ.1 11 (32 * t + y) = μ0.1 11 (32 * t + y)) ∧ (∀ y, y < x → (μ.1 11 (32 * s + y) = 1 ∧ FIT v s y) ∨ (μ.1 11 (32 * s + y) = 0 ∧ ¬ FIT v s y))
theorem SI_L {μ0 μ τ : S2} {v : VT} {s x : Nat} (h : SI μ0 μ v s x) (hf : fr [14, 15, 16] μ τ) : SI μ0 τ v s x := by
  refine ⟨fr_tr h.1 (fr_up hf (fun k hk => by simp at hk ⊢; omega)), ?_, ?_⟩
  · rw [hf 11 (by simp)]; exact h.2.1
  · rw [hf 11 (by simp)]; exact h.2.2
theorem SI_S {μ0 μ : S2} {v : VT} {s x t : Nat} (h : SI μ0 μ v s x) (hne : t ≠ s) (hS : S11 μ0 v t) : S11 μ v t := by
  intro y hy
  rw [h.2.1 t y hne hy]
  exact hS y hy
theorem IMS {μ τ : S2} {v : VT} {K : List Nat} (h : IM μ v) (hf : fr K μ τ) (hK : ∀ k, k ∈ K → (11 ≤ k ∧ k ≤ 20) ∨ 24 ≤ k) : IM τ v := IM_fr h hf (fun k hk => Or.inr (hK k hk))
theorem se_13 {v : VT} (hv : IV v) {H : Nat → Nat} (hr : RK v H) {s x : Nat} (hs : s < v.2.1 0) (hx : x < 32) {μ0 : S2} (h0 : IM μ0 v) (hS : ∀ u, u < v.2.1 0 → EDGE v s u → S11 μ0 v u) {K : S2 → Int32 → Int32 → Option S2} {Q : S2 → Prop}
    (hK : ∀ τ, SI μ0 τ v s (x + 1) → wp (K τ (nI s) (nI (x + 1))) Q) : ∀ (n c : Nat) (μ : S2) (b : Int32), c ≤ v.2.1 2 → v.2.1 2 < c + n → SI μ0 μ v s x → ((b = 1 ∧ ∀ d, d < c → ow v d = s → ∀ k, k < 33 → ¬ BC (FIT v) v d x k) ∨ (b = 0 ∧ ¬ FIT v s x)) →
    wp (fn_X6_settle_13 K n μ (nI s) (nI x) b (nI c)) Q := by
  have h12 := hv.1
  have h40 := hv.2.2.1
  intro n
  induction n with
  | zero => intro c μ b h1 h2; omega
  | succ n ih =>
    intro c μ b hc hin hI hb
    have hM : IM μ v := IMS h0 hI.1 (fun k hk => by simp at hk; omega)
    rw [fn_X6_settle_13, hM.1.2.2]
    have done : ((b = 1 ∧ FIT v s x) ∨ (b = 0 ∧ ¬ FIT v s x)) → wp (fn_X6_settle_59 K μ (nI s) (nI x) b) Q := by
      intro y
      unfold fn_X6_settle_59
      rw [ix32]
      refine wp_ckN rfl (show 32 * s + x < 384 by omega) (by omega) (wp_lt (wp_lt ?_))
      rw [nI_1, nI_clamp (by omega)]
      have eb : vp_nar .boolean b = b := by
        rcases y with y | y
        · rw [y.1]; exact nar_1
        · rw [y.1]; exact nar_0
      rw [eb]
      refine hK _ ⟨fr_tr hI.1 (fr_st (by simp)), fun t z hne hz => ?_, fun z hz => ?_⟩
      · rw [st_at, if_neg (by omega)]; exact hI.2.1 t z hne hz
      · rw [st_at]
        by_cases q : z = x
        · subst q; rw [if_pos rfl]; exact y
        · rw [if_neg (by omega)]; exact hI.2.2 z (by omega)
    by_cases e : c = v.2.1 2
    · subst e
      refine wp_if_t (nI_le (Nat.le_refl _) (by omega)) (done ?_)
      rcases hb with y | y
      · exact Or.inl ⟨y.1, (FIT_eq hv hr hs).mpr y.2⟩
      · exact Or.inr y
    · have hlt : c < v.2.1 2 := by omega
      refine wp_if_f (nI_ge hlt (by omega)) ?_
      rcases hb with ⟨y1, y2⟩ | ⟨y1, y2⟩
      · obtain ⟨g1, g2, g3, g4, g5⟩ := IV_c hv hlt
        refine wp_if_f (by rw [y1]; exact one_ne) (wp_ckN rfl (show c < 40 by omega) (by omega) ?_)
        rw [nI_clamp (show c < 2 ^ 31 by omega), (hM.2.2.2.2 c hlt).1, g3]
        by_cases q : ow v c = s
        · refine wp_if_t (by rw [q]) (wp_bn2 ?_)
          refine wp_mono (m_look hv hlt hx hM (fun u hu hE => ?_)) (fun r hr2 => ?_)
          · rw [q] at hE
            have hne := hr.2 s u hE
            exact SI_S hI (fun z => by rw [z] at hne; omega) (hS u hu hE)
          · rcases hr2.2.2 with ⟨z1, k, hk, z2⟩ | ⟨z1, z2⟩
            · refine wp_if_f (by rw [z1]; exact one_ne) (wp_lt ?_)
              rw [nI_1]
              refine ih (c + 1) r.2 0 (by omega) (by omega) (SI_L hI hr2.1) (Or.inr ⟨rfl, fun w => ?_⟩)
              exact (FIT_eq hv hr hs).mp w c hlt q k hk z2
            · refine wp_if_t z1 (wp_lt ?_)
              rw [nI_1]
              refine ih (c + 1) r.2 1 (by omega) (by omega) (SI_L hI hr2.1) (Or.inl ⟨rfl, fun d hd eo k hk w => ?_⟩)
              by_cases q2 : d = c
              · subst q2; exact z2 ⟨k, hk, w⟩
              · exact y2 d (by omega) eo k hk w
        · refine wp_if_f (nI_ne (by omega) (by omega) q) (wp_lt ?_)
          rw [nI_1]
          refine ih (c + 1) μ 1 (by omega) (by omega) hI (Or.inl ⟨rfl, fun d hd eo k hk w => ?_⟩)
          by_cases q2 : d = c
          · subst q2; exact q eo
          · exact y2 d (by omega) eo k hk w
      · exact wp_if_t y1 (done (Or.inr ⟨y1, y2⟩))
def SP (μ0 τ : S2) (v : VT) (s : Nat) : Prop := fr [11, 13, 14, 15, 16] μ0 τ ∧ (∀ u, τ.1 13 u = if u = s then 1 else μ0.1 13 u) ∧ S11 τ v s ∧ ∀ t, t ≠ s → S11 μ0 v t → S11 τ v t
theorem se_2 {v : VT} (hv : IV v) {H : Nat → Nat} (hr : RK v H) {s : Nat} (hs : s < v.2.1 0) {μ0 : S2} (h0 : IM μ0 v) (hS : ∀ u, u < v.2.1 0 → EDGE v s u → S11 μ0 v u) : ∀ (n x : Nat) (μ : S2), x ≤ 32 → 32 < x + n → SI μ0 μ v s x → wp (fn_X6_settle_2 n μ (nI s) (nI x)) (fun τ => SP μ0 τ v s) := by
  have h12 := hv.1
  have h40 := hv.2.2.1
  intro n
  induction n with
  | zero => intro c μ h1 h2; omega
  | succ n ih =>
    intro x μ hx hin hI
    rw [fn_X6_settle_2]
    by_cases e : x = 32
    · subst e
      refine wp_if_t (by decide) (wp_ckN rfl (show s < 12 by omega) (by omega) (wp_lt (wp_some ⟨?_, fun u => ?_, ?_, fun t hne hS2 => ?_⟩)))
      · exact fr_tr (fr_up hI.1 (fun k hk => by simp at hk ⊢; omega)) (fr_st (by simp))
      · rw [nI_clamp (by omega), st_at, hI.1 13 (by simp)]
      · unfold S11
        rw [st_ne (by omega)]
        exact hI.2.2
      · unfold S11
        rw [st_ne (by omega)]
        exact SI_S hI hne hS2
    · refine wp_if_f (show ¬ (32 : Int32) ≤ nI x from nI_ge (b := 32) (by omega) (by omega)) ?_
      exact se_13 hv hr hs (show x < 32 by omega) h0 hS (fun τ hτ => ih (x + 1) τ (by omega) (by omega) hτ) fu 0 μ 1 (by omega) (by unfold fu; omega) hI (Or.inl ⟨rfl, fun d hd => by omega⟩)
theorem m_settle {v : VT} (hv : IV v) {H : Nat → Nat} (hr : RK v H) {s : Nat} (hs : s < v.2.1 0) {μ : S2} (h : IM μ v) (hS : ∀ u, u < v.2.1 0 → EDGE v s u → S11 μ v u) : wp (fn_X6_settle μ (nI s)) (fun τ => SP μ τ v s) := by
  unfold fn_X6_settle
  exact se_2 hv hr hs h hS fu 0 μ (by omega) (by unfold fu; omega) ⟨fr_rf, fun _ _ _ _ => rfl, fun y hy => by omega⟩
/-! passes over the shapes until all are settled -/
def PI (μ : S2) (v : VT) : Prop := IM μ v ∧ B13 μ ∧ ∀ u, u < v.2.1 0 → SS μ u → S11 μ v u
def sc (μ : S2) : Nat := cnt (fun u => decide (μ.1 13 u = 1)) 12
theorem ED_lt {v : VT} (hv : IV v) {s u : Nat} (h : EDGE v s u) : u < v.2.1 0 := by
  obtain ⟨c, hc, hE⟩ := h
  obtain ⟨s', k, g1, g2, g3, g4, g5, g6, g7⟩ := ED_of hv hc
  by_cases q : 11 ≤ k
  · obtain ⟨a, ha, ea, hE2, hone, htwo⟩ := g7 q
    by_cases q2 : 12 ≤ k ∧ k ≤ 14
    · obtain ⟨b, hb, eb, -, hall⟩ := htwo q2.1 q2.2
      rcases (hall s u hE).2 with z | z
      · omega
      · omega
    · have := (hone (by omega) s u hE).2
      omega
  · exact absurd hE (g6 (by omega) s u)
theorem mk_44 {v : VT} (hv : IV v) {H : Nat → Nat} (hr : RK v H) {μ0 : S2} {K : S2 → Int32 → Option S2} {Q : S2 → Prop}
    (hK : ∀ τ (b : Int32), PI τ v → fr [11, 13, 14, 15, 16] μ0 τ → ((b = 1 ∧ sc μ0 + 1 ≤ sc τ) ∨ (b = 0 ∧ τ = μ0 ∧ ∀ u, u < v.2.1 0 → ¬ SS μ0 u → ¬ RD μ0 v u 0)) → wp (K τ b) Q) :
    ∀ (n i : Nat) (μ : S2) (b : Int32), i ≤ v.2.1 0 → v.2.1 0 < i + n → PI μ v → fr [11, 13, 14, 15, 16] μ0 μ → ((b = 1 ∧ sc μ0 + 1 ≤ sc μ) ∨ (b = 0 ∧ μ = μ0 ∧ ∀ u, u < i → ¬ SS μ0 u → ¬ RD μ0 v u 0)) → wp (fn_X6_make_44 K n μ b (nI i)) Q := by
  have h12 := hv.1
  have h40 := hv.2.2.1
  intro n
  induction n with
  | zero => intro c μ b h1 h2; omega
  | succ n ih =>
    intro i μ b hi hin hP hf hb
    rw [fn_X6_make_44, hP.1.1.1]
    by_cases e : i = v.2.1 0
    · subst e
      exact wp_if_t (nI_le (Nat.le_refl _) (by omega)) (hK μ b hP hf hb)
    · have hlt : i < v.2.1 0 := by omega
      refine wp_if_f (nI_ge hlt (by omega)) (wp_ckN rfl (show i < 12 by omega) (by omega) ?_)
      rw [nI_clamp (show i < 2 ^ 31 by omega)]
      rcases hP.2.1 i (by omega) with y | y
      · refine wp_if_t y (wp_bn (wp_mono (m_ready hv hP.1 hP.2.1 hlt) (fun r hr2 => ?_)))
        have hno : ¬ SS μ i := fun z => by unfold SS at z; rw [y] at z; exact one_ne z.symm
        rcases hr2 with ⟨z1, z2⟩ | ⟨z1, z2⟩
        · refine wp_if_f (by rw [z1]; exact one_ne) (wp_bn (wp_mono (m_settle hv hr hlt hP.1 (fun u hu hE => ?_)) (fun τ hτ => wp_lt ?_)))
          · obtain ⟨c, hc, hE2⟩ := hE
            exact hP.2.2 u hu (z2 c (by omega) hc u hE2)
          · rw [nI_1]
            have hSS : ∀ u, SS τ u ↔ u = i ∨ SS μ u := by
              intro u
              unfold SS
              rw [hτ.2.1 u]
              by_cases q : u = i
              · rw [if_pos q]; exact ⟨fun _ => Or.inl q, fun _ => rfl⟩
              · rw [if_neg q]; exact ⟨Or.inr, fun z => z.resolve_left q⟩
            refine ih (i + 1) τ 1 (by omega) (by omega) ⟨IMS hP.1 hτ.1 (fun k hk => by simp at hk; omega), fun u hu => ?_, fun u hu z => ?_⟩ (fr_tr hf hτ.1) (Or.inl ⟨rfl, ?_⟩)
            · rw [hτ.2.1 u]
              by_cases q : u = i
              · rw [if_pos q]; exact Or.inr rfl
              · rw [if_neg q]; exact hP.2.1 u hu
            · by_cases q : u = i
              · subst q; exact hτ.2.2.1
              · exact hτ.2.2.2 u q (hP.2.2 u hu (((hSS u).mp z).resolve_left q))
            · have : sc μ + 1 ≤ sc τ := cnt_lt (fun u _ z => by
                have z' : SS μ u := by unfold SS; simpa using z
                have := (hSS u).mpr (Or.inr z')
                unfold SS at this
                simpa using this) ⟨i, by omega, by have := (hSS i).mpr (Or.inl rfl); unfold SS at this; simpa using this, fun z => hno (by unfold SS; simpa using z)⟩
              rcases hb with w | w
              · have := w.2; omega
              · rw [← w.2.1]; exact this
        · refine wp_if_t z1 (wp_lt ?_)
          rw [nI_1]
          refine ih (i + 1) μ b (by omega) (by omega) hP hf ?_
          rcases hb with w | ⟨w1, w2, w3⟩
          · exact Or.inl w
          · refine Or.inr ⟨w1, w2, fun u hu a1 => ?_⟩
            by_cases q : u = i
            · subst q; rw [← w2]; exact z2
            · exact w3 u (by omega) a1
      · refine wp_if_f (by rw [y]; exact one_ne) (wp_lt ?_)
        rw [nI_1]
        refine ih (i + 1) μ b (by omega) (by omega) hP hf ?_
        rcases hb with w | ⟨w1, w2, w3⟩
        · exact Or.inl w
        · refine Or.inr ⟨w1, w2, fun u hu a1 => ?_⟩
          by_cases q : u = i
          · subst q; rw [w2] at y; exact absurd y a1
          · exact w3 u (by omega) a1
theorem all_set {v : VT} (hv : IV v) {H : Nat → Nat} (hr : RK v H) {μ : S2} (h : ∀ u, u < v.2.1 0 → ¬ SS μ u → ¬ RD μ v u 0) : ∀ (n u : Nat), u < v.2.1 0 → H u < n → SS μ u := by
  intro n
  induction n with
  | zero => intro u _ h2; omega
  | succ n ih =>
    intro u hu hH
    apply Classical.byContradiction
    intro no
    refine h u hu no (fun c _ hc t hE => ?_)
    have hE2 : EDGE v u t := ⟨c, hc, hE⟩
    have := hr.2 u t hE2
    exact ih t (ED_lt hv hE2) (by omega)
/-- all that fits is in row 11 -/
def MF (μ : S2) (v : VT) : Prop := ∀ u, u < v.2.1 0 → S11 μ v u
theorem mk_36 {v : VT} (hv : IV v) {H : Nat → Nat} (hr : RK v H) {μ0 : S2} {Q : S2 → Prop} (hQ : ∀ τ, IM τ v → fr [11, 13, 14, 15, 16] μ0 τ → MF τ v → wp (bn (fn_X6_see τ) (fun σ3 => bn (fn_X6_report σ3) (fun σ5 => some σ5))) Q) :
    ∀ (n : Nat) (μ : S2), 14 ≤ sc μ + n → PI μ v → fr [11, 13, 14, 15, 16] μ0 μ → wp (fn_X6_make_36 n μ 1) Q := by
  intro n
  have hle : ∀ μ : S2, sc μ ≤ 12 := fun μ => cnt_le _ 12
  have h12 := hv.1
  induction n with
  | zero => intro μ h1; have := hle μ; omega
  | succ n ih =>
    intro μ h1 hP hf
    rw [fn_X6_make_36]
    refine wp_if_f one_ne (mk_44 hv hr (μ0 := μ) (fun τ b hP2 hf2 hb => ?_) fu 0 μ 0 (by omega) (by unfold fu; omega) hP fr_rf (Or.inr ⟨rfl, rfl, fun u hu => by omega⟩))
    rcases hb with ⟨b1, b2⟩ | ⟨b1, b2, b3⟩
    · subst b1
      exact ih τ (by omega) hP2 (fr_tr hf hf2)
    · subst b1; subst b2
      have := hle τ
      obtain ⟨m, em⟩ : ∃ m, n = m + 1 := ⟨n - 1, by omega⟩
      subst em
      rw [fn_X6_make_36]
      refine wp_if_t rfl (hQ τ hP2.1 hf (fun u hu => hP2.2.2 u hu (all_set hv hr b3 (H u + 1) u hu (by omega))))
theorem mk_15 {v : VT} (hv : IV v) {H : Nat → Nat} (hr : RK v H) {μ0 : S2} {Q : S2 → Prop} (hQ : ∀ τ, IM τ v → fr [11, 13, 14, 15, 16] μ0 τ → MF τ v → wp (bn (fn_X6_see τ) (fun σ3 => bn (fn_X6_report σ3) (fun σ5 => some σ5))) Q) :
    ∀ (n i : Nat) (μ : S2), i ≤ 12 → 12 < i + n → IM μ v → fr [11, 13, 14, 15, 16] μ0 μ → (∀ u, u < i → μ.1 13 u = 0) → wp (fn_X6_make_15 n μ (nI i)) Q := by
  have h12 := hv.1
  intro n
  induction n with
  | zero => intro i μ h1 h2; omega
  | succ n ih =>
    intro i μ hi hin hM hf hrow
    rw [fn_X6_make_15]
    by_cases e : i = 12
    · subst e
      refine wp_if_t (by decide) (mk_36 hv hr hQ fu μ (by unfold fu; omega) ⟨hM, fun u hu => Or.inl (hrow u hu), fun u hu z => ?_⟩ hf)
      unfold SS at z
      rw [hrow u (by omega)] at z
      exact absurd z.symm one_ne
    · refine wp_if_f (show ¬ (12 : Int32) ≤ nI i from nI_ge (b := 12) (by omega) (by omega)) (wp_ckN rfl (show i < 12 by omega) (by omega) (wp_lt (wp_lt ?_)))
      rw [nI_1, nI_clamp (show i < 2 ^ 31 by omega)]
      refine ih (i + 1) _ (by omega) (by omega) (IMS (K := [13]) hM (fr_st (by simp)) (fun k hk => by simp at hk; omega)) (fr_tr hf (fr_st (by simp))) (fun u hu => ?_)
      rw [st_at]
      by_cases q : u = i
      · rw [if_pos q]
      · rw [if_neg q]; exact hrow u (by omega)
