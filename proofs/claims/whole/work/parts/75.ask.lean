/-! whom a shape is asked for, be it by a target or by a constraint -/
def LST (v : VT) (R : Nat → Nat → Nat → Prop) (s x : Nat) : Prop := ∀ P : Nat → Nat → Prop, (∀ s x, s < v.2.1 0 → x < 32 → FOR v s x → P s x) →
  (∀ c u x w, c < v.2.1 2 → kn v c = 16 → v.2.2 6 c = nI u → u < v.2.1 0 → x < 32 → w < 32 → P (ow v c) x → R c x w → P u w) → P s x
def ASK (v : VT) : Nat → Nat → Prop := LST v (fun c x w => BC (FIT v) v c x (w + 1))
def SEEN (v : VT) : Nat → Nat → Prop := LST v (fun c x w => VAL v (ow v c) x w)
theorem LST_b {v : VT} {R : Nat → Nat → Nat → Prop} {s x : Nat} (hs : s < v.2.1 0) (hx : x < 32) (h : FOR v s x) : LST v R s x := fun _ h1 _ => h1 s x hs hx h
theorem LST_s {v : VT} {R : Nat → Nat → Nat → Prop} {c u x w : Nat} (hc : c < v.2.1 2) (hk : kn v c = 16) (ha : v.2.2 6 c = nI u) (hu : u < v.2.1 0) (hx : x < 32) (hw : w < 32) (h : LST v R (ow v c) x) (hR : R c x w) : LST v R u w := fun P h1 h2 => h2 c u x w hc hk ha hu hx hw (h P h1 h2) hR
theorem BC16 {F : Nat → Nat → Prop} {v : VT} {c u x w : Nat} (hk : kn v c = 16) (ha : v.2.2 6 c = nI u) (hu : u < 12) : BC F v c x (w + 1) ↔ VAL v (ow v c) x w ∧ ¬ F u w := by
  rw [BC_s, hk, ha]
  show VAL v (ow v c) x w ∧ ¬ F (nI u).toNatClampNeg w ↔ _
  rw [nI_clamp (by omega)]
theorem ask_seen {v : VT} (hv : IV v) {s x : Nat} (h : ASK v s x) : SEEN v s x := by
  have h12 := hv.1
  refine h (SEEN v) (fun s x hs hx hf => LST_b hs hx hf) (fun c u x w hc hk ha hu hx hw hP hR => ?_)
  exact LST_s hc hk ha hu hx hw hP ((BC16 hk ha (by omega)).mp hR).1
theorem seen_ask {v : VT} (hv : IV v) {H : Nat → Nat} (hr : RK v H) {s x : Nat} (h : SEEN v s x) : ¬ FIT v s x → ASK v s x := by
  have h12 := hv.1
  refine h (fun s x => ¬ FIT v s x → ASK v s x) (fun s x hs hx hf _ => LST_b hs hx hf) (fun c u x w hc hk ha hu hx hw hP hR hn => ?_)
  have hb : BC (FIT v) v c x (w + 1) := (BC16 hk ha (by omega)).mpr ⟨hR, hn⟩
  refine LST_s hc hk ha hu hx hw (hP ?_) hb
  rw [FIT_eq hv hr (IV_c hv hc).1]
  exact fun z => z c hc rfl (w + 1) (by omega) hb
/-! the class hands on -/
def HO (σ0 τ : S2) (v : VT) (c u i : Nat) : Prop := fr [20] σ0 τ ∧ τ.2 = σ0.2 ∧ (∀ t, t ≠ u → τ.1 20 t = σ0.1 20 t) ∧
  ∀ w, w < 32 → (bt (τ.1 20 u) w = true ↔ bt (σ0.1 20 u) w = true ∨ ∃ x, x < i ∧ bt (σ0.1 20 (ow v c)) x = true ∧ BC (FIT v) v c x (w + 1))
theorem h_46 {v : VT} (hv : IV v) {c u : Nat} (hc : c < v.2.1 2) (hu : u < v.2.1 0) (hne : ow v c ≠ u) {σ0 : S2} (hg : WG σ0 v) : ∀ (n i : Nat) (τ : S2), i ≤ 32 → 32 < i + n → HO σ0 τ v c u i →
    wp (fn_X5_handOn_46 n τ (nI c) (nI (ow v c)) (nI u) (nI i)) (fun ρ => HO σ0 ρ v c u 32) := by
  obtain ⟨h1, h2, h3, h4, h5⟩ := IV_c hv hc
  have h12 := hv.1
  have h40 := hv.2.2.1
  intro n
  induction n with
  | zero => intro i τ a1 a2; omega
  | succ n ih =>
    intro i τ hi hin hw
    rw [fn_X5_handOn_46]
    by_cases e : i = 32
    · subst e
      exact wp_if_t (by decide) (wp_some hw)
    · refine wp_if_f (show ¬ (32 : Int32) ≤ nI i from nI_ge (b := 32) (by omega) (by omega)) (wp_ckN rfl (show ow v c < 12 by omega) (by omega) (wp_lt ?_))
      rw [nI_clamp (show ow v c < 2 ^ 31 by omega), hold_bt (show i < 32 by omega), hw.2.2.1 _ hne]
      by_cases q : bt (σ0.1 20 (ow v c)) i = true
      · rw [if_pos q, ix40]
        refine wp_if_f one_ne (wp_ckN rfl (show u < 12 by omega) (by omega) (wp_ckN rfl (show i * 40 + c < 1280 by omega) (by omega) (wp_ckN rfl (show u < 12 by omega) (by omega) (wp_lt (wp_lt ?_)))))
        rw [nI_1, nI_clamp (show u < 2 ^ 31 by omega), nI_clamp (show i * 40 + c < 2 ^ 31 by omega)]
        refine ih (i + 1) _ (by omega) (by omega) ⟨fr1 hw.1, hw.2.1, fun t ht => ?_, fun w hww => ?_⟩
        · rw [st_at, if_neg ht]; exact hw.2.2.1 t ht
        · rw [st_at, if_pos rfl, b_or, Bool.or_eq_true, hw.2.2.2 w hww, l_int _ hww, hw.2.1, (hg.2 c hc i (by omega)).1 (w + 1) (by omega)]
          constructor
          · rintro ((z | ⟨x, z1, z2⟩) | z)
            · exact Or.inl z
            · exact Or.inr ⟨x, by omega, z2⟩
            · exact Or.inr ⟨i, by omega, q, z⟩
          · rintro (z | ⟨x, z1, z2, z3⟩)
            · exact Or.inl (Or.inl z)
            · by_cases e2 : x = i
              · subst e2; exact Or.inr z3
              · exact Or.inl (Or.inr ⟨x, by omega, z2, z3⟩)
      · rw [if_neg q]
        refine wp_if_t rfl (wp_lt ?_)
        rw [nI_1]
        refine ih (i + 1) _ (by omega) (by omega) ⟨hw.1, hw.2.1, hw.2.2.1, fun w hww => ?_⟩
        rw [hw.2.2.2 w hww]
        constructor
        · rintro (z | ⟨x, z1, z2⟩)
          · exact Or.inl z
          · exact Or.inr ⟨x, by omega, z2⟩
        · rintro (z | ⟨x, z1, z2, z3⟩)
          · exact Or.inl z
          · by_cases e2 : x = i
            · subst e2; exact absurd z2 q
            · exact Or.inr ⟨x, by omega, z2, z3⟩
theorem IC20 {σ τ : S2} {v : VT} (h : IC σ v) (hf : fr [20] σ τ) : IC τ v := IC_fr h hf (fun k hk => by simp at hk; omega)
theorem WG20 {σ τ : S2} {v : VT} (h : WG σ v) (hf : fr [20] σ τ) (h2 : τ.2 = σ.2) : WG τ v := by
  unfold WG
  rw [hf 19 (by simp), h2]
  exact h
theorem c_handOn {v : VT} (hv : IV v) {c u : Nat} (hc : c < v.2.1 2) (hu : u < v.2.1 0) (ha : v.2.2 6 c = nI u) (hne : ow v c ≠ u) {σ0 : S2} (h0 : IC σ0 v) (hg : WG σ0 v) : wp (fn_X5_handOn σ0 (nI c)) (fun ρ => HO σ0 ρ v c u 32) := by
  obtain ⟨h1, h2, h3, h4, h5⟩ := IV_c hv hc
  have h12 := hv.1
  have h40 := hv.2.2.1
  unfold fn_X5_handOn
  refine wp_ckN rfl (show c < 40 by omega) (by omega) (wp_lt (wp_ckN rfl (show c < 40 by omega) (by omega) (wp_lt (wp_lt ?_))))
  rw [nI_clamp (show c < 2 ^ 31 by omega), (h0.2.2.2.2.2 c hc).1, (h0.2.2.2.2.2 c hc).2.2.1, h3, ha, has_t h0.1.1 h1 h12]
  refine wp_if_f one_ne (wp_lt ?_)
  rw [has_t h0.1.1 hu h12]
  refine wp_if_f one_ne (h_46 hv hc hu hne hg fu 0 σ0 (by omega) (by unfold fu; omega) ⟨fr_rf, rfl, fun _ _ => rfl, fun w _ => ⟨Or.inl, fun z => z.elim id (fun ⟨x, hx, _⟩ => by omega)⟩⟩)
def AA (σ0 τ : S2) (v : VT) (D : Nat → Prop) : Prop := fr [20] σ0 τ ∧ τ.2 = σ0.2 ∧
  (∀ t w, t < v.2.1 0 → w < 32 → bt (τ.1 20 t) w = true → ASK v t w) ∧ (∀ t w, t < v.2.1 0 → w < 32 → FOR v t w → bt (τ.1 20 t) w = true) ∧
  (∀ c u x w, c < v.2.1 2 → D c → kn v c = 16 → v.2.2 6 c = nI u → u < v.2.1 0 → x < 32 → w < 32 → bt (τ.1 20 (ow v c)) x = true → BC (FIT v) v c x (w + 1) → bt (τ.1 20 u) w = true)
theorem AA_D {σ0 τ : S2} {v : VT} {D D' : Nat → Prop} (h : AA σ0 τ v D) (hD : ∀ c, c < v.2.1 2 → kn v c = 16 → D' c → D c) : AA σ0 τ v D' :=
  ⟨h.1, h.2.1, h.2.2.1, h.2.2.2.1, fun c u x w hc hd hk => h.2.2.2.2 c u x w hc (hD c hc hk hd) hk⟩
def DU (H : Nat → Nat) (v : VT) (h i : Nat) (c : Nat) : Prop := h < H (ow v c) ∨ (H (ow v c) = h ∧ c < i)
theorem ed16 {v : VT} (hv : IV v) {c u : Nat} (hc : c < v.2.1 2) (hk : kn v c = 16) (ha : v.2.2 6 c = nI u) (hu : u < v.2.1 0) : EDGE v (ow v c) u := by
  obtain ⟨h1, h2, h3, h4, h5⟩ := IV_c hv hc
  have h12 := hv.1
  exact ⟨c, hc, by omega, by omega, h3, kn v c, h2, h4, Or.inl ⟨by omega, ha⟩⟩
theorem AA_step {σ0 τ ρ : S2} {v : VT} (hv : IV v) {H : Nat → Nat} (hr : RK v H) {h i u : Nat} (hi : i < v.2.1 2) (hk : kn v i = 16) (ha : v.2.2 6 i = nI u) (hu : u < v.2.1 0) (hH : H (ow v i) = h) (hw : AA σ0 τ v (DU H v h i)) (hs : HO τ ρ v i u 32) : AA σ0 ρ v (DU H v h (i + 1)) := by
  have hE := hr.2 _ _ (ed16 hv hi hk ha hu)
  have h1 := (IV_c hv hi).1
  have h12 := hv.1
  have grow : ∀ t w, w < 32 → bt (τ.1 20 t) w = true → bt (ρ.1 20 t) w = true := by
    intro t w hww z
    by_cases e : t = u
    · subst e; exact (hs.2.2.2 w hww).mpr (Or.inl z)
    · rw [hs.2.2.1 t e]; exact z
  refine ⟨fr_tr hw.1 hs.1, hs.2.1.trans hw.2.1, fun t w ht hww z => ?_, fun t w ht hww z => grow t w hww (hw.2.2.2.1 t w ht hww z), fun c u' x w hc hd hk' ha' hu' hx hww z hb => ?_⟩
  · by_cases e : t = u
    · subst e
      rcases (hs.2.2.2 w hww).mp z with y | ⟨x, hx, y1, y2⟩
      · exact hw.2.2.1 t w ht hww y
      · exact LST_s hi hk ha hu hx hww (hw.2.2.1 _ x h1 hx y1) y2
    · rw [hs.2.2.1 t e] at z
      exact hw.2.2.1 t w ht hww z
  · have hou : ow v c ≠ u := by
      intro e
      rcases hd with y | y
      · rw [e] at y; omega
      · rw [e] at y; omega
    rw [hs.2.2.1 _ hou] at z
    by_cases e : c = i
    · subst e
      have e2 : u' = u := (nI_eq (by omega) (by omega)).mp (ha'.symm.trans ha)
      subst e2
      exact (hs.2.2.2 w hww).mpr (Or.inr ⟨x, hx, z, hb⟩)
    · refine grow u' w hww (hw.2.2.2.2 c u' x w hc ?_ hk' ha' hu' hx hww z hb)
      rcases hd with y | y
      · exact Or.inl y
      · exact Or.inr ⟨y.1, by omega⟩
theorem pm1 (x : Int32) : x + (-1) = x - 1 := (Int32.sub_eq_add_neg x 1).symm
theorem a_46 {v : VT} (hv : IV v) {σ0 : S2} (h0 : IC σ0 v) (hf : FUR σ0 v) (hg : WG σ0 v) {K : S2 → Int32 → Option S2} {Q : S2 → Prop} {h : Nat} (hh : h < 12)
    (hK : ∀ τ, AA σ0 τ v (DU (ht σ0) v h (v.2.1 2)) → wp (K τ (nI h - 1)) Q) : ∀ (n i : Nat) (τ : S2), i ≤ v.2.1 2 → v.2.1 2 < i + n → AA σ0 τ v (DU (ht σ0) v h i) → wp (fn_X5_askAll_46 K n τ (nI h) (nI i)) Q := by
  have h12 := hv.1
  have h40 := hv.2.2.1
  have hr : RK v (ht σ0) := RK_of hf h12
  intro n
  induction n with
  | zero => intro i τ a1 a2; omega
  | succ n ih =>
    intro i τ hi hin hw
    have hI : IC τ v := IC20 h0 hw.1
    rw [fn_X5_askAll_46, hI.1.2.2]
    by_cases e : i = v.2.1 2
    · subst e
      refine wp_if_t (nI_le (Nat.le_refl _) (by omega)) (wp_lt ?_)
      rw [pm1]
      exact hK τ hw
    · have hlt : i < v.2.1 2 := by omega
      obtain ⟨h1, h2, h3, h4, h5⟩ := IV_c hv hlt
      refine wp_if_f (nI_ge hlt (by omega)) (wp_ckN rfl (show i < 40 by omega) (by omega) ?_)
      rw [nI_clamp (show i < 2 ^ 31 by omega), (hI.2.2.2.2.2 i hlt).1, (hI.2.2.2.2.2 i hlt).2.1, h3, h4]
      by_cases e16 : kn v i = 16
      · refine wp_if_t (show nI (kn v i) = 16 by rw [e16]; rfl) (wp_ckN rfl (show i < 40 by omega) (by omega) (wp_bn ?_))
        have hht : ht τ (ow v i) = ht σ0 (ow v i) := by unfold ht; rw [hw.1 10 (by simp)]
        have hle := hr.1 _ h1
        rw [c_height hI h12 h1, hht]
        refine wp_some ?_
        by_cases q : ht σ0 (ow v i) = h
        · obtain ⟨u, hu, ha⟩ := h5.2.2.2.2.2.1 (by omega)
          have hE := hr.2 _ _ (ed16 hv hlt e16 ha hu)
          refine wp_if_t (by rw [q]) (wp_bn (wp_mono (c_handOn hv hlt hu ha (fun z => by rw [z] at hE; omega) hI (WG20 hg hw.1 hw.2.1)) (fun ρ hρ => wp_lt ?_)))
          rw [nI_1]
          exact ih (i + 1) ρ (by omega) (by omega) (AA_step hv hr hlt e16 ha hu q hw hρ)
        · refine wp_if_f (nI_ne (by omega) (by omega) q) (wp_lt ?_)
          rw [nI_1]
          refine ih (i + 1) τ (by omega) (by omega) (AA_D hw (fun c hc _ hd => ?_))
          unfold DU at hd ⊢
          by_cases q2 : c = i
          · subst q2; omega
          · omega
      · refine wp_if_f (show ¬ nI (kn v i) = nI 16 from nI_ne (by omega) (by omega) e16) (wp_lt ?_)
        rw [nI_1]
        refine ih (i + 1) τ (by omega) (by omega) (AA_D hw (fun c hc hk hd => ?_))
        unfold DU at hd ⊢
        by_cases q2 : c = i
        · subst q2; omega
        · omega
theorem a_40 {v : VT} (hv : IV v) {σ0 : S2} (h0 : IC σ0 v) (hf : FUR σ0 v) (hg : WG σ0 v) : ∀ (n m : Nat) (τ : S2), m ≤ 12 → m < n → (∀ D : Nat → Prop, (∀ c, c < v.2.1 2 → D c → m ≤ ht σ0 (ow v c)) → AA σ0 τ v D) →
    wp (fn_X5_askAll_40 n τ (nI m - 1)) (fun ρ => AA σ0 ρ v (fun _ => True)) := by
  have h40 := hv.2.2.1
  intro n
  induction n with
  | zero => intro i τ a1 a2; omega
  | succ n ih =>
    intro m τ hm hin hw
    rw [fn_X5_askAll_40]
    cases m with
    | zero => exact wp_if_t (by decide) (wp_some (hw _ (fun c _ _ => by omega)))
    | succ m =>
      rw [nI_pred]
      refine wp_if_f (nI_pos (by omega)) ?_
      refine a_46 hv h0 hf hg (show m < 12 by omega) (fun ρ hρ => ?_) fu 0 τ (by omega) (by unfold fu; omega) (hw _ (fun c _ hd => by unfold DU at hd; omega))
      refine ih m ρ (by omega) (by omega) (fun D hD => AA_D hρ (fun c hc _ hd => ?_))
      have := hD c hc hd
      unfold DU
      omega
def AG (τ : S2) (v : VT) : Prop := ∀ t w, t < v.2.1 0 → w < 32 → (bt (τ.1 20 t) w = true ↔ ASK v t w)
theorem a_2 {v : VT} (hv : IV v) {σ0 : S2} (h0 : IC σ0 v) (hf : FUR σ0 v) (hg : WG σ0 v) : ∀ (n i : Nat) (τ : S2), i ≤ v.2.1 0 → v.2.1 0 < i + n → fr [20] σ0 τ → τ.2 = σ0.2 → (∀ t, t < i → ∀ x, x < 32 → (bt (τ.1 20 t) x = true ↔ FOR v t x)) → wp (fn_X5_askAll_2 n τ (nI i)) (fun ρ => fr [20] σ0 ρ ∧ ρ.2 = σ0.2 ∧ AG ρ v) := by
  have h12 := hv.1
  have hr : RK v (ht σ0) := RK_of hf h12
  intro n
  induction n with
  | zero => intro i τ a1 a2; omega
  | succ n ih =>
    intro i τ hi hin hfr h2 hrow
    have hI : IC τ v := IC20 h0 hfr
    rw [fn_X5_askAll_2, hI.1.1]
    by_cases e : i = v.2.1 0
    · subst e
      refine wp_if_t (nI_le (Nat.le_refl _) (by omega)) ?_
      rw [show (11 : Int32) = nI 12 - 1 from by decide]
      refine wp_mono (a_40 hv h0 hf hg fu 12 τ (by omega) (by unfold fu; omega) (fun D hD => ⟨hfr, h2, fun t w ht hww z => LST_b ht hww ((hrow t ht w hww).mp z), fun t w ht hww z => (hrow t ht w hww).mpr z, fun c u x w hc hd => ?_⟩)) (fun ρ hρ => ⟨hρ.1, hρ.2.1, fun t w ht hww => ⟨hρ.2.2.1 t w ht hww, fun z => ?_⟩⟩)
      · have := hD c hc hd
        have := hr.1 _ (IV_c hv hc).1
        omega
      · have := z (fun t w => t < v.2.1 0 → w < 32 → bt (ρ.1 20 t) w = true) (fun s x hs hx hf _ _ => hρ.2.2.2.1 s x hs hx hf) (fun c u x w hc hk ha hu hx hww hP hb _ _ => hρ.2.2.2.2 c u x w hc trivial hk ha hu hx hww (hP (IV_c hv hc).1 hx) hb)
        exact this ht hww
    · refine wp_if_f (nI_ge (show i < v.2.1 0 by omega) (by omega)) (wp_bn (wp_mono (c_termsOf hI hv (show i < v.2.1 0 by omega)) (fun r hr2 => wp_ckN rfl (show i < 12 by omega) (by omega) (wp_lt (wp_lt ?_)))))
      rw [nI_1, nI_clamp (show i < 2 ^ 31 by omega)]
      refine ih (i + 1) _ (by omega) (by omega) (fr1 hfr) h2 (fun t ht x hx => ?_)
      rw [st_at]
      by_cases q : t = i
      · subst q; rw [if_pos rfl]; exact hr2 x hx
      · rw [if_neg q]; exact hrow t (by omega) x hx
theorem c_askAll {v : VT} (hv : IV v) {σ0 : S2} (h0 : IC σ0 v) (hf : FUR σ0 v) (hg : WG σ0 v) : wp (fn_X5_askAll σ0) (fun ρ => fr [20] σ0 ρ ∧ ρ.2 = σ0.2 ∧ AG ρ v) := by
  unfold fn_X5_askAll
  have h12 := hv.1
  exact a_2 hv h0 hf hg fu 0 σ0 (by omega) (by unfold fu; omega) fr_rf rfl (fun t ht => by omega)
