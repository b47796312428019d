/-! the class weighs all constraints, from low to high -/
theorem c_height {σ : S2} {v : VT} (h : IC σ v) (hn : v.2.1 0 ≤ 12) {s : Nat} (hs : s < v.2.1 0) : fn_X2_height σ (nI s) = some (nI (ht σ s)) := by
  unfold fn_X2_height
  rw [has_t h.1.1 hs hn]
  show (if (1 : Int32) = 0 then some 0 else ck (nI s) 12 (lt (fn_J0_bitCount (σ.1 10 (nI s).toNatClampNeg)) (fun r4 => some r4))) = _
  rw [if_neg one_ne, nI_clamp (by omega)]
  unfold ck
  rw [if_neg (nI_in (show s < 12 by omega) (by omega)), bitCount_cnt]
  rfl
def WS (σ0 τ : S2) (F : Nat → Nat → Prop) (v : VT) (c i : Nat) : Prop :=
  fr [19] σ0 τ ∧ (∀ t, t ≠ ow v c → τ.1 19 t = σ0.1 19 t) ∧ (∀ x, x < 32 → (bt (τ.1 19 (ow v c)) x = true ↔ bt (σ0.1 19 (ow v c)) x = true ∧ (x < i → ∀ k, k < 33 → ¬ BC F v c x k))) ∧
  (∀ x d, x < 32 → d < 40 → d ≠ c → τ.2 18 (x * 40 + d) = σ0.2 18 (x * 40 + d)) ∧ (∀ x, x < i → FLT (τ.2 18 (x * 40 + c)) F v c x)
theorem IC19 {σ τ : S2} {v : VT} (h : IC σ v) (hf : fr [19] σ τ) : IC τ v := IC_fr h hf (fun k hk => by simp at hk; omega)
theorem w_21 {v : VT} {F : Nat → Nat → Prop} (hv : IV v) {c : Nat} (hc : c < v.2.1 2) {g : Int32} (hg : GV F v c g) {σ0 : S2} (h0 : IC σ0 v) : ∀ (n i : Nat) (τ : S2), i ≤ 32 → 32 < i + n → WS σ0 τ F v c i →
    wp (fn_X5_weighConstraint_21 n τ (nI c) (nI (ow v c)) g (nI i)) (fun ρ => WS σ0 ρ F v c 32) := by
  obtain ⟨h1, h2, h3, h4, h5⟩ := IV_c hv hc
  have h12 := hv.1
  have h40 := hv.2.2.1
  intro n
  induction n with
  | zero => intro i τ a1 a2; omega
  | succ n ih =>
    intro i τ hi hin hw
    have hI : IC τ v := IC19 h0 hw.1
    rw [fn_X5_weighConstraint_21]
    by_cases e : i = 32
    · subst e
      exact wp_if_t (by decide) (wp_some hw)
    · refine wp_if_f (show ¬ (32 : Int32) ≤ nI i from nI_ge (b := 32) (by omega) (by omega)) (wp_ckN rfl (show ow v c < 12 by omega) (by omega) (wp_bn ?_))
      rw [nI_clamp (show ow v c < 2 ^ 31 by omega), hI.2.2.2.1 _ h1]
      refine wp_mono (c_byPath hI hv (show i < 32 by omega) h1) (fun vals hvals => wp_bn ?_)
      refine wp_mono (c_faults hI hv hc (show i < 32 by omega) hg hvals) (fun f hf => ?_)
      rw [ix40]
      refine wp_ckN rfl (show i * 40 + c < 1280 by omega) (by omega) (wp_lt ?_)
      rw [nI_clamp (show i * 40 + c < 2 ^ 31 by omega)]
      have hother : ∀ x d, x < 32 → d < 40 → d ≠ c → (stL τ 18 (i * 40 + c) f).2 18 (x * 40 + d) = σ0.2 18 (x * 40 + d) := by
        intro x d hx hd hne
        rw [stL_at, if_neg (by omega)]
        exact hw.2.2.2.1 x d hx hd hne
      have hown : ∀ x, x < i + 1 → FLT ((stL τ 18 (i * 40 + c) f).2 18 (x * 40 + c)) F v c x := by
        intro x hx
        rw [stL_at]
        by_cases q : x = i
        · subst q; rw [if_pos rfl]; exact hf
        · rw [if_neg (by omega)]; exact hw.2.2.2.2 x (by omega)
      by_cases q : lg_cmp f 0 = 0
      · refine wp_if_t q (wp_lt ?_)
        rw [nI_1]
        rw [FLT_0 hf] at q
        refine ih (i + 1) _ (by omega) (by omega) ⟨hw.1, hw.2.1, fun x hx => ?_, hother, hown⟩
        show bt (τ.1 19 (ow v c)) x = true ↔ _
        rw [hw.2.2.1 x hx]
        refine and_congr Iff.rfl ⟨fun z y => ?_, fun z y => z (by omega)⟩
        by_cases q2 : x = i
        · subst q2; exact q
        · exact z (by omega)
      · refine wp_if_f q (wp_ckN rfl (show ow v c < 12 by omega) (by omega) (wp_ckN rfl (show ow v c < 12 by omega) (by omega) (wp_lt (wp_lt ?_))))
        rw [nI_1]
        rw [FLT_0 hf] at q
        refine ih (i + 1) _ (by omega) (by omega) ⟨?_, fun t ht => ?_, fun x hx => ?_, hother, hown⟩
        · exact fr_tr hw.1 (fun k hk => st_ne (fun z => hk (by simp [z])))
        · rw [st_at, if_neg ht]; exact hw.2.1 t ht
        · rw [st_at, if_pos rfl]
          show bt (τ.1 19 (ow v c) &&& _) x = true ↔ _
          rw [b_clr (by omega) x hx]
          by_cases q2 : x = i
          · subst q2
            rw [if_pos rfl]
            exact ⟨fun z => absurd z Bool.false_ne_true, fun z => absurd (z.2 (by omega)) q⟩
          · rw [if_neg q2, hw.2.2.1 x hx]
            exact and_congr Iff.rfl ⟨fun z y => z (by omega), fun z y => z (by omega)⟩
theorem c_weighC {v : VT} (hv : IV v) {c : Nat} (hc : c < v.2.1 2) {σ0 : S2} (h0 : IC σ0 v) : wp (fn_X5_weighConstraint σ0 (nI c) (nI (ow v c))) (fun ρ => WS σ0 ρ (R19 σ0) v c 32) := by
  obtain ⟨h1, h2, h3, h4, h5⟩ := IV_c hv hc
  unfold fn_X5_weighConstraint
  refine wp_lt ?_
  rw [has_t h0.1.1 h1 hv.1]
  refine wp_if_f one_ne (wp_bn (wp_mono (c_good h0 hv hc) (fun g hg => ?_)))
  exact w_21 hv hc hg h0 fu 0 σ0 (by omega) (by unfold fu; omega) ⟨fr_rf, fun _ _ => rfl, fun x _ => ⟨fun z => ⟨z, fun y => by omega⟩, fun z => z.1⟩, fun _ _ _ _ _ => rfl, fun x hx => by omega⟩
def WA (σ0 τ : S2) (v : VT) (D : Nat → Prop) : Prop :=
  fr [19] σ0 τ ∧ (∀ t, t < v.2.1 0 → ∀ x, x < 32 → (bt (τ.1 19 t) x = true ↔ ∀ c, c < v.2.1 2 → D c → ow v c = t → ∀ k, k < 33 → ¬ BC (FIT v) v c x k)) ∧
  (∀ c, c < v.2.1 2 → D c → ∀ x, x < 32 → FLT (τ.2 18 (x * 40 + c)) (FIT v) v c x)
theorem WA_D {σ0 τ : S2} {v : VT} {D D' : Nat → Prop} (h : WA σ0 τ v D) (hD : ∀ c, c < v.2.1 2 → (D c ↔ D' c)) : WA σ0 τ v D' := by
  refine ⟨h.1, fun t ht x hx => ?_, fun c hc hd => h.2.2 c hc ((hD c hc).mpr hd)⟩
  rw [h.2.1 t ht x hx]
  exact ⟨fun z c hc hd => z c hc ((hD c hc).mpr hd), fun z c hc hd => z c hc ((hD c hc).mp hd)⟩
def DN (H : Nat → Nat) (v : VT) (h i : Nat) (c : Nat) : Prop := H (ow v c) < h ∨ (H (ow v c) = h ∧ c < i)
theorem WA_step {σ0 τ ρ : S2} {v : VT} (hv : IV v) {H : Nat → Nat} (hr : RK v H) {h i : Nat} (hi : i < v.2.1 2) (hH : H (ow v i) = h) (hw : WA σ0 τ v (DN H v h i)) (hs : WS τ ρ (R19 τ) v i 32) : WA σ0 ρ v (DN H v h (i + 1)) := by
  have hbc : ∀ x k, k < 33 → (BC (R19 τ) v i x k ↔ BC (FIT v) v i x k) := by
    intro x k hk
    refine BC_congr hv hi (fun u hu hE w hww => ?_) hk
    have hlt := hr.2 _ u hE
    unfold R19
    rw [hw.2.1 u hu w hww, FIT_eq hv hr hu]
    exact ⟨fun z c hc e => z c hc (Or.inl (by rw [e]; omega)) e, fun z c hc _ e => z c hc e⟩
  have h40 := hv.2.2.1
  refine ⟨fr_tr hw.1 hs.1, fun t ht x hx => ?_, fun c hc hd x hx => ?_⟩
  · by_cases e : t = ow v i
    · subst e
      rw [hs.2.2.1 x hx, hw.2.1 _ ht x hx]
      constructor
      · rintro ⟨z1, z2⟩ c hc hd eo k hk
        by_cases q : c = i
        · subst q
          rw [← hbc x k hk]
          exact z2 hx k hk
        · refine z1 c hc ?_ eo k hk
          rcases hd with y | y
          · exact Or.inl y
          · exact Or.inr ⟨y.1, by omega⟩
      · intro z
        refine ⟨fun c hc hd eo k hk => z c hc (hd.elim Or.inl (fun y => Or.inr ⟨y.1, by omega⟩)) eo k hk, fun _ k hk => ?_⟩
        rw [hbc x k hk]
        exact z i hi (Or.inr ⟨hH, by omega⟩) rfl k hk
    · rw [hs.2.1 t e, hw.2.1 t ht x hx]
      constructor
      · intro z c hc hd eo k hk
        refine z c hc ?_ eo k hk
        rcases hd with y | y
        · exact Or.inl y
        · refine Or.inr ⟨y.1, ?_⟩
          have : c ≠ i := fun q => e (by rw [← q]; exact eo.symm)
          omega
      · intro z c hc hd eo k hk
        exact z c hc (hd.elim Or.inl (fun y => Or.inr ⟨y.1, by omega⟩)) eo k hk
  · by_cases q : c = i
    · subst q
      have hf := hs.2.2.2.2 x hx
      exact ⟨fun k hk => (hf.1 k hk).trans (hbc x k hk), hf.2⟩
    · rw [hs.2.2.2.1 x c hx (by omega) q]
      refine hw.2.2 c hc ?_ x hx
      rcases hd with y | y
      · exact Or.inl y
      · exact Or.inr ⟨y.1, by omega⟩
theorem w_36 {v : VT} (hv : IV v) {σ0 : S2} (h0 : IC σ0 v) (hf : FUR σ0 v) {K : S2 → Int32 → Option S2} {Q : S2 → Prop} {h : Nat} (hh : h < 12)
    (hK : ∀ τ, WA σ0 τ v (DN (ht σ0) v (h + 1) 0) → wp (K τ (nI (h + 1))) Q) : ∀ (n i : Nat) (τ : S2), i ≤ v.2.1 2 → v.2.1 2 < i + n → WA σ0 τ v (DN (ht σ0) v h i) → wp (fn_X5_weighAll_36 K n τ (nI h) (nI i)) Q := by
  have h12 := hv.1
  have h40 := hv.2.2.1
  have hr : RK v (ht σ0) := RK_of hf h12
  intro n
  induction n with
  | zero => intro i τ a1 a2; omega
  | succ n ih =>
    intro i τ hi hin hw
    have hI : IC τ v := IC19 h0 hw.1
    rw [fn_X5_weighAll_36, hI.1.2.2]
    by_cases e : i = v.2.1 2
    · subst e
      refine wp_if_t (nI_le (Nat.le_refl _) (by omega)) (wp_lt ?_)
      rw [nI_1]
      refine hK τ (WA_D hw (fun c hc => ?_))
      unfold DN
      omega
    · have hlt : i < v.2.1 2 := by omega
      obtain ⟨h1, h2, h3, h4, h5⟩ := IV_c hv hlt
      refine wp_if_f (nI_ge hlt (by omega)) (wp_ckN rfl (show i < 40 by omega) (by omega) (wp_bn ?_))
      rw [nI_clamp (show i < 2 ^ 31 by omega), (hI.2.2.2.2.2 i hlt).1, h3, c_height hI h12 h1]
      have hht : ht τ (ow v i) = ht σ0 (ow v i) := by unfold ht; rw [hw.1 10 (by simp)]
      have hle := hr.1 _ h1
      rw [hht]
      refine wp_some ?_
      by_cases q : ht σ0 (ow v i) = h
      · refine wp_if_t (by rw [q]) (wp_ckN rfl (show i < 40 by omega) (by omega) (wp_bn (wp_mono (c_weighC hv hlt hI) (fun ρ hρ => wp_lt ?_))))
        rw [nI_1]
        exact ih (i + 1) ρ (by omega) (by omega) (WA_step hv hr hlt q hw hρ)
      · refine wp_if_f (nI_ne (by omega) (by omega) q) (wp_lt ?_)
        rw [nI_1]
        refine ih (i + 1) τ (by omega) (by omega) (WA_D hw (fun c hc => ?_))
        unfold DN
        by_cases q2 : c = i
        · subst q2; omega
        · omega
theorem w_28 {v : VT} (hv : IV v) {σ0 : S2} (h0 : IC σ0 v) (hf : FUR σ0 v) : ∀ (n h : Nat) (τ : S2), h ≤ 12 → 12 < h + n → WA σ0 τ v (DN (ht σ0) v h 0) → wp (fn_X5_weighAll_28 n τ (nI h)) (fun ρ => WA σ0 ρ v (DN (ht σ0) v 12 0)) := by
  have h40 := hv.2.2.1
  intro n
  induction n with
  | zero => intro i τ a1 a2; omega
  | succ n ih =>
    intro h τ hh hin hw
    rw [fn_X5_weighAll_28]
    by_cases e : h = 12
    · subst e
      exact wp_if_t (by decide) (wp_some hw)
    · refine wp_if_f (show ¬ (12 : Int32) ≤ nI h from nI_ge (b := 12) (by omega) (by omega)) ?_
      exact w_36 hv h0 hf (show h < 12 by omega) (fun ρ hρ => ih (h + 1) ρ (by omega) (by omega) hρ) fu 0 τ (by omega) (by unfold fu; omega) hw
/-- rows 18 and 19 hold what is asked -/
def WG (τ : S2) (v : VT) : Prop := (∀ t, t < v.2.1 0 → ∀ x, x < 32 → (bt (τ.1 19 t) x = true ↔ FIT v t x)) ∧ (∀ c, c < v.2.1 2 → ∀ x, x < 32 → FLT (τ.2 18 (x * 40 + c)) (FIT v) v c x)
theorem w_2 {v : VT} (hv : IV v) {σ0 : S2} (h0 : IC σ0 v) (hf : FUR σ0 v) : ∀ (n i : Nat) (τ : S2), i ≤ v.2.1 0 → v.2.1 0 < i + n → fr [19] σ0 τ → (∀ t, t < i → τ.1 19 t = -1) → wp (fn_X5_weighAll_2 n τ (nI i)) (fun ρ => fr [19] σ0 ρ ∧ WG ρ v) := by
  have h12 := hv.1
  have hr : RK v (ht σ0) := RK_of hf h12
  intro n
  induction n with
  | zero => intro i τ a1 a2; omega
  | succ n ih =>
    intro i τ hi hin hfr hrow
    have hI : IC τ v := IC19 h0 hfr
    rw [fn_X5_weighAll_2, hI.1.1]
    by_cases e : i = v.2.1 0
    · subst e
      refine wp_if_t (nI_le (Nat.le_refl _) (by omega)) ?_
      refine wp_mono (w_28 hv h0 hf fu 0 τ (by omega) (by unfold fu; omega) ⟨hfr, fun t ht x hx => ?_, fun c hc hd => ?_⟩) (fun ρ hρ => ⟨hρ.1, fun t ht x hx => ?_, fun c hc x hx => ?_⟩)
      · rw [hrow t ht, b_m1 x hx]
        exact ⟨fun _ c _ hd => by unfold DN at hd; omega, fun _ => rfl⟩
      · unfold DN at hd; omega
      · rw [hρ.2.1 t ht x hx, FIT_eq hv hr ht]
        exact ⟨fun z c hc eo => z c hc (Or.inl (by rw [eo]; have := hr.1 t ht; omega)) eo, fun z c hc _ eo => z c hc eo⟩
      · exact hρ.2.2 c hc (Or.inl (by have := hr.1 _ (IV_c hv hc).1; omega)) x hx
    · refine wp_if_f (nI_ge (show i < v.2.1 0 by omega) (by omega)) (wp_ckN rfl (show i < 12 by omega) (by omega) (wp_lt (wp_lt ?_)))
      rw [nI_1, nI_clamp (show i < 2 ^ 31 by omega)]
      refine ih (i + 1) _ (by omega) (by omega) (fr1 hfr) (fun t ht => ?_)
      rw [st_at]
      by_cases q : t = i
      · rw [if_pos q]
      · rw [if_neg q]; exact hrow t (by omega)
theorem c_weighAll {v : VT} (hv : IV v) {σ0 : S2} (h0 : IC σ0 v) (hf : FUR σ0 v) : wp (fn_X5_weighAll σ0) (fun ρ => fr [19] σ0 ρ ∧ WG ρ v) := by
  unfold fn_X5_weighAll
  have h12 := hv.1
  exact w_2 hv h0 hf fu 0 σ0 (by omega) (by unfold fu; omega) fr_rf (fun t ht => by omega)
