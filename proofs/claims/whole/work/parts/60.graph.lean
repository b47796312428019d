/-! shapes that lead to shapes -/
def LG (g : Nat → Nat → Prop) (s t : Nat) : Prop := s = t ∨ g s t
def FG (n : Nat) (g E : Nat → Nat → Prop) : Prop :=
  (∀ s t, g s t → s < n ∧ t < n) ∧ (∀ s t, E s t → g s t) ∧ (∀ s t u, g s t → g t u → g s u) ∧ (∀ s, ¬ g s s) ∧ (∀ s t, g s t → ∃ u, E s u ∧ LG g u t)
def jn (g : Nat → Nat → Prop) (a b : Nat) : Nat → Nat → Prop := fun s t => g s t ∨ (LG g s a ∧ LG g b t)
theorem FG_jn {n : Nat} {g E : Nat → Nat → Prop} (h : FG n g E) {a b : Nat} (ha : a < n) (hb : b < n) (hno : ¬ LG g b a) : FG n (jn g a b) (fun s t => E s t ∨ (s = a ∧ t = b)) := by
  obtain ⟨h0, h1, h2, h3, h4⟩ := h
  have tr : ∀ s t u, LG g s t → LG g t u → LG g s u := by
    rintro s t u (e | e) (f | f)
    · exact Or.inl (e.trans f)
    · exact Or.inr (e ▸ f)
    · exact Or.inr (f ▸ e)
    · exact Or.inr (h2 s t u e f)
  refine ⟨?_, ?_, ?_, ?_, ?_⟩
  · rintro s t (z | ⟨z1, z2⟩)
    · exact h0 s t z
    · refine ⟨?_, ?_⟩
      · rcases z1 with e | e
        · omega
        · exact (h0 s a e).1
      · rcases z2 with e | e
        · omega
        · exact (h0 b t e).2
  · rintro s t (z | ⟨e1, e2⟩)
    · exact Or.inl (h1 s t z)
    · exact Or.inr ⟨Or.inl e1, Or.inl e2.symm⟩
  · rintro s t u (z | ⟨z1, z2⟩) (y | ⟨y1, y2⟩)
    · exact Or.inl (h2 s t u z y)
    · exact Or.inr ⟨tr s t a (Or.inr z) y1, y2⟩
    · exact Or.inr ⟨z1, tr b t u z2 (Or.inr y)⟩
    · exact absurd (tr b t a z2 y1) hno
  · rintro s (z | ⟨z1, z2⟩)
    · exact h3 s z
    · exact hno (tr b s a z2 z1)
  · rintro s t (z | ⟨z1, z2⟩)
    · obtain ⟨u, q1, q2⟩ := h4 s t z
      refine ⟨u, Or.inl q1, ?_⟩
      rcases q2 with q2 | q2
      · exact Or.inl q2
      · exact Or.inr (Or.inl q2)
    · rcases z1 with e | e
      · refine ⟨b, Or.inr ⟨e, rfl⟩, ?_⟩
        rcases z2 with y | y
        · exact Or.inl y
        · exact Or.inr (Or.inl y)
      · obtain ⟨u, q1, q2⟩ := h4 s a e
        exact ⟨u, Or.inl q1, Or.inr (Or.inr ⟨q2, z2⟩)⟩
theorem FG_E {n : Nat} {g E F : Nat → Nat → Prop} (h : FG n g E) (he : ∀ s t, E s t ↔ F s t) : FG n g F := by
  obtain ⟨h0, h1, h2, h3, h4⟩ := h
  refine ⟨h0, fun s t z => h1 s t ((he s t).mpr z), h2, h3, fun s t z => ?_⟩
  obtain ⟨u, q1, q2⟩ := h4 s t z
  exact ⟨u, (he s u).mp q1, q2⟩
theorem FG_g {n : Nat} {g f E : Nat → Nat → Prop} (h : FG n g E) (he : ∀ s t, g s t ↔ f s t) : FG n f E := by
  have e : g = f := by funext s t; exact propext (he s t)
  rw [← e]; exact h
/-- the class's rows as a graph -/
def gr (σ : S2) : Nat → Nat → Prop := fun s t => s < 12 ∧ t < 32 ∧ bt (σ.1 10 s) t = true
/-- constraint c of shape s names u -/
def ED (v : VT) (c s u : Nat) : Prop := s < 12 ∧ u < 12 ∧ v.2.2 4 c = nI s ∧ ∃ k, k < 18 ∧ v.2.2 5 c = nI k ∧ ((11 ≤ k ∧ v.2.2 6 c = nI u) ∨ (12 ≤ k ∧ k ≤ 14 ∧ v.2.2 7 c = nI u))
def EDGE (v : VT) (s u : Nat) : Prop := ∃ c, c < v.2.1 2 ∧ ED v c s u
def FUR (σ : S2) (v : VT) : Prop := FG (v.2.1 0) (gr σ) (EDGE v)
def ht (σ : S2) (s : Nat) : Nat := cnt (bt (σ.1 10 s)) 32
theorem cnt_12 : cnt (fun i => decide (i < 12)) 32 = 12 := by decide
theorem ht_le {σ : S2} {v : VT} (h : FUR σ v) (hn : v.2.1 0 ≤ 12) {s : Nat} (hs : s < v.2.1 0) : ht σ s ≤ 11 := by
  obtain ⟨h0, h1, h2, h3, h4⟩ := h
  have := cnt_lt (f := bt (σ.1 10 s)) (g := fun i => decide (i < 12)) (n := 32) (fun i hi z => by
    have := (h0 s i ⟨by omega, hi, z⟩).2
    simp; omega) ⟨s, by omega, by simp; omega, fun z => h3 s ⟨by omega, by omega, z⟩⟩
  rw [cnt_12] at this
  unfold ht
  omega
theorem ht_lt {σ : S2} {v : VT} (h : FUR σ v) (hn : v.2.1 0 ≤ 12) {s t : Nat} (hg : gr σ s t) : ht σ t + 1 ≤ ht σ s := by
  obtain ⟨h0, h1, h2, h3, h4⟩ := h
  have hb := h0 s t hg
  unfold ht
  refine cnt_lt (f := bt (σ.1 10 t)) (g := bt (σ.1 10 s)) (n := 32) (fun i hi z => (h2 s t i hg ⟨by omega, hi, z⟩).2.2) ⟨t, by omega, hg.2.2, fun z => h3 t ⟨by omega, by omega, z⟩⟩
theorem c_leads2 {σ : S2} {v : VT} {E : Nat → Nat → Prop} (h : IC σ v) (hf : FG (v.2.1 0) (gr σ) E) (hn : v.2.1 0 ≤ 12) {s t : Nat} (hs : s < 32) (ht : t < 32) : wp (fn_X2_leads σ (nI s) (nI t)) (fun r => (r = 1 ∧ LG (gr σ) s t) ∨ (r = 0 ∧ ¬ LG (gr σ) s t)) := by
  unfold fn_X2_leads
  by_cases e : s = t
  · subst e
    exact wp_if_t rfl (wp_some (Or.inl ⟨rfl, Or.inl rfl⟩))
  · refine wp_if_f (nI_ne (by omega) (by omega) e) (wp_lt ?_)
    by_cases q : s < v.2.1 0
    · rw [has_t h.1.1 q hn]
      refine wp_if_f one_ne (wp_ckN rfl (show s < 12 by omega) (by omega) (wp_lt ?_))
      rw [nI_clamp (by omega), hold_bt ht]
      by_cases z : bt (σ.1 10 s) t = true
      · rw [if_pos z]
        exact wp_if_f one_ne (wp_some (Or.inl ⟨rfl, Or.inr ⟨by omega, ht, z⟩⟩))
      · rw [if_neg z]
        refine wp_if_t rfl (wp_some (Or.inr ⟨rfl, ?_⟩))
        rintro (y | y)
        · exact e y
        · exact z y.2.2
    · have hz : fn_X2_has σ (nI s) = 0 := by
        unfold fn_X2_has
        rw [h.1.1, if_neg (nI_pos (by omega)), if_pos (nI_le (by omega) (by omega))]
      rw [hz]
      refine wp_if_t rfl (wp_some (Or.inr ⟨rfl, ?_⟩))
      rintro (y | y)
      · exact e y
      · exact q (hf.1 s t y).1
def rowP (σ0 τ : S2) (x : Int32) (a i : Nat) : Prop := ∀ s, (s < i ∧ LG (gr σ0) s a → τ.1 10 s = σ0.1 10 s ||| x) ∧ (¬ (s < i ∧ LG (gr σ0) s a) → τ.1 10 s = σ0.1 10 s)
theorem join_loop {σ0 : S2} {v : VT} (hn : v.2.1 0 ≤ 12) {a : Nat} (ha : a < v.2.1 0) {x : Int32} (h0 : IC σ0 v) {E : Nat → Nat → Prop} (hf0 : FG (v.2.1 0) (gr σ0) E) : ∀ (n i : Nat) (σ : S2), i ≤ v.2.1 0 → v.2.1 0 < i + n → fr [10] σ0 σ → rowP σ0 σ x a i →
    wp (fn_X2_join_23 n σ (nI a) x (nI i)) (fun τ => fr [10] σ0 τ ∧ rowP σ0 τ x a (v.2.1 0)) := by
  intro n
  induction n with
  | zero => intro i σ h1 h2; omega
  | succ n ih =>
    intro i σ hi hin hfr hrow
    have hI : IC σ v := IC_fr h0 hfr (fun k hk => by simp at hk; omega)
    rw [fn_X2_join_23, hI.1.1]
    by_cases e : i = v.2.1 0
    · subst e
      exact wp_if_t (nI_le (Nat.le_refl _) (by omega)) (wp_some ⟨hfr, hrow⟩)
    · have hlt : i < v.2.1 0 := by omega
      refine wp_if_f (nI_ge hlt (by omega)) (wp_bn ?_)
      have hL : fn_X2_leads σ (nI i) (nI a) = fn_X2_leads σ0 (nI i) (nI a) := by
        unfold fn_X2_leads fn_X2_has
        rw [hI.1.1, h0.1.1, nI_clamp (show i < 2 ^ 31 by omega), (hrow i).2 (fun z => by omega)]
      rw [hL]
      refine wp_mono (c_leads2 h0 hf0 hn (show i < 32 by omega) (show a < 32 by omega)) (fun r hr => ?_)
      rcases hr with ⟨er, hr⟩ | ⟨er, hr⟩
      · subst er
        refine wp_if_f one_ne (wp_ckN rfl (by omega) (by omega) (wp_ckN rfl (by omega) (by omega) (wp_lt (wp_lt ?_))))
        rw [nI_clamp (show i < 2 ^ 31 by omega), nI_1, (hrow i).2 (fun z => by omega)]
        refine ih (i + 1) _ (by omega) (by omega) (fr1 hfr) (fun s => ?_)
        rw [st_at]
        by_cases q : s = i
        · subst q
          rw [if_pos rfl]
          exact ⟨fun _ => rfl, fun z => absurd ⟨by omega, hr⟩ z⟩
        · rw [if_neg q]
          exact ⟨fun z => (hrow s).1 ⟨by omega, z.2⟩, fun z => (hrow s).2 (fun y => z ⟨by omega, y.2⟩)⟩
      · subst er
        refine wp_if_t rfl (wp_lt ?_)
        rw [nI_1]
        refine ih (i + 1) σ (by omega) (by omega) hfr (fun s => ⟨fun z => ?_, fun z => (hrow s).2 (fun y => z ⟨by omega, y.2⟩)⟩)
        by_cases q : s = i
        · subst q; exact absurd z.2 hr
        · exact (hrow s).1 ⟨by omega, z.2⟩
theorem c_join2 {σ : S2} {v : VT} {E : Nat → Nat → Prop} (hn : v.2.1 0 ≤ 12) {a b : Nat} (ha : a < v.2.1 0) (hb : b < v.2.1 0) (h : IC σ v) (hf : FG (v.2.1 0) (gr σ) E) (hno : ¬ LG (gr σ) b a) : wp (fn_X2_join σ (nI a) (nI b)) (fun τ => fr [10] σ τ ∧ ∀ s t, gr τ s t ↔ jn (gr σ) a b s t) := by
  unfold fn_X2_join
  refine wp_lt ?_
  rw [has_t h.1.1 hb hn]
  refine wp_if_f one_ne (wp_ckN rfl (show b < 12 by omega) (by omega) (wp_lt ?_))
  rw [nI_clamp (by omega)]
  refine wp_mono (join_loop hn ha h hf fu 0 σ (by omega) (by unfold fu; omega) fr_rf (fun s => ⟨fun z => by omega, fun _ => rfl⟩)) (fun τ hτ => ⟨hτ.1, fun s t => ?_⟩)
  unfold jn
  have hbt : ∀ t, t < 32 → (bt (σ.1 10 b ||| (1 <<< (nI b &&& 31))) t = true ↔ LG (gr σ) b t) := by
    intro t ht
    rw [b_set (by omega) t ht]
    by_cases e : t = b
    · rw [if_pos e]; exact ⟨fun _ => Or.inl e.symm, fun _ => rfl⟩
    · rw [if_neg e]
      constructor
      · intro z; exact Or.inr ⟨by omega, ht, z⟩
      · rintro (z | z)
        · exact absurd z.symm e
        · exact z.2.2
  constructor
  · rintro ⟨h1, h2, h3⟩
    by_cases q : s < v.2.1 0 ∧ LG (gr σ) s a
    · rw [(hτ.2 s).1 q, b_or, Bool.or_eq_true] at h3
      rcases h3 with h3 | h3
      · exact Or.inl ⟨h1, h2, h3⟩
      · exact Or.inr ⟨q.2, (hbt t h2).mp h3⟩
    · rw [(hτ.2 s).2 q] at h3
      exact Or.inl ⟨h1, h2, h3⟩
  · rintro (z | ⟨z1, z2⟩)
    · refine ⟨z.1, z.2.1, ?_⟩
      by_cases q : s < v.2.1 0 ∧ LG (gr σ) s a
      · rw [(hτ.2 s).1 q, b_or, z.2.2]; rfl
      · rw [(hτ.2 s).2 q]; exact z.2.2
    · have hs : s < v.2.1 0 := by
        rcases z1 with e | e
        · omega
        · exact (hf.1 s a e).1
      have ht : t < 32 := by
        rcases z2 with e | e
        · omega
        · exact e.2.1
      refine ⟨by omega, ht, ?_⟩
      rw [(hτ.2 s).1 ⟨hs, z1⟩, b_or, (hbt t ht).mpr z2, Bool.or_true]
theorem c_leads {σ : S2} {v : VT} (h : IC σ v) (hf : FUR σ v) (hn : v.2.1 0 ≤ 12) {s t : Nat} (hs : s < 32) (ht : t < 32) : wp (fn_X2_leads σ (nI s) (nI t)) (fun r => (r = 1 ∧ LG (gr σ) s t) ∨ (r = 0 ∧ ¬ LG (gr σ) s t)) := c_leads2 h hf hn hs ht
theorem c_join {σ : S2} {v : VT} (hn : v.2.1 0 ≤ 12) {a b : Nat} (ha : a < v.2.1 0) (hb : b < v.2.1 0) (h : IC σ v) (hf : FUR σ v) (hno : ¬ LG (gr σ) b a) : wp (fn_X2_join σ (nI a) (nI b)) (fun τ => fr [10] σ τ ∧ ∀ s t, gr τ s t ↔ jn (gr σ) a b s t) := c_join2 hn ha hb h hf hno
