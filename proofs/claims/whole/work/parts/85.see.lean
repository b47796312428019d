/-! the reference sees whom a shape is asked for -/
def D12 (μ : S2) (s x : Nat) : Prop := μ.1 12 (32 * s + x) = 1
def B12 (μ : S2) : Prop := ∀ s x, s < 12 → x < 32 → μ.1 12 (32 * s + x) = 0 ∨ μ.1 12 (32 * s + x) = 1
def SV (μ0 μ : S2) (v : VT) (C : Nat → Prop) : Prop := fr [12, 14] μ0 μ ∧ B12 μ ∧
  (∀ t w, t < v.2.1 0 → w < 32 → D12 μ t w → SEEN v t w) ∧ (∀ t w, t < v.2.1 0 → w < 32 → FOR v t w → D12 μ t w) ∧
  (∀ c u x w, c < v.2.1 2 → C c → kn v c = 16 → v.2.2 6 c = nI u → u < v.2.1 0 → x < 32 → w < 32 → D12 μ (ow v c) x → VAL v (ow v c) x w → D12 μ u w)
theorem SV_C {μ0 μ : S2} {v : VT} {C C' : Nat → Prop} (h : SV μ0 μ v C) (hC : ∀ c, c < v.2.1 2 → kn v c = 16 → C' c → C c) : SV μ0 μ v C' :=
  ⟨h.1, h.2.1, h.2.2.1, h.2.2.2.1, fun c u x w hc hd hk => h.2.2.2.2 c u x w hc (hC c hc hk hd) hk⟩
theorem D12_st {μ : S2} {u w t y : Nat} {b : Int32} (hw : w < 32) (hy : y < 32) (hb : b = 1 ∨ ¬ D12 μ u w) : D12 (st μ 12 (32 * u + w) b) t y ↔ D12 μ t y ∨ (t = u ∧ y = w ∧ b = 1) := by
  unfold D12 at hb ⊢
  rw [st_at]
  by_cases q : t = u ∧ y = w
  · obtain ⟨q1, q2⟩ := q
    subst q1; subst q2
    rw [if_pos rfl]
    constructor
    · intro z; exact Or.inr ⟨rfl, rfl, z⟩
    · rintro (z | z)
      · exact hb.resolve_right (fun a => a z)
      · exact z.2.2
  · rw [if_neg (by omega)]
    exact ⟨Or.inl, fun z => z.elim id (fun z => absurd ⟨z.1, z.2.1⟩ q)⟩
theorem SV_st {v : VT} (hv : IV v) {H : Nat → Nat} (hr : RK v H) {μ0 μ : S2} {h i u x w : Nat} (hi : i < v.2.1 2) (hk : kn v i = 16) (ha : v.2.2 6 i = nI u) (hu : u < v.2.1 0) (hx : x < 32) (hw : w < 32) (hS : SV μ0 μ v (DU H v h i)) (hD : D12 μ (ow v i) x) {b : Int32} (hb : (b = 1 ∧ (D12 μ u w ∨ VAL v (ow v i) x w)) ∨ (b = 0 ∧ ¬ D12 μ u w)) : SV μ0 (st μ 12 (32 * u + w) b) v (DU H v h i) := by
  have hE := hr.2 _ _ (ed16 hv hi hk ha hu)
  have h12 := hv.1
  have h1 := (IV_c hv hi).1
  have hb' : b = 1 ∨ ¬ D12 μ u w := hb.elim (fun z => Or.inl z.1) (fun z => Or.inr z.2)
  have key : ∀ t y, y < 32 → (D12 (st μ 12 (32 * u + w) b) t y ↔ D12 μ t y ∨ (t = u ∧ y = w ∧ b = 1)) := fun t y hy => D12_st hw hy hb'
  refine ⟨fr_tr hS.1 (fr_st (by simp)), fun s y hs hy => ?_, fun t y ht hy z => ?_, fun t y ht hy z => (key t y hy).mpr (Or.inl (hS.2.2.2.1 t y ht hy z)), fun c u' x' w' hc hd hk' ha' hu' hx' hw' z hval => ?_⟩
  · rw [st_at]
    by_cases q : 32 * s + y = 32 * u + w
    · rw [if_pos q]
      rcases hb with z | z
      · exact Or.inr z.1
      · exact Or.inl z.1
    · rw [if_neg q]; exact hS.2.1 s y hs hy
  · rcases (key t y hy).mp z with z | ⟨z1, z2, z3⟩
    · exact hS.2.2.1 t y ht hy z
    · subst z1; subst z2
      rcases hb with ⟨_, b2⟩ | ⟨b1, _⟩
      · rcases b2 with b2 | b2
        · exact hS.2.2.1 t y ht hy b2
        · exact LST_s hi hk ha hu hx hw (hS.2.2.1 _ x h1 hx hD) b2
      · rw [b1] at z3; exact absurd z3.symm one_ne
  · refine (key u' w' hw').mpr (Or.inl ?_)
    rcases (key _ x' hx').mp z with z | ⟨z1, z2, z3⟩
    · exact hS.2.2.2.2 c u' x' w' hc hd hk' ha' hu' hx' hw' z hval
    · by_cases old : D12 μ u w
      · refine hS.2.2.2.2 c u' x' w' hc hd hk' ha' hu' hx' hw' ?_ hval
        rw [z1, z2]; exact old
      · exfalso
        rcases hb with ⟨_, b2⟩ | ⟨b1, _⟩
        · have hv2 := b2.resolve_left old
          have nC : ¬ DU H v h i i := fun q => old (hS.2.2.2.2 i u x w hi q hk ha hu hx hw hD hv2)
          unfold DU at nC hd
          rw [z1] at hd
          omega
        · rw [b1] at z3; exact one_ne z3.symm
def PX (μ : S2) (v : VT) (i u x : Nat) : Prop := ∀ y w, y < x → w < 32 → D12 μ (ow v i) y → VAL v (ow v i) y w → D12 μ u w
def PW (μ : S2) (v : VT) (i u x w : Nat) : Prop := ∀ z, z < w → VAL v (ow v i) x z → D12 μ u z
theorem IM12 {μ τ : S2} {v : VT} (h : IM μ v) (hf : fr [12, 14] μ τ) : IM τ v := IM_fr h hf (fun k hk => by simp at hk; omega)
theorem sw_101 {v : VT} (hv : IV v) {H : Nat → Nat} (hr : RK v H) {μ0 : S2} (h0 : IM μ0 v) {h i u x : Nat} (hi : i < v.2.1 2) (hk : kn v i = 16) (ha : v.2.2 6 i = nI u) (hu : u < v.2.1 0) (hx : x < 32) {x1 : Int32} {K63 : S2 → Int32 → Option S2} {K71 : S2 → Int32 → Int32 → Option S2} {K81 : S2 → Int32 → Int32 → Int32 → Option S2} {Q : S2 → Prop}
    (hK : ∀ τ, SV μ0 τ v (DU H v h i) → PX τ v i u (x + 1) → wp (K81 τ x1 (nI i) (nI (x + 1))) Q) :
    ∀ (n w : Nat) (μ : S2), w ≤ 32 → 32 < w + n → SV μ0 μ v (DU H v h i) → PX μ v i u x → PW μ v i u x w → wp (fn_X6_see_101 K63 K71 K81 n μ x1 (nI i) (nI x) (nI w)) Q := by
  have hE := hr.2 _ _ (ed16 hv hi hk ha hu)
  have hne : ow v i ≠ u := fun z => by rw [z] at hE; omega
  have h12 := hv.1
  have h40 := hv.2.2.1
  obtain ⟨g1, g2, g3, g4, g5⟩ := IV_c hv hi
  intro n
  induction n with
  | zero => intro w μ a1 a2; omega
  | succ n ih =>
    intro w μ hw hin hS hX hW
    have hM : IM μ v := IM12 h0 hS.1
    rw [fn_X6_see_101]
    by_cases e : w = 32
    · subst e
      refine wp_if_t (by decide) (wp_lt ?_)
      rw [nI_1]
      refine hK μ hS (fun y z hy hz hd hval => ?_)
      by_cases q : y = x
      · subst q; exact hW z hz hval
      · exact hX y z (by omega) hz hd hval
    · have hlt : w < 32 := by omega
      refine wp_if_f (show ¬ (32 : Int32) ≤ nI w from nI_ge (b := 32) hlt (by omega)) (wp_ckN rfl (show i < 40 by omega) (by omega) ?_)
      rw [nI_clamp (show i < 2 ^ 31 by omega), (hM.2.2.2.2 i hi).1, (hM.2.2.2.2 i hi).2.2.1, g3, ha, ix32, ix32]
      refine wp_ckN rfl (show 32 * ow v i + x < 384 by omega) (by omega) ?_
      rw [nI_clamp (show 32 * ow v i + x < 2 ^ 31 by omega)]
      rcases hS.2.1 (ow v i) x (by omega) hx with y | y
      · refine wp_if_t y (wp_lt ?_)
        rw [nI_1]
        refine hK μ hS (fun y' z hy hz hd hval => ?_)
        by_cases q : y' = x
        · subst q
          unfold D12 at hd
          rw [y] at hd
          exact absurd hd.symm one_ne
        · exact hX y' z (by omega) hz hd hval
      · refine wp_if_f (by rw [y]; exact one_ne) (wp_ckN rfl (show i < 40 by omega) (by omega) (wp_ckN rfl (show i < 40 by omega) (by omega) (wp_ckN rfl (show 32 * u + w < 384 by omega) (by omega) ?_)))
        rw [nI_clamp (show 32 * u + w < 2 ^ 31 by omega)]
        have go : ∀ b : Int32, ((b = 1 ∧ (D12 μ u w ∨ VAL v (ow v i) x w)) ∨ (b = 0 ∧ ¬ D12 μ u w ∧ ¬ VAL v (ow v i) x w)) → wp (ck (nI (32 * u + w)) 384 (lt (st μ 12 (32 * u + w) b) (fun σ19 => lt (nI w + 1) (fun v20 => fn_X6_see_101 K63 K71 K81 n σ19 x1 (nI i) (nI x) v20)))) Q := by
          intro b hb
          refine wp_ckN rfl (show 32 * u + w < 384 by omega) (by omega) (wp_lt (wp_lt ?_))
          rw [nI_1]
          have hb2 : (b = 1 ∧ (D12 μ u w ∨ VAL v (ow v i) x w)) ∨ (b = 0 ∧ ¬ D12 μ u w) := hb.elim Or.inl (fun z => Or.inr ⟨z.1, z.2.1⟩)
          have hb3 : b = 1 ∨ ¬ D12 μ u w := hb.elim (fun z => Or.inl z.1) (fun z => Or.inr z.2.1)
          refine ih (w + 1) _ (by omega) (by omega) (SV_st hv hr hi hk ha hu hx hlt hS y hb2) (fun y' z hy hz hd hval => ?_) (fun z hz hval => ?_)
          · rw [D12_st hlt (by omega) hb3] at hd ⊢
            exact Or.inl (hX y' z hy hz (hd.elim id (fun q => absurd q.1 hne)) hval)
          · rw [D12_st hlt (by omega) hb3]
            by_cases q : z = w
            · subst q
              rcases hb with b1 | b1
              · exact Or.inr ⟨rfl, rfl, b1.1⟩
              · exact absurd hval b1.2.2
            · exact Or.inl (hW z (by omega) hval)
        rcases hS.2.1 u w (by omega) hlt with y2 | y2
        · refine wp_if_t y2 (wp_ckN rfl (show i < 40 by omega) (by omega) (wp_bn (wp_mono (m_isValue hM hv hx g1 hlt) (fun r hr2 => ?_))))
          have nD : ¬ D12 μ u w := fun z => by unfold D12 at z; rw [y2] at z; exact one_ne z.symm
          rcases hr2 with ⟨z1, z2⟩ | ⟨z1, z2⟩
          · exact wp_if_f (by rw [z1]; exact one_ne) (go 1 (Or.inl ⟨rfl, Or.inr z2⟩))
          · exact wp_if_t z1 (go 0 (Or.inr ⟨rfl, nD, z2⟩))
        · exact wp_if_f (by rw [y2]; exact one_ne) (go 1 (Or.inl ⟨rfl, Or.inl y2⟩))
theorem sw_81 {v : VT} (hv : IV v) {H : Nat → Nat} (hr : RK v H) {μ0 : S2} (h0 : IM μ0 v) {h i : Nat} (hi : i < v.2.1 2) {x1 : Int32} {K63 : S2 → Int32 → Option S2} {K71 : S2 → Int32 → Int32 → Option S2} {Q : S2 → Prop}
    (hK : ∀ τ, SV μ0 τ v (DU H v h (i + 1)) → wp (K71 τ x1 (nI (i + 1))) Q) :
    ∀ (n x : Nat) (μ : S2), x ≤ 32 → 32 < x + n → SV μ0 μ v (DU H v h i) → (∀ u, kn v i = 16 → v.2.2 6 i = nI u → u < v.2.1 0 → PX μ v i u x) → wp (fn_X6_see_81 K63 K71 n μ x1 (nI i) (nI x)) Q := by
  have h12 := hv.1
  have h40 := hv.2.2.1
  obtain ⟨g1, g2, g3, g4, g5⟩ := IV_c hv hi
  intro n
  induction n with
  | zero => intro w μ a1 a2; omega
  | succ n ih =>
    intro x μ hx hin hS hX
    have hM : IM μ v := IM12 h0 hS.1
    rw [fn_X6_see_81]
    by_cases e : x = 32
    · subst e
      refine wp_if_t (by decide) (wp_lt ?_)
      rw [nI_1]
      refine hK μ ⟨hS.1, hS.2.1, hS.2.2.1, hS.2.2.2.1, fun c u x w hc hd hk ha hu hx hw hD hval => ?_⟩
      by_cases q : c = i
      · subst q; exact hX u hk ha hu x w hx hw hD hval
      · refine hS.2.2.2.2 c u x w hc ?_ hk ha hu hx hw hD hval
        unfold DU at hd ⊢
        omega
    · refine wp_if_f (show ¬ (32 : Int32) ≤ nI x from nI_ge (b := 32) (by omega) (by omega)) (wp_ckN rfl (show i < 40 by omega) (by omega) ?_)
      rw [nI_clamp (show i < 2 ^ 31 by omega), (hM.2.2.2.2 i hi).2.1, g4]
      by_cases q : kn v i = 16
      · refine wp_if_t (show nI (kn v i) = 16 by rw [q]; rfl) ?_
        obtain ⟨u, hu, ha⟩ := g5.2.2.2.2.2.1 (by omega)
        refine sw_101 hv hr h0 hi q ha hu (show x < 32 by omega) (fun τ hS2 hX2 => ih (x + 1) τ (by omega) (by omega) hS2 (fun u' _ ha' hu' => ?_)) fu 0 μ (by omega) (by unfold fu; omega) hS (hX u q ha hu) (fun z hz => by omega)
        have e2 : u' = u := (nI_eq (by omega) (by omega)).mp (ha'.symm.trans ha)
        subst e2
        exact hX2
      · refine wp_if_f (show ¬ nI (kn v i) = nI 16 from nI_ne (by omega) (by omega) q) (wp_lt ?_)
        rw [nI_1]
        refine hK μ (SV_C hS (fun c hc hk hd => ?_))
        unfold DU at hd ⊢
        by_cases q2 : c = i
        · subst q2; exact absurd hk q
        · omega
theorem sw_71 {v : VT} (hv : IV v) {H : Nat → Nat} (hr : RK v H) {μ0 : S2} (h0 : IM μ0 v) {h r : Nat} {K63 : S2 → Int32 → Option S2} {Q : S2 → Prop}
    (hK : ∀ τ, SV μ0 τ v (DU H v h (v.2.1 2)) → wp (K63 τ (nI (r + 1))) Q) :
    ∀ (n i : Nat) (μ : S2), i ≤ v.2.1 2 → v.2.1 2 < i + n → SV μ0 μ v (DU H v h i) → wp (fn_X6_see_71 K63 n μ (nI r) (nI i)) Q := by
  have h40 := hv.2.2.1
  intro n
  induction n with
  | zero => intro w μ a1 a2; omega
  | succ n ih =>
    intro i μ hi hin hS
    have hM : IM μ v := IM12 h0 hS.1
    rw [fn_X6_see_71, hM.1.2.2]
    by_cases e : i = v.2.1 2
    · subst e
      refine wp_if_t (nI_le (Nat.le_refl _) (by omega)) (wp_lt ?_)
      rw [nI_1]
      exact hK μ hS
    · have hlt : i < v.2.1 2 := by omega
      refine wp_if_f (nI_ge hlt (by omega)) ?_
      exact sw_81 hv hr h0 hlt (fun τ hS2 => ih (i + 1) τ (by omega) (by omega) hS2) fu 0 μ (by omega) (by unfold fu; omega) hS (fun u _ _ _ y w hy => by omega)
theorem sw_63 {v : VT} (hv : IV v) {H : Nat → Nat} (hr : RK v H) {μ0 : S2} (h0 : IM μ0 v) : ∀ (n r : Nat) (μ : S2), r ≤ 12 → 12 < r + n → (∀ C : Nat → Prop, (∀ c, c < v.2.1 2 → C c → 12 ≤ H (ow v c) + r) → SV μ0 μ v C) → wp (fn_X6_see_63 n μ (nI r)) (fun τ => SV μ0 τ v (fun _ => True)) := by
  have h40 := hv.2.2.1
  intro n
  induction n with
  | zero => intro w μ a1 a2; omega
  | succ n ih =>
    intro r μ hrr hin hS
    rw [fn_X6_see_63]
    by_cases e : r = 12
    · subst e
      exact wp_if_t (by decide) (wp_some (hS _ (fun c _ _ => by omega)))
    · refine wp_if_f (show ¬ (12 : Int32) ≤ nI r from nI_ge (b := 12) (by omega) (by omega)) ?_
      refine sw_71 hv hr h0 (h := 11 - r) (fun τ hS2 => ih (r + 1) τ (by omega) (by omega) (fun C hC => SV_C hS2 (fun c hc _ hd => ?_))) fu 0 μ (by omega) (by unfold fu; omega) (hS _ (fun c hc hd => ?_))
      · have := hC c hc hd
        unfold DU
        omega
      · unfold DU at hd
        omega
def M12 (μ : S2) (v : VT) (s x : Nat) : Prop := (μ.1 12 (32 * s + x) = 1 ∧ (s < v.2.1 0 ∧ FOR v s x)) ∨ (μ.1 12 (32 * s + x) = 0 ∧ ¬ (s < v.2.1 0 ∧ FOR v s x))
theorem fr12 {μ0 μ τ : S2} {i : Nat} {b : Int32} (h : fr [12, 14] μ0 μ) (h2 : fr [14] μ τ) : fr [12, 14] μ0 (st τ 12 i b) := fr_tr h (fr_tr (fr_up h2 (fun k hk => by simp at hk ⊢; omega)) (fr_st (by simp)))
theorem sw_10 {v : VT} (hv : IV v) {μ0 : S2} (h0 : IM μ0 v) {s : Nat} (hs : s < 12) {K : S2 → Int32 → Option S2} {Q : S2 → Prop}
    (hK : ∀ τ, fr [12, 14] μ0 τ → (∀ t y, t < s + 1 → y < 32 → M12 τ v t y) → wp (K τ (nI (s + 1))) Q) :
    ∀ (n x : Nat) (μ : S2), x ≤ 32 → 32 < x + n → fr [12, 14] μ0 μ → (∀ t y, t < s → y < 32 → M12 μ v t y) → (∀ y, y < x → M12 μ v s y) → wp (fn_X6_see_10 K n μ (nI s) (nI x)) Q := by
  have h12 := hv.1
  intro n
  induction n with
  | zero => intro w μ a1 a2; omega
  | succ n ih =>
    intro x μ hx hin hf hrow hcur
    have hM : IM μ v := IM12 h0 hf
    rw [fn_X6_see_10]
    by_cases e : x = 32
    · subst e
      refine wp_if_t (by decide) (wp_lt ?_)
      rw [nI_1]
      refine hK μ hf (fun t y ht hy => ?_)
      by_cases q : t = s
      · subst q; exact hcur y hy
      · exact hrow t y (by omega) hy
    · refine wp_if_f (show ¬ (32 : Int32) ≤ nI x from nI_ge (b := 32) (by omega) (by omega)) ?_
      rw [hM.1.1]
      have go : ∀ (τ : S2) (b : Int32), fr [14] μ τ → ((b = 1 ∧ (s < v.2.1 0 ∧ FOR v s x)) ∨ (b = 0 ∧ ¬ (s < v.2.1 0 ∧ FOR v s x))) → wp (ck (32 * nI s + nI x) 384 (lt (st τ 12 (32 * nI s + nI x).toNatClampNeg b) (fun σ5 => lt (nI x + 1) (fun v6 => fn_X6_see_10 K n σ5 (nI s) v6)))) Q := by
        intro τ b hf2 hb
        rw [ix32]
        refine wp_ckN rfl (show 32 * s + x < 384 by omega) (by omega) (wp_lt (wp_lt ?_))
        rw [nI_1, nI_clamp (by omega)]
        refine ih (x + 1) _ (by omega) (by omega) (fr12 hf hf2) (fun t y ht hy => ?_) (fun y hy => ?_)
        · unfold M12
          rw [st_at, if_neg (by omega), hf2 12 (by simp)]
          exact hrow t y ht hy
        · unfold M12
          rw [st_at]
          by_cases q : y = x
          · subst q; rw [if_pos rfl]; exact hb
          · rw [if_neg (by omega), hf2 12 (by simp)]; exact hcur y (by omega)
      by_cases q : v.2.1 0 ≤ s
      · exact wp_if_t (nI_le q (by omega)) (go μ 0 fr_rf (Or.inr ⟨rfl, fun z => by omega⟩))
      · refine wp_if_f (nI_ge (by omega) (by omega)) (wp_bn2 (wp_mono (m_isFor hM hv (show s < v.2.1 0 by omega) (show x < 32 by omega)) (fun r hr => ?_)))
        rcases hr.1 with ⟨z1, z2⟩ | ⟨z1, z2⟩
        · exact wp_if_f (by rw [z1]; exact one_ne) (go r.2 1 hr.2 (Or.inl ⟨rfl, by omega, z2⟩))
        · exact wp_if_t z1 (go r.2 0 hr.2 (Or.inr ⟨rfl, fun z => z2 z.2⟩))
/-- row 12 holds whom is seen -/
def SG (μ : S2) (v : VT) : Prop := ∀ t w, t < v.2.1 0 → w < 32 → (μ.1 12 (32 * t + w) = 1 ∧ SEEN v t w) ∨ (μ.1 12 (32 * t + w) = 0 ∧ ¬ SEEN v t w)
theorem sw_2 {v : VT} (hv : IV v) {H : Nat → Nat} (hr : RK v H) {μ0 : S2} (h0 : IM μ0 v) : ∀ (n s : Nat) (μ : S2), s ≤ 12 → 12 < s + n → fr [12, 14] μ0 μ → (∀ t y, t < s → y < 32 → M12 μ v t y) → wp (fn_X6_see_2 n μ (nI s)) (fun τ => fr [12, 14] μ0 τ ∧ SG τ v) := by
  have h12 := hv.1
  intro n
  induction n with
  | zero => intro w μ a1 a2; omega
  | succ n ih =>
    intro s μ hs hin hf hrow
    rw [fn_X6_see_2]
    by_cases e : s = 12
    · subst e
      refine wp_if_t (by decide) (wp_mono (sw_63 hv hr h0 fu 0 μ (by omega) (by unfold fu; omega) (fun C hC => ⟨hf, fun t y ht hy => ?_, fun t w ht hw z => ?_, fun t w ht hw z => ?_, fun c u x w hc hd => ?_⟩)) (fun τ hτ => ⟨hτ.1, fun t w ht hw => ?_⟩))
      · rcases hrow t y ht hy with z | z
        · exact Or.inr z.1
        · exact Or.inl z.1
      · rcases hrow t w (by omega) hw with y | y
        · exact LST_b ht hw y.2.2
        · unfold D12 at z; rw [y.1] at z; exact absurd z.symm one_ne
      · rcases hrow t w (by omega) hw with y | y
        · exact y.1
        · exact absurd ⟨ht, z⟩ y.2
      · have := hC c hc hd
        have := hr.1 _ (IV_c hv hc).1
        omega
      · have key : SEEN v t w → D12 τ t w := by
          intro z
          have := z (fun t w => t < v.2.1 0 → w < 32 → D12 τ t w) (fun s x hs hx hf _ _ => hτ.2.2.2.1 s x hs hx hf) (fun c u x w hc hk ha hu hx hww hP hb _ _ => hτ.2.2.2.2 c u x w hc trivial hk ha hu hx hww (hP (IV_c hv hc).1 hx) hb)
          exact this ht hw
        rcases hτ.2.1 t w (by omega) hw with y | y
        · refine Or.inr ⟨y, fun z => ?_⟩
          have := key z
          unfold D12 at this
          rw [y] at this
          exact one_ne this.symm
        · exact Or.inl ⟨y, hτ.2.2.1 t w ht hw y⟩
    · refine wp_if_f (show ¬ (12 : Int32) ≤ nI s from nI_ge (b := 12) (by omega) (by omega)) ?_
      exact sw_10 hv h0 (show s < 12 by omega) (fun τ hf2 hrow2 => ih (s + 1) τ (by omega) (by omega) hf2 hrow2) fu 0 μ (by omega) (by unfold fu; omega) hf hrow (fun y hy => by omega)
theorem m_see {v : VT} (hv : IV v) {H : Nat → Nat} (hr : RK v H) {μ : S2} (h : IM μ v) : wp (fn_X6_see μ) (fun τ => fr [12, 14] μ τ ∧ SG τ v) := by
  unfold fn_X6_see
  exact sw_2 hv hr h fu 0 μ (by omega) (by unfold fu; omega) fr_rf (fun t y ht => by omega)
