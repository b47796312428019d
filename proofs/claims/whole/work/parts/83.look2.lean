/-! the reference's look, whole -/
theorem di16 : ∀ n, n < 256 → nI n / 16 = nI (n / 16) := by decide +kernel
theorem re16 : ∀ n, n < 256 → nI n - nI n / 16 * 16 = nI (n % 16) := by decide +kernel
theorem lk_0 {v : VT} {c x : Nat} {μ0 μ : S2} (hf : fr [14, 15, 16] μ0 μ) (hZ : Z16 μ (fun _ => False)) (hV : ∀ w, ¬ VB (FIT v) v (ow v c) x (kn v c) (v.2.2 6 c) (v.2.2 7 c) w) {b : Int32} (hb : (b = 1 ∧ NB (FIT v) v (ow v c) x (kn v c) (v.2.2 6 c) (v.2.2 7 c)) ∨ (b = 0 ∧ ¬ NB (FIT v) v (ow v c) x (kn v c) (v.2.2 6 c) (v.2.2 7 c))) :
    wp (ck 0 33 (lt (st μ 16 (0 : Int32).toNatClampNeg b) (fun σ6 => fn_X6_look_451 fu σ6 0 0))) (LK μ0 (BC (FIT v) v c x)) := by
  refine wp_ckN (i := 0) rfl (by omega) (by omega) (wp_lt ?_)
  rw [show (0 : Int32).toNatClampNeg = 0 from rfl]
  refine lk_fin (frL hf (by simp)) (Z16_st hZ (fun k hk hne => ?_) ?_)
  · cases k with
    | zero => exact absurd rfl hne
    | succ w => rw [BC_s]; exact ⟨False.elim, fun z => hV w z⟩
  · rw [BC_0]; exact hb
theorem B_v {v : VT} {c x : Nat} (hN : ¬ NB (FIT v) v (ow v c) x (kn v c) (v.2.2 6 c) (v.2.2 7 c)) : ∀ k, k < 33 → (BC (FIT v) v c x k ↔ ∃ w, k = w + 1 ∧ w < 32 ∧ VB (FIT v) v (ow v c) x (kn v c) (v.2.2 6 c) (v.2.2 7 c) w) := by
  intro k hk
  cases k with
  | zero =>
    rw [BC_0]
    exact ⟨fun z => absurd z hN, fun ⟨w, z, _⟩ => by omega⟩
  | succ w =>
    rw [BC_s]
    refine ⟨fun z => ⟨w, rfl, by omega, z⟩, fun ⟨u, z, _, z2⟩ => ?_⟩
    rw [show w = u by omega]; exact z2
theorem Z_false {μ : S2} {P : Nat → Prop} (hZ : Z16 μ (fun _ => False)) (h : ∀ k, k < 33 → ¬ P k) : Z16 μ P := Z16_c hZ (fun k hk => ⟨False.elim, fun z => h k hk z⟩)
theorem lk_48 {v : VT} (hv : IV v) {c : Nat} (hc : c < v.2.1 2) {x : Nat} (hx : x < 32) {μ0 : S2} (h0 : IM μ0 v) (hS : ∀ u, u < v.2.1 0 → EDGE v (ow v c) u → S11 μ0 v u) :
    ∀ (n i : Nat) (μ : S2) (x5 x6 : Int32), i ≤ 32 → 32 < i + n → fr [14, 15, 16] μ0 μ → (∀ w, w < i → (μ.1 15 w = 1 ∧ VAL v (ow v c) x w) ∨ (μ.1 15 w = 0 ∧ ¬ VAL v (ow v c) x w)) → Z16 μ (fun _ => False) → x5 = nI (cn (VAL v (ow v c) x) i) → (kn v c = 17 → x6 = nI (cn (fun w => VAL v (ow v c) x w ∧ FIT v (v.2.2 6 c).toNatClampNeg w) i)) →
    wp (fn_X6_look_48 n μ (nI c) (nI x) (nI (ow v c)) (v.2.2 6 c) x5 x6 (nI i)) (LK μ0 (BC (FIT v) v c x)) := by
  obtain ⟨h1, h2, h3, h4, h5⟩ := IV_c hv hc
  have h12 := hv.1
  have h40 := hv.2.2.1
  intro n
  induction n with
  | zero => intro i μ x5 x6 a1 a2; omega
  | succ n ih =>
    intro i μ x5 x6 hi hin hf hV hZ e5 e6
    have hI : IM μ v := IML h0 hf
    obtain ⟨r14, r15, r16, r17⟩ := hI.2.2.2.2 c hc
    rw [fn_X6_look_48]
    by_cases e : i = 32
    · subst e
      refine wp_if_t (by decide) (wp_ckN rfl (show c < 40 by omega) (by omega) ?_)
      rw [nI_clamp (show c < 2 ^ 31 by omega), r15, r17, h4]
      have plain : (kn v c = 0 ∨ kn v c = 1 ∨ kn v c = 3 ∨ kn v c = 4 ∨ kn v c = 7 ∨ kn v c = 8 ∨ (11 ≤ kn v c ∧ kn v c ≤ 16)) → wp (fn_X6_look_397 fu μ (nI c) (nI x) 0) (LK μ0 (BC (FIT v) v c x)) := by
        intro q
        have key : (¬ NB (FIT v) v (ow v c) x (kn v c) (v.2.2 6 c) (v.2.2 7 c)) ∧ ∀ w, VB (FIT v) v (ow v c) x (kn v c) (v.2.2 6 c) (v.2.2 7 c) w ↔ VAL v (ow v c) x w ∧ WR (FIT v) v x (kn v c) (v.2.2 6 c) (v.2.2 7 c) w := by
          rcases k12 q with e | e | e | e | e | e | e | e | e | e | e | e <;> (rw [e]; exact ⟨id, fun _ => Iff.rfl⟩)
        refine lk_397 hv hc hx h0 hS q (V := VAL v (ow v c) x) (fun k hk => (B_v key.1 k hk).trans ?_) fu 0 μ (by omega) (by unfold fu; omega) hf hV (Z_false hZ (fun k _ ⟨u, _, z, _⟩ => by omega))
        exact ⟨fun ⟨w, a1, a2, a3⟩ => ⟨w, a1, a2, (key.2 w).mp a3⟩, fun ⟨w, a1, a2, a3⟩ => ⟨w, a1, a2, (key.2 w).mpr a3⟩⟩
      rcases k18 h2 with e | e | e | e | e | e | e | e | e | e | e | e | e | e | e | e | e | e
      all_goals rw [e]
      all_goals repeat refine wp_if_f (by decide) ?_
      · exact plain (by omega)
      · exact plain (by omega)
      · refine wp_if_t (by decide) ?_
        have hb : ∀ b : Int32, ((b = 1 ∧ ¬ (¬ x5 < v.2.2 6 c ∧ ¬ v.2.2 7 c < x5)) ∨ (b = 0 ∧ ¬ ¬ (¬ x5 < v.2.2 6 c ∧ ¬ v.2.2 7 c < x5))) → wp (ck 0 33 (lt (st μ 16 (0 : Int32).toNatClampNeg b) (fun σ6 => fn_X6_look_451 fu σ6 0 0))) (LK μ0 (BC (FIT v) v c x)) := by
          intro b hb
          refine lk_0 hf hZ (fun w => by rw [e]; exact id) ?_
          rw [e]
          rw [e5] at hb
          exact hb
        by_cases q : x5 < v.2.2 6 c
        · exact wp_if_t q (hb 1 (Or.inl ⟨rfl, fun z => z.1 q⟩))
        · refine wp_if_f q (wp_ckN rfl (show c < 40 by omega) (by omega) ?_)
          by_cases q2 : x5 ≤ v.2.2 7 c
          · refine wp_if_t q2 (hb 0 (Or.inr ⟨rfl, fun z => z ⟨q, fun y => ?_⟩⟩))
            exact absurd (Int32.lt_of_lt_of_le y q2) (Int32.lt_irrefl)
          · refine wp_if_f q2 (hb 1 (Or.inl ⟨rfl, fun z => z.2 ?_⟩))
            rcases Int32.lt_or_le (v.2.2 7 c) x5 with y | y
            · exact y
            · exact absurd y q2
      · exact plain (by omega)
      · exact plain (by omega)
      · refine wp_if_t (by decide) ?_
        obtain ⟨j, hj, ea⟩ := h5.2.2.2.1 e
        have hb : ∀ b : Int32, ((b = 1 ∧ ¬ VAL v (ow v c) x j) ∨ (b = 0 ∧ ¬ ¬ VAL v (ow v c) x j)) → wp (ck 0 33 (lt (st μ 16 (0 : Int32).toNatClampNeg b) (fun σ6 => fn_X6_look_451 fu σ6 0 0))) (LK μ0 (BC (FIT v) v c x)) := by
          intro b hb
          refine lk_0 hf hZ (fun w => by rw [e]; exact id) ?_
          rw [e, ea]
          show (b = 1 ∧ ¬ VAL v (ow v c) x (nI j).toNatClampNeg) ∨ (b = 0 ∧ ¬ ¬ VAL v (ow v c) x (nI j).toNatClampNeg)
          rw [nI_clamp (by omega)]
          exact hb
        rw [ea]
        refine wp_ckN rfl hj (by omega) ?_
        rw [nI_clamp (show j < 2 ^ 31 by omega)]
        rcases hV j hj with ⟨z1, z2⟩ | ⟨z1, z2⟩
        · exact wp_if_f (by rw [z1]; exact one_ne) (hb 0 (Or.inr ⟨rfl, fun y => y z2⟩))
        · exact wp_if_t z1 (hb 1 (Or.inl ⟨rfl, z2⟩))
      · refine wp_if_t (by decide) ?_
        obtain ⟨j, hj, ea⟩ := h5.2.2.2.2.1 (by omega) (by omega)
        rw [ea]
        refine lk_287 hx hj h0 (V := VAL v (ow v c) x) (fun k hk => (B_v (by rw [e]; exact id) k hk).trans ?_) fu 0 μ (by omega) (by unfold fu; omega) hf hV (Z_false hZ (fun k _ ⟨u, _, z, _⟩ => by omega))
        rw [e, ea]
        show (∃ w, k = w + 1 ∧ w < 32 ∧ ¬ (VAL v (ow v c) x w ↔ TR v x (nI j).toNatClampNeg w)) ↔ _
        rw [nI_clamp (by omega)]
      · exact plain (by omega)
      · exact plain (by omega)
      · refine wp_if_t (by decide) (wp_bn (wp_mono (m_tags (V := VAL v (ow v c) x) hV hZ) (fun τ hτ => ?_)))
        refine lk_fin (fr_tr hf (fr_up hτ.1 (fun k hk => by simp at hk ⊢; omega))) (Z16_c hτ.2 (fun k hk => ?_))
        rw [B_v (by rw [e]; exact id) k hk, e]
        exact ⟨fun z => z.elim False.elim id, Or.inr⟩
      · refine wp_if_t (by decide) (wp_bn (wp_mono (m_others (V := VAL v (ow v c) x) hI hV hZ) (fun τ hτ => ?_)))
        refine lk_fin (fr_tr hf (fr_up hτ.1 (fun k hk => by simp at hk ⊢; omega))) (Z16_c hτ.2 (fun k hk => ?_))
        rw [B_v (by rw [e]; exact id) k hk, e]
        exact Iff.rfl
      · exact plain (by omega)
      · exact plain (by omega)
      · exact plain (by omega)
      · exact plain (by omega)
      · exact plain (by omega)
      · exact plain (by omega)
      · refine wp_if_t (by decide) (wp_ckN rfl (show c < 40 by omega) (by omega) ?_)
        obtain ⟨j, hj, eb⟩ := h5.2.2.2.2.2.2.2 e
        have hm := cn_le (fun w => VAL v (ow v c) x w ∧ FIT v (v.2.2 6 c).toNatClampNeg w) 32
        have hb : ∀ b : Int32, ((b = 1 ∧ ¬ (j / 16 ≤ cn (fun w => VAL v (ow v c) x w ∧ FIT v (v.2.2 6 c).toNatClampNeg w) 32 ∧ cn (fun w => VAL v (ow v c) x w ∧ FIT v (v.2.2 6 c).toNatClampNeg w) 32 ≤ j % 16)) ∨ (b = 0 ∧ ¬ ¬ (j / 16 ≤ cn (fun w => VAL v (ow v c) x w ∧ FIT v (v.2.2 6 c).toNatClampNeg w) 32 ∧ cn (fun w => VAL v (ow v c) x w ∧ FIT v (v.2.2 6 c).toNatClampNeg w) 32 ≤ j % 16))) → wp (ck 0 33 (lt (st μ 16 (0 : Int32).toNatClampNeg b) (fun σ6 => fn_X6_look_451 fu σ6 0 0))) (LK μ0 (BC (FIT v) v c x)) := by
          intro b hb
          refine lk_0 hf hZ (fun w => by rw [e]; exact id) ?_
          rw [e, eb]
          show (b = 1 ∧ ¬ ((nI j).toNatClampNeg / 16 ≤ _ ∧ _ ≤ (nI j).toNatClampNeg % 16)) ∨ (b = 0 ∧ ¬ ¬ ((nI j).toNatClampNeg / 16 ≤ _ ∧ _ ≤ (nI j).toNatClampNeg % 16))
          rw [nI_clamp (show j < 2 ^ 31 by omega)]
          exact hb
        rw [e6 e, eb, di16 j hj, show nI j - nI (j / 16) * 16 = nI (j % 16) from by rw [← di16 j hj]; exact re16 j hj]
        generalize cn (fun w => VAL v (ow v c) x w ∧ FIT v (v.2.2 6 c).toNatClampNeg w) 32 = m at hm hb ⊢
        by_cases q : m < j / 16
        · exact wp_if_t (nI_lt q (by omega)) (hb 1 (Or.inl ⟨rfl, by omega⟩))
        · refine wp_if_f (nI_nlt (by omega) (by omega)) (wp_ckN rfl (show c < 40 by omega) (by omega) ?_)
          by_cases q2 : m ≤ j % 16
          · exact wp_if_t (nI_le q2 (by omega)) (hb 0 (Or.inr ⟨rfl, by omega⟩))
          · exact wp_if_f (nI_ge (by omega) (by omega)) (hb 1 (Or.inl ⟨rfl, by omega⟩))
    · have hlt : i < 32 := by omega
      refine wp_if_f (show ¬ (32 : Int32) ≤ nI i from nI_ge (b := 32) hlt (by omega)) (wp_bn (wp_mono (m_isValue hI hv hx h1 hlt) (fun r hr => ?_)))
      refine wp_ckN rfl hlt (by omega) (wp_lt (wp_ckN rfl hlt (by omega) ?_))
      rw [nI_clamp (show i < 2 ^ 31 by omega), st_at, if_pos rfl]
      have hrow : ∀ b : Int32, ((b = 1 ∧ VAL v (ow v c) x i) ∨ (b = 0 ∧ ¬ VAL v (ow v c) x i)) → ∀ w, w < i + 1 → ((st μ 15 i b).1 15 w = 1 ∧ VAL v (ow v c) x w) ∨ ((st μ 15 i b).1 15 w = 0 ∧ ¬ VAL v (ow v c) x w) := by
        intro b hb w hw
        rw [st_at]
        by_cases q : w = i
        · subst q; rw [if_pos rfl]; exact hb
        · rw [if_neg q]; exact hV w (by omega)
      have hZ2 : ∀ b : Int32, Z16 (st μ 15 i b) (fun _ => False) := fun b => by unfold Z16; rw [st_ne (by omega)]; exact hZ
      have hf2 : ∀ b : Int32, fr [14, 15, 16] μ0 (st μ 15 i b) := fun b => frL hf (by simp)
      rcases hr with ⟨er, hr⟩ | ⟨er, hr⟩
      · subst er
        rw [nar_1]
        refine wp_if_f one_ne (wp_lt ?_)
        unfold fn_X6_look_90
        refine wp_ckN rfl hlt (by omega) ?_
        rw [nI_clamp (show i < 2 ^ 31 by omega), st_at, if_pos rfl]
        refine wp_if_f one_ne (wp_ckN rfl (show c < 40 by omega) (by omega) ?_)
        rw [nI_clamp (show c < 2 ^ 31 by omega), st_ne (show 8 ≠ 15 by omega), r15, h4]
        have c5 : x5 + 1 = nI (cn (VAL v (ow v c) x) (i + 1)) := by rw [e5, nI_1, cn_s, ci_t hr]
        by_cases q : kn v c = 17
        · refine wp_if_t (show nI (kn v c) = 17 by rw [q]; rfl) ?_
          obtain ⟨j, hj, ea⟩ := h5.2.2.2.2.2.1 (by omega)
          have eS := hS j hj ⟨c, hc, by omega, by omega, h3, kn v c, h2, h4, Or.inl ⟨by omega, ea⟩⟩
          have e6' := e6 q
          rw [ea, nI_clamp (show j < 2 ^ 31 by omega)] at e6' e6
          rw [ea] at ih ⊢
          rw [nI_clamp (show j < 2 ^ 31 by omega)] at ih
          rw [ix32]
          refine wp_ckN rfl (show 32 * j + i < 384 by omega) (by omega) ?_
          rw [nI_clamp (show 32 * j + i < 2 ^ 31 by omega), st_ne (show 11 ≠ 15 by omega), hf 11 (by simp)]
          rcases eS i hlt with ⟨z1, z2⟩ | ⟨z1, z2⟩
          · refine wp_if_f (by rw [z1]; exact one_ne) (wp_lt (wp_lt ?_))
            rw [nI_1]
            refine ih (i + 1) _ _ _ (by omega) (by omega) (hf2 1) (hrow 1 (Or.inl ⟨rfl, hr⟩)) (hZ2 1) c5 (fun _ => ?_)
            rw [e6', nI_1, cn_s, ci_t ⟨hr, z2⟩]
          · refine wp_if_t z1 (wp_lt (wp_lt ?_))
            rw [nI_1, Int32.add_zero]
            refine ih (i + 1) _ _ _ (by omega) (by omega) (hf2 1) (hrow 1 (Or.inl ⟨rfl, hr⟩)) (hZ2 1) c5 (fun _ => ?_)
            rw [e6', cn_s, ci_f (fun y => z2 y.2)]; rfl
        · refine wp_if_f (show ¬ nI (kn v c) = nI 17 from nI_ne (by omega) (by omega) q) (wp_lt (wp_lt ?_))
          rw [nI_1]
          exact ih (i + 1) _ _ _ (by omega) (by omega) (hf2 1) (hrow 1 (Or.inl ⟨rfl, hr⟩)) (hZ2 1) c5 (fun y => absurd y q)
      · subst er
        rw [nar_0]
        refine wp_if_t rfl (wp_lt ?_)
        unfold fn_X6_look_90
        refine wp_ckN rfl hlt (by omega) ?_
        rw [nI_clamp (show i < 2 ^ 31 by omega), st_at, if_pos rfl]
        refine wp_if_t rfl (wp_lt (wp_lt ?_))
        rw [nI_1, Int32.add_zero, Int32.add_zero]
        refine ih (i + 1) _ _ _ (by omega) (by omega) (hf2 0) (hrow 0 (Or.inr ⟨rfl, hr⟩)) (hZ2 0) ?_ (fun y => ?_)
        · rw [e5, cn_s, ci_f hr]; rfl
        · rw [e6 y, cn_s, ci_f (fun z => hr z.1)]; rfl
theorem lk_24 {v : VT} (hv : IV v) {c : Nat} (hc : c < v.2.1 2) {x : Nat} (hx : x < 32) {μ0 : S2} (h0 : IM μ0 v) (hS : ∀ u, u < v.2.1 0 → EDGE v (ow v c) u → S11 μ0 v u) :
    ∀ (n i : Nat) (μ : S2), i ≤ 33 → 33 < i + n → fr [14, 15, 16] μ0 μ → (∀ k, k < i → μ.1 16 k = 0) → wp (fn_X6_look_24 n μ (nI c) (nI x) (nI (ow v c)) (v.2.2 6 c) 0 0 (nI i)) (LK μ0 (BC (FIT v) v c x)) := by
  intro n
  induction n with
  | zero => intro i μ a1 a2; omega
  | succ n ih =>
    intro i μ hi hin hf hrow
    rw [fn_X6_look_24]
    by_cases e : i = 33
    · subst e
      refine wp_if_t (by decide) (lk_48 hv hc hx h0 hS fu 0 μ 0 0 (by omega) (by unfold fu; omega) hf (fun w hw => by omega) (fun k hk => Or.inr ⟨hrow k hk, id⟩) rfl (fun _ => rfl))
    · refine wp_if_f (show ¬ (32 : Int32) < nI i from nI_nlt (a := 32) (by omega) (by omega)) (wp_ckN rfl (show i < 33 by omega) (by omega) (wp_lt (wp_lt ?_)))
      rw [nI_1, nI_clamp (show i < 2 ^ 31 by omega)]
      refine ih (i + 1) _ (by omega) (by omega) (frL hf (by simp)) (fun k hk => ?_)
      rw [st_at]
      by_cases q : k = i
      · rw [if_pos q]
      · rw [if_neg q]; exact hrow k (by omega)
theorem m_look {v : VT} (hv : IV v) {c : Nat} (hc : c < v.2.1 2) {x : Nat} (hx : x < 32) {μ : S2} (h : IM μ v) (hS : ∀ u, u < v.2.1 0 → EDGE v (ow v c) u → S11 μ v u) : wp (fn_X6_look μ (nI c) (nI x)) (LK μ (BC (FIT v) v c x)) := by
  obtain ⟨h1, h2, h3, h4, h5⟩ := IV_c hv hc
  have h40 := hv.2.2.1
  obtain ⟨r14, r15, r16, r17⟩ := h.2.2.2.2 c hc
  unfold fn_X6_look
  refine wp_ckN rfl (show c < 40 by omega) (by omega) (wp_lt (wp_ckN rfl (show c < 40 by omega) (by omega) (wp_lt ?_)))
  rw [nI_clamp (show c < 2 ^ 31 by omega), r14, r16, h3]
  exact lk_24 hv hc hx h hS fu 0 μ (by omega) (by unfold fu; omega) fr_rf (fun k hk => by omega)
