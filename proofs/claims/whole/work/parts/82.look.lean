/-! the reference looks at a constraint at x -/
def LK (μ0 : S2) (B : Nat → Prop) (q : Int32 × S2) : Prop := fr [14, 15, 16] μ0 q.2 ∧ Z16 q.2 B ∧ ((q.1 = 1 ∧ ∃ k, k < 33 ∧ B k) ∨ (q.1 = 0 ∧ ¬ ∃ k, k < 33 ∧ B k))
theorem lk_451 {B : Nat → Prop} {μ : S2} (hZ : Z16 μ B) : ∀ (n i : Nat) (b : Int32), i ≤ 33 → 33 < i + n → (b = 0 ∨ b = 1) → wp (fn_X6_look_451 n μ b (nI i)) (fun q => q.2 = μ ∧ ((q.1 = 1 ∧ (b = 1 ∨ ∃ k, i ≤ k ∧ k < 33 ∧ B k)) ∨ (q.1 = 0 ∧ ¬ (b = 1 ∨ ∃ k, i ≤ k ∧ k < 33 ∧ B k)))) := by
  intro n
  induction n with
  | zero => intro i b h1 h2; omega
  | succ n ih =>
    intro i b hi hin hb
    rw [fn_X6_look_451]
    by_cases e : i = 33
    · subst e
      refine wp_if_t (by decide) (wp_cb hb (wp_some ⟨rfl, ?_⟩))
      rcases hb with q | q
      · refine Or.inr ⟨q, ?_⟩
        rintro (z | z)
        · rw [q] at z; exact one_ne z.symm
        · exact ex_none z
      · exact Or.inl ⟨q, Or.inl q⟩
    · refine wp_if_f (show ¬ (32 : Int32) < nI i from nI_nlt (a := 32) (by omega) (by omega)) ?_
      have hit : (b = 1 ∨ ∃ k, i ≤ k ∧ k < 33 ∧ B k) → wp (lt (nI i + 1) (fun v4 => fn_X6_look_451 n μ 1 v4)) (fun q => q.2 = μ ∧ ((q.1 = 1 ∧ (b = 1 ∨ ∃ k, i ≤ k ∧ k < 33 ∧ B k)) ∨ (q.1 = 0 ∧ ¬ (b = 1 ∨ ∃ k, i ≤ k ∧ k < 33 ∧ B k)))) := by
        intro y
        refine wp_lt ?_
        rw [nI_1]
        refine wp_mono (ih (i + 1) 1 (by omega) (by omega) (Or.inr rfl)) (fun q hq => ⟨hq.1, ?_⟩)
        rcases hq.2 with z | z
        · exact Or.inl ⟨z.1, y⟩
        · exact absurd (Or.inl rfl) z.2
      rcases hb with q | q
      · subst q
        refine wp_if_t rfl (wp_ckN rfl (show i < 33 by omega) (by omega) ?_)
        rw [nI_clamp (by omega)]
        rcases hZ i (by omega) with ⟨z1, z2⟩ | ⟨z1, z2⟩
        · rw [z1]
          exact wp_if_f one_ne (hit (Or.inr ⟨i, Nat.le_refl _, by omega, z2⟩))
        · rw [z1]
          refine wp_if_t rfl (wp_lt ?_)
          rw [nI_1]
          refine wp_mono (ih (i + 1) 0 (by omega) (by omega) (Or.inl rfl)) (fun q hq => ⟨hq.1, ?_⟩)
          rw [ex_step (show i < 33 by omega)]
          rcases hq.2 with z | z
          · exact Or.inl ⟨z.1, z.2.elim Or.inl (fun y => Or.inr (Or.inr y))⟩
          · exact Or.inr ⟨z.1, fun y => z.2 (y.elim Or.inl (fun y => y.elim (fun y => absurd y z2) Or.inr))⟩
      · subst q
        exact wp_if_f one_ne (hit (Or.inl rfl))
theorem lk_fin {B : Nat → Prop} {μ0 μ : S2} (hf : fr [14, 15, 16] μ0 μ) (hZ : Z16 μ B) : wp (fn_X6_look_451 fu μ 0 0) (LK μ0 B) := by
  refine wp_mono (lk_451 hZ fu 0 0 (by omega) (by unfold fu; omega) (Or.inl rfl)) (fun q hq => ?_)
  refine ⟨by rw [hq.1]; exact hf, by rw [hq.1]; exact hZ, ?_⟩
  rcases hq.2 with ⟨z1, z2⟩ | ⟨z1, z2⟩
  · refine Or.inl ⟨z1, ?_⟩
    rcases z2 with z2 | ⟨k, _, z3⟩
    · exact absurd z2 (fun y => one_ne y.symm)
    · exact ⟨k, z3⟩
  · exact Or.inr ⟨z1, fun ⟨k, z3⟩ => z2 (Or.inr ⟨k, by omega, z3⟩)⟩
theorem IML {μ τ : S2} {v : VT} (h : IM μ v) (hf : fr [14, 15, 16] μ τ) : IM τ v := IM_fr h hf (fun k hk => by simp at hk; omega)
theorem S11L {μ τ : S2} {v : VT} {K : List Nat} {s : Nat} (h : S11 μ v s) (hf : fr K μ τ) (hK : 11 ∉ K) : S11 τ v s := by
  unfold S11
  rw [hf 11 hK]
  exact h
theorem frL {μ τ : S2} {k i : Nat} {x : Int32} (h : fr [14, 15, 16] μ τ) (hk : k ∈ [14, 15, 16]) : fr [14, 15, 16] μ (st τ k i x) := fr_tr h (fr_st hk)
/-- kind 6 -/
theorem lk_287 {v : VT} {V : Nat → Prop} {x a : Nat} (hx : x < 32) (ha : a < 8) {μ0 : S2} (h0 : IM μ0 v) {B : Nat → Prop} (hB : ∀ k, k < 33 → (B k ↔ ∃ w, k = w + 1 ∧ w < 32 ∧ ¬ (V w ↔ TR v x a w))) :
    ∀ (n w : Nat) (μ : S2), w ≤ 32 → 32 < w + n → fr [14, 15, 16] μ0 μ → V15 μ V → Z16 μ (fun k => ∃ u, k = u + 1 ∧ u < w ∧ ¬ (V u ↔ TR v x a u)) → wp (fn_X6_look_287 n μ (nI x) (nI a) (nI w)) (LK μ0 B) := by
  intro n
  induction n with
  | zero => intro w μ h1 h2; omega
  | succ n ih =>
    intro w μ h1 h2 hf hV hZ
    rw [fn_X6_look_287]
    by_cases e : w = 32
    · subst e
      exact wp_if_t (by decide) (lk_fin hf (Z16_c hZ (fun k hk => (hB k hk).symm)))
    · refine wp_if_f (show ¬ (32 : Int32) ≤ nI w from nI_ge (b := 32) (by omega) (by omega)) (wp_ckN rfl (show w < 32 by omega) (by omega) (wp_bn ?_))
      refine wp_mono (m_leads (IML h0 hf) hx ha (show w < 32 by omega)) (fun r hr => ?_)
      rw [nI_clamp (show w < 2 ^ 31 by omega), nI_1]
      have go : ∀ b : Int32, ((b = 1 ∧ ¬ (V w ↔ TR v x a w)) ∨ (b = 0 ∧ ¬ ¬ (V w ↔ TR v x a w))) → wp (ck (nI (w + 1)) 33 (lt (st μ 16 (nI (w + 1)).toNatClampNeg b) (fun σ16 => lt (nI (w + 1)) (fun v17 => fn_X6_look_287 n σ16 (nI x) (nI a) v17)))) (LK μ0 B) := by
        intro b hb
        refine wp_ckN rfl (show w + 1 < 33 by omega) (by omega) (wp_lt (wp_lt ?_))
        rw [nI_clamp (by omega)]
        refine ih (w + 1) _ (by omega) (by omega) (frL hf (by simp)) (by unfold V15; rw [st_ne (by omega)]; exact hV) (Z16_st hZ (fun k hk hne => ⟨fun ⟨u, a1, a2, a3⟩ => ⟨u, a1, by omega, a3⟩, fun ⟨u, a1, a2, a3⟩ => ⟨u, a1, by omega, a3⟩⟩) ?_)
        rcases hb with ⟨q1, q2⟩ | ⟨q1, q2⟩
        · exact Or.inl ⟨q1, w, rfl, by omega, q2⟩
        · refine Or.inr ⟨q1, fun ⟨u, a1, a2, a3⟩ => q2 ?_⟩
          rw [show w = u by omega]; exact a3
      rcases hV w (by omega) with ⟨z1, z2⟩ | ⟨z1, z2⟩
      · rcases hr with ⟨er, hr⟩ | ⟨er, hr⟩
        · exact wp_if_t (by rw [z1, er]) (go 0 (Or.inr ⟨rfl, fun y => y ⟨fun _ => hr, fun _ => z2⟩⟩))
        · exact wp_if_f (by rw [z1, er]; exact one_ne) (go 1 (Or.inl ⟨rfl, fun y => hr (y.mp z2)⟩))
      · rcases hr with ⟨er, hr⟩ | ⟨er, hr⟩
        · exact wp_if_f (by rw [z1, er]; exact fun y => one_ne y.symm) (go 1 (Or.inl ⟨rfl, fun y => z2 (y.mpr hr)⟩))
        · exact wp_if_t (by rw [z1, er]) (go 0 (Or.inr ⟨rfl, fun y => y ⟨fun y => absurd y z2, fun y => absurd y hr⟩⟩))
/-- kinds that ask of each value -/
theorem lk_397 {v : VT} (hv : IV v) {c : Nat} (hc : c < v.2.1 2) {V : Nat → Prop} {x : Nat} (hx : x < 32) {μ0 : S2} (h0 : IM μ0 v) (hS : ∀ u, u < v.2.1 0 → EDGE v (ow v c) u → S11 μ0 v u)
    (hq : kn v c = 0 ∨ kn v c = 1 ∨ kn v c = 3 ∨ kn v c = 4 ∨ kn v c = 7 ∨ kn v c = 8 ∨ (11 ≤ kn v c ∧ kn v c ≤ 16)) {B : Nat → Prop} (hB : ∀ k, k < 33 → (B k ↔ ∃ w, k = w + 1 ∧ w < 32 ∧ (V w ∧ WR (FIT v) v x (kn v c) (v.2.2 6 c) (v.2.2 7 c) w))) :
    ∀ (n w : Nat) (μ : S2), w ≤ 32 → 32 < w + n → fr [14, 15, 16] μ0 μ → V15 μ V → Z16 μ (fun k => ∃ u, k = u + 1 ∧ u < w ∧ (V u ∧ WR (FIT v) v x (kn v c) (v.2.2 6 c) (v.2.2 7 c) u)) → wp (fn_X6_look_397 n μ (nI c) (nI x) (nI w)) (LK μ0 B) := by
  intro n
  induction n with
  | zero => intro w μ h1 h2; omega
  | succ n ih =>
    intro w μ h1 h2 hf hV hZ
    rw [fn_X6_look_397]
    by_cases e : w = 32
    · subst e
      exact wp_if_t (by decide) (lk_fin hf (Z16_c hZ (fun k hk => (hB k hk).symm)))
    · refine wp_if_f (show ¬ (32 : Int32) ≤ nI w from nI_ge (b := 32) (by omega) (by omega)) (wp_ckN rfl (show w < 32 by omega) (by omega) ?_)
      rw [nI_clamp (show w < 2 ^ 31 by omega), nI_1]
      have go : ∀ (τ : S2) (b : Int32), fr [14] μ τ → ((b = 1 ∧ (V w ∧ WR (FIT v) v x (kn v c) (v.2.2 6 c) (v.2.2 7 c) w)) ∨ (b = 0 ∧ ¬ (V w ∧ WR (FIT v) v x (kn v c) (v.2.2 6 c) (v.2.2 7 c) w))) → wp (ck (nI (w + 1)) 33 (lt (st τ 16 (nI (w + 1)).toNatClampNeg b) (fun σ16 => lt (nI (w + 1)) (fun v17 => fn_X6_look_397 n σ16 (nI c) (nI x) v17)))) (LK μ0 B) := by
        intro τ b hf2 hb
        refine wp_ckN rfl (show w + 1 < 33 by omega) (by omega) (wp_lt (wp_lt ?_))
        rw [nI_clamp (by omega)]
        have hZ2 : Z16 τ (fun k => ∃ u, k = u + 1 ∧ u < w ∧ (V u ∧ WR (FIT v) v x (kn v c) (v.2.2 6 c) (v.2.2 7 c) u)) := by unfold Z16; rw [hf2 16 (by simp)]; exact hZ
        refine ih (w + 1) _ (by omega) (by omega) (frL (fr_tr hf (fr_up hf2 (fun k hk => by simp at hk ⊢; omega))) (by simp)) (by unfold V15; rw [st_ne (by omega), hf2 15 (by simp)]; exact hV) (Z16_st hZ2 (fun k hk hne => ⟨fun ⟨u, a1, a2, a3⟩ => ⟨u, a1, by omega, a3⟩, fun ⟨u, a1, a2, a3⟩ => ⟨u, a1, by omega, a3⟩⟩) ?_)
        rcases hb with ⟨q1, q2⟩ | ⟨q1, q2⟩
        · exact Or.inl ⟨q1, w, rfl, by omega, q2⟩
        · refine Or.inr ⟨q1, fun ⟨u, a1, a2, a3⟩ => q2 ?_⟩
          rw [show w = u by omega]; exact a3
      rcases hV w (by omega) with ⟨z1, z2⟩ | ⟨z1, z2⟩
      · refine wp_if_f (by rw [z1]; exact one_ne) (wp_bn2 ?_)
        refine wp_mono (m_wrong (IML h0 hf) hv hc (fun u hu hE => S11L (hS u hu hE) hf (by simp)) hx (show w < 32 by omega) hq) (fun q hq2 => ?_)
        rcases hq2.1 with ⟨y1, y2⟩ | ⟨y1, y2⟩
        · exact wp_if_f (by rw [y1]; exact one_ne) (go q.2 1 hq2.2 (Or.inl ⟨rfl, z2, y2⟩))
        · exact wp_if_t y1 (go q.2 0 hq2.2 (Or.inr ⟨rfl, fun y => y2 y.2⟩))
      · exact wp_if_t z1 (go μ 0 fr_rf (Or.inr ⟨rfl, fun y => z2 y.1⟩))
