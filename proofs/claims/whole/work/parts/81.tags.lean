/-! the reference: tags; what nodes lead to -/
def Z16 (μ : S2) (P : Nat → Prop) : Prop := ∀ k, k < 33 → (μ.1 16 k = 1 ∧ P k) ∨ (μ.1 16 k = 0 ∧ ¬ P k)
def V15 (μ : S2) (V : Nat → Prop) : Prop := ∀ w, w < 32 → (μ.1 15 w = 1 ∧ V w) ∨ (μ.1 15 w = 0 ∧ ¬ V w)
theorem Z16_c {μ : S2} {P P' : Nat → Prop} (h : Z16 μ P) (e : ∀ k, k < 33 → (P k ↔ P' k)) : Z16 μ P' := by
  intro k hk
  rw [← e k hk]
  exact h k hk
theorem Z16_st {μ : S2} {P P' : Nat → Prop} {j : Nat} {b : Int32} (h : Z16 μ P) (e : ∀ k, k < 33 → k ≠ j → (P k ↔ P' k)) (hb : (b = 1 ∧ P' j) ∨ (b = 0 ∧ ¬ P' j)) : Z16 (st μ 16 j b) P' := by
  intro k hk
  rw [st_at]
  by_cases q : k = j
  · subst q; rw [if_pos rfl]; exact hb
  · rw [if_neg q, ← e k hk q]; exact h k hk
def TGT (V : Nat → Prop) (t w : Nat) : Prop := 20 ≤ w ∧ w % 2 = t ∧ V w ∧ (∀ u, 20 ≤ u → u < w → u % 2 = t → ¬ V u) ∧ ∃ u, w < u ∧ u < 32 ∧ u % 2 = t ∧ V u
def TI (V : Nat → Prop) (t w : Nat) (least many : Int32) : Prop := (many = 0 ∧ ∀ u, w < u → u < 32 → u % 2 = t → ¬ V u) ∨
  ∃ l m, many = nI m ∧ 1 ≤ m ∧ m ≤ 31 - w ∧ least = nI l ∧ w < l ∧ l < 32 ∧ 20 ≤ l ∧ l % 2 = t ∧ V l ∧ (∀ u, w < u → u < l → u % 2 = t → ¬ V u) ∧ (2 ≤ m ↔ ∃ u, l < u ∧ u < 32 ∧ u % 2 = t ∧ V u)
theorem tg_15 {V : Nat → Prop} {K : S2 → Int32 → Option S2} {Q : S2 → Prop} {t : Nat} (ht : t < 2) {μ : S2} (hV : V15 μ V) {P : Nat → Prop} (hZ : Z16 μ P)
    (hK : ∀ τ, fr [16] μ τ → Z16 τ (fun k => P k ∨ ∃ w, k = w + 1 ∧ w < 32 ∧ TGT V t w) → wp (K τ (nI (t + 1))) Q) :
    ∀ (n w : Nat) (least many : Int32), 19 ≤ w → w < 32 → w < 19 + n → TI V t w least many → wp (fn_X6_lookAtTags_15 K n μ (nI t) least many (nI w)) Q := by
  intro n
  induction n with
  | zero => intro w a b h1 h2; omega
  | succ n ih =>
    intro w least many h1 h2 h3 hT
    rw [fn_X6_lookAtTags_15]
    by_cases e : w = 19
    · subst e
      refine wp_if_t (by decide) ?_
      rcases hT with ⟨z, no⟩ | ⟨l, m, z1, z2, z3, z4, z5, z6, z7, z8, z9, z10, z11⟩
      · subst z
        refine wp_if_t (by decide) (wp_lt ?_)
        rw [nI_1]
        refine hK μ fr_rf (Z16_c hZ (fun k _ => ⟨Or.inl, fun y => y.elim id (fun ⟨w, _, y2, y3⟩ => absurd y3.2.2.1 (no w (by have := y3.1; omega) y2 y3.2.1))⟩))
      · subst z1; subst z4
        by_cases q : m ≤ 1
        · refine wp_if_t (show nI m ≤ nI 1 from nI_le q (by omega)) (wp_lt ?_)
          rw [nI_1]
          refine hK μ fr_rf (Z16_c hZ (fun k _ => ⟨Or.inl, fun y => y.elim id (fun ⟨w, _, y2, y3⟩ => ?_)⟩))
          exfalso
          obtain ⟨w1, w2, w3, w4, u, w5, w6, w7, w8⟩ := y3
          rcases Nat.lt_trichotomy w l with a | a | a
          · exact z10 w (by omega) a w2 w3
          · subst a
            have := z11.mpr ⟨u, w5, w6, w7, w8⟩
            omega
          · exact w4 l z7 a z8 z9
        · refine wp_if_f (show ¬ nI m ≤ nI 1 from nI_ge (by omega) (by omega)) ?_
          rw [nI_1]
          refine wp_ckN rfl (show l + 1 < 33 by omega) (by omega) (wp_lt (wp_lt ?_))
          rw [nI_1, nI_clamp (by omega)]
          have hl : TGT V t l := ⟨z7, z8, z9, fun u a1 a2 a3 => z10 u (by omega) a2 a3, z11.mp (by omega)⟩
          refine hK _ (fr_st (by simp)) (Z16_st hZ (fun k _ hne => ⟨Or.inl, fun y => y.elim id (fun ⟨w, y1, y2, y3⟩ => ?_)⟩) (Or.inl ⟨rfl, Or.inr ⟨l, rfl, z6, hl⟩⟩))
          exfalso
          obtain ⟨w1, w2, w3, w4, -⟩ := y3
          rcases Nat.lt_trichotomy w l with a | a | a
          · exact z10 w (by omega) a w2 w3
          · omega
          · exact w4 l z7 a z8 z9
    · refine wp_if_f (show ¬ nI w < (20 : Int32) from nI_nlt (b := 20) (by omega) (by omega)) (wp_ckN rfl h2 (by omega) ?_)
      rw [nI_clamp (show w < 2 ^ 31 by omega)]
      have hd : nI w + (-1) = nI (w - 1) := by rw [pm1]; exact pk_sub (a := w) (b := 1) (by omega)
      have miss : ¬ (V w ∧ w % 2 = t) → wp (lt (nI w + (-1)) (fun v9 => fn_X6_lookAtTags_15 K n μ (nI t) least many v9)) Q := by
        intro no
        refine wp_lt ?_
        rw [hd]
        refine ih (w - 1) least many (by omega) (by omega) (by omega) ?_
        rcases hT with ⟨z, y⟩ | ⟨l, m, z1, z2, z3, z4, z5, z6, z7, z8, z9, z10, z11⟩
        · refine Or.inl ⟨z, fun u a1 a2 a3 a4 => ?_⟩
          by_cases q : u = w
          · subst q; exact no ⟨a4, a3⟩
          · exact y u (by omega) a2 a3 a4
        · refine Or.inr ⟨l, m, z1, z2, by omega, z4, by omega, z6, z7, z8, z9, fun u a1 a2 a3 a4 => ?_, z11⟩
          by_cases q : u = w
          · subst q; exact no ⟨a4, a3⟩
          · exact z10 u (by omega) a2 a3 a4
      rcases hV w h2 with ⟨y1, y2⟩ | ⟨y1, y2⟩
      · rw [y1]
        refine wp_if_f one_ne (wp_lt ?_)
        rw [r_tag w h2]
        by_cases q : w % 2 = t
        · refine wp_if_t (by rw [q]) (wp_lt (wp_lt ?_))
          rw [hd]
          refine ih (w - 1) _ _ (by omega) (by omega) (by omega) (Or.inr ?_)
          rcases hT with ⟨z, y⟩ | ⟨l, m, z1, z2, z3, z4, z5, z6, z7, z8, z9, z10, z11⟩
          · subst z
            exact ⟨w, 1, rfl, by omega, by omega, rfl, by omega, h2, by omega, q, y2, fun u a1 a2 => by omega, fun a => by omega, fun ⟨u, a1, a2, a3, a4⟩ => absurd a4 (y u a1 a2 a3)⟩
          · subst z1
            clear z11
            exact ⟨w, m + 1, nI_1 m, by omega, by omega, rfl, by omega, h2, by omega, q, y2, fun u a1 a2 => by omega, fun _ => ⟨l, z5, z6, z8, z9⟩, fun _ => by omega⟩
        · exact wp_if_f (nI_ne (by omega) (by omega) q) (miss (fun z => q z.2))
      · rw [y1]
        exact wp_if_t rfl (miss (fun z => y2 z.1))
theorem tg_2 {V : Nat → Prop} {μ : S2} (hV : V15 μ V) {P : Nat → Prop} (hZ : Z16 μ P) (n : Nat) : wp (fn_X6_lookAtTags_2 (n + 3) μ 0) (fun τ => fr [16] μ τ ∧ Z16 τ (fun k => P k ∨ ∃ w, k = w + 1 ∧ w < 32 ∧ TGS V w)) := by
  rw [show n + 3 = (n + 2) + 1 from rfl, fn_X6_lookAtTags_2]
  refine wp_if_f (by decide) ?_
  refine tg_15 (t := 0) (by omega) hV hZ (fun τ hf hz => ?_) fu 31 _ _ (by omega) (by omega) (by unfold fu; omega) (Or.inl ⟨rfl, fun u _ _ => by omega⟩)
  rw [show n + 2 = (n + 1) + 1 from rfl, fn_X6_lookAtTags_2]
  refine wp_if_f (by decide) ?_
  have hV2 : V15 τ V := by unfold V15; rw [hf 15 (by simp)]; exact hV
  refine tg_15 (t := 1) (by omega) hV2 hz (fun ρ hf2 hz2 => ?_) fu 31 _ _ (by omega) (by omega) (by unfold fu; omega) (Or.inl ⟨rfl, fun u _ _ => by omega⟩)
  rw [fn_X6_lookAtTags_2]
  refine wp_if_t (by decide) (wp_some ⟨fr_tr hf hf2, Z16_c hz2 (fun k hk => ?_)⟩)
  constructor
  · rintro ((z | ⟨w, z1, z2, z3⟩) | ⟨w, z1, z2, z3⟩)
    · exact Or.inl z
    · exact Or.inr ⟨w, z1, z2, z3.1, z3.2.2.1, fun u a1 a2 a3 => z3.2.2.2.1 u a1 a2 (by have := z3.2.1; omega), by obtain ⟨u, a1, a2, a3, a4⟩ := z3.2.2.2.2; exact ⟨u, a1, a2, by have := z3.2.1; omega, a4⟩⟩
    · exact Or.inr ⟨w, z1, z2, z3.1, z3.2.2.1, fun u a1 a2 a3 => z3.2.2.2.1 u a1 a2 (by have := z3.2.1; omega), by obtain ⟨u, a1, a2, a3, a4⟩ := z3.2.2.2.2; exact ⟨u, a1, a2, by have := z3.2.1; omega, a4⟩⟩
  · rintro (z | ⟨w, z1, z2, z3, z4, z5, u, z6, z7, z8, z9⟩)
    · exact Or.inl (Or.inl z)
    · rcases (show w % 2 = 0 ∨ w % 2 = 1 by omega) with q | q
      · exact Or.inl (Or.inr ⟨w, z1, z2, z3, q, z4, fun y a1 a2 a3 => z5 y a1 a2 (by omega), u, z6, z7, by omega, z9⟩)
      · exact Or.inr ⟨w, z1, z2, z3, q, z4, fun y a1 a2 a3 => z5 y a1 a2 (by omega), u, z6, z7, by omega, z9⟩
theorem m_tags {V : Nat → Prop} {μ : S2} (hV : V15 μ V) {P : Nat → Prop} (hZ : Z16 μ P) : wp (fn_X6_lookAtTags μ) (fun τ => fr [16] μ τ ∧ Z16 τ (fun k => P k ∨ ∃ w, k = w + 1 ∧ w < 32 ∧ TGS V w)) := tg_2 hV hZ 997
theorem b_ssh0 (a : Int32) {p : Nat} (hp : p < 32) : (a >>> (nI p &&& 31)) &&& 1 = 0 ↔ bt a p = false := by
  rw [b_and1, b_sshr p hp _ (by omega), if_pos (by omega)]; exact Iff.rfl
theorem IM16 {μ τ : S2} {v : VT} (h : IM μ v) (hf : fr [16] μ τ) : IM τ v := IM_fr h hf (fun k hk => by simp at hk; omega)
theorem ot_28 {v : VT} {a : Int32} {K2 : S2 → Int32 → Int32 → Option S2} {K : S2 → Int32 → Int32 → Int32 → Option S2} {Q : S2 → Prop} {m p : Nat} (hm : m < 20) (hp : p < 8) {μ0 : S2} (h0 : IM μ0 v) {P : Nat → Prop}
    (hK : ∀ τ, fr [16] μ0 τ → Z16 τ (fun k => P k ∨ ∃ u, k = u + 1 ∧ u < 32 ∧ bt a p = false ∧ TR v m p u) → wp (K τ a (nI m) (nI (p + 1))) Q) :
    ∀ (n w : Nat) (μ : S2), w ≤ 32 → 32 < w + n → fr [16] μ0 μ → Z16 μ (fun k => P k ∨ ∃ u, k = u + 1 ∧ u < w ∧ bt a p = false ∧ TR v m p u) → wp (fn_X6_lookAtOthers_28 K2 K n μ a (nI m) (nI p) (nI w)) Q := by
  intro n
  induction n with
  | zero => intro w μ h1 h2; omega
  | succ n ih =>
    intro w μ h1 h2 hf hZ
    rw [fn_X6_lookAtOthers_28]
    by_cases e : w = 32
    · subst e
      refine wp_if_t (by decide) (wp_lt ?_)
      rw [nI_1]
      exact hK μ hf hZ
    · refine wp_if_f (show ¬ (32 : Int32) ≤ nI w from nI_ge (b := 32) (by omega) (by omega)) ?_
      rw [nI_1]
      refine wp_ckN rfl (show w + 1 < 33 by omega) (by omega) ?_
      rw [nI_clamp (show w + 1 < 2 ^ 31 by omega)]
      have go : ∀ b : Int32, ((b = 1 ∧ (P (w + 1) ∨ (bt a p = false ∧ TR v m p w))) ∨ (b = 0 ∧ ¬ (P (w + 1) ∨ (bt a p = false ∧ TR v m p w)))) → wp (ck (nI (w + 1)) 33 (lt (st μ 16 (w + 1) b) (fun σ16 => lt (nI (w + 1)) (fun v17 => fn_X6_lookAtOthers_28 K2 K n σ16 a (nI m) (nI p) v17)))) Q := by
        intro b hb
        refine wp_ckN rfl (show w + 1 < 33 by omega) (by omega) (wp_lt (wp_lt ?_))
        have eq : (P (w + 1) ∨ ∃ u, w + 1 = u + 1 ∧ u < w + 1 ∧ bt a p = false ∧ TR v m p u) ↔ (P (w + 1) ∨ (bt a p = false ∧ TR v m p w)) := by
          refine or_congr Iff.rfl ⟨fun ⟨u, a1, a2, a3⟩ => ?_, fun z => ⟨w, rfl, by omega, z⟩⟩
          rw [show w = u by omega]; exact a3
        refine ih (w + 1) _ (by omega) (by omega) (fr1 hf) (Z16_st hZ (fun k hk hne => or_congr Iff.rfl ⟨fun ⟨u, a1, a2, a3⟩ => ⟨u, a1, by omega, a3⟩, fun ⟨u, a1, a2, a3⟩ => ⟨u, a1, by omega, a3⟩⟩) ?_)
        rw [eq]
        exact hb
      rcases hZ (w + 1) (by omega) with ⟨z1, z2⟩ | ⟨z1, z2⟩
      · rw [z1]
        refine wp_if_f one_ne (go 1 (Or.inl ⟨rfl, Or.inl ?_⟩))
        rcases z2 with z2 | ⟨u, a1, a2, _⟩
        · exact z2
        · omega
      · rw [z1]
        refine wp_if_t rfl ?_
        have noP : ¬ P (w + 1) := fun y => z2 (Or.inl y)
        by_cases q : bt a p = false
        · refine wp_if_t ((b_ssh0 a (by omega)).mpr q) (wp_bn (wp_mono (m_leads (IM16 h0 hf) (show m < 32 by omega) hp (show w < 32 by omega)) (fun r hr => ?_)))
          rcases hr with ⟨er, hr⟩ | ⟨er, hr⟩
          · subst er
            exact wp_if_f one_ne (go 1 (Or.inl ⟨rfl, Or.inr ⟨q, hr⟩⟩))
          · subst er
            exact wp_if_t rfl (go 0 (Or.inr ⟨rfl, fun y => y.elim noP (fun y => hr y.2)⟩))
        · exact wp_if_f (fun z => q ((b_ssh0 a (by omega)).mp z)) (go 0 (Or.inr ⟨rfl, fun y => y.elim noP (fun y => q y.1)⟩))
def OG (v : VT) (a : Int32) (V : Nat → Prop) (m p k : Nat) : Prop := ∃ u, k = u + 1 ∧ u < 32 ∧ ((∃ j, j < m ∧ V j ∧ ∃ q, q < 8 ∧ bt a q = false ∧ TR v j q u) ∨ (V m ∧ ∃ q, q < p ∧ bt a q = false ∧ TR v m q u))
theorem ot_10 {v : VT} {a : Int32} {V : Nat → Prop} {K : S2 → Int32 → Int32 → Option S2} {Q : S2 → Prop} {m : Nat} (hm : m < 20) {μ0 : S2} (h0 : IM μ0 v) (hV : V15 μ0 V)
    (hK : ∀ τ, fr [16] μ0 τ → Z16 τ (OG v a V (m + 1) 0) → wp (K τ a (nI (m + 1))) Q) :
    ∀ (n p : Nat) (μ : S2), p ≤ 8 → 8 < p + n → fr [16] μ0 μ → Z16 μ (OG v a V m p) → wp (fn_X6_lookAtOthers_10 K n μ a (nI m) (nI p)) Q := by
  intro n
  induction n with
  | zero => intro w μ h1 h2; omega
  | succ n ih =>
    intro p μ h1 h2 hf hZ
    rw [fn_X6_lookAtOthers_10]
    by_cases e : p = 8
    · subst e
      refine wp_if_t (by decide) (wp_lt ?_)
      rw [nI_1]
      refine hK μ hf (Z16_c hZ (fun k _ => ?_))
      constructor
      · rintro ⟨u, a1, a2, ⟨j, a3, a4⟩ | ⟨a3, a4⟩⟩
        · exact ⟨u, a1, a2, Or.inl ⟨j, by omega, a4⟩⟩
        · exact ⟨u, a1, a2, Or.inl ⟨m, by omega, a3, a4⟩⟩
      · rintro ⟨u, a1, a2, ⟨j, a3, a4⟩ | ⟨a3, q, a4, _⟩⟩
        · by_cases e2 : j = m
          · subst e2; exact ⟨u, a1, a2, Or.inr a4⟩
          · exact ⟨u, a1, a2, Or.inl ⟨j, by omega, a4⟩⟩
        · omega
    · refine wp_if_f (show ¬ (8 : Int32) ≤ nI p from nI_ge (b := 8) (by omega) (by omega)) (wp_ckN rfl (show m < 32 by omega) (by omega) ?_)
      rw [nI_clamp (show m < 2 ^ 31 by omega), hf 15 (by simp)]
      rcases hV m (by omega) with ⟨z1, z2⟩ | ⟨z1, z2⟩
      · rw [z1]
        refine wp_if_f one_ne (ot_28 hm (show p < 8 by omega) (IM16 h0 hf) (P := OG v a V m p) (fun τ hf2 hz2 => ?_) fu 0 μ (by omega) (by unfold fu; omega) fr_rf (Z16_c hZ (fun k _ => ⟨Or.inl, fun y => y.elim id (fun ⟨u, _, y2, _⟩ => by omega)⟩)))
        refine ih (p + 1) τ (by omega) (by omega) (fr_tr hf hf2) (Z16_c hz2 (fun k _ => ?_))
        constructor
        · rintro (⟨u, a1, a2, a3 | ⟨a3, q, a4, a5⟩⟩ | ⟨u, a1, a2, a3⟩)
          · exact ⟨u, a1, a2, Or.inl a3⟩
          · exact ⟨u, a1, a2, Or.inr ⟨a3, q, by omega, a5⟩⟩
          · exact ⟨u, a1, a2, Or.inr ⟨z2, p, by omega, a3⟩⟩
        · rintro ⟨u, a1, a2, a3 | ⟨a3, q, a4, a5⟩⟩
          · exact Or.inl ⟨u, a1, a2, Or.inl a3⟩
          · by_cases e2 : q = p
            · subst e2; exact Or.inr ⟨u, a1, a2, a5⟩
            · exact Or.inl ⟨u, a1, a2, Or.inr ⟨a3, q, by omega, a5⟩⟩
      · rw [z1]
        refine wp_if_t rfl (wp_lt ?_)
        rw [nI_1]
        refine hK μ hf (Z16_c hZ (fun k _ => ?_))
        constructor
        · rintro ⟨u, a1, a2, ⟨j, a3, a4⟩ | ⟨a3, a4⟩⟩
          · exact ⟨u, a1, a2, Or.inl ⟨j, by omega, a4⟩⟩
          · exact absurd a3 z2
        · rintro ⟨u, a1, a2, ⟨j, a3, a4⟩ | ⟨a3, q, a4, _⟩⟩
          · by_cases e2 : j = m
            · subst e2; exact absurd a4.1 z2
            · exact ⟨u, a1, a2, Or.inl ⟨j, by omega, a4⟩⟩
          · omega
theorem ot_2 {v : VT} {a : Int32} {V : Nat → Prop} {μ0 : S2} (h0 : IM μ0 v) (hV : V15 μ0 V) : ∀ (n m : Nat) (μ : S2), m ≤ 20 → 20 < m + n → fr [16] μ0 μ → Z16 μ (OG v a V m 0) → wp (fn_X6_lookAtOthers_2 n μ a (nI m)) (fun τ => fr [16] μ0 τ ∧ Z16 τ (fun k => ∃ w, k = w + 1 ∧ w < 32 ∧ CLO v a V w)) := by
  intro n
  induction n with
  | zero => intro w μ h1 h2; omega
  | succ n ih =>
    intro m μ h1 h2 hf hZ
    rw [fn_X6_lookAtOthers_2]
    by_cases e : m = 20
    · subst e
      refine wp_if_t (by decide) (wp_some ⟨hf, Z16_c hZ (fun k _ => ?_)⟩)
      constructor
      · rintro ⟨u, a1, a2, a3 | ⟨a3, q, a4, _⟩⟩
        · exact ⟨u, a1, a2, a3⟩
        · omega
      · rintro ⟨u, a1, a2, a3⟩
        exact ⟨u, a1, a2, Or.inl a3⟩
    · refine wp_if_f (show ¬ (20 : Int32) ≤ nI m from nI_ge (b := 20) (by omega) (by omega)) ?_
      have hV2 : V15 μ V := by unfold V15; rw [hf 15 (by simp)]; exact hV
      exact ot_10 (show m < 20 by omega) (IM16 h0 hf) hV2 (fun τ hf2 hz2 => ih (m + 1) τ (by omega) (by omega) (fr_tr hf hf2) hz2) fu 0 μ (by omega) (by unfold fu; omega) fr_rf hZ
theorem m_others {v : VT} {a : Int32} {V : Nat → Prop} {μ : S2} (h : IM μ v) (hV : V15 μ V) (hZ : Z16 μ (fun _ => False)) : wp (fn_X6_lookAtOthers μ a) (fun τ => fr [16] μ τ ∧ Z16 τ (fun k => ∃ w, k = w + 1 ∧ w < 32 ∧ CLO v a V w)) := by
  unfold fn_X6_lookAtOthers
  refine ot_2 h hV fu 0 μ (by omega) (by unfold fu; omega) fr_rf (Z16_c hZ (fun k _ => ⟨False.elim, ?_⟩))
  rintro ⟨u, a1, a2, ⟨j, a3, _⟩ | ⟨a3, q, a4, _⟩⟩ <;> omega
