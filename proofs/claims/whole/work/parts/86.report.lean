/-! the reference tells -/
def STM (μ : S2) (L : List E4) : Prop := μ.1 26 0 = nI (min L.length 251) ∧ μ.1 25 0 = (if 250 < L.length then 1 else 0) ∧
  ∀ i e, L[i]? = some e → i < 251 → μ.1 17 (4 * i) = nI e.1 ∧ μ.1 17 (4 * i + 1) = nI e.2.1 ∧ μ.1 17 (4 * i + 2) = nI e.2.2.1 ∧ μ.1 17 (4 * i + 3) = nI e.2.2.2 - 1
theorem STM_fr {μ τ : S2} {K : List Nat} {L : List E4} (h : STM μ L) (hf : fr K μ τ) (hK : 17 ∉ K ∧ 25 ∉ K ∧ 26 ∉ K) : STM τ L := by
  unfold STM
  rw [hf 26 hK.2.2, hf 25 hK.2.1, hf 17 hK.1]
  exact h
theorem i4 (m : Nat) : 4 * nI m = nI (4 * m) := pk_mul 4 m
theorem i4a (m a : Nat) : nI (4 * m) + nI a = nI (4 * m + a) := nI_add _ _
theorem STM_big {μ : S2} {L : List E4} {e : E4} (h : STM μ L) (hl : 250 < L.length) : STM μ (L ++ [e]) := by
  obtain ⟨h1, h2, h3⟩ := h
  have el : (L ++ [e]).length = L.length + 1 := by rw [List.length_append]; rfl
  refine ⟨?_, ?_, fun i e' he hi => ?_⟩
  · rw [h1, el, show min L.length 251 = 251 by omega, show min (L.length + 1) 251 = 251 by omega]
  · rw [h2, el, if_pos hl, if_pos (by omega)]
  · rcases snoc_at he with z | z
    · exact h3 i e' z.2 hi
    · omega
/-- the row of results, one more -/
def w17 (μ : S2) (m : Nat) (x s c k : Int32) : S2 := st (st (st (st μ 17 (4 * m) x) 17 (4 * m + 1) s) 17 (4 * m + 2) c) 17 (4 * m + 3) k
theorem w17_fr (μ : S2) (m : Nat) (x s c k : Int32) : fr [17] μ (w17 μ m x s c k) := by
  unfold w17
  exact fr1 (fr1 (fr1 (fr1 fr_rf)))
theorem w17_at (μ : S2) (m : Nat) (x s c k : Int32) : (w17 μ m x s c k).1 17 (4 * m) = x ∧ (w17 μ m x s c k).1 17 (4 * m + 1) = s ∧ (w17 μ m x s c k).1 17 (4 * m + 2) = c ∧ (w17 μ m x s c k).1 17 (4 * m + 3) = k := by
  unfold w17
  refine ⟨?_, ?_, ?_, ?_⟩
  · rw [st_at, if_neg (by omega), st_at, if_neg (by omega), st_at, if_neg (by omega), st_at, if_pos rfl]
  · rw [st_at, if_neg (by omega), st_at, if_neg (by omega), st_at, if_pos rfl]
  · rw [st_at, if_neg (by omega), st_at, if_pos rfl]
  · rw [st_at, if_pos rfl]
theorem w17_ne (μ : S2) (m : Nat) (x s c k : Int32) {j : Nat} (h : j < 4 * m) : (w17 μ m x s c k).1 17 j = μ.1 17 j := by
  unfold w17
  rw [st_at, if_neg (by omega), st_at, if_neg (by omega), st_at, if_neg (by omega), st_at, if_neg (by omega)]
theorem STM_one {μ τ : S2} {L : List E4} {x s c k : Nat} (h : STM μ L) (hl : L.length < 251) (h17 : τ.1 17 = (w17 μ L.length (nI x) (nI s) (nI c) (nI k - 1)).1 17) (h26 : τ.1 26 0 = nI (L.length + 1)) (h25 : τ.1 25 0 = if 250 < L.length + 1 then 1 else 0) : STM τ (L ++ [(x, s, c, k)]) := by
  obtain ⟨h1, h2, h3⟩ := h
  have el : (L ++ [(x, s, c, k)]).length = L.length + 1 := by rw [List.length_append]; rfl
  refine ⟨?_, ?_, fun i e' he hi => ?_⟩
  · rw [h26, el, show min (L.length + 1) 251 = L.length + 1 by omega]
  · rw [h25, el]
  · rw [h17]
    rcases snoc_at he with ⟨z1, z2⟩ | ⟨z1, z2⟩
    · rw [w17_ne _ _ _ _ _ _ (show 4 * i < _ by omega), w17_ne _ _ _ _ _ _ (show 4 * i + 1 < _ by omega), w17_ne _ _ _ _ _ _ (show 4 * i + 2 < _ by omega), w17_ne _ _ _ _ _ _ (show 4 * i + 3 < _ by omega)]
      exact h3 i e' z2 hi
    · subst z2; subst z1
      exact w17_at _ _ _ _ _ _
theorem nt_3 {v : VT} {x s c : Nat} {B : Nat → Prop} (hB : ∀ k, k < 33 → (B k ↔ BC (FIT v) v c x k)) : ∀ (n k : Nat) (μ : S2) (L : List E4), k ≤ 33 → 33 < k + n → Z16 μ B → STM μ L →
    wp (fn_X6_note_3 n μ (nI x) (nI s) (nI c) (nI k)) (fun τ => fr [17, 25, 26] μ τ ∧ STM τ (L ++ seg (kF v x s c) k (33 - k))) := by
  intro n
  induction n with
  | zero => intro k μ L a1 a2; omega
  | succ n ih =>
    intro k μ L hk hin hZ hS
    rw [fn_X6_note_3]
    by_cases e : k = 33
    · subst e
      refine wp_if_t (by decide) (wp_some ⟨fr_rf, ?_⟩)
      show STM μ (L ++ [])
      rw [List.append_nil]; exact hS
    · refine wp_if_f (show ¬ (32 : Int32) < nI k from nI_nlt (a := 32) (by omega) (by omega)) (wp_ckN rfl (show k < 33 by omega) (by omega) ?_)
      rw [nI_clamp (show k < 2 ^ 31 by omega), seg_st (show k < 33 by omega)]
      rcases hZ k (by omega) with ⟨z1, z2⟩ | ⟨z1, z2⟩
      · refine wp_if_f (by rw [z1]; exact one_ne) ?_
        have eF : kF v x s c k = [(x, s, c, k)] := ci_t ((hB k (by omega)).mp z2)
        rw [eF, ← List.append_assoc, hS.1]
        by_cases q : 250 < L.length
        · refine wp_if_t (show (250 : Int32) < nI (min L.length 251) from nI_lt (a := 250) (by omega) (by omega)) (wp_lt ?_)
          rw [nI_1]
          exact ih (k + 1) μ _ (by omega) (by omega) hZ (STM_big hS q)
        · have hm : min L.length 251 = L.length := by omega
          have h26 := hS.1
          rw [hm] at h26 ⊢
          refine wp_if_f (show ¬ (250 : Int32) < nI L.length from nI_nlt (a := 250) (by omega) (by omega)) ?_
          rw [i4]
          refine wp_ckN rfl (show 4 * L.length < 1004 by omega) (by omega) (wp_lt ?_)
          rw [nI_clamp (show 4 * L.length < 2 ^ 31 by omega), show (st μ 17 (4 * L.length) (nI x)).1 26 0 = nI L.length from by rw [st_ne (by omega)]; exact h26]
          rw [i4, show nI (4 * L.length) + 1 = nI (4 * L.length + 1) from i4a _ 1]
          refine wp_ckN rfl (show 4 * L.length + 1 < 1004 by omega) (by omega) (wp_lt ?_)
          rw [nI_clamp (show 4 * L.length + 1 < 2 ^ 31 by omega), show (st (st μ 17 (4 * L.length) (nI x)) 17 (4 * L.length + 1) (nI s)).1 26 0 = nI L.length from by rw [st_ne (by omega), st_ne (by omega)]; exact h26]
          rw [i4, show nI (4 * L.length) + 2 = nI (4 * L.length + 2) from i4a _ 2]
          refine wp_ckN rfl (show 4 * L.length + 2 < 1004 by omega) (by omega) (wp_lt ?_)
          rw [nI_clamp (show 4 * L.length + 2 < 2 ^ 31 by omega), show (st (st (st μ 17 (4 * L.length) (nI x)) 17 (4 * L.length + 1) (nI s)) 17 (4 * L.length + 2) (nI c)).1 26 0 = nI L.length from by rw [st_ne (by omega), st_ne (by omega), st_ne (by omega)]; exact h26]
          rw [i4, show nI (4 * L.length) + 3 = nI (4 * L.length + 3) from i4a _ 3]
          refine wp_ckN rfl (show 4 * L.length + 3 < 1004 by omega) (by omega) (wp_lt (wp_lt ?_))
          rw [nI_clamp (show 4 * L.length + 3 < 2 ^ 31 by omega)]
          rw [show st (st (st (st μ 17 (4 * L.length) (nI x)) 17 (4 * L.length + 1) (nI s)) 17 (4 * L.length + 2) (nI c)) 17 (4 * L.length + 3) (nI k - 1) = w17 μ L.length (nI x) (nI s) (nI c) (nI k - 1) from rfl]
          have hw := w17_fr μ L.length (nI x) (nI s) (nI c) (nI k - 1)
          rw [show (w17 μ L.length (nI x) (nI s) (nI c) (nI k - 1)).1 26 0 = nI L.length from by rw [hw 26 (by simp)]; exact h26, nI_1]
          have go : ∀ b : Int32, b = (if 250 < L.length + 1 then 1 else 0) → wp (lt (st (st (w17 μ L.length (nI x) (nI s) (nI c) (nI k - 1)) 26 0 (nI (L.length + 1))) 25 0 b) (fun σ17 => lt (nI k + 1) (fun v18 => fn_X6_note_3 n σ17 (nI x) (nI s) (nI c) v18))) (fun τ => fr [17, 25, 26] μ τ ∧ STM τ (L ++ [(x, s, c, k)] ++ seg (kF v x s c) (k + 1) (33 - (k + 1)))) := by
            intro b hb
            refine wp_lt (wp_lt ?_)
            rw [nI_1]
            have hfr : fr [17, 25, 26] μ (st (st (w17 μ L.length (nI x) (nI s) (nI c) (nI k - 1)) 26 0 (nI (L.length + 1))) 25 0 b) := fr_tr (fr_up hw (fun k hk => by simp at hk ⊢; omega)) (fr_tr (fr_st (by simp)) (fr_st (by simp)))
            have hZ2 : Z16 (st (st (w17 μ L.length (nI x) (nI s) (nI c) (nI k - 1)) 26 0 (nI (L.length + 1))) 25 0 b) B := by unfold Z16; rw [hfr 16 (by simp)]; exact hZ
            refine wp_mono (ih (k + 1) _ _ (by omega) (by omega) hZ2 (STM_one hS (by omega) ?_ ?_ ?_)) (fun τ hτ => ⟨fr_tr hfr hτ.1, hτ.2⟩)
            · rw [st_ne (by omega), st_ne (by omega)]
            · rw [st_ne (by omega), st_at, if_pos rfl]
            · rw [st_at, if_pos rfl]; exact hb
          rw [show (st (w17 μ L.length (nI x) (nI s) (nI c) (nI k - 1)) 26 0 (nI (L.length + 1))).1 26 0 = nI (L.length + 1) from by rw [st_at, if_pos rfl]]
          by_cases q2 : L.length + 1 ≤ 250
          · exact wp_if_t (show nI (L.length + 1) ≤ 250 from nI_le (b := 250) q2 (by omega)) (go 0 (by rw [if_neg (by omega)]))
          · exact wp_if_f (show ¬ nI (L.length + 1) ≤ 250 from nI_ge (a := 250) (by omega) (by omega)) (go 1 (by rw [if_pos (by omega)]))
      · refine wp_if_t z1 (wp_lt ?_)
        rw [nI_1]
        have eF : kF v x s c k = [] := ci_f (fun z => z2 ((hB k (by omega)).mpr z))
        rw [eF, List.nil_append]
        exact ih (k + 1) μ L (by omega) (by omega) hZ hS
/-- what stays while telling -/
def RI (μ0 μ : S2) : Prop := fr [14, 15, 16, 17, 25, 26] μ0 μ
theorem RI_IM {μ0 μ : S2} {v : VT} (h : IM μ0 v) (hf : RI μ0 μ) : IM μ v := IMS h hf (fun k hk => by simp at hk; omega)
theorem RI_MF {μ0 μ : S2} {v : VT} (h : MF μ0 v) (hf : RI μ0 μ) : MF μ v := fun u hu => S11L (h u hu) hf (by simp)
theorem RI_SG {μ0 μ : S2} {v : VT} (h : SG μ0 v) (hf : RI μ0 μ) : SG μ v := by
  unfold SG
  rw [hf 12 (by simp)]
  exact h
noncomputable def rF (v : VT) (x : Nat) : Nat → List E4 := fun s => ci (SEEN v s x) (cL v x s) []
theorem rp_30 {v : VT} (hv : IV v) {μ0 : S2} (h0 : IM μ0 v) (hF : MF μ0 v) (hG : SG μ0 v) {x s : Nat} (hx : x < 32) (hs : s < v.2.1 0) {K12 : S2 → Int32 → Option S2} {K20 : S2 → Int32 → Int32 → Option S2} {Q : S2 → Prop} {L0 : List E4}
    (hK : ∀ τ, RI μ0 τ → STM τ (L0 ++ rF v x s) → wp (K20 τ (nI x) (nI (s + 1))) Q) :
    ∀ (n c : Nat) (μ : S2) (L : List E4), c ≤ v.2.1 2 → v.2.1 2 < c + n → RI μ0 μ → STM μ L → (L0 ++ rF v x s = L ++ ci (SEEN v s x) (seg (cF v x s) c (v.2.1 2 - c)) []) → wp (fn_X6_report_30 K12 K20 n μ (nI x) (nI s) (nI c)) Q := by
  have h12 := hv.1
  have h40 := hv.2.2.1
  intro n
  induction n with
  | zero => intro k μ L a1 a2; omega
  | succ n ih =>
    intro c μ L hc hin hR hS hL
    have hM := RI_IM h0 hR
    rw [fn_X6_report_30, hM.1.2.2]
    by_cases e : c = v.2.1 2
    · subst e
      refine wp_if_t (nI_le (Nat.le_refl _) (by omega)) (wp_lt ?_)
      rw [nI_1]
      refine hK μ hR ?_
      rw [hL, Nat.sub_self]
      have : ci (SEEN v s x) (seg (cF v x s) (v.2.1 2) 0) [] = [] := by
        by_cases q : SEEN v s x
        · rw [ci_t q]; rfl
        · rw [ci_f q]
      rw [this, List.append_nil]; exact hS
    · have hlt : c < v.2.1 2 := by omega
      obtain ⟨g1, g2, g3, g4, g5⟩ := IV_c hv hlt
      refine wp_if_f (nI_ge hlt (by omega)) ?_
      rw [ix32]
      refine wp_ckN rfl (show 32 * s + x < 384 by omega) (by omega) ?_
      rw [nI_clamp (show 32 * s + x < 2 ^ 31 by omega)]
      rcases RI_SG hG hR s x hs hx with ⟨y1, y2⟩ | ⟨y1, y2⟩
      · refine wp_if_f (by rw [y1]; exact one_ne) (wp_ckN rfl (show c < 40 by omega) (by omega) ?_)
        rw [nI_clamp (show c < 2 ^ 31 by omega), (hM.2.2.2.2 c hlt).1, (hM.2.2.2.2 c hlt).2.1, g3, g4]
        rw [ci_t y2, seg_st hlt] at hL
        have skip : cF v x s c = [] → wp (lt (nI c + 1) (fun v8 => fn_X6_report_30 K12 K20 n μ (nI x) (nI s) v8)) Q := by
          intro eF
          refine wp_lt ?_
          rw [nI_1]
          rw [eF, List.nil_append] at hL
          exact ih (c + 1) μ L (by omega) (by omega) hR hS (by rw [ci_t y2]; exact hL)
        by_cases q : ow v c = s
        · refine wp_if_t (by rw [q]) (wp_ckN rfl (show c < 40 by omega) (by omega) ?_)
          by_cases q2 : kn v c = 16
          · exact wp_if_t (show nI (kn v c) = 16 by rw [q2]; rfl) (skip (ci_f (fun z => z.2 q2)))
          · refine wp_if_f (show ¬ nI (kn v c) = nI 16 from nI_ne (by omega) (by omega) q2) (wp_bn2 (wp_mono (m_look hv hlt hx hM (fun u hu _ => RI_MF hF hR u hu)) (fun r hr => ?_)))
            have eF : cF v x s c = kL v x s c := ci_t ⟨q, q2⟩
            have hR2 : RI μ0 r.2 := fr_tr hR (fr_up hr.1 (fun k hk => by simp at hk ⊢; omega))
            have hS2 : STM r.2 L := STM_fr hS hr.1 (by simp)
            rw [eF] at hL
            rcases hr.2.2 with ⟨z1, z2⟩ | ⟨z1, z2⟩
            · refine wp_if_f (by rw [z1]; exact one_ne) (wp_bn ?_)
              unfold fn_X6_note
              refine wp_mono (nt_3 (fun k hk => Iff.rfl) fu 0 r.2 L (by omega) (by unfold fu; omega) hr.2.1 hS2) (fun τ hτ => wp_lt ?_)
              rw [nI_1]
              refine ih (c + 1) τ (L ++ kL v x s c) (by omega) (by omega) (fr_tr hR2 (fr_up hτ.1 (fun k hk => by simp at hk ⊢; omega))) hτ.2 (by rw [ci_t y2, List.append_assoc]; exact hL)
            · refine wp_if_t z1 (wp_lt ?_)
              rw [nI_1]
              have : kL v x s c = [] := seg_nil 33 0 (fun k _ hk => ci_f (fun z => z2 ⟨k, by omega, z⟩))
              rw [this, List.nil_append] at hL
              exact ih (c + 1) r.2 L (by omega) (by omega) hR2 hS2 (by rw [ci_t y2]; exact hL)
        · exact wp_if_f (nI_ne (by omega) (by omega) q) (skip (ci_f (fun z => q z.1)))
      · refine wp_if_t y1 (wp_lt ?_)
        rw [nI_1]
        refine hK μ hR ?_
        rw [hL, ci_f y2, List.append_nil]
        exact hS
theorem rp_20 {v : VT} (hv : IV v) {μ0 : S2} (h0 : IM μ0 v) (hF : MF μ0 v) (hG : SG μ0 v) {x : Nat} (hx : x < 32) {K12 : S2 → Int32 → Option S2} {Q : S2 → Prop} :
    ∀ (n s : Nat) (μ : S2) (L : List E4), s ≤ v.2.1 0 → v.2.1 0 < s + n → RI μ0 μ → STM μ L → (∀ τ, RI μ0 τ → STM τ (L ++ seg (rF v x) s (v.2.1 0 - s)) → wp (K12 τ (nI (x + 1))) Q) → wp (fn_X6_report_20 K12 n μ (nI x) (nI s)) Q := by
  have h12 := hv.1
  have h40 := hv.2.2.1
  intro n
  induction n with
  | zero => intro k μ L a1 a2; omega
  | succ n ih =>
    intro s μ L hs hin hR hS hK
    have hM := RI_IM h0 hR
    rw [fn_X6_report_20, hM.1.1]
    by_cases e : s = v.2.1 0
    · subst e
      refine wp_if_t (nI_le (Nat.le_refl _) (by omega)) (wp_lt ?_)
      rw [nI_1]
      refine hK μ hR ?_
      rw [Nat.sub_self]
      show STM μ (L ++ [])
      rw [List.append_nil]; exact hS
    · have hlt : s < v.2.1 0 := by omega
      refine wp_if_f (nI_ge hlt (by omega)) ?_
      rw [seg_st hlt, ← List.append_assoc] at hK
      refine rp_30 hv h0 hF hG hx hlt (L0 := L) (fun τ hR2 hS2 => ih (s + 1) τ _ (by omega) (by omega) hR2 hS2 hK) fu 0 μ L (by omega) (by unfold fu; omega) hR hS rfl
theorem rp_12 {v : VT} (hv : IV v) {μ0 : S2} (h0 : IM μ0 v) (hF : MF μ0 v) (hG : SG μ0 v) : ∀ (n x : Nat) (μ : S2) (L : List E4), x ≤ 32 → 32 < x + n → RI μ0 μ → STM μ L →
    wp (fn_X6_report_12 n μ (nI x)) (fun τ => RI μ0 τ ∧ STM τ (L ++ seg (fun x => seg (rF v x) 0 (v.2.1 0)) x (32 - x))) := by
  have h12 := hv.1
  intro n
  induction n with
  | zero => intro k μ L a1 a2; omega
  | succ n ih =>
    intro x μ L hx hin hR hS
    rw [fn_X6_report_12]
    by_cases e : x = 32
    · subst e
      refine wp_if_t (by decide) (wp_some ⟨hR, ?_⟩)
      show STM μ (L ++ [])
      rw [List.append_nil]; exact hS
    · refine wp_if_f (show ¬ (32 : Int32) ≤ nI x from nI_ge (b := 32) (by omega) (by omega)) ?_
      rw [seg_st (show x < 32 by omega), ← List.append_assoc]
      exact rp_20 hv h0 hF hG (show x < 32 by omega) fu 0 μ L (by omega) (by unfold fu; omega) hR hS (fun τ hR2 hS2 => ih (x + 1) τ _ (by omega) (by omega) hR2 hS2)
theorem rF_sF {v : VT} (hv : IV v) {H : Nat → Nat} (hr : RK v H) {s x : Nat} (hs : s < v.2.1 0) : rF v x s = sF v x s := by
  unfold rF sF
  by_cases q : ASK v s x
  · rw [ci_t q, ci_t (ask_seen hv q)]
  · rw [ci_f q]
    by_cases q2 : SEEN v s x
    · rw [ci_t q2]
      have hfit : FIT v s x := Classical.byContradiction (fun z => q (seen_ask hv hr q2 z))
      rw [FIT_eq hv hr hs] at hfit
      refine seg_nil _ 0 (fun c _ hc => ?_)
      unfold cF
      by_cases q3 : ow v c = s ∧ kn v c ≠ 16
      · rw [ci_t q3]
        exact seg_nil 33 0 (fun k _ hk => ci_f (hfit c (by omega) q3.1 k (by omega)))
      · rw [ci_f q3]
    · rw [ci_f q2]
theorem m_report {v : VT} (hv : IV v) {H : Nat → Nat} (hr : RK v H) {μ : S2} (h0 : IM μ v) (hF : MF μ v) (hG : SG μ v) : wp (fn_X6_report μ) (fun τ => RI μ τ ∧ STM τ (AL v)) := by
  unfold fn_X6_report
  refine wp_lt (wp_lt ?_)
  have hR : RI μ (st (st μ 26 0 0) 25 0 0) := fr_tr (fr_st (by simp)) (fr_st (by simp))
  refine wp_mono (rp_12 hv h0 hF hG fu 0 _ [] (by omega) (by unfold fu; omega) hR ⟨?_, ?_, fun i e he => by simp at he⟩) (fun τ hτ => ⟨hτ.1, ?_⟩)
  · rw [st_ne (by omega), st_at, if_pos rfl]; rfl
  · rw [st_at, if_pos rfl]; rfl
  · have := hτ.2
    rw [List.nil_append] at this
    rw [show AL v = seg (fun x => seg (rF v x) 0 (v.2.1 0)) 0 (32 - 0) from seg_congr 32 0 (fun x _ _ => (seg_congr _ 0 (fun s _ h2 => rF_sF hv hr (by omega))).symm)]
    exact this
def GM (μ : S2) (v : VT) : Prop := STM μ (AL v) ∧ MF μ v
theorem m_make {v : VT} (hv : IV v) {H : Nat → Nat} (hr : RK v H) {μ : S2} (h : IM μ v) (hg : μ.1 24 0 = 0 ∨ (μ.1 24 0 = 1 ∧ GM μ v)) : wp (fn_X6_make μ) (fun τ => fr [11, 12, 13, 14, 15, 16, 17, 24, 25, 26] μ τ ∧ τ.1 24 0 = 1 ∧ GM τ v) := by
  unfold fn_X6_make
  rcases hg with e | ⟨e, hg⟩
  · refine wp_if_t e (wp_lt ?_)
    have hM : IM (st μ 24 0 1) v := IMS (K := [24]) h (fr_st (by simp)) (fun k hk => by simp at hk; omega)
    refine mk_15 hv hr (μ0 := st μ 24 0 1) (fun τ hM2 hf2 hF => ?_) fu 0 _ (by omega) (by unfold fu; omega) hM fr_rf (fun u hu => by omega)
    refine wp_bn (wp_mono (m_see hv hr hM2) (fun τ2 h2 => wp_bn ?_))
    have hF2 : MF τ2 v := fun u hu => S11L (hF u hu) h2.1 (by simp)
    refine wp_mono (m_report hv hr (IM12 hM2 h2.1) hF2 h2.2) (fun τ3 h3 => wp_some ⟨?_, ?_, h3.2, RI_MF hF2 h3.1⟩)
    · have a0 : fr [11, 12, 13, 14, 15, 16, 17, 24, 25, 26] μ (st μ 24 0 1) := fr_st (by simp)
      have a1 := fr_up (K' := [11, 12, 13, 14, 15, 16, 17, 24, 25, 26]) hf2 (fun k hk => by simp at hk ⊢; omega)
      have a2 := fr_up (K' := [11, 12, 13, 14, 15, 16, 17, 24, 25, 26]) h2.1 (fun k hk => by simp at hk ⊢; omega)
      have a3 := fr_up (K' := [11, 12, 13, 14, 15, 16, 17, 24, 25, 26]) h3.1 (fun k hk => by simp at hk ⊢; omega)
      exact fr_tr a0 (fr_tr a1 (fr_tr a2 a3))
    · rw [h3.1 24 (by simp), h2.1 24 (by simp), hf2 24 (by simp), st_at, if_pos rfl]
  · exact wp_if_f (by rw [e]; exact one_ne) (wp_some ⟨fr_rf, e, hg⟩)
