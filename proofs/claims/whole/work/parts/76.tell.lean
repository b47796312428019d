/-! all results, in their order -/
abbrev E4 : Type := Nat × Nat × Nat × Nat
def seg (f : Nat → List E4) : Nat → Nat → List E4
  | _, 0 => []
  | i, n + 1 => f i ++ seg f (i + 1) n
theorem seg_st {f : Nat → List E4} {i N : Nat} (h : i < N) : seg f i (N - i) = f i ++ seg f (i + 1) (N - (i + 1)) := by
  rw [show N - i = (N - (i + 1)) + 1 by omega]
  rfl
theorem seg_nil {f : Nat → List E4} : ∀ (n i : Nat), (∀ j, i ≤ j → j < i + n → f j = []) → seg f i n = [] := by
  intro n
  induction n with
  | zero => intro i _; rfl
  | succ n ih =>
    intro i h
    show f i ++ seg f (i + 1) n = []
    rw [h i (by omega) (by omega), ih (i + 1) (fun j h1 h2 => h j (by omega) (by omega))]
    rfl
theorem seg_congr {f g : Nat → List E4} : ∀ (n i : Nat), (∀ j, i ≤ j → j < i + n → f j = g j) → seg f i n = seg g i n := by
  intro n
  induction n with
  | zero => intro i _; rfl
  | succ n ih =>
    intro i h
    show f i ++ seg f (i + 1) n = g i ++ seg g (i + 1) n
    rw [h i (by omega) (by omega), ih (i + 1) (fun j h1 h2 => h j (by omega) (by omega))]
theorem seg_len {f : Nat → List E4} {B : Nat} : ∀ (n i : Nat), (∀ j, (f j).length ≤ B) → (seg f i n).length ≤ n * B := by
  intro n
  induction n with
  | zero => intro i _; exact Nat.zero_le _
  | succ n ih =>
    intro i h
    show (f i ++ seg f (i + 1) n).length ≤ _
    rw [List.length_append, Nat.succ_mul]
    have := ih (i + 1) h
    have := h i
    omega
theorem seg_all {f : Nat → List E4} {P : E4 → Prop} : ∀ (n i : Nat), (∀ j, i ≤ j → j < i + n → ∀ e, e ∈ f j → P e) → ∀ e, e ∈ seg f i n → P e := by
  intro n
  induction n with
  | zero => intro i _ e he; cases he
  | succ n ih =>
    intro i h e he
    have he : e ∈ f i ++ seg f (i + 1) n := he
    rw [List.mem_append] at he
    rcases he with z | z
    · exact h i (by omega) (by omega) e z
    · exact ih (i + 1) (fun j h1 h2 => h j (by omega) (by omega)) e z
noncomputable def kF (v : VT) (x s c : Nat) : Nat → List E4 := fun k => ci (BC (FIT v) v c x k) [(x, s, c, k)] []
noncomputable def kL (v : VT) (x s c : Nat) : List E4 := seg (kF v x s c) 0 33
noncomputable def cF (v : VT) (x s : Nat) : Nat → List E4 := fun c => ci (ow v c = s ∧ kn v c ≠ 16) (kL v x s c) []
noncomputable def cL (v : VT) (x s : Nat) : List E4 := seg (cF v x s) 0 (v.2.1 2)
noncomputable def sF (v : VT) (x : Nat) : Nat → List E4 := fun s => ci (ASK v s x) (cL v x s) []
noncomputable def sL (v : VT) (x : Nat) : List E4 := seg (sF v x) 0 (v.2.1 0)
noncomputable def AL (v : VT) : List E4 := seg (fun x => sL v x) 0 32
theorem ci_len {P : Prop} {l : List E4} {B : Nat} (h : l.length ≤ B) : (ci P l []).length ≤ B := by
  by_cases q : P
  · rw [ci_t q]; exact h
  · rw [ci_f q]; exact Nat.zero_le _
theorem AL_len {v : VT} (hv : IV v) : (AL v).length < 2 ^ 31 := by
  have h12 := hv.1
  have h40 := hv.2.2.1
  have k1 : ∀ x s c, (kL v x s c).length ≤ 33 := fun x s c => seg_len (B := 1) 33 0 (fun j => ci_len (by simp))
  have k2 : ∀ x s, (cL v x s).length ≤ 1320 := fun x s => Nat.le_trans (seg_len (B := 33) _ 0 (fun j => ci_len (k1 x s j))) (by have := Nat.mul_le_mul_right 33 h40; omega)
  have k3 : ∀ x, (sL v x).length ≤ 15840 := fun x => Nat.le_trans (seg_len (B := 1320) _ 0 (fun j => ci_len (k2 x j))) (by have := Nat.mul_le_mul_right 1320 h12; omega)
  have k4 : (AL v).length ≤ 32 * 15840 := seg_len (B := 15840) 32 0 (fun j => k3 j)
  omega
theorem AL_s {v : VT} : ∀ e, e ∈ AL v → e.2.1 < v.2.1 0 := by
  refine seg_all 32 0 (fun x _ _ => seg_all _ 0 (fun s _ h2 e he => ?_))
  have hs : s < v.2.1 0 := by omega
  have hk : ∀ c e, e ∈ kL v x s c → e.2.1 = s := by
    intro c
    refine seg_all 33 0 (fun k _ _ e he => ?_)
    unfold kF at he
    by_cases q : BC (FIT v) v c x k
    · rw [ci_t q] at he; simp at he; rw [he]
    · rw [ci_f q] at he; cases he
  have hc : ∀ e, e ∈ cL v x s → e.2.1 = s := by
    refine seg_all _ 0 (fun c _ _ e he => ?_)
    unfold cF at he
    by_cases q : ow v c = s ∧ kn v c ≠ 16
    · rw [ci_t q] at he; exact hk c e he
    · rw [ci_f q] at he; cases he
  unfold sF at he
  by_cases q : ASK v s x
  · rw [ci_t q] at he; rw [hc e he]; exact hs
  · rw [ci_f q] at he; cases he
/-! the class tells -/
def STC (σ : S2) (L : List E4) : Prop := σ.1 5 0 = nI L.length ∧ ∀ i e, L[i]? = some e → i < 250 → σ.1 21 i = nI e.1 ∧ σ.1 22 i = nI e.2.1 ∧ σ.1 23 i = nI e.2.2.1 ∧ σ.1 24 i = nI e.2.2.2 - 1
def TF (σ τ : S2) : Prop := fr [5, 21, 22, 23, 24] σ τ ∧ τ.2 = σ.2
theorem TF_rf {σ : S2} : TF σ σ := ⟨fr_rf, rfl⟩
theorem TF_tr {σ τ ρ : S2} (h : TF σ τ) (h2 : TF τ ρ) : TF σ ρ := ⟨fr_tr h.1 h2.1, h2.2.trans h.2⟩
theorem TF_st {σ τ : S2} {k i : Nat} {x : Int32} (h : TF σ τ) (hk : k ∈ [5, 21, 22, 23, 24]) : TF σ (st τ k i x) := ⟨fr_tr h.1 (fr_st hk), h.2⟩
theorem snoc_at {L : List E4} {e e' : E4} {i : Nat} (h : (L ++ [e])[i]? = some e') : (i < L.length ∧ L[i]? = some e') ∨ (i = L.length ∧ e' = e) := by
  rcases Nat.lt_trichotomy i L.length with q | q | q
  · rw [List.getElem?_append_left q] at h; exact Or.inl ⟨q, h⟩
  · subst q
    rw [List.getElem?_append_right (Nat.le_refl _), Nat.sub_self] at h
    exact Or.inr ⟨rfl, by simpa using h.symm⟩
  · rw [List.getElem?_append_right (by omega)] at h
    rw [show i - L.length = (i - L.length - 1) + 1 by omega] at h
    simp at h
theorem c_tell {σ : S2} {L : List E4} (h : STC σ L) (hl : L.length < 2 ^ 31) (x s c k : Nat) : wp (fn_X5_tell σ (nI x) (nI s) (nI c) (nI k - 1)) (fun τ => TF σ τ ∧ STC τ (L ++ [(x, s, c, k)])) := by
  unfold fn_X5_tell
  rw [h.1]
  by_cases q : 250 ≤ L.length
  · refine wp_if_t (show (250 : Int32) ≤ nI L.length from nI_le (a := 250) q hl) ?_
    unfold fn_X5_tell_51
    refine wp_lt (wp_some ⟨TF_st TF_rf (by simp), ?_, fun i e he hi => ?_⟩)
    · rw [st_at, if_pos rfl, h.1, nI_1, List.length_append]; rfl
    · rw [st_ne (by omega), st_ne (by omega), st_ne (by omega), st_ne (by omega)]
      rcases snoc_at he with z | z
      · exact h.2 i e z.2 hi
      · omega
  · have hlt : L.length < 250 := by omega
    refine wp_if_f (show ¬ (250 : Int32) ≤ nI L.length from nI_ge (b := 250) hlt (by omega)) (wp_ckN rfl hlt (by omega) (wp_lt ?_))
    have e1 : (st σ 21 (nI L.length).toNatClampNeg (nI x)).1 5 0 = nI L.length := by rw [st_ne (by omega)]; exact h.1
    rw [e1]
    refine wp_ckN rfl hlt (by omega) (wp_lt ?_)
    rw [show (st (st σ 21 (nI L.length).toNatClampNeg (nI x)) 22 (nI L.length).toNatClampNeg (nI s)).1 5 0 = nI L.length from by rw [st_ne (by omega)]; exact e1]
    refine wp_ckN rfl hlt (by omega) (wp_lt ?_)
    rw [show (st (st (st σ 21 (nI L.length).toNatClampNeg (nI x)) 22 (nI L.length).toNatClampNeg (nI s)) 23 (nI L.length).toNatClampNeg (nI c)).1 5 0 = nI L.length from by rw [st_ne (by omega), st_ne (by omega)]; exact e1]
    refine wp_ckN rfl hlt (by omega) (wp_lt ?_)
    unfold fn_X5_tell_51
    rw [nI_clamp hl]
    refine wp_lt (wp_some ⟨TF_st (TF_st (TF_st (TF_st (TF_st TF_rf (by simp)) (by simp)) (by simp)) (by simp)) (by simp), ?_, fun i e he hi => ?_⟩)
    · rw [st_at, if_pos rfl, st_ne (by omega), st_ne (by omega), st_ne (by omega), st_ne (by omega), h.1, nI_1, List.length_append]; rfl
    · rw [st_ne (show 21 ≠ 5 by omega), st_ne (show 21 ≠ 24 by omega), st_ne (show 21 ≠ 23 by omega), st_ne (show 21 ≠ 22 by omega), st_at]
      rw [st_ne (show 22 ≠ 5 by omega), st_ne (show 22 ≠ 24 by omega), st_ne (show 22 ≠ 23 by omega), st_at, st_ne (show 22 ≠ 21 by omega)]
      rw [st_ne (show 23 ≠ 5 by omega), st_ne (show 23 ≠ 24 by omega), st_at, st_ne (show 23 ≠ 22 by omega), st_ne (show 23 ≠ 21 by omega)]
      rw [st_ne (show 24 ≠ 5 by omega), st_at, st_ne (show 24 ≠ 23 by omega), st_ne (show 24 ≠ 22 by omega), st_ne (show 24 ≠ 21 by omega)]
      rcases snoc_at he with z | ⟨z, z2⟩
      · have hne : i ≠ L.length := by omega
        rw [if_neg hne, if_neg hne, if_neg hne, if_neg hne]
        exact h.2 i e z.2 hi
      · subst z2
        rw [if_pos z, if_pos z, if_pos z, if_pos z]
        exact ⟨rfl, rfl, rfl, rfl⟩
theorem mp1 (x : Int32) : x - 1 + 1 = x := Int32.sub_add_cancel x 1
theorem t_24 {v : VT} {x s c : Nat} {f : Int64} (hf : FLT f (FIT v) v c x) : ∀ (n k : Nat) (σ : S2) (L : List E4), k ≤ 33 → 33 < k + n → STC σ L → (L ++ seg (kF v x s c) k (33 - k)).length < 2 ^ 31 →
    wp (fn_X5_tellConstraint_24 n σ (nI x) (nI s) (nI c) f (nI k - 1)) (fun τ => TF σ τ ∧ STC τ (L ++ seg (kF v x s c) k (33 - k))) := by
  intro n
  induction n with
  | zero => intro k σ L a1 a2; omega
  | succ n ih =>
    intro k σ L hk hin hS hl
    rw [fn_X5_tellConstraint_24]
    by_cases e : k = 33
    · subst e
      refine wp_if_t (by decide) (wp_some ⟨TF_rf, ?_⟩)
      show STC σ (L ++ [])
      rw [List.append_nil]; exact hS
    · have hc : ¬ (32 : Int32) ≤ nI k - 1 := by
        cases k with
        | zero => decide
        | succ k => rw [nI_pred]; exact nI_ge (b := 32) (by omega) (by omega)
      refine wp_if_f hc ?_
      rw [seg_st (show k < 33 by omega)] at hl ⊢
      rw [mp1]
      by_cases q : bL f k = false
      · refine wp_if_t ((l_hold f (by omega)).mpr q) (wp_lt ?_)
        have eF : kF v x s c k = [] := ci_f (fun z => by rw [(hf.1 k (by omega)).mpr z] at q; cases q)
        rw [eF, List.nil_append] at hl ⊢
        have := ih (k + 1) σ L (by omega) (by omega) hS hl
        rw [nI_succ, show nI k + 1 - 1 = nI k from by rw [nI_1, nI_pred]] at this
        exact this
      · refine wp_if_f (fun z => q ((l_hold f (by omega)).mp z)) (wp_bn ?_)
        have eF : kF v x s c k = [(x, s, c, k)] := ci_t ((hf.1 k (by omega)).mp (by simpa using q))
        rw [eF, ← List.append_assoc] at hl ⊢
        have hlL : L.length < 2 ^ 31 := by rw [List.length_append, List.length_append] at hl; omega
        refine wp_mono (c_tell hS hlL x s c k) (fun τ hτ => wp_lt ?_)
        have := ih (k + 1) τ _ (by omega) (by omega) hτ.2 hl
        rw [nI_succ, show nI k + 1 - 1 = nI k from by rw [nI_1, nI_pred]] at this
        exact wp_mono this (fun ρ hρ => ⟨TF_tr hτ.1 hρ.1, hρ.2⟩)
theorem c_tellC {σ : S2} {v : VT} (hv : IV v) (hg : WG σ v) {x s c : Nat} (hx : x < 32) (hc : c < v.2.1 2) {L : List E4} (hS : STC σ L) (hl : (L ++ kL v x s c).length < 2 ^ 31) : wp (fn_X5_tellConstraint σ (nI x) (nI s) (nI c)) (fun τ => TF σ τ ∧ STC τ (L ++ kL v x s c)) := by
  have h40 := hv.2.2.1
  unfold fn_X5_tellConstraint
  rw [ix40]
  refine wp_ckN rfl (show x * 40 + c < 1280 by omega) (by omega) (wp_lt ?_)
  rw [nI_clamp (by omega)]
  have hf := hg.2 c hc x hx
  by_cases q : lg_cmp (σ.2 18 (x * 40 + c)) 0 = 0
  · refine wp_if_t q (wp_some ⟨TF_rf, ?_⟩)
    have : kL v x s c = [] := seg_nil 33 0 (fun k _ hk => ci_f ((FLT_0 hf).mp q k (by omega)))
    rw [this, List.append_nil]; exact hS
  · refine wp_if_f q ?_
    exact t_24 hf fu 0 σ L (by omega) (by unfold fu; omega) hS hl
theorem ICT {σ τ : S2} {v : VT} (h : IC σ v) (hf : TF σ τ) : IC τ v := IC_fr h hf.1 (fun k hk => by simp at hk; omega)
theorem WGT {σ τ : S2} {v : VT} (h : WG σ v) (hf : TF σ τ) : WG τ v := by
  unfold WG
  rw [hf.1 19 (by simp), hf.2]
  exact h
theorem AGT {σ τ : S2} {v : VT} (h : AG σ v) (hf : TF σ τ) : AG τ v := by
  unfold AG
  rw [hf.1 20 (by simp)]
  exact h
theorem t_2 {v : VT} (hv : IV v) {x s : Nat} (hx : x < 32) (hs : s < v.2.1 0) : ∀ (n c : Nat) (σ : S2) (L : List E4), c ≤ v.2.1 2 → v.2.1 2 < c + n → IC σ v → WG σ v → STC σ L → (L ++ seg (cF v x s) c (v.2.1 2 - c)).length < 2 ^ 31 →
    wp (fn_X5_tellShape_2 n σ (nI x) (nI s) (nI c)) (fun τ => TF σ τ ∧ STC τ (L ++ seg (cF v x s) c (v.2.1 2 - c))) := by
  have h12 := hv.1
  have h40 := hv.2.2.1
  intro n
  induction n with
  | zero => intro k σ L a1 a2; omega
  | succ n ih =>
    intro c σ L hc hin hI hg hS hl
    rw [fn_X5_tellShape_2, hI.1.2.2]
    by_cases e : c = v.2.1 2
    · subst e
      refine wp_if_t (nI_le (Nat.le_refl _) (by omega)) (wp_some ⟨TF_rf, ?_⟩)
      rw [Nat.sub_self]
      show STC σ (L ++ [])
      rw [List.append_nil]; exact hS
    · have hlt : c < v.2.1 2 := by omega
      obtain ⟨h1, h2, h3, h4, h5⟩ := IV_c hv hlt
      refine wp_if_f (nI_ge hlt (by omega)) (wp_ckN rfl (show c < 40 by omega) (by omega) ?_)
      rw [nI_clamp (show c < 2 ^ 31 by omega), (hI.2.2.2.2.2 c hlt).1, (hI.2.2.2.2.2 c hlt).2.1, h3, h4]
      rw [seg_st hlt] at hl ⊢
      have skip : cF v x s c = [] → wp (lt (nI c + 1) (fun v4 => fn_X5_tellShape_2 n σ (nI x) (nI s) v4)) (fun τ => TF σ τ ∧ STC τ (L ++ (cF v x s c ++ seg (cF v x s) (c + 1) (v.2.1 2 - (c + 1))))) := by
        intro eF
        rw [eF, List.nil_append] at hl ⊢
        refine wp_lt ?_
        rw [nI_1]
        exact ih (c + 1) σ L (by omega) (by omega) hI hg hS hl
      by_cases q : ow v c = s
      · refine wp_if_t (by rw [q]) (wp_ckN rfl (show c < 40 by omega) (by omega) ?_)
        by_cases q2 : kn v c = 16
        · refine wp_if_t (show nI (kn v c) = 16 by rw [q2]; rfl) (skip (ci_f (fun z => z.2 q2)))
        · refine wp_if_f (show ¬ nI (kn v c) = nI 16 from nI_ne (by omega) (by omega) q2) (wp_bn ?_)
          have eF : cF v x s c = kL v x s c := ci_t ⟨q, q2⟩
          rw [eF, ← List.append_assoc] at hl ⊢
          refine wp_mono (c_tellC hv hg hx hlt hS (by rw [List.length_append] at hl; omega)) (fun τ hτ => wp_lt ?_)
          rw [nI_1]
          refine wp_mono (ih (c + 1) τ _ (by omega) (by omega) (ICT hI hτ.1) (WGT hg hτ.1) hτ.2 hl) (fun ρ hρ => ⟨TF_tr hτ.1 hρ.1, hρ.2⟩)
      · exact wp_if_f (nI_ne (by omega) (by omega) q) (skip (ci_f (fun z => q z.1)))
theorem c_tellS {σ : S2} {v : VT} (hv : IV v) {x s : Nat} (hx : x < 32) (hs : s < v.2.1 0) (hI : IC σ v) (hg : WG σ v) {L : List E4} (hS : STC σ L) (hl : (L ++ cL v x s).length < 2 ^ 31) : wp (fn_X5_tellShape σ (nI x) (nI s)) (fun τ => TF σ τ ∧ STC τ (L ++ cL v x s)) := by
  have h40 := hv.2.2.1
  exact t_2 hv hx hs fu 0 σ L (by omega) (by unfold fu; omega) hI hg hS hl
theorem t_15 {v : VT} (hv : IV v) {K : S2 → Int32 → Option S2} {Q : S2 → Prop} {x : Nat} (hx : x < 32) {σ0 : S2} : ∀ (n s : Nat) (σ : S2) (L : List E4), s ≤ v.2.1 0 → v.2.1 0 < s + n → TF σ0 σ → IC σ v → WG σ v → AG σ v → STC σ L → (L ++ seg (sF v x) s (v.2.1 0 - s)).length < 2 ^ 31 →
    (∀ τ, TF σ0 τ → STC τ (L ++ seg (sF v x) s (v.2.1 0 - s)) → wp (K τ (nI (x + 1))) Q) → wp (fn_X5_tellAll_15 K n σ (nI x) (nI s)) Q := by
  have h12 := hv.1
  intro n
  induction n with
  | zero => intro k σ L a1 a2; omega
  | succ n ih =>
    intro s σ L hs hin hT hI hg ha hS hl hK
    rw [fn_X5_tellAll_15, hI.1.1]
    by_cases e : s = v.2.1 0
    · subst e
      refine wp_if_t (nI_le (Nat.le_refl _) (by omega)) (wp_lt ?_)
      rw [nI_1]
      refine hK σ hT ?_
      rw [Nat.sub_self]
      show STC σ (L ++ [])
      rw [List.append_nil]; exact hS
    · have hlt : s < v.2.1 0 := by omega
      refine wp_if_f (nI_ge hlt (by omega)) (wp_ckN rfl (show s < 12 by omega) (by omega) (wp_lt ?_))
      rw [nI_clamp (show s < 2 ^ 31 by omega), hold_bt hx]
      rw [seg_st hlt] at hl hK
      by_cases q : bt (σ.1 20 s) x = true
      · rw [if_pos q]
        refine wp_if_f one_ne (wp_bn ?_)
        have eF : sF v x s = cL v x s := ci_t ((ha s x hlt hx).mp q)
        rw [eF, ← List.append_assoc] at hl hK
        refine wp_mono (c_tellS hv hx hlt hI hg hS (by rw [List.length_append] at hl; omega)) (fun τ hτ => wp_lt ?_)
        rw [nI_1]
        exact ih (s + 1) τ _ (by omega) (by omega) (TF_tr hT hτ.1) (ICT hI hτ.1) (WGT hg hτ.1) (AGT ha hτ.1) hτ.2 hl hK
      · rw [if_neg q]
        refine wp_if_t rfl (wp_lt ?_)
        rw [nI_1]
        have eF : sF v x s = [] := ci_f (fun z => q ((ha s x hlt hx).mpr z))
        rw [eF, List.nil_append] at hl hK
        exact ih (s + 1) σ L (by omega) (by omega) hT hI hg ha hS hl hK
theorem t_7 {v : VT} (hv : IV v) {σ0 : S2} (h0 : IC σ0 v) (hg : WG σ0 v) (ha : AG σ0 v) : ∀ (n x : Nat) (σ : S2) (L : List E4), x ≤ 32 → 32 < x + n → TF σ0 σ → STC σ L → (L ++ seg (fun x => sL v x) x (32 - x)).length < 2 ^ 31 →
    wp (fn_X5_tellAll_7 n σ (nI x)) (fun τ => TF σ0 τ ∧ STC τ (L ++ seg (fun x => sL v x) x (32 - x))) := by
  have h12 := hv.1
  intro n
  induction n with
  | zero => intro k σ L a1 a2; omega
  | succ n ih =>
    intro x σ L hx hin hT hS hl
    rw [fn_X5_tellAll_7]
    by_cases e : x = 32
    · subst e
      refine wp_if_t (by decide) (wp_some ⟨hT, ?_⟩)
      show STC σ (L ++ [])
      rw [List.append_nil]; exact hS
    · refine wp_if_f (show ¬ (32 : Int32) ≤ nI x from nI_ge (b := 32) (by omega) (by omega)) ?_
      rw [seg_st (show x < 32 by omega), ← List.append_assoc] at hl ⊢
      refine t_15 hv (show x < 32 by omega) fu 0 σ L (by omega) (by unfold fu; omega) hT (ICT h0 hT) (WGT hg hT) (AGT ha hT) hS (by rw [List.length_append] at hl; exact Nat.lt_of_le_of_lt (Nat.le_add_right _ _) hl) (fun τ hτ hS2 => ?_)
      exact ih (x + 1) τ _ (by omega) (by omega) hτ hS2 hl
theorem c_tellAll {v : VT} (hv : IV v) {σ0 : S2} (h0 : IC σ0 v) (hg : WG σ0 v) (ha : AG σ0 v) : wp (fn_X5_tellAll σ0) (fun τ => TF σ0 τ ∧ STC τ (AL v)) := by
  unfold fn_X5_tellAll
  refine wp_lt ?_
  have hT : TF σ0 (st σ0 5 0 0) := TF_st TF_rf (by simp)
  have := t_7 hv h0 hg ha fu 0 (st σ0 5 0 0) [] (by omega) (by unfold fu; omega) hT ⟨by rw [st_at, if_pos rfl]; rfl, fun i e he => by simp at he⟩ (AL_len hv)
  exact this
/-- all is worked out -/
def GC (σ : S2) (v : VT) : Prop := STC σ (AL v) ∧ ∀ t, t < v.2.1 0 → ∀ x, x < 32 → (bt (σ.1 19 t) x = true ↔ FIT v t x)
theorem c_workOut {v : VT} (hv : IV v) {σ : S2} (h : IC σ v) (hf : FUR σ v) (hg : σ.1 0 0 = 0 ∨ (σ.1 0 0 = 1 ∧ GC σ v)) : wp (fn_X5_workOut σ) (fun τ => fr [0, 5, 19, 20, 21, 22, 23, 24] σ τ ∧ τ.1 0 0 = 1 ∧ GC τ v) := by
  unfold fn_X5_workOut
  rcases hg with e | ⟨e, hg⟩
  · refine wp_if_t e (wp_bn (wp_mono (c_weighAll hv h hf) (fun τ1 h1 => wp_bn ?_)))
    have hf1 : FUR τ1 v := by unfold FUR gr at hf ⊢; rw [h1.1 10 (by simp)]; exact hf
    refine wp_mono (c_askAll hv (IC19 h h1.1) hf1 h1.2) (fun τ2 h2 => wp_bn ?_)
    refine wp_mono (c_tellAll hv (IC20 (IC19 h h1.1) h2.1) (WG20 h1.2 h2.1 h2.2.1) h2.2.2) (fun τ3 h3 => wp_lt (wp_some ⟨?_, ?_, ?_, ?_⟩))
    · have a1 := fr_up (K' := [0, 5, 19, 20, 21, 22, 23, 24]) h1.1 (fun k hk => by simp at hk ⊢; omega)
      have a2 := fr_up (K' := [0, 5, 19, 20, 21, 22, 23, 24]) h2.1 (fun k hk => by simp at hk ⊢; omega)
      have a3 := fr_up (K' := [0, 5, 19, 20, 21, 22, 23, 24]) h3.1.1 (fun k hk => by simp at hk ⊢; omega)
      exact fr_tr a1 (fr_tr a2 (fr_tr a3 (fr_st (by simp))))
    · rw [st_at, if_pos rfl]
    · refine ⟨?_, fun i e he hi => ?_⟩
      · rw [st_ne (by omega)]; exact h3.2.1
      · rw [st_ne (by omega), st_ne (by omega), st_ne (by omega), st_ne (by omega)]; exact h3.2.2 i e he hi
    · intro t ht x hx
      rw [st_ne (by omega), h3.1.1 19 (by simp), h2.1 19 (by simp)]
      exact h1.2.1 t ht x hx
  · refine wp_if_f (by rw [e]; exact one_ne) (wp_some ⟨fr_rf, e, hg⟩)
