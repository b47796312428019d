/-! what a function comes to -/
def wp {α : Type} (o : Option α) (Q : α → Prop) : Prop := ∃ r, o = some r ∧ Q r
section WPS
variable {α β γ : Type} {Q : α → Prop}
theorem wp_some {r : α} (h : Q r) : wp (some r) Q := ⟨r, rfl, h⟩
theorem wp_mono {o : Option α} {P : α → Prop} (h : wp o P) (hi : ∀ r, P r → Q r) : wp o Q := by
  obtain ⟨r, h1, h2⟩ := h
  exact ⟨r, h1, hi r h2⟩
theorem wp_lt {a : β} {f : β → Option α} (h : wp (f a) Q) : wp (lt a f) Q := h
theorem wp_bn {o : Option β} {f : β → Option α} (h : wp o (fun r => wp (f r) Q)) : wp (bn o f) Q := by
  obtain ⟨r, h1, h2⟩ := h
  rw [h1]; exact h2
theorem wp_bn2 {o : Option (β × γ)} {f : β → γ → Option α} (h : wp o (fun q => wp (f q.1 q.2) Q)) : wp (bn2 o f) Q := by
  obtain ⟨r, h1, h2⟩ := h
  rw [h1]; exact h2
theorem wp_if_t {c : Prop} {inst : Decidable c} {a b : Option α} (hc : c) (h : wp a Q) : wp (@ite _ c inst a b) Q := by rw [if_pos hc]; exact h
theorem wp_if_f {c : Prop} {inst : Decidable c} {a b : Option α} (hc : ¬ c) (h : wp b Q) : wp (@ite _ c inst a b) Q := by rw [if_neg hc]; exact h
theorem wp_ite {c : Prop} {inst : Decidable c} {a b : Option α} (ht : c → wp a Q) (hf : ¬ c → wp b Q) : wp (@ite _ c inst a b) Q := by
  by_cases h : c
  · exact wp_if_t h (ht h)
  · exact wp_if_f h (hf h)
theorem wp_ckN {i n : Nat} {x : Int32} {o : Option α} (hx : x = nI i) (h : i < n) (hn : n < 2 ^ 31) (k : wp o Q) : wp (ck x n o) Q := by
  subst hx
  unfold ck
  exact wp_if_f (nI_in h hn) k
theorem wp_cb {v : Int32} {o : Option α} (h : v = 0 ∨ v = 1) (k : wp o Q) : wp (cb v o) Q := by
  unfold cb
  exact wp_if_t h k
end WPS
/-! numbers -/
theorem ix8 (s p : Nat) : nI s * 8 + nI p = nI (s * 8 + p) := by rw [show (8 : Int32) = nI 8 from rfl, pk_mul, nI_add]
theorem ix40 (s p : Nat) : nI s * 40 + nI p = nI (s * 40 + p) := by rw [show (40 : Int32) = nI 40 from rfl, pk_mul, nI_add]
theorem ix32 (s p : Nat) : 32 * nI s + nI p = nI (32 * s + p) := by rw [show (32 : Int32) = nI 32 from rfl, pk_mul, nI_add]
theorem ixM (s p o : Nat) : 256 * nI s + 32 * nI p + nI o = nI (256 * s + 32 * p + o) := by rw [show (256 : Int32) = nI 256 from rfl, show (32 : Int32) = nI 32 from rfl, pk_mul, pk_mul, nI_add, nI_add]
theorem nI_ne {a b : Nat} (ha : a < 2 ^ 31) (hb : b < 2 ^ 31) (h : a ≠ b) : ¬ nI a = nI b := fun q => h ((nI_eq ha hb).mp q)
theorem ex_step {P : Nat → Prop} {i N : Nat} (h : i < N) : (∃ j, i ≤ j ∧ j < N ∧ P j) ↔ P i ∨ ∃ j, i + 1 ≤ j ∧ j < N ∧ P j := by
  constructor
  · rintro ⟨j, h1, h2, h3⟩
    by_cases q : j = i
    · subst q; exact Or.inl h3
    · exact Or.inr ⟨j, by omega, h2, h3⟩
  · rintro (q | ⟨j, h1, h2, h3⟩)
    · exact ⟨i, Nat.le_refl i, h, q⟩
    · exact ⟨j, by omega, h2, h3⟩
theorem ex_none {P : Nat → Prop} {N : Nat} : ¬ ∃ j, N ≤ j ∧ j < N ∧ P j := by rintro ⟨j, h1, h2, -⟩; omega
theorem bi_ne {b : Bool} : (if b = true then (1 : Int32) else 0) = 0 ↔ b = false := by cases b <;> simp
/-! the state -/
theorem st_ne {σ : S2} {k i k' : Nat} {v : Int32} (h : k' ≠ k) : (st σ k i v).1 k' = σ.1 k' := by simp [st, h]
theorem st_at {σ : S2} {k i j : Nat} {v : Int32} : (st σ k i v).1 k j = if j = i then v else σ.1 k j := by simp [st, upd]
theorem st_2 {σ : S2} {k i : Nat} {v : Int32} : (st σ k i v).2 = σ.2 := rfl
theorem stL_1 {σ : S2} {k i : Nat} {v : Int64} : (stL σ k i v).1 = σ.1 := rfl
theorem stL_at {σ : S2} {k i j : Nat} {v : Int64} : (stL σ k i v).2 k j = if j = i then v else σ.2 k j := by simp [stL, vp_updL]
/-- nothing but the numbers K have changed -/
def fr (K : List Nat) (σ τ : S2) : Prop := (∀ k, k ∉ K → τ.1 k = σ.1 k)
theorem fr_rf {K : List Nat} {σ : S2} : fr K σ σ := fun _ _ => rfl
theorem fr_tr {K : List Nat} {σ τ ρ : S2} (h1 : fr K σ τ) (h2 : fr K τ ρ) : fr K σ ρ := fun k h => (h2 k h).trans (h1 k h)
theorem fr_st {K : List Nat} {σ : S2} {k i : Nat} {v : Int32} (h : k ∈ K) : fr K σ (st σ k i v) := fun k' h' => st_ne (fun q => h' (by rw [q]; exact h))
theorem fr_up {K K' : List Nat} {σ τ : S2} (h : fr K σ τ) (hs : ∀ k, k ∈ K → k ∈ K') : fr K' σ τ := fun k hk => h k (fun q => hk (hs k q))
/-! what the two hold in common: triples; how many shapes, targets, constraints; their rows (0 path; 1, 2, 3 a target's shape, kind, a; 4, 5, 6, 7 a constraint's shape, kind, a, b) -/
abbrev VT : Type := (Nat → Nat → Nat → Bool) × (Nat → Nat) × (Nat → Nat → Int32)
def TR (v : VT) (s p o : Nat) : Prop := s < 20 ∧ v.1 s p o = true
def IC (σ : S2) (v : VT) : Prop :=
  (σ.1 2 0 = nI (v.2.1 0) ∧ σ.1 3 0 = nI (v.2.1 1) ∧ σ.1 4 0 = nI (v.2.1 2)) ∧
  (∀ s p o, s < 20 → p < 8 → o < 32 → bt (σ.1 6 (s * 8 + p)) o = v.1 s p o) ∧
  (∀ s p o, s < 32 → p < 8 → o < 32 → (bt (σ.1 7 (o * 8 + p)) s = true ↔ TR v s p o)) ∧
  (∀ i, i < v.2.1 0 → σ.1 8 i = v.2.2 0 i) ∧
  (∀ i, i < v.2.1 1 → σ.1 11 i = v.2.2 1 i ∧ σ.1 12 i = v.2.2 2 i ∧ σ.1 13 i = v.2.2 3 i) ∧
  (∀ i, i < v.2.1 2 → σ.1 14 i = v.2.2 4 i ∧ σ.1 15 i = v.2.2 5 i ∧ σ.1 16 i = v.2.2 6 i ∧ σ.1 17 i = v.2.2 7 i)
def IM (μ : S2) (v : VT) : Prop :=
  (μ.1 21 0 = nI (v.2.1 0) ∧ μ.1 22 0 = nI (v.2.1 1) ∧ μ.1 23 0 = nI (v.2.1 2)) ∧
  (∀ s p o, s < 20 → p < 8 → o < 32 → μ.1 1 (256 * s + 32 * p + o) = if v.1 s p o = true then 1 else 0) ∧
  (∀ i, i < v.2.1 0 → μ.1 2 i = v.2.2 0 i) ∧
  (∀ i, i < v.2.1 1 → μ.1 4 i = v.2.2 1 i ∧ μ.1 5 i = v.2.2 2 i ∧ μ.1 6 i = v.2.2 3 i) ∧
  (∀ i, i < v.2.1 2 → μ.1 7 i = v.2.2 4 i ∧ μ.1 8 i = v.2.2 5 i ∧ μ.1 9 i = v.2.2 6 i ∧ μ.1 10 i = v.2.2 7 i)
/-- a constraint's numbers are as they have to be -/
def okC (ns : Nat) (k : Nat) (a b : Int32) : Prop :=
  k < 18 ∧ (k = 0 → ∃ j, j < 20 ∧ a = nI j) ∧ (k = 1 → ∃ j, j < 4 ∧ a = nI j) ∧ (k = 5 → ∃ j, j < 32 ∧ a = nI j) ∧ (6 ≤ k → k ≤ 8 → ∃ j, j < 8 ∧ a = nI j) ∧ (11 ≤ k → ∃ j, j < ns ∧ a = nI j) ∧ (12 ≤ k → k ≤ 14 → ∃ j, j < ns ∧ b = nI j) ∧ (k = 17 → ∃ j, j < 256 ∧ b = nI j)
def okG (k : Nat) (a : Nat) : Prop := k < 4 ∧ (k = 0 → a < 32) ∧ (k = 1 → a < 20) ∧ (2 ≤ k → a < 8)
def IV (v : VT) : Prop := v.2.1 0 ≤ 12 ∧ v.2.1 1 ≤ 24 ∧ v.2.1 2 ≤ 40 ∧
  (∀ i, i < v.2.1 0 → v.2.2 0 i = -1 ∨ ∃ q, q < 16 ∧ v.2.2 0 i = nI q) ∧
  (∀ i, i < v.2.1 1 → ∃ s k a, s < v.2.1 0 ∧ okG k a ∧ v.2.2 1 i = nI s ∧ v.2.2 2 i = nI k ∧ v.2.2 3 i = nI a) ∧
  (∀ i, i < v.2.1 2 → ∃ s k, s < v.2.1 0 ∧ okC (v.2.1 0) k (v.2.2 6 i) (v.2.2 7 i) ∧ v.2.2 4 i = nI s ∧ v.2.2 5 i = nI k)
theorem IC_fr {K : List Nat} {σ τ : S2} {v : VT} (h : IC σ v) (hf : fr K σ τ) (hK : ∀ k, k ∈ K → k = 0 ∨ k = 1 ∨ k = 5 ∨ k = 9 ∨ k = 10 ∨ 18 ≤ k) : IC τ v := by
  have e : ∀ k, ¬ (k = 0 ∨ k = 1 ∨ k = 5 ∨ k = 9 ∨ k = 10 ∨ 18 ≤ k) → τ.1 k = σ.1 k := fun k hk => hf k (fun q => hk (hK k q))
  unfold IC at h ⊢
  rw [e 2 (by omega), e 3 (by omega), e 4 (by omega), e 6 (by omega), e 7 (by omega), e 8 (by omega), e 11 (by omega), e 12 (by omega), e 13 (by omega), e 14 (by omega), e 15 (by omega), e 16 (by omega), e 17 (by omega)]
  exact h
theorem IM_fr {K : List Nat} {σ τ : S2} {v : VT} (h : IM σ v) (hf : fr K σ τ) (hK : ∀ k, k ∈ K → k = 3 ∨ (11 ≤ k ∧ k ≤ 20) ∨ 24 ≤ k) : IM τ v := by
  have e : ∀ k, ¬ (k = 3 ∨ (11 ≤ k ∧ k ≤ 20) ∨ 24 ≤ k) → τ.1 k = σ.1 k := fun k hk => hf k (fun q => hk (hK k q))
  unfold IM at h ⊢
  rw [e 21 (by omega), e 22 (by omega), e 23 (by omega), e 1 (by omega), e 2 (by omega), e 4 (by omega), e 5 (by omega), e 6 (by omega), e 7 (by omega), e 8 (by omega), e 9 (by omega), e 10 (by omega)]
  exact h
/-! triples read -/
theorem in_t {x l h : Int32} (h1 : ¬ x < l) (h2 : ¬ h < x) : fn_X6_in x l h = 1 := by unfold fn_X6_in; rw [if_neg h1, if_neg h2]
theorem node_t {s : Nat} (h : s < 20) : fn_X0_isNode (nI s) = 1 := by
  unfold fn_X0_isNode; rw [if_neg (nI_pos (by omega)), if_neg (show ¬ (20 : Int32) ≤ nI s from nI_ge (b := 20) h (by omega))]
theorem node_f {s : Nat} (h : 20 ≤ s) (hs : s < 2 ^ 31) : fn_X0_isNode (nI s) = 0 := by
  unfold fn_X0_isNode; rw [if_neg (nI_pos hs), if_pos (show (20 : Int32) ≤ nI s from nI_le h hs)]
theorem pred_t {s : Nat} (h : s < 8) : fn_X0_isPredicate (nI s) = 1 := by
  unfold fn_X0_isPredicate; rw [if_neg (nI_pos (by omega)), if_neg (show ¬ (8 : Int32) ≤ nI s from nI_ge (b := 8) h (by omega))]
theorem term_t {s : Nat} (h : s < 32) : fn_X0_isTerm (nI s) = 1 := by
  unfold fn_X0_isTerm; rw [if_neg (nI_pos (by omega)), if_neg (show ¬ (32 : Int32) ≤ nI s from nI_ge (b := 32) h (by omega))]
theorem hold_bt {x : Int32} {n : Nat} (h : n < 32) : fn_X0_holdsBit x (nI n) = if bt x n = true then 1 else 0 := by
  unfold fn_X0_holdsBit
  by_cases q : bt x n = true
  · rw [if_pos q, if_neg (fun z => by rw [b_hold x h, q] at z; cases z)]
  · rw [if_neg q, if_pos ((b_hold x h).mpr (by simpa using q))]
theorem one_ne : ¬ (1 : Int32) = 0 := by decide
theorem c_ahead {σ : S2} {v : VT} (h : IC σ v) {s p : Nat} (hs : s < 32) (hp : p < 8) : wp (fn_X1_termsAhead σ (nI s) (nI p)) (fun r => ∀ o, o < 32 → (bt r o = true ↔ TR v s p o)) := by
  unfold fn_X1_termsAhead
  refine wp_lt ?_
  by_cases q : s < 20
  · rw [node_t q, pred_t hp, ix8]
    refine wp_if_f one_ne (wp_lt (wp_if_f one_ne (wp_ckN rfl (by omega) (by omega) (wp_some ?_))))
    intro o ho
    rw [nI_clamp (by omega), h.2.1 s p o q hp ho]
    exact ⟨fun z => ⟨q, z⟩, fun z => z.2⟩
  · rw [node_f (by omega) (by omega)]
    refine wp_if_t rfl (wp_some ?_)
    intro o ho
    rw [b_0]
    exact ⟨fun z => absurd z Bool.false_ne_true, fun z => absurd z.1 q⟩
theorem c_back {σ : S2} {v : VT} (h : IC σ v) {o p : Nat} (ho : o < 32) (hp : p < 8) : wp (fn_X1_termsBack σ (nI o) (nI p)) (fun r => ∀ s, s < 32 → (bt r s = true ↔ TR v s p o)) := by
  unfold fn_X1_termsBack
  refine wp_lt ?_
  rw [term_t ho, pred_t hp, ix8]
  refine wp_if_f one_ne (wp_lt (wp_if_f one_ne (wp_ckN rfl (by omega) (by omega) (wp_some ?_))))
  intro s hs
  rw [nI_clamp (by omega)]
  exact h.2.2.1 s p o hs hp ho
theorem m_leads {μ : S2} {v : VT} (h : IM μ v) {s p o : Nat} (hs : s < 32) (hp : p < 8) (ho : o < 32) : wp (fn_X6_leads μ (nI s) (nI p) (nI o)) (fun r => (r = 1 ∧ TR v s p o) ∨ (r = 0 ∧ ¬ TR v s p o)) := by
  unfold fn_X6_leads
  by_cases q : s < 20
  · refine wp_if_f (nI_ge (b := 20) q (by omega)) ?_
    rw [ixM]
    refine wp_ckN rfl (by omega) (by omega) ?_
    rw [nI_clamp (by omega), h.2.1 s p o q hp ho]
    by_cases z : v.1 s p o = true
    · rw [if_pos z]
      exact wp_if_f one_ne (wp_some (Or.inl ⟨rfl, q, z⟩))
    · rw [if_neg z]
      exact wp_if_t rfl (wp_some (Or.inr ⟨rfl, fun y => z y.2⟩))
  · exact wp_if_t (nI_le (a := 20) (by omega) (by omega)) (wp_some (Or.inr ⟨rfl, fun y => q y.1⟩))
/-- v is a value of x for shape s -/
def VAL (v : VT) (s x w : Nat) : Prop := (v.2.2 0 s = -1 ∧ w = x) ∨ ∃ q, v.2.2 0 s = nI q ∧ ((q < 8 ∧ TR v x q w) ∨ (8 ≤ q ∧ q < 16 ∧ TR v w (q - 8) x))
theorem nI_m1 {q : Nat} (h : q < 2 ^ 31) : ¬ nI q = -1 := by
  intro z
  have := nI_toInt h
  rw [z, show (-1 : Int32).toInt = -1 from by decide] at this
  omega
theorem sub8 {q : Nat} (h : 8 ≤ q) : nI q - 8 = nI (q - 8) := pk_sub (a := q) (b := 8) h
theorem c_byPath {σ : S2} {v : VT} (h : IC σ v) (hv : IV v) {x s : Nat} (hx : x < 32) (hs : s < v.2.1 0) : wp (fn_X1_byPath σ (nI x) (v.2.2 0 s)) (fun r => ∀ w, w < 32 → (bt r w = true ↔ VAL v s x w)) := by
  unfold fn_X1_byPath
  rcases hv.2.2.2.1 s hs with e | ⟨q, hq, e⟩
  · refine wp_if_t e (wp_some ?_)
    intro w hw
    rw [b_one x hx hw]
    constructor
    · intro z; exact Or.inl ⟨e, by simpa using z⟩
    · rintro (z | ⟨q, z, z2⟩)
      · simpa using z.2
      · rw [e] at z
        exact absurd z.symm (nI_m1 (q := q) (by rcases z2 with z2 | z2 <;> omega))
  · rw [e]
    refine wp_if_f (nI_m1 (by omega)) ?_
    have key : ∀ w, VAL v s x w ↔ ((q < 8 ∧ TR v x q w) ∨ (8 ≤ q ∧ q < 16 ∧ TR v w (q - 8) x)) := by
      intro w
      constructor
      · rintro (z | ⟨q2, z, y⟩)
        · rw [e] at z; exact absurd z.1 (nI_m1 (by omega))
        · have : q2 < 16 := by rcases y with y | y <;> omega
          rw [e] at z
          have e2 := (nI_eq (by omega) (by omega)).mp z
          subst e2
          exact y
      · intro z; exact Or.inr ⟨q, e, z⟩
    by_cases h8 : 8 ≤ q
    · refine wp_if_t (nI_le (a := 8) h8 (by omega)) (wp_bn ?_)
      rw [sub8 h8]
      refine wp_mono (c_back h hx (show q - 8 < 8 by omega)) (fun r hr => wp_some ?_)
      intro w hw
      rw [hr w hw, key w]
      constructor
      · intro z; exact Or.inr ⟨h8, hq, z⟩
      · rintro (z | z)
        · omega
        · exact z.2.2
    · refine wp_if_f (nI_ge (b := 8) (by omega) (by omega)) (wp_bn ?_)
      refine wp_mono (c_ahead h hx (show q < 8 by omega)) (fun r hr => wp_some ?_)
      intro w hw
      rw [hr w hw, key w]
      constructor
      · intro z; exact Or.inl ⟨by omega, z⟩
      · rintro (z | z)
        · exact z.2
        · omega
theorem m_isValue {μ : S2} {v : VT} (h : IM μ v) (hv : IV v) {x s w : Nat} (hx : x < 32) (hs : s < v.2.1 0) (hw : w < 32) : wp (fn_X6_isValue μ (nI x) (nI s) (nI w)) (fun r => (r = 1 ∧ VAL v s x w) ∨ (r = 0 ∧ ¬ VAL v s x w)) := by
  unfold fn_X6_isValue
  have h12 := hv.1
  refine wp_ckN rfl (show s < 12 by omega) (by omega) (wp_lt ?_)
  rw [nI_clamp (by omega), h.2.2.1 s hs]
  rcases hv.2.2.2.1 s hs with e | ⟨q, hq, e⟩
  · rw [e]
    refine wp_if_f (by decide) ?_
    by_cases z : w = x
    · subst z
      exact wp_if_t rfl (wp_some (Or.inl ⟨rfl, Or.inl ⟨e, rfl⟩⟩))
    · refine wp_if_f (nI_ne (by omega) (by omega) z) (wp_some (Or.inr ⟨rfl, ?_⟩))
      rintro (y | ⟨q, y, y2⟩)
      · exact z y.2
      · rw [e] at y
        exact nI_m1 (q := q) (by rcases y2 with y2 | y2 <;> omega) y.symm
  · have key : VAL v s x w ↔ ((q < 8 ∧ TR v x q w) ∨ (8 ≤ q ∧ q < 16 ∧ TR v w (q - 8) x)) := by
      constructor
      · rintro (z | ⟨q2, z, y⟩)
        · rw [e] at z; exact absurd z.1 (nI_m1 (by omega))
        · have : q2 < 16 := by rcases y with y | y <;> omega
          rw [e] at z
          have e2 := (nI_eq (by omega) (by omega)).mp z
          subst e2
          exact y
      · intro z; exact Or.inr ⟨q, e, z⟩
    rw [e, key]
    refine wp_if_t (nI_pos' (by omega)) ?_
    by_cases h8 : 8 ≤ q
    · refine wp_if_t (nI_le (a := 8) h8 (by omega)) (wp_bn ?_)
      rw [sub8 h8]
      refine wp_mono (m_leads h hw (show q - 8 < 8 by omega) hx) (fun r hr => wp_cb ?_ (wp_some ?_))
      · rcases hr with hr | hr
        · exact Or.inr hr.1
        · exact Or.inl hr.1
      · rcases hr with hr | hr
        · exact Or.inl ⟨hr.1, Or.inr ⟨h8, hq, hr.2⟩⟩
        · refine Or.inr ⟨hr.1, ?_⟩
          rintro (z | z)
          · omega
          · exact hr.2 z.2.2
    · refine wp_if_f (nI_ge (b := 8) (by omega) (by omega)) (wp_bn ?_)
      refine wp_mono (m_leads h hx (show q < 8 by omega) hw) (fun r hr => wp_cb ?_ (wp_some ?_))
      · rcases hr with hr | hr
        · exact Or.inr hr.1
        · exact Or.inl hr.1
      · rcases hr with hr | hr
        · exact Or.inl ⟨hr.1, Or.inl ⟨by omega, hr.2⟩⟩
        · refine Or.inr ⟨hr.1, ?_⟩
          rintro (z | z)
          · exact hr.2 z.2
          · omega
