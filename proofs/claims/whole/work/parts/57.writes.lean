/-! triples come and go -/
theorem cnt_up {f : Nat → Bool} {i : Nat} (hf : f i = false) : ∀ {n : Nat}, i < n → cnt (fun j => if j = i then true else f j) n = cnt f n + 1 := by
  intro n
  induction n with
  | zero => intro h; omega
  | succ n ih =>
    intro h
    by_cases e : i = n
    · subst e
      unfold cnt
      rw [if_pos rfl, hf, cnt_congr (f := fun j => if j = i then true else f j) (g := f) (n := i) (fun j hj => if_neg (by omega))]
      simp
    · unfold cnt
      rw [ih (by omega)]
      have : ¬ n = i := fun z => e z.symm
      simp only [this, if_false]
      omega
theorem cnt_down {f : Nat → Bool} {i n : Nat} (hf : f i = true) (h : i < n) : cnt f n = cnt (fun j => if j = i then false else f j) n + 1 := by
  rw [← cnt_up (f := fun j => if j = i then false else f j) (i := i) (by simp) h]
  apply cnt_congr
  intro j hj
  by_cases e : j = i
  · simp [e, hf]
  · simp [e]
def setT (f : Nat → Nat → Nat → Bool) (s p o : Nat) (b : Bool) : Nat → Nat → Nat → Bool := fun s' p' o' => if s' = s ∧ p' = p ∧ o' = o then b else f s' p' o'
theorem tri_eval {a b c : Int32} : (fn_X0_isTriple a b c = 0 ∧ fn_X6_isTriple a b c = 0) ∨ ∃ s p o, s < 20 ∧ p < 8 ∧ o < 32 ∧ a = nI s ∧ b = nI p ∧ c = nI o ∧ fn_X0_isTriple a b c = 1 ∧ fn_X6_isTriple a b c = 1 := by
  unfold fn_X0_isTriple fn_X6_isTriple
  simp only [lt]
  rcases arg_node a with ⟨h1, h2⟩ | ⟨s, hs, e1, h1, h2⟩
  · rw [h1, h2]; exact Or.inl ⟨rfl, rfl⟩
  · rw [h1, h2, if_neg one_ne, if_neg one_ne]
    rcases arg_pred b with ⟨h3, h4⟩ | ⟨p, hp, e2, h3, h4⟩
    · rw [h3, h4]; exact Or.inl ⟨rfl, rfl⟩
    · rw [h3, h4, if_neg one_ne, if_neg one_ne]
      rcases arg_term c with ⟨h5, h6⟩ | ⟨o, ho, e3, h5, h6⟩
      · rw [h5, h6]; exact Or.inl ⟨rfl, rfl⟩
      · rw [h5, h6]
        exact Or.inr ⟨s, p, o, hs, hp, ho, e1, e2, e3, rfl, rfl⟩
theorem c_has {σ : S2} {v : VT} (h : IC σ v) {s p o : Nat} (hs : s < 20) (hp : p < 8) (ho : o < 32) : fn_X1_has σ (nI s) (nI p) (nI o) = some (if v.1 s p o = true then 1 else 0) := by
  unfold fn_X1_has
  obtain ⟨r, h1, h2⟩ := c_ahead h (show s < 32 by omega) hp
  rw [h1]
  simp only [bn, lt]
  rw [hold_bt ho]
  have e : (bt r o = true) ↔ (v.1 s p o = true) := (h2 o ho).trans ⟨fun z => z.2, fun z => ⟨hs, z⟩⟩
  by_cases q : v.1 s p o = true
  · rw [if_pos q, if_pos (e.mpr q)]
  · rw [if_neg q, if_neg (fun z => q (e.mp z))]
theorem m_has {μ : S2} {v : VT} (h : IM μ v) {s p o : Nat} (hs : s < 20) (hp : p < 8) (ho : o < 32) : fn_X6_leads μ (nI s) (nI p) (nI o) = some (if v.1 s p o = true then 1 else 0) := by
  obtain ⟨r, h1, h2⟩ := m_leads h (show s < 32 by omega) hp ho
  rw [h1]
  rcases h2 with ⟨e, q⟩ | ⟨e, q⟩
  · rw [e, if_pos q.2]
  · rw [e, if_neg (fun z => q ⟨hs, z⟩)]
/-- a bit of the two rows of triples is set or taken away -/
theorem IC_tri {σ τ : S2} {v : VT} (h : IC σ v) {s p o : Nat} (hs : s < 20) (hp : p < 8) (ho : o < 32) (b : Bool) {x6 x7 : Int32}
    (hk : ∀ k, k ≠ 0 → k ≠ 1 → k ≠ 6 → k ≠ 7 → τ.1 k = σ.1 k) (h6 : ∀ j, τ.1 6 j = if j = s * 8 + p then x6 else σ.1 6 j) (h7 : ∀ j, τ.1 7 j = if j = o * 8 + p then x7 else σ.1 7 j)
    (g6 : ∀ i, i < 32 → bt x6 i = if i = o then b else bt (σ.1 6 (s * 8 + p)) i) (g7 : ∀ i, i < 32 → bt x7 i = if i = s then b else bt (σ.1 7 (o * 8 + p)) i) : IC τ (setT v.1 s p o b, v.2) := by
  obtain ⟨h1, h2, h3, h4, h5, h9⟩ := h
  unfold IC
  rw [hk 2 (by omega) (by omega) (by omega) (by omega), hk 3 (by omega) (by omega) (by omega) (by omega), hk 4 (by omega) (by omega) (by omega) (by omega), hk 8 (by omega) (by omega) (by omega) (by omega), hk 11 (by omega) (by omega) (by omega) (by omega), hk 12 (by omega) (by omega) (by omega) (by omega), hk 13 (by omega) (by omega) (by omega) (by omega), hk 14 (by omega) (by omega) (by omega) (by omega), hk 15 (by omega) (by omega) (by omega) (by omega), hk 16 (by omega) (by omega) (by omega) (by omega), hk 17 (by omega) (by omega) (by omega) (by omega)]
  refine ⟨h1, ?_, ?_, h4, h5, h9⟩
  · intro s' p' o' hs' hp' ho'
    rw [h6]
    show _ = setT v.1 s p o b s' p' o'
    unfold setT
    by_cases e : s' * 8 + p' = s * 8 + p
    · have e1 : s' = s := by omega
      have e2 : p' = p := by omega
      subst e1
      subst e2
      rw [if_pos rfl, g6 o' ho']
      by_cases e3 : o' = o
      · rw [if_pos e3, if_pos ⟨rfl, rfl, e3⟩]
      · rw [if_neg e3, if_neg (fun z => e3 z.2.2), h2 s' p' o' hs' hp' ho']
    · rw [if_neg e, if_neg (fun z => e (by rw [z.1, z.2.1])), h2 s' p' o' hs' hp' ho']
  · intro s' p' o' hs' hp' ho'
    rw [h7]
    show _ ↔ (s' < 20 ∧ setT v.1 s p o b s' p' o' = true)
    unfold setT
    by_cases e : o' * 8 + p' = o * 8 + p
    · have e1 : o' = o := by omega
      have e2 : p' = p := by omega
      subst e1
      subst e2
      rw [if_pos rfl, g7 s' hs']
      by_cases e3 : s' = s
      · rw [if_pos e3, if_pos ⟨e3, rfl, rfl⟩]
        exact ⟨fun z => ⟨by omega, z⟩, fun z => z.2⟩
      · rw [if_neg e3, if_neg (fun z => e3 z.1)]
        exact h3 s' p' o' hs' hp' ho'
    · rw [if_neg e, if_neg (fun z => e (by rw [z.2.1, z.2.2]))]
      exact h3 s' p' o' hs' hp' ho'
theorem IM_tri {μ τ : S2} {v : VT} (h : IM μ v) {s p o : Nat} (hs : s < 20) (hp : p < 8) (ho : o < 32) (b : Bool)
    (hk : ∀ k, k ≠ 1 → k ≠ 20 → k ≠ 24 → τ.1 k = μ.1 k) (h1 : ∀ j, τ.1 1 j = if j = 256 * s + 32 * p + o then (if b = true then 1 else 0) else μ.1 1 j) : IM τ (setT v.1 s p o b, v.2) := by
  obtain ⟨g1, g2, g3, g4, g5⟩ := h
  unfold IM
  rw [hk 21 (by omega) (by omega) (by omega), hk 22 (by omega) (by omega) (by omega), hk 23 (by omega) (by omega) (by omega), hk 2 (by omega) (by omega) (by omega), hk 4 (by omega) (by omega) (by omega), hk 5 (by omega) (by omega) (by omega), hk 6 (by omega) (by omega) (by omega), hk 7 (by omega) (by omega) (by omega), hk 8 (by omega) (by omega) (by omega), hk 9 (by omega) (by omega) (by omega), hk 10 (by omega) (by omega) (by omega)]
  refine ⟨g1, ?_, g3, g4, g5⟩
  intro s' p' o' hs' hp' ho'
  rw [h1]
  show _ = if setT v.1 s p o b s' p' o' = true then 1 else 0
  by_cases e : 256 * s' + 32 * p' + o' = 256 * s + 32 * p + o
  · rw [if_pos e, show setT v.1 s p o b s' p' o' = b from if_pos ⟨by omega, by omega, by omega⟩]
  · rw [if_neg e, show setT v.1 s p o b s' p' o' = v.1 s' p' o' from if_neg (fun z => e (by rw [z.1, z.2.1, z.2.2])), g2 s' p' o' hs' hp' ho']
/-- how many triples there are -/
def TC (σ μ : S2) : Prop := ∃ n, n ≤ 100 ∧ σ.1 1 0 = nI n ∧ μ.1 20 0 = nI n ∧ n = cnt (fun j => decide (μ.1 1 j = 1)) 5120
theorem b_set {x : Int32} {n : Nat} (hn : n < 32) : ∀ i, i < 32 → bt (x ||| (1 <<< (nI n &&& 31))) i = if i = n then true else bt x i := by
  intro i hi
  rw [b_or, b_one n hn hi]
  by_cases e : i = n <;> simp [e]
theorem b_clr {x : Int32} {n : Nat} (hn : n < 32) : ∀ i, i < 32 → bt (x &&& ((1 <<< (nI n &&& 31)) ^^^ (-1))) i = if i = n then false else bt x i := by
  intro i hi
  rw [b_and, b_not _ hi, b_one n hn hi]
  by_cases e : i = n <;> simp [e]
theorem op_triple {σ μ : S2} {v : VT} (h : IC σ v) (hM : IM μ v) (ht : TC σ μ) (a b c : Int32) : ∃ r σ' μ', fn_X0_triple σ a b c = some (r, σ') ∧ fn_X6_triple μ a b c = some (r, μ') ∧
    ((σ' = σ ∧ μ' = μ) ∨ ∃ w : VT, w.2 = v.2 ∧ IC σ' w ∧ IM μ' w ∧ TC σ' μ' ∧ fr [0, 1, 6, 7] σ σ' ∧ fr [1, 20, 24] μ μ' ∧ σ'.1 0 0 = 0 ∧ μ'.1 24 0 = 0) := by
  unfold fn_X0_triple fn_X6_triple
  simp only [lt]
  rcases tri_eval (a := a) (b := b) (c := c) with ⟨h1, h2⟩ | ⟨s, p, o, hs, hp, ho, e1, e2, e3, h1, h2⟩
  · rw [h1, h2, if_pos rfl, if_pos rfl]
    exact ⟨_, _, _, rfl, rfl, Or.inl ⟨rfl, rfl⟩⟩
  · rw [h1, h2, if_neg one_ne, if_neg one_ne]
    have hT := h1
    subst e1
    subst e2
    subst e3
    rw [c_has h hs hp ho, m_has hM hs hp ho]
    simp only [bn]
    obtain ⟨n, hn, q1, q2, q3⟩ := ht
    by_cases q : v.1 s p o = true
    · rw [if_pos q, if_neg one_ne, if_neg one_ne]
      exact ⟨_, _, _, rfl, rfl, Or.inl ⟨rfl, rfl⟩⟩
    · rw [if_neg q, if_pos rfl, if_pos rfl, q1, q2]
      by_cases z : n = 100
      · subst z
        rw [if_neg (show ¬ nI 100 < 100 from by decide), if_pos (show nI 100 = 100 from rfl)]
        exact ⟨_, _, _, rfl, rfl, Or.inl ⟨rfl, rfl⟩⟩
      · rw [if_pos (show nI n < 100 from nI_lt (b := 100) (by omega) (by omega)), if_neg (show ¬ nI n = 100 from nI_ne (b := 100) (by omega) (by omega) z)]
        unfold fn_X1_put
        simp only [lt]
        rw [hT, if_neg one_ne, ix8, ix8, ixM]
        simp only [ck, nI_in (show s * 8 + p < 160 by omega) (by omega), nI_in (show o * 8 + p < 256 by omega) (by omega), nI_in (show 256 * s + 32 * p + o < 5120 by omega) (by omega), if_false]
        rw [nI_clamp (show s * 8 + p < 2 ^ 31 by omega), nI_clamp (show o * 8 + p < 2 ^ 31 by omega), nI_clamp (show 256 * s + 32 * p + o < 2 ^ 31 by omega)]
        refine ⟨_, _, _, rfl, rfl, Or.inr ⟨(setT v.1 s p o true, v.2), rfl, ?_, ?_, ?_, ?_, ?_, ?_, ?_⟩⟩
        · refine IC_tri h hs hp ho true (x6 := σ.1 6 (s * 8 + p) ||| (1 <<< (nI o &&& 31))) (x7 := σ.1 7 (o * 8 + p) ||| (1 <<< (nI s &&& 31))) ?_ ?_ ?_ (b_set ho) (b_set (by omega))
          · intro k k0 k1 k6 k7
            rw [st_ne k0, st_ne k1, st_ne k7, st_ne k6]
          · intro j
            rw [st_ne (by omega), st_ne (by omega), st_ne (by omega), st_at]
          · intro j
            rw [st_ne (by omega), st_ne (by omega), st_at, st_ne (by omega)]
        · refine IM_tri hM hs hp ho true ?_ ?_
          · intro k k1 k20 k24
            rw [st_ne k24, st_ne k20, st_ne k1]
          · intro j
            rw [st_ne (by omega), st_ne (by omega), st_at]
            rfl
        · refine ⟨n + 1, by omega, ?_, ?_, ?_⟩
          · rw [st_ne (by omega), st_at, if_pos rfl, st_ne (by omega), st_ne (by omega), q1, nI_1]
          · rw [st_ne (by omega), st_at, if_pos rfl, st_ne (by omega), q2, nI_1]
          · rw [q3, ← cnt_up (f := fun j => decide (μ.1 1 j = 1)) (i := 256 * s + 32 * p + o) (by
              rw [hM.2.1 s p o hs hp ho, if_neg q]; decide) (by omega)]
            apply cnt_congr
            intro j hj
            rw [st_ne (by omega), st_ne (by omega), st_at]
            by_cases e : j = 256 * s + 32 * p + o
            · rw [if_pos e, if_pos e]; decide
            · rw [if_neg e, if_neg e]
        · exact fr_tr (fr_st (by simp)) (fr_tr (fr_st (by simp)) (fr_tr (fr_st (by simp)) (fr_st (by simp))))
        · exact fr_tr (fr_st (by simp)) (fr_tr (fr_st (by simp)) (fr_st (by simp)))
        · rw [st_at, if_pos rfl]
        · rw [st_at, if_pos rfl]
theorem op_drop {σ μ : S2} {v : VT} (h : IC σ v) (hM : IM μ v) (ht : TC σ μ) (a b c : Int32) : ∃ r σ' μ', fn_X0_drop σ a b c = some (r, σ') ∧ fn_X6_drop μ a b c = some (r, μ') ∧
    ((σ' = σ ∧ μ' = μ) ∨ ∃ w : VT, w.2 = v.2 ∧ IC σ' w ∧ IM μ' w ∧ TC σ' μ' ∧ fr [0, 1, 6, 7] σ σ' ∧ fr [1, 20, 24] μ μ' ∧ σ'.1 0 0 = 0 ∧ μ'.1 24 0 = 0) := by
  unfold fn_X0_drop fn_X6_drop
  simp only [lt]
  rcases tri_eval (a := a) (b := b) (c := c) with ⟨h1, h2⟩ | ⟨s, p, o, hs, hp, ho, e1, e2, e3, h1, h2⟩
  · rw [h1, h2, if_pos rfl, if_pos rfl]
    exact ⟨_, _, _, rfl, rfl, Or.inl ⟨rfl, rfl⟩⟩
  · rw [h1, h2, if_neg one_ne, if_neg one_ne]
    have hT := h1
    subst e1
    subst e2
    subst e3
    rw [c_has h hs hp ho, m_has hM hs hp ho]
    simp only [bn]
    obtain ⟨n, hn, q1, q2, q3⟩ := ht
    by_cases q : v.1 s p o = true
    · rw [if_pos q, if_neg one_ne, if_neg one_ne]
      unfold fn_X1_takeOut
      simp only [lt]
      rw [hT, if_neg one_ne, ix8, ix8, ixM]
      simp only [ck, nI_in (show s * 8 + p < 160 by omega) (by omega), nI_in (show o * 8 + p < 256 by omega) (by omega), nI_in (show 256 * s + 32 * p + o < 5120 by omega) (by omega), if_false]
      rw [nI_clamp (show s * 8 + p < 2 ^ 31 by omega), nI_clamp (show o * 8 + p < 2 ^ 31 by omega), nI_clamp (show 256 * s + 32 * p + o < 2 ^ 31 by omega)]
      have hcd := cnt_down (f := fun j => decide (μ.1 1 j = 1)) (i := 256 * s + 32 * p + o) (n := 5120) (by rw [hM.2.1 s p o hs hp ho, if_pos q]; decide) (by omega)
      refine ⟨_, _, _, rfl, rfl, Or.inr ⟨(setT v.1 s p o false, v.2), rfl, ?_, ?_, ?_, ?_, ?_, ?_, ?_⟩⟩
      · refine IC_tri h hs hp ho false (x6 := σ.1 6 (s * 8 + p) &&& ((1 <<< (nI o &&& 31)) ^^^ (-1))) (x7 := σ.1 7 (o * 8 + p) &&& ((1 <<< (nI s &&& 31)) ^^^ (-1))) ?_ ?_ ?_ (b_clr ho) (b_clr (by omega))
        · intro k k0 k1 k6 k7
          rw [st_ne k0, st_ne k1, st_ne k7, st_ne k6]
        · intro j
          rw [st_ne (by omega), st_ne (by omega), st_ne (by omega), st_at]
        · intro j
          rw [st_ne (by omega), st_ne (by omega), st_at, st_ne (by omega)]
      · refine IM_tri hM hs hp ho false ?_ ?_
        · intro k k1 k20 k24
          rw [st_ne k24, st_ne k20, st_ne k1]
        · intro j
          rw [st_ne (by omega), st_ne (by omega), st_at]
          rfl
      · refine ⟨n - 1, by omega, ?_, ?_, ?_⟩
        · rw [st_ne (by omega), st_at, if_pos rfl, st_ne (by omega), st_ne (by omega), q1]
          exact pk_sub (a := n) (b := 1) (by omega)
        · rw [st_ne (by omega), st_at, if_pos rfl, st_ne (by omega), q2]
          exact pk_sub (a := n) (b := 1) (by omega)
        · rw [q3, hcd, Nat.add_sub_cancel]
          apply cnt_congr
          intro j hj
          rw [st_ne (by omega), st_ne (by omega), st_at]
          by_cases e : j = 256 * s + 32 * p + o
          · rw [if_pos e, if_pos e]; decide
          · rw [if_neg e, if_neg e]
      · exact fr_tr (fr_st (by simp)) (fr_tr (fr_st (by simp)) (fr_tr (fr_st (by simp)) (fr_st (by simp))))
      · exact fr_tr (fr_st (by simp)) (fr_tr (fr_st (by simp)) (fr_st (by simp)))
      · rw [st_at, if_pos rfl]
      · rw [st_at, if_pos rfl]
    · rw [if_neg q, if_pos rfl, if_pos rfl]
      exact ⟨_, _, _, rfl, rfl, Or.inl ⟨rfl, rfl⟩⟩
