/-! classes -/
theorem cnt_lt {f g : Nat → Bool} : ∀ {n : Nat}, (∀ i, i < n → f i = true → g i = true) → (∃ i, i < n ∧ g i = true ∧ ¬ f i = true) → cnt f n + 1 ≤ cnt g n := by
  intro n
  induction n with
  | zero => rintro - ⟨i, h, -⟩; omega
  | succ n ih =>
    intro h1 h2
    have hle : ∀ m, m ≤ n → cnt f m ≤ cnt g m := by
      intro m
      induction m with
      | zero => intro _; exact Nat.le_refl 0
      | succ m ihm =>
        intro hm
        have := ihm (by omega)
        unfold cnt
        by_cases q : f m = true
        · rw [if_pos q, if_pos (h1 m (by omega) q)]; omega
        · rw [if_neg q]; split <;> omega
    unfold cnt
    by_cases q : f n = true
    · rw [if_pos q, if_pos (h1 n (by omega) q)]
      obtain ⟨i, hi, hg, hf⟩ := h2
      have hin : i ≠ n := fun e => hf (by rw [e]; exact q)
      have := ih (fun i hi => h1 i (by omega)) ⟨i, by omega, hg, hf⟩
      omega
    · rw [if_neg q]
      have := hle n (Nat.le_refl n)
      by_cases q2 : g n = true
      · rw [if_pos q2]; omega
      · rw [if_neg q2]
        obtain ⟨i, hi, hg, hf⟩ := h2
        have hin : i ≠ n := fun e => q2 (by rw [← e]; exact hg)
        have := ih (fun i hi => h1 i (by omega)) ⟨i, by omega, hg, hf⟩
        omega
theorem tbo_loop {σ : S2} {x : Int32} {p : Nat} (hp : p < 8) : ∀ (n i : Nat) (acc : Int32), i ≤ 32 → 32 < i + n → wp (fn_X1_termsBackOfAny_5 n σ x (nI p) acc (nI i)) (fun r => ∀ s, s < 32 → (bt r s = true ↔ bt acc s = true ∨ ∃ j, i ≤ j ∧ j < 32 ∧ bt x j = true ∧ bt (σ.1 7 (j * 8 + p)) s = true)) := by
  intro n
  induction n with
  | zero => intro i acc h1 h2; omega
  | succ n ih =>
    intro i acc hi hn
    rw [fn_X1_termsBackOfAny_5]
    by_cases h : i = 32
    · subst h
      refine wp_if_t (nI_le (a := 32) (Nat.le_refl _) (by omega)) (wp_some ?_)
      intro s hs
      exact ⟨Or.inl, fun z => z.elim id (fun z => absurd z ex_none)⟩
    · have hlt : i < 32 := by omega
      refine wp_if_f (nI_ge (b := 32) hlt (by omega)) (wp_if_f (nI_pos (by omega)) (wp_if_f (nI_ge (b := 8) hp (by omega)) ?_))
      by_cases hb : bt x i = true
      · refine wp_if_f (fun q => ?_) ?_
        · rw [b_hold x hlt, hb] at q; cases q
        · rw [ix8]
          refine wp_ckN rfl (by omega) (by omega) (wp_lt (wp_lt ?_))
          rw [nI_clamp (by omega), nI_1]
          refine wp_mono (ih (i + 1) _ (by omega) (by omega)) (fun r hr s hs => ?_)
          rw [hr s hs, b_or, ex_step hlt]
          simp only [Bool.or_eq_true, hb, true_and, or_assoc]
      · refine wp_if_t ((b_hold x hlt).mpr (by simpa using hb)) (wp_lt ?_)
        rw [nI_1]
        refine wp_mono (ih (i + 1) _ (by omega) (by omega)) (fun r hr s hs => ?_)
        rw [hr s hs, ex_step hlt]
        simp only [hb, false_and, false_or]
        simp
theorem c_tbo {σ : S2} {v : VT} (h : IC σ v) (x : Int32) {p : Nat} (hp : p < 8) : wp (fn_X1_termsBackOfAny σ x (nI p)) (fun r => ∀ s, s < 32 → (bt r s = true ↔ ∃ j, j < 32 ∧ bt x j = true ∧ TR v s p j)) := by
  unfold fn_X1_termsBackOfAny
  refine wp_mono (tbo_loop hp fu 0 0 (by omega) (by unfold fu; omega)) (fun r hr s hs => ?_)
  rw [hr s hs, b_0]
  constructor
  · rintro (z | ⟨j, -, h1, h2, h3⟩)
    · cases z
    · exact ⟨j, h1, h2, (h.2.2.1 s p j hs hp h1).mp h3⟩
  · rintro ⟨j, h1, h2, h3⟩
    exact Or.inr ⟨j, Nat.zero_le j, h1, h2, (h.2.2.1 s p j hs hp h1).mpr h3⟩
/-- t is of class c: every set of nodes that holds c, and what is below what it holds, holds a type of t -/
def OFC (v : VT) (t c : Nat) : Prop := ∀ S : Nat → Prop, S c → (∀ a b, a < 20 → b < 32 → S b → TR v a 1 b → S a) → ∃ d, d < 32 ∧ S d ∧ TR v t 0 d
theorem ofc_loop {σ : S2} {v : VT} (h : IC σ v) {c : Nat} (hc : c < 20) : ∀ (n k : Nat) (x : Int32), k ≤ 20 → 20 < k + n → bt x c = true → (∀ S : Nat → Prop, S c → (∀ a b, a < 20 → b < 32 → S b → TR v a 1 b → S a) → ∀ i, i < 32 → bt x i = true → S i) → k + 1 ≤ cnt (bt x) 20 →
    wp (fn_X1_ofClass_6 n σ x (nI k)) (fun r => ∀ t, t < 32 → (bt r t = true ↔ OFC v t c)) := by
  intro n
  induction n with
  | zero => intro k x h1 h2; omega
  | succ n ih =>
    intro k x hk hn hxc hmin hcnt
    have hcl := cnt_le (bt x) 20
    rw [fn_X1_ofClass_6]
    refine wp_if_f (nI_ge (b := 20) (by omega) (by omega)) (wp_bn ?_)
    refine wp_mono (c_tbo h x (p := 1) (by omega)) (fun r hr => wp_lt ?_)
    by_cases q : x ||| r = x
    · refine wp_if_t q (wp_bn ?_)
      refine wp_mono (c_tbo h x (p := 0) (by omega)) (fun r2 hr2 => wp_some (fun t ht => ?_))
      have hclosed : ∀ a b, a < 20 → b < 32 → bt x b = true → TR v a 1 b → bt x a = true := by
        intro a b ha hb h1 h2
        have h3 : bt r a = true := (hr a (by omega)).mpr ⟨b, hb, h1, h2⟩
        rw [← q, b_or, h3, Bool.or_true]
      rw [hr2 t ht]
      constructor
      · rintro ⟨j, h1, h2, h3⟩ S hS1 hS2
        exact ⟨j, h1, hmin S hS1 hS2 j h1 h2, h3⟩
      · intro hO
        obtain ⟨d, h1, h2, h3⟩ := hO (fun i => bt x i = true) hxc hclosed
        exact ⟨d, h1, h2, h3⟩
    · refine wp_if_f q (wp_lt ?_)
      rw [nI_1]
      have hex : ∃ i, i < 32 ∧ bt r i = true ∧ ¬ bt x i = true := by
        apply Classical.byContradiction
        intro z
        apply q
        apply b_ext
        intro i hi
        rw [b_or]
        by_cases y : bt x i = true
        · rw [y]; rfl
        · by_cases y2 : bt r i = true
          · exact absurd ⟨i, hi, y2, y⟩ z
          · simp at y y2; rw [y, y2]; rfl
      obtain ⟨i, hi, h1, h2⟩ := hex
      obtain ⟨j, -, -, hj⟩ := (hr i hi).mp h1
      have hgrow := cnt_lt (f := bt x) (g := bt (x ||| r)) (n := 20) (fun i _ z => by rw [b_or, z]; rfl) ⟨i, hj.1, by rw [b_or, h1, Bool.or_true], h2⟩
      refine ih (k + 1) (x ||| r) (by omega) (by omega) (by rw [b_or, hxc]; rfl) ?_ (by omega)
      intro S hS1 hS2 i hi hb
      rw [b_or, Bool.or_eq_true] at hb
      rcases hb with hb | hb
      · exact hmin S hS1 hS2 i hi hb
      · obtain ⟨j, g1, g2, g3⟩ := (hr i hi).mp hb
        exact hS2 i j g3.1 g1 (hmin S hS1 hS2 j g1 g2) g3
theorem c_ofClass {σ : S2} {v : VT} (h : IC σ v) {c : Nat} (hc : c < 20) : wp (fn_X1_ofClass σ (nI c)) (fun r => ∀ t, t < 32 → (bt r t = true ↔ OFC v t c)) := by
  unfold fn_X1_ofClass
  refine wp_lt ?_
  have hb : ∀ i, i < 32 → bt (1 <<< (nI c &&& 31)) i = decide (i = c) := fun i hi => b_one c (by omega) hi
  refine ofc_loop h hc fu 0 _ (by omega) (by unfold fu; omega) (by rw [hb c (by omega)]; simp) ?_ ?_
  · intro S h1 h2 i hi z
    rw [hb i hi] at z
    have : i = c := by simpa using z
    rw [this]; exact h1
  · have := cnt_lt (f := fun _ => false) (g := bt (1 <<< (nI c &&& 31))) (n := 20) (fun i _ z => by cases z) ⟨c, hc, by rw [hb c (by omega)]; simp, by simp⟩
    omega
