/-! what does not fit: by what is told of each kind, F telling who fits which shape -/
noncomputable def dP (P : Prop) : Bool := @decide P (Classical.propDecidable P)
theorem dP_t {P : Prop} : dP P = true ↔ P := by unfold dP; exact @decide_eq_true_iff P (Classical.propDecidable P)
theorem dP_b {P : Prop} {b : Bool} (h : b = true ↔ P) : b = dP P := by
  by_cases q : P
  · rw [h.mpr q, dP_t.mpr q]
  · cases b
    · cases e : dP P
      · rfl
      · exact absurd (dP_t.mp e) q
    · exact absurd (h.mp rfl) q
noncomputable def ci {α : Type} (P : Prop) (a b : α) : α := @ite α P (Classical.propDecidable P) a b
theorem ci_t {α : Type} {P : Prop} {a b : α} (h : P) : ci P a b = a := @if_pos P (Classical.propDecidable P) h α a b
theorem ci_f {α : Type} {P : Prop} {a b : α} (h : ¬ P) : ci P a b = b := @if_neg P (Classical.propDecidable P) h α a b
noncomputable def cn (P : Nat → Prop) (n : Nat) : Nat := cnt (fun w => dP (P w)) n
theorem cn_congr {P Q : Nat → Prop} {n : Nat} (h : ∀ w, w < n → (P w ↔ Q w)) : cn P n = cn Q n := cnt_congr (fun i hi => by rw [show P i = Q i from propext (h i hi)])
theorem cn_le (P : Nat → Prop) (n : Nat) : cn P n ≤ n := cnt_le _ n
theorem cn_s (P : Nat → Prop) (n : Nat) : cn P (n + 1) = cn P n + ci (P n) 1 0 := by
  unfold cn
  rw [cnt]
  by_cases q : P n
  · rw [ci_t q, if_pos (dP_t.mpr q)]
  · rw [ci_f q, if_neg (fun z => q (dP_t.mp z))]
theorem cn_bt {P : Nat → Prop} {x : Int32} (h : ∀ w, w < 32 → (bt x w = true ↔ P w)) : cnt (bt x) 32 = cn P 32 := cnt_congr (fun i hi => dP_b (h i hi))
/-- a sort of terms -/
def SRT (j w : Nat) : Prop := (j = 0 ∧ w < 20) ∨ (j = 1 ∧ 20 ≤ w) ∨ (j = 2 ∧ 20 ≤ w ∧ w % 2 = 0) ∨ (j = 3 ∧ 20 ≤ w ∧ w % 2 = 1)
def LES (v : VT) (x a w : Nat) : Prop := 20 ≤ w ∧ ∀ u, u < 32 → TR v x a u → 20 ≤ u ∧ (w - 20) / 2 < (u - 20) / 2
def TGS (P : Nat → Prop) (w : Nat) : Prop := 20 ≤ w ∧ P w ∧ (∀ u, 20 ≤ u → u < w → u % 2 = w % 2 → ¬ P u) ∧ ∃ u, w < u ∧ u < 32 ∧ u % 2 = w % 2 ∧ P u
def CLO (v : VT) (a : Int32) (P : Nat → Prop) (w : Nat) : Prop := ∃ n, n < 20 ∧ P n ∧ ∃ p, p < 8 ∧ bt a p = false ∧ TR v n p w
/-- a value that is not as told -/
def WR (F : Nat → Nat → Prop) (v : VT) (x kd : Nat) (a b : Int32) (w : Nat) : Prop :=
  match kd with
  | 0 => ¬ OFC v w a.toNatClampNeg
  | 1 => ¬ SRT a.toNatClampNeg w
  | 3 => ¬ (20 ≤ w ∧ ¬ nI ((w - 20) / 2) < a ∧ ¬ b < nI ((w - 20) / 2))
  | 4 => bt a w = false
  | 7 => TR v x a.toNatClampNeg w
  | 8 => ¬ LES v x a.toNatClampNeg w
  | 11 => F a.toNatClampNeg w
  | 12 => ¬ (F a.toNatClampNeg w ∧ F b.toNatClampNeg w)
  | 13 => ¬ (F a.toNatClampNeg w ∨ F b.toNatClampNeg w)
  | 14 => (F a.toNatClampNeg w ↔ F b.toNatClampNeg w)
  | _ => ¬ F a.toNatClampNeg w
/-- a result with a value -/
def VB (F : Nat → Nat → Prop) (v : VT) (s x kd : Nat) (a b : Int32) (w : Nat) : Prop :=
  match kd with
  | 2 => False
  | 5 => False
  | 17 => False
  | 6 => ¬ (VAL v s x w ↔ TR v x a.toNatClampNeg w)
  | 9 => TGS (VAL v s x) w
  | 10 => CLO v a (VAL v s x) w
  | _ => VAL v s x w ∧ WR F v x kd a b w
/-- a result without a value -/
def NB (F : Nat → Nat → Prop) (v : VT) (s x kd : Nat) (a b : Int32) : Prop :=
  match kd with
  | 2 => ¬ (¬ nI (cn (VAL v s x) 32) < a ∧ ¬ b < nI (cn (VAL v s x) 32))
  | 5 => ¬ VAL v s x a.toNatClampNeg
  | 17 => ¬ (b.toNatClampNeg / 16 ≤ cn (fun w => VAL v s x w ∧ F a.toNatClampNeg w) 32 ∧ cn (fun w => VAL v s x w ∧ F a.toNatClampNeg w) 32 ≤ b.toNatClampNeg % 16)
  | _ => False
theorem k18 {k : Nat} (h : k < 18) : k = 0 ∨ k = 1 ∨ k = 2 ∨ k = 3 ∨ k = 4 ∨ k = 5 ∨ k = 6 ∨ k = 7 ∨ k = 8 ∨ k = 9 ∨ k = 10 ∨ k = 11 ∨ k = 12 ∨ k = 13 ∨ k = 14 ∨ k = 15 ∨ k = 16 ∨ k = 17 := by omega
theorem VB_congr {F G : Nat → Nat → Prop} {v : VT} {s x kd : Nat} {a b : Int32} (hk : kd < 18) (h1 : 11 ≤ kd → ∀ w, w < 32 → (F a.toNatClampNeg w ↔ G a.toNatClampNeg w)) (h2 : 12 ≤ kd → kd ≤ 14 → ∀ w, w < 32 → (F b.toNatClampNeg w ↔ G b.toNatClampNeg w)) {w : Nat} (hw : w < 32) : VB F v s x kd a b w ↔ VB G v s x kd a b w := by
  rcases k18 hk with e | e | e | e | e | e | e | e | e | e | e | e | e | e | e | e | e | e <;> subst e
  any_goals exact Iff.rfl
  · exact and_congr Iff.rfl (h1 (by omega) w hw)
  · exact and_congr Iff.rfl (not_congr (and_congr (h1 (by omega) w hw) (h2 (by omega) (by omega) w hw)))
  · exact and_congr Iff.rfl (not_congr (or_congr (h1 (by omega) w hw) (h2 (by omega) (by omega) w hw)))
  · exact and_congr Iff.rfl (iff_congr (h1 (by omega) w hw) (h2 (by omega) (by omega) w hw))
  · exact and_congr Iff.rfl (not_congr (h1 (by omega) w hw))
  · exact and_congr Iff.rfl (not_congr (h1 (by omega) w hw))
theorem NB_congr {F G : Nat → Nat → Prop} {v : VT} {s x kd : Nat} {a b : Int32} (hk : kd < 18) (h1 : 11 ≤ kd → ∀ w, w < 32 → (F a.toNatClampNeg w ↔ G a.toNatClampNeg w)) : NB F v s x kd a b ↔ NB G v s x kd a b := by
  rcases k18 hk with e | e | e | e | e | e | e | e | e | e | e | e | e | e | e | e | e | e <;> subst e
  any_goals exact Iff.rfl
  have e := cn_congr (P := fun w => VAL v s x w ∧ F a.toNatClampNeg w) (Q := fun w => VAL v s x w ∧ G a.toNatClampNeg w) (n := 32) (fun w hw => and_congr Iff.rfl (h1 (by omega) w hw))
  show (¬ (_ ≤ cn (fun w => VAL v s x w ∧ F a.toNatClampNeg w) 32 ∧ cn (fun w => VAL v s x w ∧ F a.toNatClampNeg w) 32 ≤ _)) ↔ _
  rw [e]
  exact Iff.rfl
/-- the results of constraint c at x: k = 0 without a value, k = w + 1 with w -/
def ow (v : VT) (c : Nat) : Nat := (v.2.2 4 c).toNatClampNeg
def kn (v : VT) (c : Nat) : Nat := (v.2.2 5 c).toNatClampNeg
def BC (F : Nat → Nat → Prop) (v : VT) (c x k : Nat) : Prop := (k = 0 ∧ NB F v (ow v c) x (kn v c) (v.2.2 6 c) (v.2.2 7 c)) ∨ ∃ w, k = w + 1 ∧ VB F v (ow v c) x (kn v c) (v.2.2 6 c) (v.2.2 7 c) w
theorem BC_0 {F : Nat → Nat → Prop} {v : VT} {c x : Nat} : BC F v c x 0 ↔ NB F v (ow v c) x (kn v c) (v.2.2 6 c) (v.2.2 7 c) := by
  unfold BC
  constructor
  · rintro (z | ⟨w, z, -⟩)
    · exact z.2
    · omega
  · intro z; exact Or.inl ⟨rfl, z⟩
theorem BC_s {F : Nat → Nat → Prop} {v : VT} {c x w : Nat} : BC F v c x (w + 1) ↔ VB F v (ow v c) x (kn v c) (v.2.2 6 c) (v.2.2 7 c) w := by
  unfold BC
  constructor
  · rintro (z | ⟨u, z, y⟩)
    · omega
    · rw [show w = u by omega]; exact y
  · intro z; exact Or.inr ⟨w, rfl, z⟩
theorem IV_c {v : VT} (hv : IV v) {c : Nat} (hc : c < v.2.1 2) : ow v c < v.2.1 0 ∧ kn v c < 18 ∧ v.2.2 4 c = nI (ow v c) ∧ v.2.2 5 c = nI (kn v c) ∧ okC (v.2.1 0) (kn v c) (v.2.2 6 c) (v.2.2 7 c) := by
  obtain ⟨s, k, h1, h2, h3, h4⟩ := hv.2.2.2.2.2 c hc
  have h12 := hv.1
  have hk := h2.1
  have e1 : ow v c = s := by unfold ow; rw [h3, nI_clamp (by omega)]
  have e2 : kn v c = k := by unfold kn; rw [h4, nI_clamp (by omega)]
  rw [e1, e2]
  exact ⟨h1, hk, h3, h4, h2⟩
theorem BC_congr {F G : Nat → Nat → Prop} {v : VT} (hv : IV v) {c : Nat} (hc : c < v.2.1 2) (h : ∀ u, u < v.2.1 0 → EDGE v (ow v c) u → ∀ w, w < 32 → (F u w ↔ G u w)) {x k : Nat} (hk : k < 33) : BC F v c x k ↔ BC G v c x k := by
  obtain ⟨h1, h2, h3, h4, h5⟩ := IV_c hv hc
  have h12 := hv.1
  have g1 : 11 ≤ kn v c → ∀ w, w < 32 → (F (v.2.2 6 c).toNatClampNeg w ↔ G (v.2.2 6 c).toNatClampNeg w) := by
    intro q w hw
    obtain ⟨j, hj, e⟩ := h5.2.2.2.2.2.1 q
    rw [e, nI_clamp (by omega)]
    exact h j hj ⟨c, hc, by omega, by omega, h3, kn v c, h2, h4, Or.inl ⟨q, e⟩⟩ w hw
  have g2 : 12 ≤ kn v c → kn v c ≤ 14 → ∀ w, w < 32 → (F (v.2.2 7 c).toNatClampNeg w ↔ G (v.2.2 7 c).toNatClampNeg w) := by
    intro q q2 w hw
    obtain ⟨j, hj, e⟩ := h5.2.2.2.2.2.2.1 q q2
    rw [e, nI_clamp (by omega)]
    exact h j hj ⟨c, hc, by omega, by omega, h3, kn v c, h2, h4, Or.inr ⟨q, q2, e⟩⟩ w hw
  cases k with
  | zero => rw [BC_0, BC_0]; exact NB_congr h2 g1
  | succ w => rw [BC_s, BC_s]; exact VB_congr h2 g1 g2 (by omega)
/-! who fits -/
def FITn (v : VT) : Nat → Nat → Nat → Prop
  | 0 => fun _ _ => True
  | n + 1 => fun s x => ∀ c, c < v.2.1 2 → ow v c = s → ∀ k, k < 33 → ¬ BC (FITn v n) v c x k
def FIT (v : VT) : Nat → Nat → Prop := FITn v 12
def RK (v : VT) (h : Nat → Nat) : Prop := (∀ s, s < v.2.1 0 → h s ≤ 11) ∧ ∀ s u, EDGE v s u → h u < h s
theorem FITn_s {v : VT} (hv : IV v) {h : Nat → Nat} (hr : RK v h) : ∀ n s x, h s < n → (FITn v n s x ↔ FITn v (n + 1) s x) := by
  intro n
  induction n with
  | zero => intro s x q; omega
  | succ n ih =>
    intro s x q
    have key : ∀ c, c < v.2.1 2 → ow v c = s → ∀ k, k < 33 → (BC (FITn v n) v c x k ↔ BC (FITn v (n + 1)) v c x k) := by
      intro c hc e k hk
      refine BC_congr hv hc (fun u _ hE w _ => ih u w ?_) hk
      have := hr.2 _ u hE
      rw [e] at this
      omega
    constructor
    · intro z c hc e k hk y; exact z c hc e k hk ((key c hc e k hk).mpr y)
    · intro z c hc e k hk y; exact z c hc e k hk ((key c hc e k hk).mp y)
theorem FIT_eq {v : VT} (hv : IV v) {h : Nat → Nat} (hr : RK v h) {s x : Nat} (hs : s < v.2.1 0) : FIT v s x ↔ ∀ c, c < v.2.1 2 → ow v c = s → ∀ k, k < 33 → ¬ BC (FIT v) v c x k := FITn_s hv hr 12 s x (by have := hr.1 s hs; omega)
theorem RK_of {σ : S2} {v : VT} (hf : FUR σ v) (hn : v.2.1 0 ≤ 12) : RK v (ht σ) := ⟨fun s hs => ht_le hf hn hs, fun s u hE => ht_lt hf hn (hf.2.1 s u hE)⟩
