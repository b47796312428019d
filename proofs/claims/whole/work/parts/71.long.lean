/-! bits of a long -/
def bL (x : Int64) (i : Nat) : Bool := x.toBitVec.getLsbD i
theorem l_ext {x y : Int64} (h : ∀ i, i < 64 → bL x i = bL y i) : x = y := Int64.toBitVec_inj.mp (BitVec.eq_of_getLsbD_eq (fun i hi => h i hi))
theorem l_0 (i : Nat) : bL 0 i = false := BitVec.getLsbD_zero
theorem l_and (x y : Int64) (i : Nat) : bL (x &&& y) i = (bL x i && bL y i) := by unfold bL; rw [Int64.toBitVec_and, BitVec.getLsbD_and]
theorem l_big {x : Int64} {i : Nat} (h : 64 ≤ i) : bL x i = false := BitVec.getLsbD_of_ge _ _ h
theorem l_msk : ∀ i, i < 64 → bL 4294967295 i = decide (i < 32) := by decide +kernel
theorem l_one : ∀ i, i < 64 → bL 1 i = decide (i = 0) := by decide +kernel
theorem l_ext32 (t : Int32) {i : Nat} (hi : i < 32) : bL t.toInt64 i = bt t i := by
  unfold bL bt
  rw [Int32.toBitVec_toInt64, BitVec.getLsbD_signExtend]
  simp [hi, show i < 64 by omega]
theorem l_shl1 (x : Int64) {i : Nat} (hi : i < 64) : bL (shlL x 1) i = (decide (1 ≤ i) && bL x (i - 1)) := by
  unfold shlL bL
  rw [show ((1 : Int32).toInt64 &&& 63) = 1 from by decide +kernel, Int64.toBitVec_shiftLeft]
  show (x.toBitVec <<< ((1 : Int64).toBitVec.smod 64).toNat).getLsbD i = _
  rw [show ((1 : Int64).toBitVec.smod 64).toNat = 1 from by decide +kernel, BitVec.getLsbD_shiftLeft]
  cases i with
  | zero => simp
  | succ i => simp [hi]
theorem l_with (t : Int32) {i : Nat} (hi : i < 64) : bL (fn_X5_withValues t) i = (decide (1 ≤ i) && decide (i < 33) && bt t (i - 1)) := by
  unfold fn_X5_withValues
  rw [l_shl1 _ hi, l_and, l_msk (i - 1) (by omega)]
  by_cases q : 1 ≤ i
  · by_cases q2 : i < 33
    · rw [l_ext32 t (show i - 1 < 32 by omega), decide_eq_true (show i - 1 < 32 by omega), decide_eq_true q2]; simp
    · rw [decide_eq_false q2, decide_eq_false (show ¬ i - 1 < 32 by omega)]; simp
  · rw [decide_eq_false q]; simp
theorem s64 : ∀ n, n < 64 → (((nI n).toInt64.toUInt64 &&& Int64.toUInt64 63).toBitVec % 64).toNat = n := by decide +kernel
theorem l_ush (x : Int64) {n : Nat} (hn : n < 64) (i : Nat) : bL (ushL x (nI n)) i = bL x (n + i) := by
  show (x.toUInt64 >>> ((nI n).toInt64.toUInt64 &&& Int64.toUInt64 63)).toBitVec.getLsbD i = x.toUInt64.toBitVec.getLsbD (n + i)
  rw [UInt64.toBitVec_shiftRight]
  show (x.toUInt64.toBitVec >>> (((nI n).toInt64.toUInt64 &&& Int64.toUInt64 63).toBitVec % 64).toNat).getLsbD i = _
  rw [s64 n hn, BitVec.getLsbD_ushiftRight]
theorem l_hold (x : Int64) {n : Nat} (hn : n < 64) : lg_cmp (ushL x (nI n) &&& 1) 0 = 0 ↔ bL x n = false := by
  rw [lg_cmp_eq]
  constructor
  · intro h
    have h1 : bL (ushL x (nI n) &&& 1) 0 = bL 0 0 := by rw [h]
    rw [l_and, l_0, l_ush x hn, l_one 0 (by omega)] at h1
    simpa using h1
  · intro h
    apply l_ext
    intro i hi
    rw [l_and, l_0, l_one i hi, l_ush x hn]
    by_cases h0 : i = 0
    · subst h0; rw [show n + 0 = n from rfl, h, Bool.false_and]
    · rw [decide_eq_false h0, Bool.and_false]
theorem l_int (x : Int64) {w : Nat} (hw : w < 32) : bt (ushL x 1).toInt32 w = bL x (w + 1) := by
  unfold bt
  rw [Int64.toBitVec_toInt32, BitVec.getLsbD_signExtend]
  have := l_ush x (n := 1) (by omega) w
  unfold bL at this
  rw [show ushL x 1 = ushL x (nI 1) from rfl, this]
  simp [hw, bL, Nat.add_comm, show w < 64 by omega]
/-- a long holds the results of constraint c at x -/
def FLT (f : Int64) (F : Nat → Nat → Prop) (v : VT) (c x : Nat) : Prop := (∀ k, k < 33 → (bL f k = true ↔ BC F v c x k)) ∧ ∀ k, 33 ≤ k → bL f k = false
theorem FLT_0 {f : Int64} {F : Nat → Nat → Prop} {v : VT} {c x : Nat} (h : FLT f F v c x) : lg_cmp f 0 = 0 ↔ ∀ k, k < 33 → ¬ BC F v c x k := by
  rw [lg_cmp_eq]
  constructor
  · intro e k hk z
    have := (h.1 k hk).mpr z
    rw [e, l_0] at this
    cases this
  · intro z
    apply l_ext
    intro i _
    rw [l_0]
    by_cases q : i < 33
    · cases e : bL f i
      · rfl
      · exact absurd ((h.1 i q).mp e) (z i q)
    · exact h.2 i (by omega)
theorem FLT_w {t : Int32} {F : Nat → Nat → Prop} {v : VT} {c x : Nat} (hN : ¬ NB F v (ow v c) x (kn v c) (v.2.2 6 c) (v.2.2 7 c)) (hV : ∀ w, w < 32 → (bt t w = true ↔ VB F v (ow v c) x (kn v c) (v.2.2 6 c) (v.2.2 7 c) w)) : FLT (fn_X5_withValues t) F v c x := by
  refine ⟨fun k hk => ?_, fun k hk => ?_⟩
  · rw [l_with t (by omega)]
    cases k with
    | zero => rw [BC_0]; simp; exact hN
    | succ w => rw [BC_s, ← hV w (by omega)]; simp; omega
  · by_cases q : k < 64
    · rw [l_with t q, decide_eq_false (show ¬ k < 33 by omega)]; simp
    · exact l_big (by omega)
theorem FLT_u {r : Int32} {F : Nat → Nat → Prop} {v : VT} {c x : Nat} (hN : r = 0 ↔ NB F v (ow v c) x (kn v c) (v.2.2 6 c) (v.2.2 7 c)) (hV : ∀ w, w < 32 → ¬ VB F v (ow v c) x (kn v c) (v.2.2 6 c) (v.2.2 7 c) w) : FLT (fn_X5_unless r) F v c x := by
  unfold fn_X5_unless
  refine ⟨fun k hk => ?_, fun k hk => ?_⟩
  · cases k with
    | zero =>
      rw [BC_0, ← hN]
      by_cases q : r = 0
      · rw [if_pos q]; exact ⟨fun _ => q, fun _ => rfl⟩
      · rw [if_neg q, l_0]; exact ⟨fun z => absurd z Bool.false_ne_true, fun z => absurd z q⟩
    | succ w =>
      rw [BC_s]
      constructor
      · intro z
        by_cases q : r = 0
        · rw [if_pos q, l_one _ (by omega)] at z; simp at z
        · rw [if_neg q, l_0] at z; cases z
      · intro z; exact absurd z (hV w (by omega))
  · by_cases q : r = 0
    · rw [if_pos q]
      by_cases q2 : k < 64
      · rw [l_one _ q2]; simp; omega
      · exact l_big (by omega)
    · rw [if_neg q, l_0]
