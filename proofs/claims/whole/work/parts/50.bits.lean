def bt (x : Int32) (i : Nat) : Bool := x.toBitVec.getLsbD i
theorem b_ext {x y : Int32} (h : ∀ i, i < 32 → bt x i = bt y i) : x = y := Int32.toBitVec_inj.mp (BitVec.eq_of_getLsbD_eq (fun i hi => h i hi))
theorem b_or (x y : Int32) (i : Nat) : bt (x ||| y) i = (bt x i || bt y i) := by unfold bt; rw [Int32.toBitVec_or, BitVec.getLsbD_or]
theorem b_and (x y : Int32) (i : Nat) : bt (x &&& y) i = (bt x i && bt y i) := by unfold bt; rw [Int32.toBitVec_and, BitVec.getLsbD_and]
theorem b_xor (x y : Int32) (i : Nat) : bt (x ^^^ y) i = (bt x i ^^ bt y i) := by unfold bt; rw [Int32.toBitVec_xor, BitVec.getLsbD_xor]
theorem b_big {x : Int32} {i : Nat} (h : 32 ≤ i) : bt x i = false := BitVec.getLsbD_of_ge _ _ h
theorem b_255 (i : Nat) : bt 255 i = decide (i < 8) := by
  rcases Nat.lt_or_ge i 32 with h | h
  · exact (by decide +kernel : ∀ i, i < 32 → bt 255 i = decide (i < 8)) i h
  · rw [b_big h, decide_eq_false (by omega)]
theorem b_65535 (i : Nat) : bt 65535 i = decide (i < 16) := by
  rcases Nat.lt_or_ge i 32 with h | h
  · exact (by decide +kernel : ∀ i, i < 32 → bt 65535 i = decide (i < 16)) i h
  · rw [b_big h, decide_eq_false (by omega)]
theorem b_m1 : ∀ i, i < 32 → bt (-1) i = true := by decide +kernel
theorem b_0 (i : Nat) : bt 0 i = false := BitVec.getLsbD_zero
theorem s_l : ∀ n, n < 32 → ((nI n &&& 31).toBitVec.smod 32).toNat = n := by decide +kernel
theorem s_u : ∀ n, n < 32 → (((nI n).toUInt32 &&& Int32.toUInt32 31).toBitVec % 32).toNat = n := by decide +kernel
theorem b_shl (n : Nat) (hn : n < 32) (x : Int32) {i : Nat} (hi : i < 32) : bt (x <<< (nI n &&& 31)) i = (decide (n ≤ i) && bt x (i - n)) := by
  unfold bt
  rw [Int32.toBitVec_shiftLeft]
  show (x.toBitVec <<< ((nI n &&& 31).toBitVec.smod 32).toNat).getLsbD i = _
  rw [s_l n hn, BitVec.getLsbD_shiftLeft]
  rcases Nat.lt_or_ge i n with h | h
  · simp [h, Nat.not_le.mpr h]
  · simp [hi, h, Nat.not_lt.mpr h]
theorem b_ushr (n : Nat) (hn : n < 32) (x : Int32) (i : Nat) : bt ((x.toUInt32 >>> ((nI n).toUInt32 &&& Int32.toUInt32 31)).toInt32) i = bt x (n + i) := by
  show (x.toUInt32 >>> ((nI n).toUInt32 &&& Int32.toUInt32 31)).toBitVec.getLsbD i = x.toUInt32.toBitVec.getLsbD (n + i)
  rw [UInt32.toBitVec_shiftRight]
  show (x.toUInt32.toBitVec >>> (((nI n).toUInt32 &&& Int32.toUInt32 31).toBitVec % 32).toNat).getLsbD i = _
  rw [s_u n hn, BitVec.getLsbD_ushiftRight]
theorem b_sshr (n : Nat) (hn : n < 32) (x : Int32) {i : Nat} (hi : i < 32) : bt (x >>> (nI n &&& 31)) i = if n + i < 32 then bt x (n + i) else bt x 31 := by
  unfold bt
  rw [Int32.toBitVec_shiftRight]
  show (x.toBitVec.sshiftRight ((nI n &&& 31).toBitVec.smod 32).toNat).getLsbD i = _
  rw [s_l n hn, BitVec.getLsbD_sshiftRight, BitVec.msb_eq_getLsbD_last]
  simp [hi]
theorem b_one (n : Nat) (hn : n < 32) {i : Nat} (hi : i < 32) : bt (1 <<< (nI n &&& 31)) i = decide (i = n) := by
  rw [b_shl n hn _ hi]
  by_cases h : i = n
  · subst h
    rw [decide_eq_true (Nat.le_refl i), decide_eq_true rfl, Nat.sub_self]; rfl
  · rw [decide_eq_false h]
    by_cases h2 : n ≤ i
    · rw [(by decide +kernel : ∀ j, j < 32 → 0 < j → bt 1 j = false) (i - n) (by omega) (by omega), Bool.and_false]
    · rw [decide_eq_false h2, Bool.false_and]
theorem b_not (x : Int32) {i : Nat} (hi : i < 32) : bt (x ^^^ (-1)) i = !bt x i := by
  rw [b_xor, b_m1 i hi, Bool.xor_true]
theorem b_and1 (z : Int32) : z &&& 1 = 0 ↔ bt z 0 = false := by
  constructor
  · intro h
    have h1 : bt (z &&& 1) 0 = bt 0 0 := by rw [h]
    rw [b_and, b_0, show bt 1 0 = true from rfl, Bool.and_true] at h1
    exact h1
  · intro h
    apply b_ext
    intro i hi
    rw [b_and, b_0]
    by_cases h0 : i = 0
    · subst h0; rw [h, Bool.false_and]
    · rw [(by decide +kernel : ∀ j, j < 32 → 0 < j → bt 1 j = false) i hi (by omega), Bool.and_false]
theorem b_ush0 (x : Int32) {n : Nat} (hn : n < 32) : bt (ush x (nI n)) 0 = bt x n := b_ushr n hn x 0
theorem b_hold (x : Int32) {n : Nat} (hn : n < 32) : ush x (nI n) &&& 1 = 0 ↔ bt x n = false := by
  rw [b_and1, b_ush0 x hn]
theorem b_ne0 (x : Int32) : x = 0 ↔ ∀ i, i < 32 → bt x i = false := by
  constructor
  · intro h i _; rw [h, b_0]
  · intro h; apply b_ext; intro i hi; rw [h i hi, b_0]
/-! the number of an int without its sign -/
def u3 (x : Int32) : Nat := x.toBitVec.toNat
theorem u3_lt (x : Int32) : u3 x < 4294967296 := x.toBitVec.isLt
theorem u3_inj {x y : Int32} (h : u3 x = u3 y) : x = y := Int32.toBitVec_inj.mp (BitVec.eq_of_toNat_eq h)
theorem u3_nI {n : Nat} (h : n < 4294967296) : u3 (nI n) = n := pk_tn h
theorem u3_of (x : Int32) : x = nI (u3 x) := u3_inj (u3_nI (u3_lt x)).symm
theorem u3_sub (x y : Int32) : u3 (x - y) = (4294967296 - u3 y + u3 x) % 4294967296 := by
  unfold u3; rw [Int32.toBitVec_sub, BitVec.toNat_sub]
theorem u3_add (x y : Int32) : u3 (x + y) = (u3 x + u3 y) % 4294967296 := by
  unfold u3; rw [Int32.toBitVec_add, BitVec.toNat_add]
theorem u3_and (x y : Int32) : u3 (x &&& y) = u3 x &&& u3 y := by
  unfold u3; rw [Int32.toBitVec_and, BitVec.toNat_and]
theorem u3_ush (x s : Int32) (k : Nat) (hs : ((s.toUInt32 &&& Int32.toUInt32 31).toBitVec % 32).toNat = k) : u3 (ush x s) = u3 x / 2 ^ k := pk_ushr x s k hs
theorem u3_bt (x : Int32) (i : Nat) : bt x i = decide (u3 x / 2 ^ i % 2 = 1) := by
  unfold bt u3
  rw [BitVec.getLsbD, Nat.testBit_eq_decide_div_mod_eq]
/-! how many bits are set -/
def cnt (f : Nat → Bool) : Nat → Nat
  | 0 => 0
  | n + 1 => cnt f n + (if f n = true then 1 else 0)
theorem cnt_le (f : Nat → Bool) (n : Nat) : cnt f n ≤ n := by
  induction n with
  | zero => exact Nat.le_refl 0
  | succ n ih => unfold cnt; split <;> omega
theorem cnt_congr {f g : Nat → Bool} {n : Nat} (h : ∀ i, i < n → f i = g i) : cnt f n = cnt g n := by
  induction n with
  | zero => rfl
  | succ n ih => unfold cnt; rw [ih (fun i hi => h i (by omega)), h n (by omega)]
def pc8 (b : Nat) : Nat := b % 2 + b / 2 % 2 + b / 4 % 2 + b / 8 % 2 + b / 16 % 2 + b / 32 % 2 + b / 64 % 2 + b / 128 % 2
def pa (b : Nat) : Nat := b - (b / 2 &&& 85)
def pb (b : Nat) : Nat := (pa b &&& 51) + (pa b / 4 &&& 51)
theorem pa_le : ∀ b, b < 256 → (b / 2 &&& 85) ≤ b := by decide +kernel
theorem pb_le : ∀ b, b < 256 → pb b ≤ 68 ∧ pb b % 16 ≤ 4 := by decide +kernel
theorem pb_pc : ∀ b, b < 256 → (pb b + pb b / 16) % 16 = pc8 b := by decide +kernel
theorem pc8_le (b : Nat) : pc8 b ≤ 8 := by unfold pc8; omega
theorem m85 : ∀ x, x < 256 → x &&& 85 = x % 128 &&& 85 := by decide +kernel
theorem m51 : ∀ x, x < 256 → x &&& 51 = x % 64 &&& 51 := by decide +kernel
theorem lane (a A m M : Nat) (ha : a < 256) (hm : m < 256) : (a + 256 * A) &&& (m + 256 * M) = (a &&& m) + 256 * (A &&& M) := by
  have e1 : (a + 256 * A) % 2 ^ 8 = a := by omega
  have e2 : (m + 256 * M) % 2 ^ 8 = m := by omega
  have f1 : (a + 256 * A) / 2 ^ 8 = A := by omega
  have f2 : (m + 256 * M) / 2 ^ 8 = M := by omega
  have z1 := Nat.and_mod_two_pow (a := a + 256 * A) (b := m + 256 * M) (n := 8)
  have z2 := Nat.and_div_two_pow (a := a + 256 * A) (b := m + 256 * M) (n := 8)
  rw [e1, e2] at z1
  rw [f1, f2] at z2
  generalize ((a + 256 * A) &&& (m + 256 * M)) = z at z1 z2 ⊢
  generalize (a &&& m) = y1 at z1 ⊢
  generalize (A &&& M) = y2 at z2 ⊢
  omega
theorem lane4 {a b c d m : Nat} (ha : a < 256) (hb : b < 256) (hc : c < 256) (hm : m < 256) :
    (a + 256 * (b + 256 * (c + 256 * d))) &&& (m + 256 * (m + 256 * (m + 256 * m))) = (a &&& m) + 256 * ((b &&& m) + 256 * ((c &&& m) + 256 * (d &&& m))) := by
  rw [lane _ _ _ _ ha hm, lane _ _ _ _ hb hm, lane _ _ _ _ hc hm]
theorem pop1 {a b c d : Nat} (ha : a < 256) (hb : b < 256) (hc : c < 256) (hd : d < 256) :
    ((a + 256 * (b + 256 * (c + 256 * d))) / 2 &&& 1431655765) = (a / 2 &&& 85) + 256 * ((b / 2 &&& 85) + 256 * ((c / 2 &&& 85) + 256 * (d / 2 &&& 85))) := by
  have e : (a + 256 * (b + 256 * (c + 256 * d))) / 2 = (a / 2 + 128 * (b % 2)) + 256 * ((b / 2 + 128 * (c % 2)) + 256 * ((c / 2 + 128 * (d % 2)) + 256 * (d / 2))) := by omega
  rw [e, show (1431655765 : Nat) = 85 + 256 * (85 + 256 * (85 + 256 * 85)) from rfl, lane4 (by omega) (by omega) (by omega) (by omega)]
  rw [m85 _ (show a / 2 + 128 * (b % 2) < 256 by omega), show (a / 2 + 128 * (b % 2)) % 128 = a / 2 by omega, m85 _ (show b / 2 + 128 * (c % 2) < 256 by omega), show (b / 2 + 128 * (c % 2)) % 128 = b / 2 by omega, m85 _ (show c / 2 + 128 * (d % 2) < 256 by omega), show (c / 2 + 128 * (d % 2)) % 128 = c / 2 by omega]
theorem pop2 {a b c d : Nat} (ha : a < 256) (hb : b < 256) (hc : c < 256) (hd : d < 256) :
    ((a + 256 * (b + 256 * (c + 256 * d))) / 4 &&& 858993459) = (a / 4 &&& 51) + 256 * ((b / 4 &&& 51) + 256 * ((c / 4 &&& 51) + 256 * (d / 4 &&& 51))) := by
  have e : (a + 256 * (b + 256 * (c + 256 * d))) / 4 = (a / 4 + 64 * (b % 4)) + 256 * ((b / 4 + 64 * (c % 4)) + 256 * ((c / 4 + 64 * (d % 4)) + 256 * (d / 4))) := by omega
  rw [e, show (858993459 : Nat) = 51 + 256 * (51 + 256 * (51 + 256 * 51)) from rfl, lane4 (by omega) (by omega) (by omega) (by omega)]
  rw [m51 _ (show a / 4 + 64 * (b % 4) < 256 by omega), show (a / 4 + 64 * (b % 4)) % 64 = a / 4 by omega, m51 _ (show b / 4 + 64 * (c % 4) < 256 by omega), show (b / 4 + 64 * (c % 4)) % 64 = b / 4 by omega, m51 _ (show c / 4 + 64 * (d % 4) < 256 by omega), show (c / 4 + 64 * (d % 4)) % 64 = c / 4 by omega]
theorem m15 (x : Nat) : x &&& 15 = x % 16 := Nat.and_two_pow_sub_one_eq_mod x 4
theorem m63 (x : Nat) : x &&& 63 = x % 64 := Nat.and_two_pow_sub_one_eq_mod x 6
theorem u3_lit (n : Nat) (h : n < 4294967296) : u3 (nI n) = n := u3_nI h
theorem bitN (n k j : Nat) (hj : j < 8) : n / 2 ^ k % 256 / 2 ^ j % 2 = n / 2 ^ (k + j) % 2 := by
  rw [Nat.pow_add, ← Nat.div_div_eq_div_mul]
  generalize n / 2 ^ k = q
  rcases (show j = 0 ∨ j = 1 ∨ j = 2 ∨ j = 3 ∨ j = 4 ∨ j = 5 ∨ j = 6 ∨ j = 7 by omega) with h | h | h | h | h | h | h | h <;> subst h <;> omega
theorem one_of (x : Int32) (i : Nat) : (if bt x i = true then 1 else 0) = u3 x / 2 ^ i % 2 := by
  rw [u3_bt]
  have : u3 x / 2 ^ i % 2 < 2 := Nat.mod_lt _ (by omega)
  by_cases h : u3 x / 2 ^ i % 2 = 1
  · simp [h]
  · simp [h]; omega
theorem pc8_at (n k : Nat) : pc8 (n / 2 ^ k % 256) = n / 2 ^ k % 2 + n / 2 ^ (k + 1) % 2 + n / 2 ^ (k + 2) % 2 + n / 2 ^ (k + 3) % 2 + n / 2 ^ (k + 4) % 2 + n / 2 ^ (k + 5) % 2 + n / 2 ^ (k + 6) % 2 + n / 2 ^ (k + 7) % 2 := by
  rw [← bitN n k 1 (by omega), ← bitN n k 2 (by omega), ← bitN n k 3 (by omega), ← bitN n k 4 (by omega), ← bitN n k 5 (by omega), ← bitN n k 6 (by omega), ← bitN n k 7 (by omega)]
  unfold pc8
  generalize n / 2 ^ k = q
  omega
