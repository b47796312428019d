theorem u3_l {n : Nat} (h : n < 4294967296) : u3 (nI n) = n := u3_nI h
theorem md_add {X Y : Nat} (h : X = 4294967296 + Y) (hy : Y < 4294967296) : X % 4294967296 = Y := by
  rw [h, Nat.add_mod_left, Nat.mod_eq_of_lt hy]
theorem pop_s1 (x : Int32) {a b c d : Nat} (la : a < 256) (lb : b < 256) (lc : c < 256) (ld : d < 256) (hn : u3 x = a + 256 * (b + 256 * (c + 256 * d))) :
    u3 (x - (ush x 1 &&& 1431655765)) = pa a + 256 * (pa b + 256 * (pa c + 256 * pa d)) := by
  rw [u3_sub, u3_and, u3_ush x 1 1 (s_u 1 (by omega)), show u3 1431655765 = 1431655765 from u3_l (n := 1431655765) (by omega), hn, Nat.pow_one, pop1 la lb lc ld]
  have e1 := pa_le a la
  have e2 := pa_le b lb
  have e3 := pa_le c lc
  have e4 := pa_le d ld
  unfold pa
  generalize (a / 2 &&& 85) = y1 at *
  generalize (b / 2 &&& 85) = y2 at *
  generalize (c / 2 &&& 85) = y3 at *
  generalize (d / 2 &&& 85) = y4 at *
  clear hn
  exact md_add (by omega) (by omega)
theorem pop_s2 (y : Int32) {a b c d : Nat} (la : a < 256) (lb : b < 256) (lc : c < 256) (ld : d < 256) (h1 : u3 y = pa a + 256 * (pa b + 256 * (pa c + 256 * pa d))) :
    u3 ((y &&& 858993459) + (ush y 2 &&& 858993459)) = pb a + 256 * (pb b + 256 * (pb c + 256 * pb d)) := by
  have pal : ∀ z, z < 256 → pa z < 256 := fun z hz => by unfold pa; omega
  rw [u3_add, u3_and, u3_and, u3_ush y 2 2 (s_u 2 (by omega)), show u3 858993459 = 858993459 from u3_l (n := 858993459) (by omega), h1, show (2 : Nat) ^ 2 = 4 from rfl, pop2 (pal a la) (pal b lb) (pal c lc) (pal d ld), show (858993459 : Nat) = 51 + 256 * (51 + 256 * (51 + 256 * 51)) from rfl, lane4 (pal a la) (pal b lb) (pal c lc) (by omega)]
  have e1 := (pb_le a la).1
  have e2 := (pb_le b lb).1
  have e3 := (pb_le c lc).1
  have e4 := (pb_le d ld).1
  unfold pb at e1 e2 e3 e4 ⊢
  generalize (pa a &&& 51) = p1 at *
  generalize (pa b &&& 51) = p2 at *
  generalize (pa c &&& 51) = p3 at *
  generalize (pa d &&& 51) = p4 at *
  generalize (pa a / 4 &&& 51) = q1 at *
  generalize (pa b / 4 &&& 51) = q2 at *
  generalize (pa c / 4 &&& 51) = q3 at *
  generalize (pa d / 4 &&& 51) = q4 at *
  clear h1 pal
  rw [Nat.mod_eq_of_lt (by omega)]
  omega
theorem dv16 (a b c d : Nat) : (a + 256 * (b + 256 * (c + 256 * d))) / 16 = (a / 16 + 16 * (b % 16)) + 256 * ((b / 16 + 16 * (c % 16)) + 256 * ((c / 16 + 16 * (d % 16)) + 256 * (d / 16))) := by omega
theorem pop_s3 (y : Int32) {a b c d : Nat} (la : a < 256) (lb : b < 256) (lc : c < 256) (ld : d < 256) (h2 : u3 y = pb a + 256 * (pb b + 256 * (pb c + 256 * pb d))) :
    u3 ((y + ush y 4) &&& 252645135) = pc8 a + 256 * (pc8 b + 256 * (pc8 c + 256 * pc8 d)) := by
  have e1 := pb_le a la
  have e2 := pb_le b lb
  have e3 := pb_le c lc
  have e4 := pb_le d ld
  have f1 := pb_pc a la
  have f2 := pb_pc b lb
  have f3 := pb_pc c lc
  have f4 := pb_pc d ld
  rw [u3_and, u3_add, u3_ush y 4 4 (s_u 4 (by omega)), show u3 252645135 = 252645135 from u3_l (n := 252645135) (by omega), h2, show (2 : Nat) ^ 4 = 16 from rfl, dv16]
  clear h2
  generalize pb a = A at *
  generalize pb b = B at *
  generalize pb c = C at *
  generalize pb d = E at *
  rw [← f1, ← f2, ← f3, ← f4]
  rw [Nat.mod_eq_of_lt (by omega)]
  rw [show A + 256 * (B + 256 * (C + 256 * E)) + ((A / 16 + 16 * (B % 16)) + 256 * ((B / 16 + 16 * (C % 16)) + 256 * ((C / 16 + 16 * (E % 16)) + 256 * (E / 16)))) = (A + A / 16 + 16 * (B % 16)) + 256 * ((B + B / 16 + 16 * (C % 16)) + 256 * ((C + C / 16 + 16 * (E % 16)) + 256 * (E + E / 16))) by omega]
  rw [show (252645135 : Nat) = 15 + 256 * (15 + 256 * (15 + 256 * 15)) from rfl, lane4 (by omega) (by omega) (by omega) (by omega), m15, m15, m15, m15]
  rw [show (A + A / 16 + 16 * (B % 16)) % 16 = (A + A / 16) % 16 by omega, show (B + B / 16 + 16 * (C % 16)) % 16 = (B + B / 16) % 16 by omega, show (C + C / 16 + 16 * (E % 16)) % 16 = (C + C / 16) % 16 by omega]
theorem pop_s4 (y : Int32) {A B C E : Nat} (ha : A ≤ 8) (hb : B ≤ 8) (hc : C ≤ 8) (he : E ≤ 8) (h : u3 y = A + 256 * (B + 256 * (C + 256 * E))) : u3 (y + ush y 8) = (A + B) + 256 * ((B + C) + 256 * ((C + E) + 256 * E)) := by
  rw [u3_add, u3_ush y 8 8 (s_u 8 (by omega)), h, show (2 : Nat) ^ 8 = 256 from rfl, show (A + 256 * (B + 256 * (C + 256 * E))) / 256 = B + 256 * (C + 256 * E) by omega, Nat.mod_eq_of_lt (by omega)]
  omega
theorem pop_s5 (y : Int32) {A B C E : Nat} (ha : A ≤ 16) (hb : B ≤ 16) (hc : C ≤ 16) (he : E ≤ 16) (h : u3 y = A + 256 * (B + 256 * (C + 256 * E))) : u3 (y + ush y 16) = (A + C) + 256 * ((B + E) + 256 * (C + 256 * E)) := by
  rw [u3_add, u3_ush y 16 16 (s_u 16 (by omega)), h, show (2 : Nat) ^ 16 = 65536 from rfl, show (A + 256 * (B + 256 * (C + 256 * E))) / 65536 = C + 256 * E by omega, Nat.mod_eq_of_lt (by omega)]
  omega
theorem pop_s6 (y : Int32) {A Z : Nat} (ha : A ≤ 32) (h : u3 y = A + 256 * Z) : u3 (y &&& 63) = A := by
  rw [u3_and, h, show u3 63 = 63 from u3_l (n := 63) (by omega), m63]
  omega
theorem pop_val (x : Int32) : u3 (fn_J0_bitCount x) = pc8 (u3 x % 256) + pc8 (u3 x / 256 % 256) + pc8 (u3 x / 65536 % 256) + pc8 (u3 x / 16777216) := by
  have hx := u3_lt x
  have hn : u3 x = u3 x % 256 + 256 * (u3 x / 256 % 256 + 256 * (u3 x / 65536 % 256 + 256 * (u3 x / 16777216))) := by omega
  have ld : u3 x / 16777216 < 256 := by omega
  have s1 := pop_s1 x (Nat.mod_lt _ (by omega)) (Nat.mod_lt _ (by omega)) (Nat.mod_lt _ (by omega)) ld hn
  have s2 := pop_s2 _ (Nat.mod_lt _ (by omega)) (Nat.mod_lt _ (by omega)) (Nat.mod_lt _ (by omega)) ld s1
  have s3 := pop_s3 _ (Nat.mod_lt _ (by omega)) (Nat.mod_lt _ (by omega)) (Nat.mod_lt _ (by omega)) ld s2
  have g1 := pc8_le (u3 x % 256)
  have g2 := pc8_le (u3 x / 256 % 256)
  have g3 := pc8_le (u3 x / 65536 % 256)
  have g4 := pc8_le (u3 x / 16777216)
  have s4 := pop_s4 _ g1 g2 g3 g4 s3
  have s5 := pop_s5 _ (by omega) (by omega) (by omega) (by omega) s4
  have s6 := pop_s6 _ (by omega) s5
  unfold fn_J0_bitCount
  simp only [lt]
  rw [s6]
  omega
theorem cnt_8 (f : Nat → Bool) (n : Nat) : cnt f (n + 8) = cnt f n + (if f n = true then 1 else 0) + (if f (n + 1) = true then 1 else 0) + (if f (n + 2) = true then 1 else 0) + (if f (n + 3) = true then 1 else 0) + (if f (n + 4) = true then 1 else 0) + (if f (n + 5) = true then 1 else 0) + (if f (n + 6) = true then 1 else 0) + (if f (n + 7) = true then 1 else 0) := rfl
theorem cnt_b8 (x : Int32) (n : Nat) : cnt (bt x) (n + 8) = cnt (bt x) n + pc8 (u3 x / 2 ^ n % 256) := by
  rw [cnt_8, pc8_at]
  simp only [one_of]
  omega
theorem bitCount_cnt (x : Int32) : fn_J0_bitCount x = nI (cnt (bt x) 32) := by
  apply u3_inj
  have hc := cnt_le (bt x) 32
  have hx := u3_lt x
  rw [u3_nI (by omega), pop_val, show cnt (bt x) 32 = cnt (bt x) (24 + 8) from rfl, cnt_b8 x 24, show cnt (bt x) 24 = cnt (bt x) (16 + 8) from rfl, cnt_b8 x 16, show cnt (bt x) 16 = cnt (bt x) (8 + 8) from rfl, cnt_b8 x 8, show cnt (bt x) 8 = cnt (bt x) (0 + 8) from rfl, cnt_b8 x 0]
  rw [show u3 x / 2 ^ 0 % 256 = u3 x % 256 by simp, show u3 x / 2 ^ 24 % 256 = u3 x / 16777216 by omega, show u3 x / 2 ^ 8 % 256 = u3 x / 256 % 256 from rfl, show u3 x / 2 ^ 16 % 256 = u3 x / 65536 % 256 from rfl]
  show _ = 0 + _ + _ + _ + _
  omega
