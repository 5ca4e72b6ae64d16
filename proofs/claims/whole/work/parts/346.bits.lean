set_option maxHeartbeats 400000
set_option maxRecDepth 20000
/-! ===== the pure part: the bits of an int ===== -/
def tb (x : Int) (k : Nat) : Bool := (mI x).toBitVec.getLsbD k
theorem mI_ti (x : Int32) : mI x.toInt = x := Int32.ofInt_toInt x
theorem tb_and (a b : Int) (k : Nat) : tb (bAnd a b) k = (tb a k && tb b k) := by
  unfold tb bAnd
  rw [mI_ti, Int32.toBitVec_and, BitVec.getLsbD_and]
theorem tb_or (a b : Int) (k : Nat) : tb (bOr a b) k = (tb a k || tb b k) := by
  unfold tb bOr
  rw [mI_ti, Int32.toBitVec_or, BitVec.getLsbD_or]
theorem tb_xor (a b : Int) (k : Nat) : tb (bXor a b) k = (tb a k ^^ tb b k) := by
  unfold tb bXor
  rw [mI_ti, Int32.toBitVec_xor, BitVec.getLsbD_xor]
theorem tb_shl : ∀ k : Nat, k < 32 → ∀ j : Nat, j < 32 → tb (bShl 1 k) j = (j == k) := by decide +kernel
theorem tb_0 : ∀ j : Nat, j < 32 → tb 0 j = false := by decide +kernel
theorem tb_m1 : ∀ j : Nat, j < 32 → tb (-1) j = true := by decide +kernel
/-- the int as a number below 2^32 -/
def un (x : Int) : Nat := (x % 4294967296).toNat
theorem un_lt (x : Int) : un x < 4294967296 := by unfold un; omega
theorem un_nm (x : Int) : un (nm x) = un x := by unfold un nm; omega
theorem un_bv (x : Int) : (mI x).toBitVec.toNat = un x := by
  show (BitVec.ofInt 32 x).toNat = _
  rw [BitVec.toNat_ofInt]; rfl
theorem un_and (a b : Int) : un (bAnd a b) = un a &&& un b := by
  rw [← un_bv, ← un_bv, ← un_bv]
  unfold bAnd
  rw [mI_ti, Int32.toBitVec_and, BitVec.toNat_and]
theorem un_tb (x : Int) (k : Nat) : tb x k = (un x).testBit k := by
  rw [← un_bv]; rfl
theorem un_ush1 (x : Int) (k : Nat) (s : UInt32) (hs : ((mI k).toUInt32 &&& Int32.toUInt32 31) = s) : un (bUsh x k) = un x / 2 ^ (s.toNat % 32) := by
  rw [← un_bv, ← un_bv]
  unfold bUsh
  rw [mI_ti, hs]
  show ((mI x).toUInt32 >>> s).toNat = _
  rw [UInt32.toNat_shiftRight, Nat.shiftRight_eq_div_pow]
  rfl
theorem land_by {a m : Nat} (q m' : Nat) (ha : a < 256) (hm : m < 256) : (a + 256 * q) &&& (m + 256 * m') = (a &&& m) + 256 * (q &&& m') := by
  apply Nat.eq_of_testBit_eq
  intro j
  have h1 : a &&& m < 2 ^ 8 := Nat.lt_of_le_of_lt Nat.and_le_left ha
  rw [Nat.testBit_and, show a + 256 * q = 2 ^ 8 * q + a by omega, show m + 256 * m' = 2 ^ 8 * m' + m by omega, show (a &&& m) + 256 * (q &&& m') = 2 ^ 8 * (q &&& m') + (a &&& m) by omega, Nat.testBit_two_pow_mul_add _ ha, Nat.testBit_two_pow_mul_add _ hm, Nat.testBit_two_pow_mul_add _ h1]
  split <;> rw [Nat.testBit_and]
def popN (u : Nat) : Nat → Nat
  | 0 => 0
  | k + 1 => popN u k + (u.testBit k).toNat
theorem popN_lo {a : Nat} (q : Nat) (ha : a < 256) : ∀ k : Nat, k ≤ 8 → popN (a + 256 * q) k = popN a k
  | 0, _ => rfl
  | k + 1, hk => by
    have h := popN_lo q ha k (by omega)
    unfold popN
    rw [h, show a + 256 * q = 2 ^ 8 * q + a by omega, Nat.testBit_two_pow_mul_add _ ha, if_pos (by omega)]
theorem popN_by {a : Nat} (q : Nat) (ha : a < 256) : ∀ n : Nat, popN (a + 256 * q) (8 + n) = popN a 8 + popN q n
  | 0 => popN_lo q ha 8 (Nat.le_refl _)
  | n + 1 => by
    have h := popN_by q ha n
    have e : popN (a + 256 * q) (8 + (n + 1)) = popN (a + 256 * q) (8 + n) + ((a + 256 * q).testBit (8 + n)).toNat := rfl
    have e2 : popN q (n + 1) = popN q n + (q.testBit n).toNat := rfl
    have e3 : (a + 256 * q).testBit (8 + n) = q.testBit n := by
      rw [show a + 256 * q = 2 ^ 8 * q + a by omega, Nat.testBit_two_pow_mul_add _ ha, if_neg (by omega), show 8 + n - 8 = n by omega]
    rw [e, e2, h, e3]; omega
def bG (b : Nat) : Nat := (b / 2) &&& 85
def bW (b : Nat) : Nat := b - bG b
def bY (b : Nat) : Nat := (bW b &&& 51) + (bW b / 4 &&& 51)
theorem byb_1 : ∀ b : Nat, b < 256 → ∀ c : Nat, c < 2 → (b / 2 + 128 * c) &&& 85 = bG b := by decide +kernel
theorem byb_2 : ∀ b : Nat, b < 256 → ∀ c : Nat, c < 4 → (b / 4 + 64 * c) &&& 51 = b / 4 &&& 51 := by decide +kernel
theorem byb_3 : ∀ b : Nat, b < 256 → ∀ c : Nat, c < 16 → (bY b + bY b / 16 + 16 * c) &&& 15 = popN b 8 := by decide +kernel
theorem byb_4 : ∀ b : Nat, b < 256 → bG b ≤ b ∧ bW b < 256 ∧ bY b ≤ 68 ∧ bY b % 16 ≤ 4 ∧ popN b 8 ≤ 8 := by decide +kernel
theorem byb_5 : ∀ b : Nat, b < 256 → (bW b &&& 51) < 64 ∧ (bW b / 4 &&& 51) < 64 := by decide +kernel
theorem land4 {a0 a1 a2 a3 m : Nat} (h0 : a0 < 256) (h1 : a1 < 256) (h2 : a2 < 256) (h3 : a3 < 256) (hm : m < 256) : (a0 + 256 * (a1 + 256 * (a2 + 256 * a3))) &&& (m + 256 * (m + 256 * (m + 256 * m))) = (a0 &&& m) + 256 * ((a1 &&& m) + 256 * ((a2 &&& m) + 256 * (a3 &&& m))) := by
  rw [land_by _ _ h0 hm, land_by _ _ h1 hm, land_by _ _ h2 hm]
theorem land63 (a : Nat) : a &&& 63 = a % 64 := Nat.and_two_pow_sub_one_eq_mod a 6
/-- the count by bytes -/
theorem cnt4 {b0 b1 b2 b3 u t1 v1 v2 v3 v4 v5 : Nat} (h0 : b0 < 256) (h1 : b1 < 256) (h2 : b2 < 256) (h3 : b3 < 256) (hu : u = b0 + 256 * (b1 + 256 * (b2 + 256 * b3))) (e1 : t1 = u / 2 &&& 1431655765) (e2 : v1 = u - t1) (e3 : v2 = (v1 &&& 858993459) + (v1 / 4 &&& 858993459)) (e4 : v3 = (v2 + v2 / 16) &&& 252645135) (e5 : v4 = v3 + v3 / 256) (e6 : v5 = v4 + v4 / 65536) : t1 ≤ u ∧ v1 < 4294967296 ∧ v2 < 4294967296 ∧ v2 + v2 / 16 < 4294967296 ∧ v4 < 4294967296 ∧ v5 < 4294967296 ∧ (v5 &&& 63) = popN u 32 ∧ (v1 &&& 858993459) + (v1 / 4 &&& 858993459) < 4294967296 := by
  have g0 := byb_4 b0 h0
  have g1 := byb_4 b1 h1
  have g2 := byb_4 b2 h2
  have g3 := byb_4 b3 h3
  have p32 : popN u 32 = popN b0 8 + (popN b1 8 + (popN b2 8 + popN b3 8)) := by
    rw [hu, show 32 = 8 + 24 from rfl, popN_by _ h0, show 24 = 8 + 16 from rfl, popN_by _ h1, show 16 = 8 + 8 from rfl, popN_by _ h2]
  have f1 : t1 = bG b0 + 256 * (bG b1 + 256 * (bG b2 + 256 * bG b3)) := by
    rw [e1, show u / 2 = (b0 / 2 + 128 * (b1 % 2)) + 256 * ((b1 / 2 + 128 * (b2 % 2)) + 256 * ((b2 / 2 + 128 * (b3 % 2)) + 256 * (b3 / 2 + 128 * 0))) by omega, show 1431655765 = 85 + 256 * (85 + 256 * (85 + 256 * 85)) from rfl, land4 (by omega) (by omega) (by omega) (by omega) (by omega), byb_1 b0 h0 _ (by omega), byb_1 b1 h1 _ (by omega), byb_1 b2 h2 _ (by omega), byb_1 b3 h3 _ (by omega)]
  have w0 : bW b0 = b0 - bG b0 := rfl
  have w1 : bW b1 = b1 - bG b1 := rfl
  have w2 : bW b2 = b2 - bG b2 := rfl
  have w3 : bW b3 = b3 - bG b3 := rfl
  have f2 : v1 = bW b0 + 256 * (bW b1 + 256 * (bW b2 + 256 * bW b3)) := by omega
  have y0 : bY b0 = (bW b0 &&& 51) + (bW b0 / 4 &&& 51) := rfl
  have y1 : bY b1 = (bW b1 &&& 51) + (bW b1 / 4 &&& 51) := rfl
  have y2 : bY b2 = (bW b2 &&& 51) + (bW b2 / 4 &&& 51) := rfl
  have y3 : bY b3 = (bW b3 &&& 51) + (bW b3 / 4 &&& 51) := rfl
  have f3 : v2 = bY b0 + 256 * (bY b1 + 256 * (bY b2 + 256 * bY b3)) := by
    have q1 : v1 &&& 858993459 = (bW b0 &&& 51) + 256 * ((bW b1 &&& 51) + 256 * ((bW b2 &&& 51) + 256 * (bW b3 &&& 51))) := by
      rw [f2, show 858993459 = 51 + 256 * (51 + 256 * (51 + 256 * 51)) from rfl, land4 g0.2.1 g1.2.1 g2.2.1 g3.2.1 (by omega)]
    have q2 : v1 / 4 &&& 858993459 = (bW b0 / 4 &&& 51) + 256 * ((bW b1 / 4 &&& 51) + 256 * ((bW b2 / 4 &&& 51) + 256 * (bW b3 / 4 &&& 51))) := by
      rw [show v1 / 4 = (bW b0 / 4 + 64 * (bW b1 % 4)) + 256 * ((bW b1 / 4 + 64 * (bW b2 % 4)) + 256 * ((bW b2 / 4 + 64 * (bW b3 % 4)) + 256 * (bW b3 / 4 + 64 * 0))) by omega, show 858993459 = 51 + 256 * (51 + 256 * (51 + 256 * 51)) from rfl, land4 (by omega) (by omega) (by omega) (by omega) (by omega), byb_2 _ g0.2.1 _ (by omega), byb_2 _ g1.2.1 _ (by omega), byb_2 _ g2.2.1 _ (by omega), byb_2 _ g3.2.1 _ (by omega)]
    rw [e3, q1, q2]; omega
  have f4 : v3 = popN b0 8 + 256 * (popN b1 8 + 256 * (popN b2 8 + 256 * popN b3 8)) := by
    rw [e4, show v2 + v2 / 16 = (bY b0 + bY b0 / 16 + 16 * (bY b1 % 16)) + 256 * ((bY b1 + bY b1 / 16 + 16 * (bY b2 % 16)) + 256 * ((bY b2 + bY b2 / 16 + 16 * (bY b3 % 16)) + 256 * (bY b3 + bY b3 / 16 + 16 * 0))) by omega, show 252645135 = 15 + 256 * (15 + 256 * (15 + 256 * 15)) from rfl, land4 (by omega) (by omega) (by omega) (by omega) (by omega), byb_3 b0 h0 _ (by omega), byb_3 b1 h1 _ (by omega), byb_3 b2 h2 _ (by omega), byb_3 b3 h3 _ (by omega)]
  have f5 : v4 = popN b0 8 + popN b1 8 + 256 * ((popN b1 8 + popN b2 8) + 256 * ((popN b2 8 + popN b3 8) + 256 * popN b3 8)) := by omega
  have f6 : v5 = popN b0 8 + popN b1 8 + (popN b2 8 + popN b3 8) + 256 * ((popN b1 8 + popN b2 8 + popN b3 8) + 256 * ((popN b2 8 + popN b3 8) + 256 * popN b3 8)) := by omega
  rw [land63, p32]
  refine ⟨by omega, by omega, by omega, by omega, by omega, by omega, by omega, by omega⟩
theorem un_sub {a b : Int} (h : un b ≤ un a) : un (nm (a - b)) = un a - un b := by unfold un nm at *; omega
theorem un_add {a b : Int} (h : un a + un b < 4294967296) : un (nm (a + b)) = un a + un b := by unfold un nm at *; omega
theorem un_ok {r : Int} (o : okI r) (h : un r < 64) : r = un r := by unfold un okI at *; omega
def pop32 (x : Int) : Int := popN (un x) 32
theorem un_lit : un 1431655765 = 1431655765 ∧ un 858993459 = 858993459 ∧ un 252645135 = 252645135 ∧ un 63 = 63 := by decide
theorem popN_le (u : Nat) : ∀ k, popN u k ≤ k
  | 0 => Nat.le_refl _
  | k + 1 => by
    have := popN_le u k
    have h2 := Bool.toNat_le (u.testBit k)
    unfold popN; omega
theorem s_bitCount32 {N : Nat} {x : Int} {S : mSt} {Q : mSt → Int → Prop} (h : Q S (pop32 x)) : w_J6_bitCount_0f7a4 N x S Q := by
  intro v1 e1 v2 e2 v3 e3 v4 e4 v5 e5
  have hx := un_lt x
  have hb : un x = un x % 256 + 256 * (un x / 256 % 256 + 256 * (un x / 65536 % 256 + 256 * (un x / 16777216))) := by omega
  obtain ⟨c1, c2, c3, c4, c5, c6, c7, c8⟩ := cnt4 (u := un x) (by omega) (by omega) (by omega) (by omega) hb rfl rfl rfl rfl rfl rfl
  obtain ⟨l1, l2, l3, l4⟩ := un_lit
  have k1 : un (bAnd (bUsh x 1) 1431655765) = un x / 2 &&& 1431655765 := by rw [un_and, l1]; congr 1; exact un_ush1 x 1 1 (by decide)
  have f1 : un v1 = un x - (un x / 2 &&& 1431655765) := by rw [e1, un_sub (by rw [k1]; exact c1), k1]
  have k2 : un (bAnd v1 858993459) = un v1 &&& 858993459 := by rw [un_and, l2]
  have k3 : un (bAnd (bUsh v1 2) 858993459) = un v1 / 4 &&& 858993459 := by rw [un_and, l2]; congr 1; exact un_ush1 v1 2 2 (by decide)
  rw [← f1] at c3 c4 c5 c6 c7 c8
  have f2 : un v2 = (un v1 &&& 858993459) + (un v1 / 4 &&& 858993459) := by rw [e2, un_add (by rw [k2, k3]; exact c8), k2, k3]
  rw [← f2] at c3 c4 c5 c6 c7
  have k4 : un (bUsh v2 4) = un v2 / 16 := un_ush1 v2 4 4 (by decide)
  have f3 : un v3 = (un v2 + un v2 / 16) &&& 252645135 := by rw [e3, un_and, l3, un_add (by rw [k4]; exact c4), k4]
  rw [← f3] at c5 c6 c7
  have k5 : un (bUsh v3 8) = un v3 / 256 := un_ush1 v3 8 8 (by decide)
  have f4 : un v4 = un v3 + un v3 / 256 := by rw [e4, un_add (by rw [k5]; exact c5), k5]
  rw [← f4] at c6 c7
  have k6 : un (bUsh v4 16) = un v4 / 65536 := un_ush1 v4 16 16 (by decide)
  have f5 : un v5 = un v4 + un v4 / 65536 := by rw [e5, un_add (by rw [k6]; exact c6), k6]
  rw [← f5] at c7
  have f6 : un (bAnd v5 63) = popN (un x) 32 := by rw [un_and, l4]; exact c7
  have hp := popN_le (un x) 32
  have := un_ok (bAnd_ok v5 63) (by omega)
  rw [this, f6]
  exact h
