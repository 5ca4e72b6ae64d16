/-! ===== numbers: an int of the machine as an Int in its range ===== -/
def mI (x : Int) : Int32 := Int32.ofInt x
def nm (x : Int) : Int := (x + 2147483648) % 4294967296 - 2147483648
abbrev okI (x : Int) : Prop := -2147483648 ≤ x ∧ x < 2147483648
theorem nm_ok (x : Int) : okI (nm x) := by unfold okI nm; omega
theorem nm_id {x : Int} (h : okI x) : nm x = x := by unfold okI at h; unfold nm; omega
theorem nm_of {x : Int} (h1 : -2147483648 ≤ x) (h2 : x < 2147483648) : nm x = x := nm_id ⟨h1, h2⟩
theorem mI_toInt (x : Int) : (mI x).toInt = nm x := by
  unfold mI nm
  rw [Int32.toInt_ofInt]
  show Int.bmod x 4294967296 = _
  unfold Int.bmod
  simp only []
  split <;> omega
theorem mI_ok {x : Int} (h : okI x) : (mI x).toInt = x := (mI_toInt x).trans (nm_id h)
theorem mI_eq {x y : Int} (h : nm x = nm y) : mI x = mI y := Int32.toInt_inj.mp (by rw [mI_toInt, mI_toInt, h])
theorem mI_nm (x : Int) : mI (nm x) = mI x := mI_eq (nm_id (nm_ok x))
theorem mI_inj {x y : Int} (hx : okI x) (hy : okI y) : mI x = mI y ↔ x = y := ⟨fun h => by rw [← mI_ok hx, ← mI_ok hy, h], fun h => by rw [h]⟩
theorem mI_of (v : Int32) : mI v.toInt = v := Int32.ofInt_toInt v
theorem toInt_okI (v : Int32) : okI v.toInt := ⟨v.le_toInt, v.toInt_lt⟩
theorem mI_add (a b : Int) : mI a + mI b = mI (nm (a + b)) := by
  apply Int32.toInt_inj.mp
  rw [mI_nm, Int32.toInt_add, mI_toInt, mI_toInt, mI_toInt]
  show Int.bmod _ 4294967296 = _
  unfold Int.bmod nm
  simp only []
  split <;> omega
theorem mI_sub (a b : Int) : mI a - mI b = mI (nm (a - b)) := by
  apply Int32.toInt_inj.mp
  rw [mI_nm, Int32.toInt_sub, mI_toInt, mI_toInt, mI_toInt]
  show Int.bmod _ 4294967296 = _
  unfold Int.bmod nm
  simp only []
  split <;> omega
theorem mI_neg (a : Int) : -mI a = mI (nm (-a)) := by
  apply Int32.toInt_inj.mp
  rw [mI_nm, Int32.toInt_neg, mI_toInt, mI_toInt]
  show Int.bmod _ 4294967296 = _
  unfold Int.bmod nm
  simp only []
  split <;> omega
theorem nm_mul (a b : Int) : nm (nm a * nm b) = nm (a * b) := by
  have h : ∀ x : Int, ∃ k : Int, nm x = x + 4294967296 * k := fun x => ⟨-((x + 2147483648) / 4294967296), by unfold nm; omega⟩
  obtain ⟨k, hk⟩ := h a
  obtain ⟨l, hl⟩ := h b
  have e : nm a * nm b = a * b + 4294967296 * (a * l + k * b + 4294967296 * (k * l)) := by
    rw [hk, hl]; simp only [Int.mul_add, Int.add_mul, Int.mul_assoc, Int.mul_left_comm, Int.mul_comm, Int.add_assoc, Int.add_left_comm, Int.add_comm]
  rw [e]
  generalize a * l + k * b + 4294967296 * (k * l) = z
  generalize a * b = y
  unfold nm
  omega
theorem mI_mul (a b : Int) : mI a * mI b = mI (nm (a * b)) := by
  apply Int32.toInt_inj.mp
  rw [mI_nm, Int32.toInt_mul, mI_toInt, mI_toInt, mI_toInt, ← nm_mul]
  generalize nm a * nm b = z
  show Int.bmod _ 4294967296 = _
  unfold Int.bmod nm
  simp only []
  split <;> omega
theorem mI_lt {a b : Int} (ha : okI a) (hb : okI b) : mI a < mI b ↔ a < b := by rw [Int32.lt_iff_toInt_lt, mI_ok ha, mI_ok hb]
theorem mI_le {a b : Int} (ha : okI a) (hb : okI b) : mI a ≤ mI b ↔ a ≤ b := by rw [Int32.le_iff_toInt_le, mI_ok ha, mI_ok hb]
theorem mI_in {i : Int} {n : Nat} (hi : okI i) (h0 : 0 ≤ i) (h : i < n) : vp_in (mI i) n := vp_in_iff.mpr (by rw [mI_ok hi]; exact ⟨h0, h⟩)
theorem mI_cl {i : Int} (hi : okI i) : (mI i).toNatClampNeg = i.toNat := by
  show (mI i).toInt.toNat = _
  rw [mI_ok hi]
theorem mI_nat (n : Nat) : Int32.ofNat n = mI (n : Int) := rfl
/-- bits, division: by the machine's own -/
def bAnd (a b : Int) : Int := (mI a &&& mI b).toInt
def bOr (a b : Int) : Int := (mI a ||| mI b).toInt
def bXor (a b : Int) : Int := (mI a ^^^ mI b).toInt
def bShl (a b : Int) : Int := (mI a <<< (mI b &&& 31)).toInt
def bShr (a b : Int) : Int := (mI a >>> (mI b &&& 31)).toInt
def bUsh (a b : Int) : Int := ((mI a).toUInt32 >>> ((mI b).toUInt32 &&& Int32.toUInt32 31)).toInt32.toInt
def iDiv (a b : Int) : Int := (mI a / mI b).toInt
def iRem (a b : Int) : Int := (mI a - mI a / mI b * mI b).toInt
theorem bAnd_ok (a b : Int) : okI (bAnd a b) := toInt_okI _
theorem bOr_ok (a b : Int) : okI (bOr a b) := toInt_okI _
theorem bXor_ok (a b : Int) : okI (bXor a b) := toInt_okI _
theorem bShl_ok (a b : Int) : okI (bShl a b) := toInt_okI _
theorem bShr_ok (a b : Int) : okI (bShr a b) := toInt_okI _
theorem bUsh_ok (a b : Int) : okI (bUsh a b) := toInt_okI _
theorem iDiv_ok (a b : Int) : okI (iDiv a b) := toInt_okI _
theorem iRem_ok (a b : Int) : okI (iRem a b) := toInt_okI _
def iMax (a b : Int) : Int := if a < b then b else a
def iMin (a b : Int) : Int := if a < b then a else b
theorem iMax_ok {a b : Int} (ha : okI a) (hb : okI b) : okI (iMax a b) := by unfold iMax; split <;> assumption
theorem iMin_ok {a b : Int} (ha : okI a) (hb : okI b) : okI (iMin a b) := by unfold iMin; split <;> assumption
/-! ===== a memory: regions of numbers ===== -/
abbrev mSt : Type := Nat → Int → Int
def mup (S : mSt) (r : Nat) (i v : Int) : mSt := fun r' i' => if r' = r ∧ i' = i then v else S r' i'
theorem mup_same (S : mSt) (r : Nat) (i v : Int) : mup S r i v r i = v := if_pos ⟨rfl, rfl⟩
theorem mup_r (S : mSt) {r r' : Nat} (i v i' : Int) (h : r' ≠ r) : mup S r i v r' i' = S r' i' := if_neg fun q => h q.1
theorem mup_i (S : mSt) (r : Nat) {i i' : Int} (v : Int) (h : i' ≠ i) : mup S r i v r i' = S r i' := if_neg fun q => h q.2
theorem mup_at (S : mSt) (r : Nat) (i v i' : Int) : mup S r i v r i' = if i' = i then v else S r i' := by unfold mup; simp
def okS (S : mSt) : Prop := ∀ (r : Nat) (i : Int), okI (S r i)
theorem okS_up {S : mSt} {r : Nat} {i v : Int} (h : okS S) (hv : okI v) : okS (mup S r i v) := fun r' i' => by
  unfold mup; split
  · exact hv
  · exact h r' i'
