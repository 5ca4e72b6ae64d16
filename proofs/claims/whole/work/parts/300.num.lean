set_option maxHeartbeats 4000000
set_option maxRecDepth 20000
/-! ===== the pure part: numbers ===== -/
/-- the bit p of a set -/
def bt (h p : Int) : Int := h / 2 ^ p.toNat % 2
/-- how many bits of the first 32 -/
def pc (h : Int) : Int := bt h 0 + bt h 1 + bt h 2 + bt h 3 + bt h 4 + bt h 5 + bt h 6 + bt h 7
theorem bt_01 (h p : Int) : bt h p = 0 ∨ bt h p = 1 := by unfold bt; omega
theorem nm_in {x : Int} (h1 : -2147483648 ≤ x) (h2 : x < 2147483648) : nm x = x := nm_of h1 h2
theorem nm_nm1 (x y : Int) : nm (nm x + y) = nm (x + y) := by unfold nm; omega
theorem nm_nm2 (x y : Int) : nm (x + nm y) = nm (x + y) := by unfold nm; omega
theorem toInt_div_nn {a b : Int32} (ha : 0 ≤ a.toInt) (hb : 0 < b.toInt) : (a / b).toInt = a.toInt / b.toInt := by
  rw [Int32.toInt_div, Int.tdiv_eq_ediv_of_nonneg ha]
  have h1 := Int.ediv_nonneg ha (Int.le_of_lt hb)
  have h2 : a.toInt / b.toInt ≤ a.toInt := Int.ediv_le_self _ ha
  have h3 := a.toInt_lt
  show Int.bmod _ 4294967296 = _
  unfold Int.bmod
  simp only []
  split <;> omega
theorem iDiv_nn {a b : Int} (oa : okI a) (ob : okI b) (ha : 0 ≤ a) (hb : 0 < b) : iDiv a b = a / b := by
  unfold iDiv
  rw [toInt_div_nn (by rw [mI_ok oa]; exact ha) (by rw [mI_ok ob]; exact hb), mI_ok oa, mI_ok ob]
theorem iRem_nn {a b : Int} (oa : okI a) (ob : okI b) (ha : 0 ≤ a) (hb : 0 < b) : iRem a b = a % b := by
  have h1 : mI a / mI b = mI (a / b) := by
    apply Int32.toInt_inj.mp
    rw [toInt_div_nn (by rw [mI_ok oa]; exact ha) (by rw [mI_ok ob]; exact hb), mI_ok oa, mI_ok ob, mI_ok]
    have h1 := Int.ediv_nonneg ha (Int.le_of_lt hb)
    have h2 : a / b ≤ a := Int.ediv_le_self _ ha
    unfold okI at oa ⊢
    omega
  unfold iRem
  rw [h1, mI_mul, mI_sub, mI_toInt]
  have e : nm (a / b * b) = a / b * b := by
    have h1 := Int.ediv_nonneg ha (Int.le_of_lt hb)
    have h2 : a / b * b ≤ a := Int.ediv_mul_le _ (by omega)
    have h3 : 0 ≤ a / b * b := Int.mul_nonneg h1 (by omega)
    unfold okI at oa
    exact nm_of (by omega) (by omega)
  rw [e]
  have h4 : a % b = a - a / b * b := by have := Int.emod_add_mul_ediv a b; rw [Int.mul_comm] at this; omega
  have h5 := Int.emod_nonneg a (show b ≠ 0 by omega)
  have h6 := Int.emod_lt_of_pos a hb
  unfold okI at ob
  have h7 : nm (a % b) = a % b := nm_of (by omega) (by omega)
  rw [← h4, h7, h7]
theorem sh_bt : ∀ h : Nat, h < 256 → ∀ p : Nat, p < 31 → bAnd (bShr h p) 1 = bt h p := by decide +kernel
theorem sh_bt' {h p : Int} (h0 : 0 ≤ h) (h1 : h < 256) (p0 : 0 ≤ p) (p1 : p < 31) : bAnd (bShr h p) 1 = bt h p := by
  have := sh_bt h.toNat (by omega) p.toNat (by omega)
  rwa [show ((h.toNat : Nat) : Int) = h by omega, show ((p.toNat : Nat) : Int) = p by omega] at this
theorem set_on : ∀ h : Nat, h < 256 → ∀ p : Nat, p < 8 → (0 ≤ bOr h (bShl 1 p) ∧ bOr h (bShl 1 p) < 256) ∧ ∀ q : Nat, q < 8 → bt (bOr h (bShl 1 p)) q = if q = p then 1 else bt h q := by decide +kernel
theorem set_off : ∀ h : Nat, h < 256 → ∀ p : Nat, p < 8 → (0 ≤ bAnd h (bXor (bShl 1 p) (-1)) ∧ bAnd h (bXor (bShl 1 p) (-1)) < 256) ∧ ∀ q : Nat, q < 8 → bt (bAnd h (bXor (bShl 1 p) (-1))) q = if q = p then 0 else bt h q := by decide +kernel
theorem cnt_pc : ∀ x : Nat, x < 256 → ∀ v1 : Int, v1 = nm (x - bAnd (bUsh x 1) 1431655765) → ∀ v2 : Int, v2 = nm (bAnd v1 858993459 + bAnd (bUsh v1 2) 858993459) → ∀ v3 : Int, v3 = bAnd (nm (v2 + bUsh v2 4)) 252645135 → ∀ v4 : Int, v4 = nm (v3 + bUsh v3 8) → ∀ v5 : Int, v5 = nm (v4 + bUsh v4 16) → bAnd v5 63 = pc x := by
  have h : ∀ x : Nat, x < 256 → bAnd (nm ((nm ((bAnd (nm (nm (bAnd (nm (x - bAnd (bUsh x 1) 1431655765)) 858993459 + bAnd (bUsh (nm (x - bAnd (bUsh x 1) 1431655765)) 2) 858993459) + bUsh (nm (bAnd (nm (x - bAnd (bUsh x 1) 1431655765)) 858993459 + bAnd (bUsh (nm (x - bAnd (bUsh x 1) 1431655765)) 2) 858993459)) 4)) 252645135) + bUsh (bAnd (nm (nm (bAnd (nm (x - bAnd (bUsh x 1) 1431655765)) 858993459 + bAnd (bUsh (nm (x - bAnd (bUsh x 1) 1431655765)) 2) 858993459) + bUsh (nm (bAnd (nm (x - bAnd (bUsh x 1) 1431655765)) 858993459 + bAnd (bUsh (nm (x - bAnd (bUsh x 1) 1431655765)) 2) 858993459)) 4)) 252645135) 8)) + bUsh (nm ((bAnd (nm (nm (bAnd (nm (x - bAnd (bUsh x 1) 1431655765)) 858993459 + bAnd (bUsh (nm (x - bAnd (bUsh x 1) 1431655765)) 2) 858993459) + bUsh (nm (bAnd (nm (x - bAnd (bUsh x 1) 1431655765)) 858993459 + bAnd (bUsh (nm (x - bAnd (bUsh x 1) 1431655765)) 2) 858993459)) 4)) 252645135) + bUsh (bAnd (nm (nm (bAnd (nm (x - bAnd (bUsh x 1) 1431655765)) 858993459 + bAnd (bUsh (nm (x - bAnd (bUsh x 1) 1431655765)) 2) 858993459) + bUsh (nm (bAnd (nm (x - bAnd (bUsh x 1) 1431655765)) 858993459 + bAnd (bUsh (nm (x - bAnd (bUsh x 1) 1431655765)) 2) 858993459)) 4)) 252645135) 8)) 16)) 63 = pc x := by decide +kernel
  intro x hx v1 e1 v2 e2 v3 e3 v4 e4 v5 e5
  subst e1; subst e2; subst e3; subst e4; subst e5
  exact h x hx
theorem s_bitCount {N : Nat} {x : Int} {S : mSt} {Q : mSt → Int → Prop} (h0 : 0 ≤ x) (h1 : x < 256) (h : Q S (pc x)) : w_J6_bitCount_0f7a4 N x S Q := by
  unfold w_J6_bitCount_0f7a4
  intro v1 e1 v2 e2 v3 e3 v4 e4 v5 e5
  have e : ((x.toNat : Nat) : Int) = x := by omega
  have := cnt_pc x.toNat (by omega) v1 (by rw [e]; exact e1) v2 e2 v3 e3 v4 e4 v5 e5
  rw [this, e]
  exact h
theorem pc_le (x : Int) : 0 ≤ pc x ∧ pc x ≤ 8 := by
  have h := fun p => bt_01 x p
  unfold pc
  have h0 := h 0; have h1 := h 1; have h2 := h 2; have h3 := h 3; have h4 := h 4; have h5 := h 5; have h6 := h 6; have h7 := h 7
  omega
def pcs (x : Int) : Nat → Int
  | 0 => 0
  | k + 1 => pcs x k + bt x k
theorem pcs_ok (x : Int) : ∀ k : Nat, 0 ≤ pcs x k ∧ pcs x k ≤ k
  | 0 => by unfold pcs; omega
  | k + 1 => by have := pcs_ok x k; have := bt_01 x k; unfold pcs; omega
theorem pcs_pc : ∀ x : Nat, x < 256 → pcs x 31 = pc x := by decide +kernel
theorem s_bits {N : Nat} (hN : 40 ≤ N) {x : Int} {S : mSt} {Q : mSt → Int → Prop} (h0 : 0 ≤ x) (h1 : x < 256) (h : Q S (pc x)) : w_X12_bits N x S Q := by
  unfold w_X12_bits
  intro v1 e1 v2 e2
  subst e1; subst e2
  have loop : ∀ (d k n : Nat), k + d = 31 → d < n → w_X12_bits_4 N Q (fun (x1_3 : Int) (S_3 : mSt) => Q S_3 x1_3) n x (pcs x k) k S := by
    intro d
    induction d with
    | zero =>
      intro k n hk hn
      obtain ⟨n, rfl⟩ : ∃ m, n = m + 1 := ⟨n - 1, by omega⟩
      refine ⟨fun _ => ?_, fun hc => by omega⟩
      have e : k = 31 := by omega
      subst e
      have := pcs_pc x.toNat (by omega)
      rw [show ((x.toNat : Nat) : Int) = x by omega] at this
      rw [this]
      exact h
    | succ d ih =>
      intro k n hk hn
      obtain ⟨n, rfl⟩ : ∃ m, n = m + 1 := ⟨n - 1, by omega⟩
      refine ⟨fun hc => by omega, fun _ v1 e1 v2 e2 => ?_⟩
      have hb := pcs_ok x k
      have h01 := bt_01 x k
      rw [sh_bt' h0 h1 (by omega) (by omega), nm_of (by omega) (by omega)] at e1
      rw [nm_of (by omega) (by omega)] at e2
      subst e1; subst e2
      exact ih (k + 1) n (by omega) (by omega)
  exact loop 31 0 N rfl (by omega)
