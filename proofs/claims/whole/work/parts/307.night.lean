set_option maxHeartbeats 4000000
set_option maxRecDepth 20000
/-! ===== the pure part: a night with its draws ===== -/
theorem bAnd_le (x : Int) {m : Int} (om : okI m) (hm : 0 ≤ m) : 0 ≤ bAnd x m ∧ bAnd x m ≤ m := by
  unfold bAnd
  have hm2 : (mI m).toInt = m := mI_ok om
  have h1 : (mI m).toBitVec.msb = false := by
    rw [BitVec.msb_eq_toInt]
    have : (mI m).toBitVec.toInt = m := hm2
    rw [this]
    simp
    omega
  have h2 : (mI x &&& mI m).toBitVec = (mI x).toBitVec &&& (mI m).toBitVec := rfl
  have h3 : ((mI x).toBitVec &&& (mI m).toBitVec).msb = false := by rw [BitVec.msb_and, h1]; simp
  have h4 : (mI x &&& mI m).toInt = (((mI x).toBitVec &&& (mI m).toBitVec).toNat : Int) := by
    show (mI x &&& mI m).toBitVec.toInt = _
    rw [h2, BitVec.toInt_eq_toNat_of_msb h3]
  have h5 : m = ((mI m).toBitVec.toNat : Int) := by
    have : (mI m).toBitVec.toInt = m := hm2
    rw [BitVec.toInt_eq_toNat_of_msb h1] at this
    exact this.symm
  rw [h4]
  have h6 : ((mI x).toBitVec &&& (mI m).toBitVec).toNat ≤ (mI m).toBitVec.toNat := by
    rw [BitVec.toNat_and]
    exact Nat.and_le_right
  omega
theorem st_or : ∀ s : Nat, s < 32 → ∀ k : Nat, k < 5 → 0 ≤ bOr s (bShl 1 k) ∧ bOr s (bShl 1 k) < 32 := by decide +kernel
theorem st_or' {s k : Int} (h0 : 0 ≤ s) (h1 : s < 32) (k0 : 0 ≤ k) (k1 : k < 5) : 0 ≤ bOr s (bShl 1 k) ∧ bOr s (bShl 1 k) < 32 := by
  have := st_or s.toNat (by omega) k.toNat (by omega)
  rwa [show ((s.toNat : Nat) : Int) = s by omega, show ((k.toNat : Nat) : Int) = k by omega] at this
def sd (x : Int) : Int := nm (nm (1103515245 * x) + 12345)
def drw (f : mRow) : mRow := fup f 12 (sd (f 12))
def dv (f : mRow) : Int := bAnd (bUsh (f 12) 16) 32767
theorem dv_ok (f : mRow) : 0 ≤ dv f ∧ dv f ≤ 32767 := bAnd_le _ (by decide) (by decide)
theorem dv_rem (f : mRow) {b : Int} (ob : okI b) (hb : 0 < b) : iRem (dv f) b = dv f % b := iRem_nn (by have := dv_ok f; unfold okI; omega) ob (dv_ok f).1 hb
def fPass (f : mRow) : mRow := fup (fup f 5 (min 99 (f 5 + f 6))) 9 (nm (f 9 + 1))
def fSteal (f : mRow) (p : Int) : mRow := if f (14 + 6 * p + 4) = 1 then fup (fup f (14 + 6 * p + 4) 0) (14 + 6 * p) 9 else f
def fThief (f : mRow) : mRow := fPass (if dv (drw f) % 100 < f 8 then fSteal (drw (drw f)) (dv (drw (drw f)) % 8) else drw f)
def fBite (f : mRow) (p k : Int) : mRow := if f (14 + 6 * p + 4) = 1 then fup f (14 + 6 * p + 3) (bOr (f (14 + 6 * p + 3)) (bShl 1 k)) else f
def fWolf (f : mRow) : mRow := fThief (if dv (drw f) % 100 < f 7 then fBite (drw (drw (drw f))) (dv (drw (drw f)) % 8) (dv (drw (drw (drw f))) % 5) else drw f)
def fDay (f : mRow) : mRow := fup (drw f) 10 (dv (drw f) % 10)
def fNight (A : mLaw) (f : mRow) : mRow := fWolf (fAirs A (fDay f) 8)
def fNightN (A : mLaw) (f : mRow) : Int := fGots A (fDay f) 8
/-- the ranges that a night needs and keeps -/
def RN (f : mRow) : Prop := RO f ∧ (0 ≤ f 5 ∧ f 5 ≤ 99) ∧ (0 ≤ f 6 ∧ f 6 ≤ 20)
theorem RN.dr {f : mRow} (h : RN f) : RN (drw f) := ⟨h.1.other (by omega) (by omega) (by omega), by unfold drw; rw [fup_ne _ _ (by omega)]; exact h.2.1, by unfold drw; rw [fup_ne _ _ (by omega)]; exact h.2.2⟩
theorem RN.pass {f : mRow} (h : RN f) : RN (fPass f) := by
  obtain ⟨h1, h2, h3⟩ := h
  unfold fPass
  refine ⟨(h1.other (by omega) (by omega) (by omega)).night (nm_ok _), ?_, ?_⟩
  · rw [fup_ne _ _ (by omega), fup_at]; omega
  · rw [fup_ne _ _ (by omega), fup_ne _ _ (by omega)]; exact h3
theorem RN.steal {f : mRow} (h : RN f) {p : Int} (p0 : 0 ≤ p) (p1 : p < 8) : RN (fSteal f p) := by
  unfold fSteal
  split
  · refine ⟨(h.1.hung p0 p1 (Or.inl rfl)).grey p0 p1 (by omega), ?_, ?_⟩
    · rw [fup_ne _ _ (by omega), fup_ne _ _ (by omega)]; exact h.2.1
    · rw [fup_ne _ _ (by omega), fup_ne _ _ (by omega)]; exact h.2.2
  · exact h
theorem RN.bite {f : mRow} (h : RN f) {p k : Int} (p0 : 0 ≤ p) (p1 : p < 8) (k0 : 0 ≤ k) (k1 : k < 5) : RN (fBite f p k) := by
  obtain ⟨g1, g2, g3, g4, g5, g6, g7⟩ := h.1.at p0 p1
  unfold fBite
  split
  · refine ⟨h.1.stain p0 p1 (st_or' g4.1 g4.2 k0 k1), ?_, ?_⟩
    · rw [fup_ne _ _ (by omega)]; exact h.2.1
    · rw [fup_ne _ _ (by omega)]; exact h.2.2
  · exact h
theorem RN.thief {f : mRow} (h : RN f) : RN (fThief f) := by
  unfold fThief
  refine RN.pass ?_
  split
  · exact h.dr.dr.steal (by omega) (by omega)
  · exact h.dr
theorem RN.wolf {f : mRow} (h : RN f) : RN (fWolf f) := by
  unfold fWolf
  refine RN.thief ?_
  split
  · exact h.dr.dr.dr.bite (by omega) (by omega) (by omega) (by omega)
  · exact h.dr
theorem RN.day {f : mRow} (h : RN f) : RN (fDay f) := by
  unfold fDay
  exact ⟨h.dr.1.damp (by omega), by rw [fup_ne _ _ (by omega)]; exact h.dr.2.1, by rw [fup_ne _ _ (by omega)]; exact h.dr.2.2⟩
theorem RN.airs {A : mLaw} (hB : LB A) {f : mRow} (h : RN f) : RN (fAirs A f 8) := ⟨fAirs_RO hB h.1 8 (by omega), by rw [fAirs_hi A f (by omega) 8 (by omega)]; exact h.2.1, by rw [fAirs_hi A f (by omega) 8 (by omega)]; exact h.2.2⟩
theorem RN.night {A : mLaw} (hB : LB A) {f : mRow} (h : RN f) : RN (fNight A f) := RN.wolf (RN.airs hB h.day)
theorem fSteal_hi (f : mRow) {p k : Int} (p0 : 0 ≤ p) (p1 : p < 8) (hk : k < 14 ∨ 62 ≤ k) : fSteal f p k = f k := by
  unfold fSteal
  split
  · rw [fup_ne _ _ (by omega), fup_ne _ _ (by omega)]
  · rfl
theorem fBite_hi (f : mRow) {p s k : Int} (p0 : 0 ≤ p) (p1 : p < 8) (hk : k < 14 ∨ 62 ≤ k) : fBite f p s k = f k := by
  unfold fBite
  split
  · rw [fup_ne _ _ (by omega)]
  · rfl
theorem drw_hi (f : mRow) {k : Int} (hk : k ≠ 12) : drw f k = f k := fup_ne _ _ hk
theorem fThief_hi (f : mRow) {k : Int} (hk : k < 14 ∨ 62 ≤ k) (h5 : k ≠ 5) (h9 : k ≠ 9) (h12 : k ≠ 12) : fThief f k = f k := by
  unfold fThief fPass
  rw [fup_ne _ _ h9, fup_ne _ _ h5]
  split
  · rw [fSteal_hi _ (by omega) (by omega) hk, drw_hi _ h12, drw_hi _ h12]
  · rw [drw_hi _ h12]
theorem fWolf_hi (f : mRow) {k : Int} (hk : k < 14 ∨ 62 ≤ k) (h5 : k ≠ 5) (h9 : k ≠ 9) (h12 : k ≠ 12) : fWolf f k = f k := by
  unfold fWolf
  rw [fThief_hi _ hk h5 h9 h12]
  split
  · rw [fBite_hi _ (by omega) (by omega) hk, drw_hi _ h12, drw_hi _ h12, drw_hi _ h12]
  · rw [drw_hi _ h12]
/-- what a night leaves of a row -/
theorem fNight_hi (A : mLaw) (f : mRow) {k : Int} (hk : k < 14 ∨ 62 ≤ k) (h5 : k ≠ 5) (h9 : k ≠ 9) (h10 : k ≠ 10) (h12 : k ≠ 12) : fNight A f k = f k := by
  unfold fNight
  rw [fWolf_hi _ hk h5 h9 h12, fAirs_hi A _ hk 8 (by omega)]
  unfold fDay
  rw [fup_ne _ _ h10, drw_hi _ h12]
section mNight
variable {N : Nat} {S : mSt} {A : mLaw} {Q : mSt → Int → Prop}
theorem a_draw {b : Int} (ob : okI b) (hb : 0 < b) (h : Q (mup S 1 12 (sd (S 1 12))) (dv (drw (S 1)) % b)) : w_X12_draw N 0 b S Q := by
  unfold w_X12_draw
  intro S1 e1
  refine ⟨by omega, ?_⟩
  have e : S1 (0 + 1) 12 = sd (S 1 12) := by rw [e1]; exact mup_same _ _ _ _
  have e2 : bAnd (bUsh (S1 (0 + 1) 12) 16) 32767 = dv (drw (S 1)) := by rw [e]; unfold dv drw; rw [fup_at]
  rw [e2, dv_rem _ ob hb, e1]
  exact h
theorem a_pass {Q : mSt → Prop} (hok : okS S) (hR : RN (S 1)) (h : ∀ S', okS S' → S' 1 = fPass (S 1) → MG S S' → Q S') : w_X12_passes N 0 S Q := by
  unfold w_X12_passes
  simp only [Nat.zero_add]
  obtain ⟨h1, h2, h3⟩ := hR
  refine a_lesser (fun S2 e2 S3 e3 => ?_)
  rw [nm_of (by omega) (by omega)] at e2
  have m2 : S2 1 9 = S 1 9 := by rw [e2, mup_i _ _ _ (by decide : (9 : Int) ≠ 5)]
  rw [m2] at e3
  refine h S3 ?_ ?_ ?_
  · rw [e3, e2]; exact okS_up (okS_up hok (by unfold okI; omega)) (nm_ok _)
  · rw [e3, e2]; rw [mup_1, mup_1]; rfl
  · rw [e3, e2]; exact (MG.up _ _).tr (MG.up _ _)
end mNight
