set_option maxHeartbeats 4000000
set_option maxRecDepth 20000
/-! ===== the pure part: rows, facts, laws by what they give, light ===== -/
abbrev mRow : Type := Int → Int
/-- the facts that a law sees of part p -/
def env (f : mRow) (p : Int) : Int → Int := fun k =>
  if k = 0 then p else if k = 1 then f (14 + 6 * p) else if k = 2 then f (14 + 6 * p + 1) else if k = 3 then f (14 + 6 * p + 2) else if k = 4 then pc (f (14 + 6 * p + 3)) else if k = 5 then f (62 + f (14 + 6 * p + 5)) else if k = 6 then f 10 else if k = 7 then f 9 else if k = 8 then (if iRem (f 9) 28 = 14 then 1 else 0) else f (14 + 6 * p + 4)
/-- what a law gives: by kind and facts -/
abbrev mLaw : Type := Int → (Int → Int) → Int
def LB (A : mLaw) : Prop := ∀ k e, 0 ≤ A k e ∧ A k e ≤ 240
/-- one part of a row is in its ranges -/
def RP (f : mRow) (p : Int) : Prop := (0 ≤ f (14 + 6 * p) ∧ f (14 + 6 * p) ≤ 9) ∧ (0 ≤ f (14 + 6 * p + 1) ∧ f (14 + 6 * p + 1) ≤ 9) ∧ (0 ≤ f (14 + 6 * p + 2) ∧ f (14 + 6 * p + 2) ≤ 9) ∧ (0 ≤ f (14 + 6 * p + 3) ∧ f (14 + 6 * p + 3) < 32) ∧ (f (14 + 6 * p + 4) = 0 ∨ f (14 + 6 * p + 4) = 1) ∧ (0 ≤ f (14 + 6 * p + 5) ∧ f (14 + 6 * p + 5) < 8) ∧ (0 ≤ f (62 + p) ∧ f (62 + p) ≤ 9)
def RO (f : mRow) : Prop := (∀ p, 0 ≤ p → p < 8 → RP f p) ∧ (0 ≤ f 10 ∧ f 10 ≤ 9) ∧ okI (f 9)
/-- a moon of the class against a row -/
def RM (S : mSt) (r : Nat) (f : mRow) : Prop := (∀ p, 0 ≤ p → p < 8 → S (r + 1) p = f (14 + 6 * p) ∧ S (r + 2) p = f (14 + 6 * p + 1) ∧ S (r + 3) p = f (14 + 6 * p + 2) ∧ S (r + 4) p = f (14 + 6 * p + 3) ∧ bt (S r 6) p = f (14 + 6 * p + 4) ∧ S (r + 5) p = f (14 + 6 * p + 5) ∧ S (r + 6) p = f (62 + p)) ∧ S r 7 = f 9 ∧ S r 8 = f 10 ∧ 0 ≤ S r 6 ∧ S r 6 < 256
theorem RM.of {S S' : mSt} {r : Nat} {f : mRow} (h : RM S r f) (hs : ∀ r', r ≤ r' → r' ≤ r + 6 → S' r' = S r') : RM S' r f := by
  unfold RM
  rw [hs r (by omega) (by omega), hs (r + 1) (by omega) (by omega), hs (r + 2) (by omega) (by omega), hs (r + 3) (by omega) (by omega), hs (r + 4) (by omega) (by omega), hs (r + 5) (by omega) (by omega), hs (r + 6) (by omega) (by omega)]
  exact h
/-- a law of the class gives A -/
def LX (N : Nat) (X : mSt) (lw : Nat) (A : mLaw) : Prop := ∀ (S : mSt) (r : Nat) (f : mRow) (p kind : Int) (Q : mSt → Int → Prop), (∀ j, j ≤ 4 → S (lw + j) = X (lw + j)) → okS S → RM S r f → RO f → (lw + 6 < r ∨ r + 6 < lw) → 0 ≤ p → p < 8 → 0 ≤ kind → kind < 4 → (∀ S', okS S' → (∀ r', r' ≠ lw + 5 → r' ≠ lw + 6 → S' r' = S r') → Q S' (A kind (env f p))) → w_X3_sumOf N lw kind r p S Q
theorem LX.of {N : Nat} {X X' : mSt} {lw : Nat} {A : mLaw} (h : LX N X lw A) (hs : ∀ j, j ≤ 4 → X' (lw + j) = X (lw + j)) : LX N X' lw A := fun S r f p kind Q h1 => h S r f p kind Q (fun j hj => (h1 j hj).trans (hs j hj))
/-- a law of the reference gives A -/
def LM (N : Nat) (f : mRow) (A : mLaw) : Prop := (f 1 < 1 → ∀ k e, A k e = 0) ∧ (1 ≤ f 1 → ∀ (M : mSt) (e : Int → Int) (Q : mSt → Int → Prop), okS M → (∀ k, 350 ≤ k → k < 750 → M 1 k = f k) → M 0 10 = 350 → M 0 11 = f 2 → M 0 12 = 0 → M 0 13 = -1 → M 0 14 = 0 → M 0 18 = 0 → M 0 19 = 0 → M 0 20 = 0 → (∀ k, 0 ≤ k → k < 8 → M 7 k = e k) → M 0 16 = e 8 → M 0 17 = e 9 → (e 8 = 0 ∨ e 8 = 1) → (e 9 = 0 ∨ e 9 = 1) → (∀ M' v, okS M' → (∀ r, r ≠ 0 → M' r = M r) → M' 0 0 = M 0 0 → M' 0 4 = M 0 4 → M' 0 7 = M 0 7 → M' 0 9 = M 0 9 → M' 0 16 = M 0 16 → M' 0 17 = M 0 17 → M' 0 18 = A 0 e - A 1 e → M' 0 19 = A 2 e → M' 0 20 = A 3 e → Q M' v) → w_X12_read N 0 1 M Q)
theorem LM.of {N : Nat} {f f' : mRow} {A : mLaw} (h : LM N f A) (h1 : f' 1 = f 1) (h2 : f' 2 = f 2) (h3 : ∀ k, 350 ≤ k → k < 750 → f' k = f k) : LM N f' A := by
  unfold LM
  rw [h1, h2]
  exact ⟨h.1, fun q M e Q a b => h.2 q M e Q a (fun k hk hl => (b k hk hl).trans (h3 k hk hl))⟩
def fWhite (A : mLaw) (f : mRow) (p : Int) : Int := max 0 (min 20 (9 + A 0 (env f p) - A 1 (env f p) - f (14 + 6 * p) - pc (f (14 + 6 * p + 3))))
def fLight (A : mLaw) (f : mRow) (p : Int) : Int := if f (14 + 6 * p + 4) = 1 then (if f (14 + 6 * p + 2) = 0 then fWhite A f p else 0) else 0
def fSum (A : mLaw) (f : mRow) : Nat → Int
  | 0 => 0
  | k + 1 => fSum A f k + fLight A f k
def fAll (A : mLaw) (f : mRow) : Int := fSum A f 8
def fDries (A : mLaw) (f : mRow) (p : Int) : Int := max 0 (f (62 + f (14 + 6 * p + 5)) + A 2 (env f p) - f 10 / 3)
theorem fWhite_ok (A : mLaw) (f : mRow) (p : Int) : 0 ≤ fWhite A f p ∧ fWhite A f p ≤ 20 := by unfold fWhite; omega
theorem fLight_ok (A : mLaw) (f : mRow) (p : Int) : 0 ≤ fLight A f p ∧ fLight A f p ≤ 20 := by
  have := fWhite_ok A f p
  unfold fLight; split
  · split <;> omega
  · omega
theorem fSum_ok (A : mLaw) (f : mRow) : ∀ k : Nat, 0 ≤ fSum A f k ∧ fSum A f k ≤ 20 * k
  | 0 => by unfold fSum; omega
  | k + 1 => by have := fSum_ok A f k; have := fLight_ok A f k; unfold fSum; omega
theorem iMax_max (a b : Int) : iMax a b = max a b := by unfold iMax; omega
theorem iMin_min (a b : Int) : iMin a b = min a b := by unfold iMin; omega
theorem RO.at {f : mRow} (h : RO f) {p : Int} (h0 : 0 ≤ p) (h1 : p < 8) : RP f p := h.1 p h0 h1
section cLight
variable {N : Nat} {S : mSt} {r lw : Nat} {f : mRow} {A : mLaw} {p : Int} {Q : mSt → Int → Prop}
theorem s_isHung (hM : RM S r f) (p0 : 0 ≤ p) (p1 : p < 8) (h : Q S (f (14 + 6 * p + 4))) : w_X5_isHung N r p S Q := by
  have h1 := (hM.1 p p0 p1).2.2.2.2.1
  have h2 := bt_01 (S r 6) p
  unfold w_X5_isHung
  rw [sh_bt' hM.2.2.2.1 hM.2.2.2.2 p0 (by omega), h1]
  rw [h1] at h2
  rcases h2 with h2 | h2 <;> rw [h2] at h ⊢
  · exact ⟨fun _ => h, fun q => by omega⟩
  · exact ⟨fun q => by omega, fun _ => h⟩
theorem s_white (hA : LX N S lw A) (hB : LB A) (hok : okS S) (hM : RM S r f) (hR : RO f) (ap : lw + 6 < r ∨ r + 6 < lw) (p0 : 0 ≤ p) (p1 : p < 8) (h : ∀ S', okS S' → (∀ r', r' ≠ lw + 5 → r' ≠ lw + 6 → S' r' = S r') → Q S' (fWhite A f p)) : w_X3_whiteOf N lw r p S Q := by
  unfold w_X3_whiteOf
  refine hA S r f p 0 _ (fun _ _ => rfl) hok hM hR ap p0 p1 (by omega) (by omega) (fun S1 ok1 k1 => ?_)
  have hM1 : RM S1 r f := hM.of (fun r' a b => k1 r' (by omega) (by omega))
  refine (hA.of (X' := S1) (fun j hj => k1 _ (by omega) (by omega))) S1 r f p 1 _ (fun _ _ => rfl) ok1 hM1 hR ap p0 p1 (by omega) (by omega) (fun S2 ok2 k2 => ?_)
  have hM2 : RM S2 r f := hM1.of (fun r' a b => k2 r' (by omega) (by omega))
  obtain ⟨e1, e2, e3, e4, e5, e6, e7⟩ := hM2.1 p p0 p1
  obtain ⟨g1, g2, g3, g4, g5, g6, g7⟩ := hR.at p0 p1
  refine ⟨p0, p1, p0, p1, ?_⟩
  rw [e4]
  refine s_bitCount (by omega) (by omega) (fun v6 ev => ?_)
  have hk := h S2 ok2 (fun r' a b => (k2 r' a b).trans (k1 r' a b))
  have b0 := hB 0 (env f p)
  have b1 := hB 1 (env f p)
  have hp := pc_le (f (14 + 6 * p + 3))
  rw [e1, nm_of (x := 9 + _) (by omega) (by omega), nm_of (x := 9 + _ - _) (by omega) (by omega), nm_of (x := 9 + _ - _ - _) (by omega) (by omega), nm_of (by omega) (by omega)] at ev
  rw [ev, iMin_min, iMax_max]
  exact hk
theorem s_light (hA : LX N S lw A) (hB : LB A) (hok : okS S) (hM : RM S r f) (hR : RO f) (ap : lw + 6 < r ∨ r + 6 < lw) (p0 : 0 ≤ p) (p1 : p < 8) (h : ∀ S', okS S' → (∀ r', r' ≠ lw + 5 → r' ≠ lw + 6 → S' r' = S r') → Q S' (fLight A f p)) : w_X3_lightOf N lw r p S Q := by
  unfold w_X3_lightOf
  refine s_isHung hM p0 p1 ?_
  obtain ⟨e1, e2, e3, e4, e5, e6, e7⟩ := hM.1 p p0 p1
  obtain ⟨g1, g2, g3, g4, g5, g6, g7⟩ := hR.at p0 p1
  unfold fLight at h
  refine ⟨fun q => ?_, fun q => ⟨p0, p1, ?_, ?_⟩⟩
  · rw [if_neg (by omega)] at h
    exact h S hok (fun _ _ _ => rfl)
  · rw [e3]
    intro q2
    rw [if_pos (by omega), if_neg q2] at h
    exact h S hok (fun _ _ _ => rfl)
  · rw [e3]
    intro q2
    rw [if_pos (by omega), if_pos q2] at h
    exact s_white hA hB hok hM hR ap p0 p1 h
theorem s_all (hN : 1000 ≤ N) (hA : LX N S lw A) (hB : LB A) (hok : okS S) (hM : RM S r f) (hR : RO f) (ap : lw + 6 < r ∨ r + 6 < lw) (h : ∀ S', okS S' → (∀ r', r' ≠ lw + 5 → r' ≠ lw + 6 → S' r' = S r') → Q S' (fAll A f)) : w_X3_allLight N lw r S Q := by
  unfold w_X3_allLight
  intro v1 e1 v2 e2
  subst e1; subst e2
  have loop : ∀ (d k n : Nat) (T : mSt), k + d = 8 → d < n → okS T → (∀ r', r' ≠ lw + 5 → r' ≠ lw + 6 → T r' = S r') → w_X3_allLight_4 N Q (fun (x2_3 : Int) (S_3 : mSt) => Q S_3 x2_3) n lw r (fSum A f k) k T := by
    intro d
    induction d with
    | zero =>
      intro k n T hk hn okT kT
      obtain ⟨n, rfl⟩ : ∃ m, n = m + 1 := ⟨n - 1, by omega⟩
      refine ⟨fun _ => ?_, fun hc => by omega⟩
      have e : k = 8 := by omega
      subst e
      exact h T okT kT
    | succ d ih =>
      intro k n T hk hn okT kT
      obtain ⟨n, rfl⟩ : ∃ m, n = m + 1 := ⟨n - 1, by omega⟩
      refine ⟨fun hc => by omega, fun _ => ?_⟩
      refine s_light (hA.of (fun j hj => kT _ (by omega) (by omega))) hB okT (hM.of (fun r' a b => kT r' (by omega) (by omega))) hR ap (by omega) (by omega) (fun T1 ok1 k1 v1 e1 v2 e2 => ?_)
      have hs := fSum_ok A f k
      have hl := fLight_ok A f k
      rw [nm_of (by omega) (by omega)] at e1 e2
      subst e1; subst e2
      exact ih (k + 1) n T1 (by omega) (by omega) ok1 (fun r' a b => (k1 r' a b).trans (kT r' a b))
  exact loop 8 0 N S rfl (by omega) hok (fun _ _ _ => rfl)
theorem s_dries (hA : LX N S lw A) (hB : LB A) (hok : okS S) (hM : RM S r f) (hR : RO f) (ap : lw + 6 < r ∨ r + 6 < lw) (p0 : 0 ≤ p) (p1 : p < 8) (h : ∀ S', okS S' → (∀ r', r' ≠ lw + 5 → r' ≠ lw + 6 → S' r' = S r') → Q S' (fDries A f p)) : w_X3_driesBy N lw r p S Q := by
  unfold w_X3_driesBy
  obtain ⟨e1, e2, e3, e4, e5, e6, e7⟩ := hM.1 p p0 p1
  obtain ⟨g1, g2, g3, g4, g5, g6, g7⟩ := hR.at p0 p1
  obtain ⟨-, -, -, -, -, -, w7⟩ := hM.1 (f (14 + 6 * p + 5)) (by omega) (by omega)
  obtain ⟨-, -, -, -, -, -, w8⟩ := hR.at (p := f (14 + 6 * p + 5)) (by omega) (by omega)
  refine ⟨p0, p1, by omega, by omega, ?_⟩
  rw [e6, w7]
  refine hA S r f p 2 _ (fun _ _ => rfl) hok hM hR ap p0 p1 (by omega) (by omega) (fun S1 ok1 k1 => ?_)
  have hk := h S1 ok1 k1
  have b2 := hB 2 (env f p)
  have hd := hR.2.1
  have e8 : S1 r 8 = f 10 := by rw [k1 r (by omega) (by omega)]; exact hM.2.2.1
  rw [e8, iDiv_nn (by unfold okI; omega) (by decide) (by omega) (by omega), nm_of (x := _ + _) (by omega) (by omega), nm_of (by omega) (by omega), iMax_max]
  exact hk
theorem s_soils (hA : LX N S lw A) (hok : okS S) (hM : RM S r f) (hR : RO f) (ap : lw + 6 < r ∨ r + 6 < lw) (p0 : 0 ≤ p) (p1 : p < 8) (h : ∀ S', okS S' → (∀ r', r' ≠ lw + 5 → r' ≠ lw + 6 → S' r' = S r') → Q S' (A 3 (env f p))) : w_X3_soilsBy N lw r p S Q := by
  unfold w_X3_soilsBy
  exact hA S r f p 3 _ (fun _ _ => rfl) hok hM hR ap p0 p1 (by omega) (by omega) h
end cLight
