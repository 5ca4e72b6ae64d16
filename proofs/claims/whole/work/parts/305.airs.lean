set_option maxHeartbeats 4000000
set_option maxRecDepth 20000
/-! ===== the pure part: a night's air, on both sides ===== -/
def fAir1 (A : mLaw) (f : mRow) (p : Int) : mRow := if f (14 + 6 * p + 4) = 0 then f else if f (14 + 6 * p + 2) = 0 then fup f (14 + 6 * p) (min 9 (f (14 + 6 * p) + A 3 (env f p))) else fup f (14 + 6 * p + 2) (max 0 (f (14 + 6 * p + 2) - fDries A f p))
def fGot1 (A : mLaw) (f : mRow) (p : Int) : Int := if f (14 + 6 * p + 4) = 0 then 0 else if f (14 + 6 * p + 2) = 0 then 0 else if max 0 (f (14 + 6 * p + 2) - fDries A f p) = 0 then 1 else 0
def fAirs (A : mLaw) (f : mRow) : Nat → mRow
  | 0 => f
  | k + 1 => fAir1 A (fAirs A f k) k
def fGots (A : mLaw) (f : mRow) : Nat → Int
  | 0 => 0
  | k + 1 => fGots A f k + fGot1 A (fAirs A f k) k
theorem fGot1_01 (A : mLaw) (f : mRow) (p : Int) : fGot1 A f p = 0 ∨ fGot1 A f p = 1 := by unfold fGot1; split <;> (try split) <;> (try split) <;> omega
theorem fGots_ok (A : mLaw) (f : mRow) : ∀ k : Nat, 0 ≤ fGots A f k ∧ fGots A f k ≤ k
  | 0 => by unfold fGots; omega
  | k + 1 => by have := fGots_ok A f k; have := fGot1_01 A (fAirs A f k) k; unfold fGots; omega
theorem fAir1_hi (A : mLaw) (f : mRow) {p : Int} (p0 : 0 ≤ p) (p1 : p < 8) {k : Int} (hk : k < 14 ∨ 62 ≤ k) : fAir1 A f p k = f k := by
  unfold fAir1
  split
  · rfl
  · split <;> exact fup_ne _ _ (by omega)
theorem fAirs_hi (A : mLaw) (f : mRow) {k : Int} (hk : k < 14 ∨ 62 ≤ k) : ∀ n : Nat, n ≤ 8 → fAirs A f n k = f k
  | 0, _ => rfl
  | n + 1, h => (fAir1_hi A _ (by omega) (by omega) hk).trans (fAirs_hi A f hk n (by omega))
theorem fAir1_RO {A : mLaw} (hB : LB A) {f : mRow} (hR : RO f) {p : Int} (p0 : 0 ≤ p) (p1 : p < 8) : RO (fAir1 A f p) := by
  have b := hB 3 (env f p)
  obtain ⟨g1, g2, g3, g4, g5, g6, g7⟩ := hR.at p0 p1
  unfold fAir1
  split
  · exact hR
  · split
    · exact hR.grey p0 p1 (by omega)
    · have hd : 0 ≤ fDries A f p := by unfold fDries; omega
      exact hR.wet p0 p1 (by omega)
theorem fAirs_RO {A : mLaw} (hB : LB A) {f : mRow} (hR : RO f) : ∀ n : Nat, n ≤ 8 → RO (fAirs A f n)
  | 0, _ => hR
  | n + 1, h => fAir1_RO hB (fAirs_RO hB hR n (by omega)) (by omega) (by omega)
theorem fDries_ok {A : mLaw} (hB : LB A) {f : mRow} (hR : RO f) {p : Int} (p0 : 0 ≤ p) (p1 : p < 8) : 0 ≤ fDries A f p ∧ fDries A f p ≤ 249 := by
  obtain ⟨g1, g2, g3, g4, g5, g6, g7⟩ := hR.at p0 p1
  obtain ⟨-, -, -, -, -, -, w8⟩ := hR.at (p := f (14 + 6 * p + 5)) (by omega) (by omega)
  have := hB 2 (env f p)
  have := hR.2.1
  unfold fDries
  omega
/-- what a change of the row leaves -/
def MG (S S' : mSt) : Prop := (∀ r, r ≠ 0 → r ≠ 1 → r ≠ 7 → S' r = S r) ∧ S' 0 0 = S 0 0 ∧ S' 0 4 = S 0 4 ∧ S' 0 7 = S 0 7 ∧ S' 0 9 = S 0 9 ∧ S' 0 13 = S 0 13 ∧ (BB S → BB S')
theorem MG.rf (S : mSt) : MG S S := ⟨fun _ _ _ _ => rfl, rfl, rfl, rfl, rfl, rfl, id⟩
theorem MG.tr {S S1 S2 : mSt} (h : MG S S1) (h' : MG S1 S2) : MG S S2 := ⟨fun r a b c => (h'.1 r a b c).trans (h.1 r a b c), h'.2.1.trans h.2.1, h'.2.2.1.trans h.2.2.1, h'.2.2.2.1.trans h.2.2.2.1, h'.2.2.2.2.1.trans h.2.2.2.2.1, h'.2.2.2.2.2.1.trans h.2.2.2.2.2.1, fun b => h'.2.2.2.2.2.2 (h.2.2.2.2.2.2 b)⟩
theorem MF.g {S S' : mSt} (h : MF S S') : MG S S' := ⟨fun r a _ c => h.1 r a c, h.2⟩
theorem MG.up {S : mSt} (i v : Int) : MG S (mup S 1 i v) := ⟨fun r _ b _ => mup_ne _ _ _ b, by rw [mup_ne _ _ _ (by decide)], by rw [mup_ne _ _ _ (by decide)], by rw [mup_ne _ _ _ (by decide)], by rw [mup_ne _ _ _ (by decide)], by rw [mup_ne _ _ _ (by decide)], fun b => b.of (by rw [mup_ne _ _ _ (by decide)]) (by rw [mup_ne _ _ _ (by decide)])⟩
section mAir
variable {N : Nat} {S : mSt} {A : mLaw} {p : Int} {Q : mSt → Int → Prop}
theorem a_dry (hN : 1000 ≤ N) (hL : LM N (S 1) A) (hB : LB A) (hok : okS S) (hR : RO (S 1)) (p0 : 0 ≤ p) (p1 : p < 8) (h : ∀ S', okS S' → S' 1 = fAir1 A (S 1) p → MG S S' → Q S' (fGot1 A (S 1) p)) : w_X12_dries N 0 p S Q := by
  unfold w_X12_dries
  obtain ⟨g1, g2, g3, g4, g5, g6, g7⟩ := hR.at p0 p1
  have b3 := hB 3 (env (S 1) p)
  have bd := fDries_ok hB hR p0 p1
  unfold fAir1 fGot1 at h
  refine a_of p0 p1 (by omega) (by omega) ⟨fun q => ?_, fun q => ?_⟩
  · rw [if_neg q, if_neg q] at h
    refine a_of p0 p1 (by omega) (by omega) ⟨fun q2 => ?_, fun q2 => ?_⟩
    · rw [if_neg q2, if_neg q2] at h
      refine a_of p0 p1 (by omega) (by omega) (a_dries hN hL hB hok hR p0 p1 (fun S1 ok1 k1 => a_greater ?_))
      rw [nm_of (by omega) (by omega)]
      refine a_has p0 p1 (by omega) (by omega) (a_of p0 p1 (by omega) (by omega) ?_)
      rw [mup_same]
      have hk := h (mup S1 1 (14 + 6 * p + 2) (max 0 (S 1 (14 + 6 * p + 2) - fDries A (S 1) p))) (okS_up ok1 (by unfold okI; omega)) (by rw [mup_1, k1.m]) (k1.g.tr (MG.up _ _))
      refine ⟨fun q3 => ?_, fun q3 => ?_⟩
      · rw [if_neg q3] at hk; exact hk
      · rw [if_pos q3] at hk; exact hk
    · rw [if_pos q2, if_pos q2] at h
      refine a_asks hN hL hok hR p0 p1 (fun S1 ok1 k1 a18 a19 a20 => a_of p0 p1 (by omega) (by omega) (a_lesser ?_))
      rw [k1.m, a20, show 14 + 6 * p + 0 = 14 + 6 * p by omega, nm_of (by omega) (by omega)]
      refine a_has p0 p1 (by omega) (by omega) ?_
      rw [show 14 + 6 * p + 0 = 14 + 6 * p by omega]
      exact h _ (okS_up ok1 (by unfold okI; omega)) (by rw [mup_1, k1.m]) (k1.g.tr (MG.up _ _))
  · rw [if_pos q, if_pos q] at h
    exact h S hok rfl (MG.rf S)
theorem a_air (hN : 1000 ≤ N) (hL : LM N (S 1) A) (hB : LB A) (hok : okS S) (hR : RO (S 1)) (h : ∀ S', okS S' → S' 1 = fAirs A (S 1) 8 → MG S S' → Q S' (fGots A (S 1) 8)) : w_X12_driesAll N 0 S Q := by
  unfold w_X12_driesAll
  intro v1 e1 v2 e2
  subst e1; subst e2
  have loop : ∀ (d k n : Nat) (T : mSt), k + d = 8 → d < n → okS T → T 1 = fAirs A (S 1) k → MG S T → w_X12_driesAll_4 N Q (fun (x1_3 : Int) (S_3 : mSt) => Q S_3 x1_3) n 0 (fGots A (S 1) k) k T := by
    intro d
    induction d with
    | zero =>
      intro k n T hk hn okT hT kT
      obtain ⟨n, rfl⟩ : ∃ m, n = m + 1 := ⟨n - 1, by omega⟩
      refine ⟨fun _ => ?_, fun hc => by omega⟩
      have e : k = 8 := by omega
      subst e
      exact h T okT hT kT
    | succ d ih =>
      intro k n T hk hn okT hT kT
      obtain ⟨n, rfl⟩ : ∃ m, n = m + 1 := ⟨n - 1, by omega⟩
      refine ⟨fun hc => by omega, fun _ => ?_⟩
      have hRk := fAirs_RO hB hR k (by omega)
      have hg := fGots_ok A (S 1) k
      have nx : nm ((k : Int) + 1) = ((k + 1 : Nat) : Int) := by rw [nm_of (by omega) (by omega)]; omega
      have hLk : LM N (fAirs A (S 1) k) A := hL.of (fAirs_hi A _ (by omega) k (by omega)) (fAirs_hi A _ (by omega) k (by omega)) (fun j hj _ => fAirs_hi A _ (by omega) k (by omega))
      refine a_dry hN (by rw [hT]; exact hLk) hB okT (by rw [hT]; exact hRk) (by omega) (by omega) (fun T1 ok1 h1 k1 => ?_)
      rw [hT] at h1 ⊢
      have h01 := fGot1_01 A (fAirs A (S 1) k) k
      have hres := ih (k + 1) n T1 (by omega) (by omega) ok1 h1 (kT.tr k1)
      have eG : fGots A (S 1) (k + 1) = fGots A (S 1) k + fGot1 A (fAirs A (S 1) k) k := rfl
      refine ⟨fun q v1 e4 v2 e5 => ?_, fun q v1 e4 v2 e5 => ?_⟩
      · rw [nm_of (by omega) (by omega)] at e4
        rw [nx] at e5
        rw [q] at eG
        subst e4; subst e5
        rw [eG] at hres
        exact hres
      · have q1 : fGot1 A (fAirs A (S 1) k) k = 1 := by omega
        rw [nm_of (by omega) (by omega)] at e4
        rw [nx] at e5
        rw [q1] at eG
        subst e4; subst e5
        rw [eG] at hres
        exact hres
  exact loop 8 0 N S rfl (by omega) hok rfl (MG.rf S)
end mAir
