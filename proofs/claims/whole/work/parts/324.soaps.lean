set_option maxHeartbeats 400000
set_option maxRecDepth 20000
/-! ===== the pure part: questions of soaps ===== -/
theorem bAnd_comm (x y : Int) : bAnd x y = bAnd y x := by unfold bAnd; rw [Int32.and_comm]
theorem bAnd_le' (x : Int) {m : Int} (om : okI m) (hm : 0 ≤ m) : 0 ≤ bAnd m x ∧ bAnd m x ≤ m := by rw [bAnd_comm]; exact bAnd_le x om hm
/-- what a change of the row may change besides -/
def MPu (M M' : mSt) : Prop := (M' 2 = M 2 ∧ M' 5 = M 5 ∧ M' 6 = M 6 ∧ ∀ r, 8 ≤ r → r ≤ 10 → M' r = M r) ∧ M' 0 0 = M 0 0 ∧ M' 0 4 = M 0 4 ∧ M' 0 7 = M 0 7 ∧ M' 0 9 = M 0 9 ∧ M' 0 13 = M 0 13 ∧ (BB M → BB M')
theorem MPu.rf (M : mSt) : MPu M M := ⟨⟨rfl, rfl, rfl, fun _ _ _ => rfl⟩, rfl, rfl, rfl, rfl, rfl, id⟩
theorem MPu.tr {M M1 M2 : mSt} (h : MPu M M1) (h' : MPu M1 M2) : MPu M M2 := by
  obtain ⟨⟨a2, a3, a4, aw⟩, a5, a6, a7, a8, a9, a10⟩ := h
  obtain ⟨⟨b2, b3, b4, bw⟩, b5, b6, b7, b8, b9, b10⟩ := h'
  exact ⟨⟨b2.trans a2, b3.trans a3, b4.trans a4, fun r x y => (bw r x y).trans (aw r x y)⟩, b5.trans a5, b6.trans a6, b7.trans a7, b8.trans a8, b9.trans a9, fun b => b10 (a10 b)⟩
theorem MPu.q {M M' : mSt} (h : MPu M M') (h1 : M' 1 = M 1) : MQu M M' := ⟨⟨h1, h.1⟩, h.2⟩
theorem MQu.p {M M' : mSt} (h : MQu M M') : MPu M M' := ⟨h.1.2, h.2⟩
theorem MG.p {M M' : mSt} (h : MG M M') : MPu M M' := ⟨⟨h.1 2 (by decide) (by decide) (by decide), h.1 5 (by decide) (by decide) (by decide), h.1 6 (by decide) (by decide) (by decide), fun r x y => h.1 r (by omega) (by omega) (by omega)⟩, h.2⟩
theorem MF.p {M M' : mSt} (h : MF M M') : MPu M M' := h.q.p
theorem MPu.up {M : mSt} {r : Nat} {i v : Int} (hr : r = 1 ∨ r = 3 ∨ r = 4 ∨ r = 7 ∨ 11 ≤ r) : MPu M (mup M r i v) := by
  refine ⟨⟨?_, ?_, ?_, fun r' x y => ?_⟩, ?_, ?_, ?_, ?_, ?_, fun b => b.of ?_ ?_⟩ <;> rw [mup_ne _ _ _ (by omega)]
theorem MPu.ck {M : mSt} {r1 r2 : Nat} {o1 o2 n : Int} (hr : r2 = 1 ∨ r2 = 3 ∨ r2 = 4 ∨ r2 = 7 ∨ 11 ≤ r2) : MPu M (mck M r1 o1 r2 o2 n) := by
  refine ⟨⟨?_, ?_, ?_, fun r' x y => ?_⟩, ?_, ?_, ?_, ?_, ?_, fun b => b.of ?_ ?_⟩ <;> rw [mck_ne _ (by omega)]
def fClean (f : mRow) (p s : Int) : mRow := fup (fup (fup f (14 + 6 * p) (max 0 (f (14 + 6 * p) - f (70 + 4 * s)))) (14 + 6 * p + 3) (bAnd (f (14 + 6 * p + 3)) (bXor (f (70 + 4 * s + 3)) (-1)))) (14 + 6 * p + 1) (min 9 (f (14 + 6 * p + 1) + 1 + f (70 + 4 * s + 2)))
def fScrub (f : mRow) (p s : Int) : mRow := fup (fup (fClean f p s) (14 + 6 * p + 2) 9) (14 + 6 * p + 4) 0
def fWould (f : mRow) (p s : Int) : mRow := fup (fup (if s = -1 then f else fClean f p s) (14 + 6 * p + 2) 0) (14 + 6 * p + 4) 1
theorem RO.clean {f : mRow} (h : RO f) {p s : Int} (p0 : 0 ≤ p) (p1 : p < 8) (hs : RS f s) : RO (fClean f p s) := by
  obtain ⟨g1, g2, g3, g4, g5, g6, g7⟩ := h.at p0 p1
  obtain ⟨s1, s2, s3, s4⟩ := hs
  have hb := bAnd_le' (bXor (f (70 + 4 * s + 3)) (-1)) (m := f (14 + 6 * p + 3)) (by unfold okI; omega) g4.1
  exact ((h.grey p0 p1 (by omega)).stain p0 p1 (by omega)).thin p0 p1 (by omega)
theorem fClean_hi (f : mRow) {p s k : Int} (p0 : 0 ≤ p) (p1 : p < 8) (hk : k < 14 ∨ 62 ≤ k) : fClean f p s k = f k := by
  unfold fClean
  rw [fup_ne _ _ (by omega), fup_ne _ _ (by omega), fup_ne _ _ (by omega)]
theorem fWould_hi (f : mRow) {p s k : Int} (p0 : 0 ≤ p) (p1 : p < 8) (hk : k < 14 + 6 * p ∨ 14 + 6 * p + 6 ≤ k) : fWould f p s k = f k := by
  unfold fWould
  rw [fup_ne _ _ (by omega), fup_ne _ _ (by omega)]
  split
  · rfl
  · unfold fClean
    rw [fup_ne _ _ (by omega), fup_ne _ _ (by omega), fup_ne _ _ (by omega)]
theorem RO.would {f : mRow} (h : RO f) {p s : Int} (p0 : 0 ≤ p) (p1 : p < 8) (hs : s = -1 ∨ RS f s) : RO (fWould f p s) := by
  unfold fWould
  split
  · exact (h.wet p0 p1 (by omega)).hung p0 p1 (Or.inr rfl)
  · next hn => exact ((h.clean p0 p1 (hs.resolve_left hn)).wet p0 p1 (by omega)).hung p0 p1 (Or.inr rfl)
section soaps
variable {N n : Nat} {X M : mSt} {q q' lw lw' : Nat} {f : mRow} {A : mLaw} {P : mPrg} {a1 a2 a3 a4 a5 : Int} {T : Int} {Q : mSt → Int → Prop} {p s : Int}
/-- a soap's row, in the class -/
theorem CQ.soap (C : CQ N X q q' lw lw' f A T) (s0 : 0 ≤ s) (s1 : s < f 3) : RS f s ∧ X (q + 8) (4 * s) = f (70 + 4 * s) ∧ X (q + 8) (4 * s + 1) = f (70 + 4 * s + 1) ∧ X (q + 8) (4 * s + 2) = f (70 + 4 * s + 2) ∧ X (q + 8) (4 * s + 3) = f (70 + 4 * s + 3) ∧ f 3 ≤ 6 := by
  obtain ⟨-, -, hL, hR, -⟩ := C
  have h := hL.2.2.1
  have e := fun i a b => (h i a b)
  refine ⟨hR.2.2.2.2.1 s s0 s1, e _ (by omega) (by omega), ?_, ?_, ?_, hR.2.1.2⟩
  · rw [e _ (by omega) (by omega)]; congr 1; omega
  · rw [e _ (by omega) (by omega)]; congr 1; omega
  · rw [e _ (by omega) (by omega)]; congr 1; omega
theorem x_strength (C : CQ N X q q' lw lw' f A T) (s0 : 0 ≤ s) (s1 : s < f 3) (h : Q X (f (70 + 4 * s))) : w_X2_strength N q s X Q := by
  obtain ⟨r, e1, e2, e3, e4, h6⟩ := C.soap s0 s1
  unfold w_X2_strength
  rw [nm_of (by omega) (by omega), show s * 4 = 4 * s by omega, e1]
  exact ⟨by omega, by omega, h⟩
theorem x_price (C : CQ N X q q' lw lw' f A T) (s0 : 0 ≤ s) (s1 : s < f 3) (h : Q X (f (70 + 4 * s + 1))) : w_X2_price N q s X Q := by
  obtain ⟨r, e1, e2, e3, e4, h6⟩ := C.soap s0 s1
  unfold w_X2_price
  rw [nm_of (x := s * 4) (by omega) (by omega), nm_of (by omega) (by omega), show s * 4 = 4 * s by omega, e2]
  exact ⟨by omega, by omega, h⟩
theorem x_rough (C : CQ N X q q' lw lw' f A T) (s0 : 0 ≤ s) (s1 : s < f 3) (h : Q X (f (70 + 4 * s + 2))) : w_X2_rough N q s X Q := by
  obtain ⟨r, e1, e2, e3, e4, h6⟩ := C.soap s0 s1
  unfold w_X2_rough
  rw [nm_of (x := s * 4) (by omega) (by omega), nm_of (by omega) (by omega), show s * 4 = 4 * s by omega, e3]
  exact ⟨by omega, by omega, h⟩
theorem x_takes (C : CQ N X q q' lw lw' f A T) (s0 : 0 ≤ s) (s1 : s < f 3) (h : Q X (f (70 + 4 * s + 3))) : w_X2_takes N q s X Q := by
  obtain ⟨r, e1, e2, e3, e4, h6⟩ := C.soap s0 s1
  unfold w_X2_takes
  rw [nm_of (x := s * 4) (by omega) (by omega), nm_of (by omega) (by omega), show s * 4 = 4 * s by omega, e4]
  exact ⟨by omega, by omega, h⟩
/-- washing a moon -/
theorem s_scrub {S : mSt} {r : Nat} (hok : okS S) (hM : RM S r f) (hR : RO f) (hs : RS f s) (p0 : 0 ≤ p) (p1 : p < 8) (h : ∀ S', okS S' → RM S' r (fScrub f p s) → (∀ r', (r' < r ∨ r + 6 < r') → S' r' = S r') → (∀ i, i ≠ 6 → S' r i = S r i) → Q S' (bAnd (f (14 + 6 * p + 3)) (f (70 + 4 * s + 3)))) : w_X5_scrub N r p (f (70 + 4 * s)) (f (70 + 4 * s + 2)) (f (70 + 4 * s + 3)) S Q := by
  obtain ⟨g1, g2, g3, g4, g5, g6, g7⟩ := hR.at p0 p1
  obtain ⟨s1, s2, s3, s4⟩ := hs
  obtain ⟨e1, e2, e3, e4, e5, e6, e7⟩ := hM.1 p p0 p1
  unfold w_X5_scrub
  rw [e4, e1, nm_of (x := f (14 + 6 * p) - _) (by omega) (by omega), iMax_max]
  refine ⟨p0, p1, fun v2 ev => ⟨p0, p1, p0, p1, fun S5 e5' => ⟨p0, p1, p0, p1, fun S8 e8 => ⟨p0, p1, p0, p1, fun S11 e11 => ⟨p0, p1, fun S13 e13 => ?_⟩⟩⟩⟩⟩
  have m5 : RM S5 r (fup f (14 + 6 * p) (max 0 (f (14 + 6 * p) - f (70 + 4 * s)))) := by rw [e5']; exact hM.grey p0 p1
  have x5 : S5 (r + 4) p = f (14 + 6 * p + 3) := by rw [e5', mup_ne _ _ _ (by omega)]; exact e4
  rw [x5] at e8
  have m8 := m5.stain p0 p1 (v := bAnd (f (14 + 6 * p + 3)) (bXor (f (70 + 4 * s + 3)) (-1)))
  rw [← e8] at m8
  have x8 : S8 (r + 2) p = f (14 + 6 * p + 1) := by rw [e8, mup_ne _ _ _ (by omega), e5', mup_ne _ _ _ (by omega)]; exact e2
  rw [x8, nm_of (x := f (14 + 6 * p + 1) + 1) (by omega) (by omega), nm_of (by omega) (by omega), iMin_min] at e11
  have m11 := m8.thin p0 p1 (v := min 9 (f (14 + 6 * p + 1) + 1 + f (70 + 4 * s + 2)))
  rw [← e11] at m11
  have m13 := m11.wet p0 p1 (v := 9)
  rw [← e13] at m13
  have ok13 : okS S13 := by
    rw [e13, e11, e8, e5']
    exact okS_up (okS_up (okS_up (okS_up hok (by unfold okI; omega)) (bAnd_ok _ _)) (by unfold okI; omega)) (by decide)
  have k13 : ∀ r', (r' < r ∨ r + 6 < r') → S13 r' = S r' := fun r' hr => by rw [e13, mup_ne _ _ _ (by omega), e11, mup_ne _ _ _ (by omega), e8, mup_ne _ _ _ (by omega), e5', mup_ne _ _ _ (by omega)]
  have k13' : S13 r = S r := by rw [e13, mup_ne _ _ _ (by omega), e11, mup_ne _ _ _ (by omega), e8, mup_ne _ _ _ (by omega), e5', mup_ne _ _ _ (by omega)]
  refine s_setHung rfl ?_
  rw [ev]
  exact h _ (okS_up ok13 (bAnd_ok _ _)) (m13.unhang p0 p1) (fun r' hr => by rw [mup_ne _ _ _ (by omega)]; exact k13 r' hr) (fun i hi => by rw [mup_i _ _ _ hi, k13'])
theorem x_guess (C : CQ N X q q' lw lw' f A T) {Q : mSt → Prop} (h : ∀ X', CQ N X' q q' lw lw' f A T → XF q' lw X X' → RM X' 198 f → Q X') : w_X5_become N 198 (q + 1) X Q := by
  have C' := C
  obtain ⟨ok, ⟨k1, k2, k3, k4, k5, k6⟩, hL, hR, hB, hX⟩ := C'
  refine s_become5 (by omega) ok (fun S' ok' c' k' => ?_)
  have F : XF q' lw X S' := fun r a b c d => k' r (by omega)
  exact h S' (C.of ok' F) F (hL.1.1.copy c')
theorem x_would (C : CQ N X q q' lw lw' f A T) (p0 : 0 ≤ p) (p1 : p < 8) (hs : s = -1 ∨ (0 ≤ s ∧ s < f 3)) (h : ∀ X', CQ N X' q q' lw lw' f A T → XF q' lw X X' → Q X' (fWhite A (fWould f p s) p)) : w_X11_whiteIfWashed N 0 p s X Q := by
  unfold w_X11_whiteIfWashed
  simp only [Nat.zero_add]
  obtain ⟨-, ⟨k1, -, k3, -, k5, k6⟩, hL, hR, hB, hX⟩ := id C
  intro q1 e1
  have : q1 = q := by omega
  subst q1
  -- the last part
  have fin : ∀ (X2 : mSt) (g : mRow), CQ N X2 q q' lw lw' f A T → XF q' lw X X2 → RM X2 198 g → RO (fWould f p s) → fup (fup g (14 + 6 * p + 2) 0) (14 + 6 * p + 4) 1 = fWould f p s → w_X11_whiteIfWashed_62 N Q 0 p X2 := by
    intro X2 g C2 F2 hg hRw eg
    unfold w_X11_whiteIfWashed_62
    simp only [Nat.zero_add]
    refine ⟨p0, p1, fun X3 e3 => s_setHung1 (by decide) ?_⟩
    have m3 : RM X3 198 (fup g (14 + 6 * p + 2) 0) := by rw [e3]; exact hg.wet p0 p1
    have m4 := m3.hang p0 p1
    rw [eg] at m4
    have ok4 : okS (mup X3 198 6 (bOr (X3 198 6) (bShl 1 p))) := by rw [e3]; exact okS_up (okS_up C2.1 (by decide)) (bOr_ok _ _)
    have F4 : XF q' lw X2 (mup X3 198 6 (bOr (X3 198 6) (bShl 1 p))) := by rw [e3]; exact (XF.up (by decide)).tr (XF.up (by decide))
    have C4 := C2.of ok4 F4
    generalize mup X3 198 6 (bOr (X3 198 6) (bShl 1 p)) = X4 at m4 ok4 F4 C4
    intro q4 e4
    obtain ⟨-, ⟨j1, -, j3, -⟩, -⟩ := id C4
    have : q4 = lw := by omega
    subst q4
    refine s_white C4.2.2.2.2.2 C4.2.2.2.2.1 ok4 m4 hRw (by omega) p0 p1 (fun S' ok' k' => ?_)
    exact h S' (C4.of ok' (C4.fr k')) ((F2.tr F4).tr (C4.fr k'))
  refine x_guess C (fun X2 C2 F2 hg => ⟨fun hn => ?_, fun hn q3 e3 => ?_⟩)
  · have es : s = -1 := by omega
    refine fin X2 f C2 F2 hg (hR.1.1.would p0 p1 (Or.inl es)) ?_
    unfold fWould; rw [if_pos es]
  · have hs2 : 0 ≤ s ∧ s < f 3 := by omega
    obtain ⟨-, ⟨j1, -⟩, hL2, -⟩ := id C2
    have : q3 = q := by omega
    subst q3
    have e2 : X2 q 2 = f 3 := hL2.2.1.2.1
    rw [e2]
    refine ⟨fun hc => by omega, fun _ q4 e4 => ?_⟩
    have : q4 = q := by omega
    subst q4
    refine x_strength C2 hs2.1 hs2.2 (fun q6 e6 => ?_)
    have : q6 = q := by omega
    subst q6
    refine x_rough C2 hs2.1 hs2.2 (fun q8 e8 => ?_)
    have : q8 = q := by omega
    subst q8
    have hRS := (C2.soap hs2.1 hs2.2).1
    refine x_takes C2 hs2.1 hs2.2 (s_scrub C2.1 hg hR.1.1 hRS p0 p1 (fun X10 ok10 m10 k10 _ => ?_))
    have F10 : XF q' lw X2 X10 := fun r a b c d => k10 r (by omega)
    refine fin X10 _ (C2.of ok10 F10) (F2.tr F10) m10 (hR.1.1.would p0 p1 (Or.inr hRS)) ?_
    unfold fWould fScrub
    rw [if_neg (by omega)]
    funext i
    unfold fup
    by_cases h4 : i = 14 + 6 * p + 4
    · rw [if_pos h4, if_pos h4]
    · rw [if_neg h4, if_neg h4, if_neg h4]
      by_cases h2 : i = 14 + 6 * p + 2
      · rw [if_pos h2, if_pos h2]
      · rw [if_neg h2, if_neg h2, if_neg h2]
end soaps
