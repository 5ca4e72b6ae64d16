set_option maxHeartbeats 4000000
set_option maxRecDepth 20000
/-! ===== the pure part: writes, the air ===== -/
def fup (f : mRow) (i v : Int) : mRow := fun k => if k = i then v else f k
theorem fup_at (f : mRow) (i v : Int) : fup f i v i = v := if_pos rfl
theorem fup_ne (f : mRow) {i k : Int} (v : Int) (h : k ≠ i) : fup f i v k = f k := if_neg h
theorem mup_1 (S : mSt) (i v : Int) : mup S 1 i v 1 = fup (S 1) i v := by funext k; unfold mup fup; simp
section wr
variable {S : mSt} {r : Nat} {f : mRow} {p v : Int}
theorem RM.grey (h : RM S r f) (p0 : 0 ≤ p) (p1 : p < 8) : RM (mup S (r + 1) p v) r (fup f (14 + 6 * p) v) := by
  obtain ⟨h1, h2, h3, h4, h5⟩ := h
  refine ⟨fun q q0 q1 => ?_, ?_, ?_, ?_, ?_⟩
  · obtain ⟨e1, e2, e3, e4, e5, e6, e7⟩ := h1 q q0 q1
    exact ⟨(by rw [mup_at]; unfold fup; split <;> split <;> first | rfl | omega), (by rw [mup_ne _ _ _ (by omega), fup_ne _ _ (by omega)]; exact e2), (by rw [mup_ne _ _ _ (by omega), fup_ne _ _ (by omega)]; exact e3), (by rw [mup_ne _ _ _ (by omega), fup_ne _ _ (by omega)]; exact e4), (by rw [mup_ne _ _ _ (by omega), fup_ne _ _ (by omega)]; exact e5), (by rw [mup_ne _ _ _ (by omega), fup_ne _ _ (by omega)]; exact e6), (by rw [mup_ne _ _ _ (by omega), fup_ne _ _ (by omega)]; exact e7)⟩
  · rw [mup_ne _ _ _ (by omega), fup_ne _ _ (by omega)]; exact h2
  · rw [mup_ne _ _ _ (by omega), fup_ne _ _ (by omega)]; exact h3
  · rw [mup_ne _ _ _ (by omega)]; exact h4
  · rw [mup_ne _ _ _ (by omega)]; exact h5
theorem RM.thin (h : RM S r f) (p0 : 0 ≤ p) (p1 : p < 8) : RM (mup S (r + 2) p v) r (fup f (14 + 6 * p + 1) v) := by
  obtain ⟨h1, h2, h3, h4, h5⟩ := h
  refine ⟨fun q q0 q1 => ?_, ?_, ?_, ?_, ?_⟩
  · obtain ⟨e1, e2, e3, e4, e5, e6, e7⟩ := h1 q q0 q1
    exact ⟨(by rw [mup_ne _ _ _ (by omega), fup_ne _ _ (by omega)]; exact e1), (by rw [mup_at]; unfold fup; split <;> split <;> first | rfl | omega), (by rw [mup_ne _ _ _ (by omega), fup_ne _ _ (by omega)]; exact e3), (by rw [mup_ne _ _ _ (by omega), fup_ne _ _ (by omega)]; exact e4), (by rw [mup_ne _ _ _ (by omega), fup_ne _ _ (by omega)]; exact e5), (by rw [mup_ne _ _ _ (by omega), fup_ne _ _ (by omega)]; exact e6), (by rw [mup_ne _ _ _ (by omega), fup_ne _ _ (by omega)]; exact e7)⟩
  · rw [mup_ne _ _ _ (by omega), fup_ne _ _ (by omega)]; exact h2
  · rw [mup_ne _ _ _ (by omega), fup_ne _ _ (by omega)]; exact h3
  · rw [mup_ne _ _ _ (by omega)]; exact h4
  · rw [mup_ne _ _ _ (by omega)]; exact h5
theorem RM.wet (h : RM S r f) (p0 : 0 ≤ p) (p1 : p < 8) : RM (mup S (r + 3) p v) r (fup f (14 + 6 * p + 2) v) := by
  obtain ⟨h1, h2, h3, h4, h5⟩ := h
  refine ⟨fun q q0 q1 => ?_, ?_, ?_, ?_, ?_⟩
  · obtain ⟨e1, e2, e3, e4, e5, e6, e7⟩ := h1 q q0 q1
    exact ⟨(by rw [mup_ne _ _ _ (by omega), fup_ne _ _ (by omega)]; exact e1), (by rw [mup_ne _ _ _ (by omega), fup_ne _ _ (by omega)]; exact e2), (by rw [mup_at]; unfold fup; split <;> split <;> first | rfl | omega), (by rw [mup_ne _ _ _ (by omega), fup_ne _ _ (by omega)]; exact e4), (by rw [mup_ne _ _ _ (by omega), fup_ne _ _ (by omega)]; exact e5), (by rw [mup_ne _ _ _ (by omega), fup_ne _ _ (by omega)]; exact e6), (by rw [mup_ne _ _ _ (by omega), fup_ne _ _ (by omega)]; exact e7)⟩
  · rw [mup_ne _ _ _ (by omega), fup_ne _ _ (by omega)]; exact h2
  · rw [mup_ne _ _ _ (by omega), fup_ne _ _ (by omega)]; exact h3
  · rw [mup_ne _ _ _ (by omega)]; exact h4
  · rw [mup_ne _ _ _ (by omega)]; exact h5
theorem RM.stain (h : RM S r f) (p0 : 0 ≤ p) (p1 : p < 8) : RM (mup S (r + 4) p v) r (fup f (14 + 6 * p + 3) v) := by
  obtain ⟨h1, h2, h3, h4, h5⟩ := h
  refine ⟨fun q q0 q1 => ?_, ?_, ?_, ?_, ?_⟩
  · obtain ⟨e1, e2, e3, e4, e5, e6, e7⟩ := h1 q q0 q1
    exact ⟨(by rw [mup_ne _ _ _ (by omega), fup_ne _ _ (by omega)]; exact e1), (by rw [mup_ne _ _ _ (by omega), fup_ne _ _ (by omega)]; exact e2), (by rw [mup_ne _ _ _ (by omega), fup_ne _ _ (by omega)]; exact e3), (by rw [mup_at]; unfold fup; split <;> split <;> first | rfl | omega), (by rw [mup_ne _ _ _ (by omega), fup_ne _ _ (by omega)]; exact e5), (by rw [mup_ne _ _ _ (by omega), fup_ne _ _ (by omega)]; exact e6), (by rw [mup_ne _ _ _ (by omega), fup_ne _ _ (by omega)]; exact e7)⟩
  · rw [mup_ne _ _ _ (by omega), fup_ne _ _ (by omega)]; exact h2
  · rw [mup_ne _ _ _ (by omega), fup_ne _ _ (by omega)]; exact h3
  · rw [mup_ne _ _ _ (by omega)]; exact h4
  · rw [mup_ne _ _ _ (by omega)]; exact h5
theorem RM.peg (h : RM S r f) (p0 : 0 ≤ p) (p1 : p < 8) : RM (mup S (r + 5) p v) r (fup f (14 + 6 * p + 5) v) := by
  obtain ⟨h1, h2, h3, h4, h5⟩ := h
  refine ⟨fun q q0 q1 => ?_, ?_, ?_, ?_, ?_⟩
  · obtain ⟨e1, e2, e3, e4, e5, e6, e7⟩ := h1 q q0 q1
    exact ⟨(by rw [mup_ne _ _ _ (by omega), fup_ne _ _ (by omega)]; exact e1), (by rw [mup_ne _ _ _ (by omega), fup_ne _ _ (by omega)]; exact e2), (by rw [mup_ne _ _ _ (by omega), fup_ne _ _ (by omega)]; exact e3), (by rw [mup_ne _ _ _ (by omega), fup_ne _ _ (by omega)]; exact e4), (by rw [mup_ne _ _ _ (by omega), fup_ne _ _ (by omega)]; exact e5), (by rw [mup_at]; unfold fup; split <;> split <;> first | rfl | omega), (by rw [mup_ne _ _ _ (by omega), fup_ne _ _ (by omega)]; exact e7)⟩
  · rw [mup_ne _ _ _ (by omega), fup_ne _ _ (by omega)]; exact h2
  · rw [mup_ne _ _ _ (by omega), fup_ne _ _ (by omega)]; exact h3
  · rw [mup_ne _ _ _ (by omega)]; exact h4
  · rw [mup_ne _ _ _ (by omega)]; exact h5
theorem RO.grey (h : RO f) (p0 : 0 ≤ p) (p1 : p < 8) (hv : 0 ≤ v ∧ v ≤ 9) : RO (fup f (14 + 6 * p) v) := by
  obtain ⟨h1, h2, h3⟩ := h
  refine ⟨fun q q0 q1 => ?_, by rw [fup_ne _ _ (by omega)]; exact h2, by rw [fup_ne _ _ (by omega)]; exact h3⟩
  obtain ⟨e1, e2, e3, e4, e5, e6, e7⟩ := h1 q q0 q1
  unfold RP fup
  refine ⟨?_, ?_, ?_, ?_, ?_, ?_, ?_⟩ <;> split <;> omega
theorem RO.thin (h : RO f) (p0 : 0 ≤ p) (p1 : p < 8) (hv : 0 ≤ v ∧ v ≤ 9) : RO (fup f (14 + 6 * p + 1) v) := by
  obtain ⟨h1, h2, h3⟩ := h
  refine ⟨fun q q0 q1 => ?_, by rw [fup_ne _ _ (by omega)]; exact h2, by rw [fup_ne _ _ (by omega)]; exact h3⟩
  obtain ⟨e1, e2, e3, e4, e5, e6, e7⟩ := h1 q q0 q1
  unfold RP fup
  refine ⟨?_, ?_, ?_, ?_, ?_, ?_, ?_⟩ <;> split <;> omega
theorem RO.wet (h : RO f) (p0 : 0 ≤ p) (p1 : p < 8) (hv : 0 ≤ v ∧ v ≤ 9) : RO (fup f (14 + 6 * p + 2) v) := by
  obtain ⟨h1, h2, h3⟩ := h
  refine ⟨fun q q0 q1 => ?_, by rw [fup_ne _ _ (by omega)]; exact h2, by rw [fup_ne _ _ (by omega)]; exact h3⟩
  obtain ⟨e1, e2, e3, e4, e5, e6, e7⟩ := h1 q q0 q1
  unfold RP fup
  refine ⟨?_, ?_, ?_, ?_, ?_, ?_, ?_⟩ <;> split <;> omega
theorem RO.stain (h : RO f) (p0 : 0 ≤ p) (p1 : p < 8) (hv : 0 ≤ v ∧ v < 32) : RO (fup f (14 + 6 * p + 3) v) := by
  obtain ⟨h1, h2, h3⟩ := h
  refine ⟨fun q q0 q1 => ?_, by rw [fup_ne _ _ (by omega)]; exact h2, by rw [fup_ne _ _ (by omega)]; exact h3⟩
  obtain ⟨e1, e2, e3, e4, e5, e6, e7⟩ := h1 q q0 q1
  unfold RP fup
  refine ⟨?_, ?_, ?_, ?_, ?_, ?_, ?_⟩ <;> split <;> omega
theorem RO.hung (h : RO f) (p0 : 0 ≤ p) (p1 : p < 8) (hv : v = 0 ∨ v = 1) : RO (fup f (14 + 6 * p + 4) v) := by
  obtain ⟨h1, h2, h3⟩ := h
  refine ⟨fun q q0 q1 => ?_, by rw [fup_ne _ _ (by omega)]; exact h2, by rw [fup_ne _ _ (by omega)]; exact h3⟩
  obtain ⟨e1, e2, e3, e4, e5, e6, e7⟩ := h1 q q0 q1
  unfold RP fup
  refine ⟨?_, ?_, ?_, ?_, ?_, ?_, ?_⟩ <;> split <;> omega
theorem RO.peg (h : RO f) (p0 : 0 ≤ p) (p1 : p < 8) (hv : 0 ≤ v ∧ v < 8) : RO (fup f (14 + 6 * p + 5) v) := by
  obtain ⟨h1, h2, h3⟩ := h
  refine ⟨fun q q0 q1 => ?_, by rw [fup_ne _ _ (by omega)]; exact h2, by rw [fup_ne _ _ (by omega)]; exact h3⟩
  obtain ⟨e1, e2, e3, e4, e5, e6, e7⟩ := h1 q q0 q1
  unfold RP fup
  refine ⟨?_, ?_, ?_, ?_, ?_, ?_, ?_⟩ <;> split <;> omega
theorem RM.hang (h : RM S r f) (p0 : 0 ≤ p) (p1 : p < 8) : RM (mup S r 6 (bOr (S r 6) (bShl 1 p))) r (fup f (14 + 6 * p + 4) 1) := by
  obtain ⟨h1, h2, h3, h4, h5⟩ := h
  have hs := set_on (S r 6).toNat (by omega) p.toNat (by omega)
  rw [show (((S r 6).toNat : Nat) : Int) = S r 6 by omega, show ((p.toNat : Nat) : Int) = p by omega] at hs
  refine ⟨fun q q0 q1 => ?_, ?_, ?_, ?_, ?_⟩
  · obtain ⟨e1, e2, e3, e4, e5, e6, e7⟩ := h1 q q0 q1
    have hq := hs.2 q.toNat (by omega)
    rw [show ((q.toNat : Nat) : Int) = q by omega] at hq
    refine ⟨(by rw [mup_ne _ _ _ (by omega), fup_ne _ _ (by omega)]; exact e1), (by rw [mup_ne _ _ _ (by omega), fup_ne _ _ (by omega)]; exact e2), (by rw [mup_ne _ _ _ (by omega), fup_ne _ _ (by omega)]; exact e3), (by rw [mup_ne _ _ _ (by omega), fup_ne _ _ (by omega)]; exact e4), ?_, (by rw [mup_ne _ _ _ (by omega), fup_ne _ _ (by omega)]; exact e6), (by rw [mup_ne _ _ _ (by omega), fup_ne _ _ (by omega)]; exact e7)⟩
    rw [mup_same, hq]
    unfold fup
    split <;> split <;> first | rfl | omega
  · rw [mup_i _ _ _ (by decide), fup_ne _ _ (by omega)]; exact h2
  · rw [mup_i _ _ _ (by decide), fup_ne _ _ (by omega)]; exact h3
  · rw [mup_same]; exact hs.1.1
  · rw [mup_same]; exact hs.1.2
theorem RM.unhang (h : RM S r f) (p0 : 0 ≤ p) (p1 : p < 8) : RM (mup S r 6 (bAnd (S r 6) (bXor (bShl 1 p) (-1)))) r (fup f (14 + 6 * p + 4) 0) := by
  obtain ⟨h1, h2, h3, h4, h5⟩ := h
  have hs := set_off (S r 6).toNat (by omega) p.toNat (by omega)
  rw [show (((S r 6).toNat : Nat) : Int) = S r 6 by omega, show ((p.toNat : Nat) : Int) = p by omega] at hs
  refine ⟨fun q q0 q1 => ?_, ?_, ?_, ?_, ?_⟩
  · obtain ⟨e1, e2, e3, e4, e5, e6, e7⟩ := h1 q q0 q1
    have hq := hs.2 q.toNat (by omega)
    rw [show ((q.toNat : Nat) : Int) = q by omega] at hq
    refine ⟨(by rw [mup_ne _ _ _ (by omega), fup_ne _ _ (by omega)]; exact e1), (by rw [mup_ne _ _ _ (by omega), fup_ne _ _ (by omega)]; exact e2), (by rw [mup_ne _ _ _ (by omega), fup_ne _ _ (by omega)]; exact e3), (by rw [mup_ne _ _ _ (by omega), fup_ne _ _ (by omega)]; exact e4), ?_, (by rw [mup_ne _ _ _ (by omega), fup_ne _ _ (by omega)]; exact e6), (by rw [mup_ne _ _ _ (by omega), fup_ne _ _ (by omega)]; exact e7)⟩
    rw [mup_same, hq]
    unfold fup
    split <;> split <;> first | rfl | omega
  · rw [mup_i _ _ _ (by decide), fup_ne _ _ (by omega)]; exact h2
  · rw [mup_i _ _ _ (by decide), fup_ne _ _ (by omega)]; exact h3
  · rw [mup_same]; exact hs.1.1
  · rw [mup_same]; exact hs.1.2
theorem RM.damp (h : RM S r f) : RM (mup S r 8 v) r (fup f 10 v) := by
  obtain ⟨h1, h2, h3, h4, h5⟩ := h
  refine ⟨fun q q0 q1 => ?_, ?_, ?_, ?_, ?_⟩
  · obtain ⟨e1, e2, e3, e4, e5, e6, e7⟩ := h1 q q0 q1
    refine ⟨?_, ?_, ?_, ?_, ?_, ?_, ?_⟩
    all_goals (first | rw [mup_ne _ _ _ (by omega), fup_ne _ _ (by omega)] | rw [mup_i _ _ _ (by decide), fup_ne _ _ (by omega)])
    all_goals assumption
  · rw [mup_i _ _ _ (by decide), fup_ne _ _ (by omega)]; exact h2
  · rw [mup_same, fup_at]
  · rw [mup_i _ _ _ (by decide)]; exact h4
  · rw [mup_i _ _ _ (by decide)]; exact h5
theorem RM.night (h : RM S r f) : RM (mup S r 7 v) r (fup f 9 v) := by
  obtain ⟨h1, h2, h3, h4, h5⟩ := h
  refine ⟨fun q q0 q1 => ?_, ?_, ?_, ?_, ?_⟩
  · obtain ⟨e1, e2, e3, e4, e5, e6, e7⟩ := h1 q q0 q1
    refine ⟨?_, ?_, ?_, ?_, ?_, ?_, ?_⟩
    all_goals (first | rw [mup_ne _ _ _ (by omega), fup_ne _ _ (by omega)] | rw [mup_i _ _ _ (by decide), fup_ne _ _ (by omega)])
    all_goals assumption
  · rw [mup_same, fup_at]
  · rw [mup_i _ _ _ (by decide), fup_ne _ _ (by omega)]; exact h3
  · rw [mup_i _ _ _ (by decide)]; exact h4
  · rw [mup_i _ _ _ (by decide)]; exact h5
theorem RO.damp (h : RO f) (hv : 0 ≤ v ∧ v ≤ 9) : RO (fup f 10 v) := by
  refine ⟨fun q q0 q1 => ?_, by rw [fup_at]; exact hv, by rw [fup_ne _ _ (by omega)]; exact h.2.2⟩
  have := h.1 q q0 q1
  unfold RP at this ⊢
  rw [fup_ne _ _ (by omega), fup_ne _ _ (by omega), fup_ne _ _ (by omega), fup_ne _ _ (by omega), fup_ne _ _ (by omega), fup_ne _ _ (by omega), fup_ne _ _ (by omega)]
  exact this
theorem RO.night (h : RO f) (hv : okI v) : RO (fup f 9 v) := by
  refine ⟨fun q q0 q1 => ?_, by rw [fup_ne _ _ (by omega)]; exact h.2.1, by rw [fup_at]; exact hv⟩
  have := h.1 q q0 q1
  unfold RP at this ⊢
  rw [fup_ne _ _ (by omega), fup_ne _ _ (by omega), fup_ne _ _ (by omega), fup_ne _ _ (by omega), fup_ne _ _ (by omega), fup_ne _ _ (by omega), fup_ne _ _ (by omega)]
  exact this
/-- an entry that neither moon nor ranges see -/
theorem RM.other (h : RM S r f) {i : Int} (h9 : i ≠ 9) (h10 : i ≠ 10) (h14 : i < 14 ∨ 70 ≤ i) : RM S r (fup f i v) := by
  obtain ⟨h1, h2, h3, h4⟩ := h
  refine ⟨fun q q0 q1 => ?_, by rw [fup_ne _ _ (by omega)]; exact h2, by rw [fup_ne _ _ (by omega)]; exact h3, h4⟩
  have := h1 q q0 q1
  rw [fup_ne _ _ (by omega), fup_ne _ _ (by omega), fup_ne _ _ (by omega), fup_ne _ _ (by omega), fup_ne _ _ (by omega), fup_ne _ _ (by omega), fup_ne _ _ (by omega)]
  exact this
theorem RO.other (h : RO f) {i : Int} (h9 : i ≠ 9) (h10 : i ≠ 10) (h14 : i < 14 ∨ 70 ≤ i) : RO (fup f i v) := by
  refine ⟨fun q q0 q1 => ?_, by rw [fup_ne _ _ (by omega)]; exact h.2.1, by rw [fup_ne _ _ (by omega)]; exact h.2.2⟩
  have := h.1 q q0 q1
  unfold RP at this ⊢
  rw [fup_ne _ _ (by omega), fup_ne _ _ (by omega), fup_ne _ _ (by omega), fup_ne _ _ (by omega), fup_ne _ _ (by omega), fup_ne _ _ (by omega), fup_ne _ _ (by omega)]
  exact this
end wr
