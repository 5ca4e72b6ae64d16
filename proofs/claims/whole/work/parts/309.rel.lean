set_option maxHeartbeats 4000000
set_option maxRecDepth 20000
/-! ===== the pure part: laundries against rows ===== -/
def LG (S : mSt) (r : Nat) (f : mRow) : Prop := f 11 = min (S r 12) 60 ∧ 0 ≤ S r 12 ∧ ∀ ago j, 0 ≤ ago → ago < f 11 → 0 ≤ j → j < 4 → S (r + 10) (4 * ((S r 12 - 1 - ago) % 60) + j) = f (110 + 4 * ago + j)
def RLd (S : mSt) (r : Nat) (f : mRow) (T : Int) : Prop := RY S r f ∧ (S r 5 = f 0 ∧ S r 2 = f 3 ∧ S r 4 = f 4) ∧ (∀ i, 0 ≤ i → i < 4 * f 3 → S (r + 8) i = f (70 + i)) ∧ (∀ i, 0 ≤ i → i < 2 * f 4 → S (r + 9) i = f (94 + i)) ∧ LG S r f ∧ S r 12 ≤ T
def RS (f : mRow) (s : Int) : Prop := (0 ≤ f (70 + 4 * s) ∧ f (70 + 4 * s) ≤ 9) ∧ (1 ≤ f (70 + 4 * s + 1) ∧ f (70 + 4 * s + 1) ≤ 30) ∧ (0 ≤ f (70 + 4 * s + 2) ∧ f (70 + 4 * s + 2) ≤ 3) ∧ (0 ≤ f (70 + 4 * s + 3) ∧ f (70 + 4 * s + 3) < 32)
/-- each peg has a part -/
def PS (f : mRow) : Prop := ∀ g, 0 ≤ g → g < 8 → ∃ p, 0 ≤ p ∧ p < 8 ∧ f (14 + 6 * p + 5) = g
def RR (f : mRow) : Prop := RN f ∧ (0 ≤ f 3 ∧ f 3 ≤ 6) ∧ (0 ≤ f 4 ∧ f 4 ≤ 8) ∧ (0 ≤ f 0 ∧ f 0 ≤ 12) ∧ (∀ s, 0 ≤ s → s < f 3 → RS f s) ∧ PS f
def EQ (f g : mRow) : Prop := ∀ k, 0 ≤ k → k < 350 → g k = f k
section congr
variable {S : mSt} {r : Nat} {f g : mRow} {T : Int}
theorem RM.congr (h : RM S r f) (e : EQ f g) : RM S r g := by
  obtain ⟨h1, h2, h3, h4⟩ := h
  refine ⟨fun p p0 p1 => ?_, by rw [e 9 (by decide) (by decide)]; exact h2, by rw [e 10 (by decide) (by decide)]; exact h3, h4⟩
  rw [e (14 + 6 * p) (by omega) (by omega), e (14 + 6 * p + 1) (by omega) (by omega), e (14 + 6 * p + 2) (by omega) (by omega), e (14 + 6 * p + 3) (by omega) (by omega), e (14 + 6 * p + 4) (by omega) (by omega), e (14 + 6 * p + 5) (by omega) (by omega), e (62 + p) (by omega) (by omega)]
  exact h1 p p0 p1
theorem RO.congr (h : RO f) (e : EQ f g) : RO g := by
  obtain ⟨h1, h2, h3⟩ := h
  refine ⟨fun p p0 p1 => ?_, by rw [e 10 (by decide) (by decide)]; exact h2, by rw [e 9 (by decide) (by decide)]; exact h3⟩
  unfold RP
  rw [e (14 + 6 * p) (by omega) (by omega), e (14 + 6 * p + 1) (by omega) (by omega), e (14 + 6 * p + 2) (by omega) (by omega), e (14 + 6 * p + 3) (by omega) (by omega), e (14 + 6 * p + 4) (by omega) (by omega), e (14 + 6 * p + 5) (by omega) (by omega), e (62 + p) (by omega) (by omega)]
  exact h1 p p0 p1
theorem RY.congr (h : RY S r f) (e : EQ f g) : RY S r g := by
  obtain ⟨h1, h2⟩ := h
  refine ⟨h1.congr e, ?_⟩
  rw [e 5 (by decide) (by decide), e 6 (by decide) (by decide), e 7 (by decide) (by decide), e 8 (by decide) (by decide), e 12 (by decide) (by decide)]
  exact h2
theorem LG.congr (h : LG S r f) (e : EQ f g) : LG S r g := by
  obtain ⟨h1, h2, h3⟩ := h
  refine ⟨by rw [e 11 (by decide) (by decide)]; exact h1, h2, fun ago j a0 a1 j0 j1 => ?_⟩
  rw [e 11 (by decide) (by decide)] at a1
  rw [e (110 + 4 * ago + j) (by omega) (by omega)]
  exact h3 ago j a0 a1 j0 j1
theorem RR.congr (h : RR f) (e : EQ f g) : RR g := by
  obtain ⟨⟨h1, h1a, h1b⟩, h2, h3, h4, h5, h6⟩ := h
  refine ⟨⟨h1.congr e, by rw [e 5 (by decide) (by decide)]; exact h1a, by rw [e 6 (by decide) (by decide)]; exact h1b⟩, by rw [e 3 (by decide) (by decide)]; exact h2, by rw [e 4 (by decide) (by decide)]; exact h3, by rw [e 0 (by decide) (by decide)]; exact h4, fun s s0 s1 => ?_, fun p p0 p1 => ?_⟩
  · rw [e 3 (by decide) (by decide)] at s1
    unfold RS
    rw [e (70 + 4 * s) (by omega) (by omega), e (70 + 4 * s + 1) (by omega) (by omega), e (70 + 4 * s + 2) (by omega) (by omega), e (70 + 4 * s + 3) (by omega) (by omega)]
    exact h5 s s0 s1
  · obtain ⟨q, q0, q1, hq⟩ := h6 p p0 p1
    exact ⟨q, q0, q1, by rw [e _ (by omega) (by omega)]; exact hq⟩
theorem RLd.congr (h : RLd S r f T) (hR : RR f) (e : EQ f g) : RLd S r g T := by
  obtain ⟨h1, h2, h3, h4, h5, h6⟩ := h
  obtain ⟨-, r3, r4, -⟩ := hR
  refine ⟨h1.congr e, by rw [e 0 (by decide) (by decide), e 3 (by decide) (by decide), e 4 (by decide) (by decide)]; exact h2, fun i i0 i1 => ?_, fun i i0 i1 => ?_, h5.congr e, h6⟩
  · rw [e 3 (by decide) (by decide)] at i1
    rw [e _ (by omega) (by omega)]
    exact h3 i i0 i1
  · rw [e 4 (by decide) (by decide)] at i1
    rw [e _ (by omega) (by omega)]
    exact h4 i i0 i1
end congr
/-- a moon at r1 copied to r0 -/
def CPM (S S' : mSt) (r1 r0 : Nat) : Prop := (∀ j : Nat, 1 ≤ j → j ≤ 6 → ∀ i, 0 ≤ i → i < 8 → S' (r0 + j) i = S (r1 + j) i) ∧ S' r0 6 = S r1 6 ∧ S' r0 7 = S r1 7 ∧ S' r0 8 = S r1 8
theorem RM.copy {S S' : mSt} {r1 r0 : Nat} {f : mRow} (h : RM S r1 f) (c : CPM S S' r1 r0) : RM S' r0 f := by
  obtain ⟨h1, h2, h3, h4⟩ := h
  obtain ⟨c1, c2, c3, c4⟩ := c
  refine ⟨fun p p0 p1 => ?_, c3.trans h2, c4.trans h3, by rw [c2]; exact h4⟩
  rw [c1 1 (by omega) (by omega) p p0 p1, c1 2 (by omega) (by omega) p p0 p1, c1 3 (by omega) (by omega) p p0 p1, c1 4 (by omega) (by omega) p p0 p1, c1 5 (by omega) (by omega) p p0 p1, c1 6 (by omega) (by omega) p p0 p1, c2]
  exact h1 p p0 p1
def CPL (S S' : mSt) (r1 r0 : Nat) : Prop := CPM S S' (r1 + 1) (r0 + 1) ∧ (S' r0 2 = S r1 2 ∧ S' r0 4 = S r1 4 ∧ S' r0 5 = S r1 5 ∧ S' r0 6 = S r1 6 ∧ S' r0 7 = S r1 7 ∧ S' r0 8 = S r1 8 ∧ S' r0 9 = S r1 9 ∧ S' r0 10 = S r1 10 ∧ S' r0 12 = S r1 12) ∧ (∀ i, 0 ≤ i → i < 24 → S' (r0 + 8) i = S (r1 + 8) i) ∧ (∀ i, 0 ≤ i → i < 16 → S' (r0 + 9) i = S (r1 + 9) i) ∧ ∀ i, 0 ≤ i → i < 240 → S' (r0 + 10) i = S (r1 + 10) i
theorem RLd.copy {S S' : mSt} {r1 r0 : Nat} {f : mRow} {T : Int} (h : RLd S r1 f T) (hR : RR f) (c : CPL S S' r1 r0) : RLd S' r0 f T := by
  obtain ⟨⟨h1, h1a, h1b, h1c, h1d, h1e⟩, ⟨h2, h2a, h2b⟩, h3, h4, ⟨h5, h5a, h5b⟩, h6⟩ := h
  obtain ⟨-, r3, r4, -⟩ := hR
  obtain ⟨c1, ⟨c2, c3, c4, c5, c6, c7, c8, c9, c10⟩, d1, d2, d3⟩ := c
  refine ⟨⟨h1.copy c1, c5.trans h1a, c6.trans h1b, c7.trans h1c, c8.trans h1d, c9.trans h1e⟩, ⟨c4.trans h2, c2.trans h2a, c3.trans h2b⟩, fun i i0 i1 => (d1 i i0 (by omega)).trans (h3 i i0 i1), fun i i0 i1 => (d2 i i0 (by omega)).trans (h4 i i0 i1), ⟨by rw [c10]; exact h5, by rw [c10]; exact h5a, fun ago j a0 a1 j0 j1 => ?_⟩, by rw [c10]; exact h6⟩
  rw [c10, d3 _ (by omega) (by omega)]
  exact h5b ago j a0 a1 j0 j1
theorem RLd.of {S S' : mSt} {r : Nat} {f : mRow} {T : Int} (h : RLd S r f T) (hs : ∀ r', r ≤ r' → r' ≤ r + 10 → S' r' = S r') : RLd S' r f T := by
  unfold RLd RY LG
  rw [hs r (by omega) (by omega), hs (r + 8) (by omega) (by omega), hs (r + 9) (by omega) (by omega), hs (r + 10) (by omega) (by omega)]
  exact ⟨⟨h.1.1.of (fun r' a b => hs r' (by omega) (by omega)), h.1.2⟩, h.2⟩
theorem RLd.mono {S : mSt} {r : Nat} {f : mRow} {T T' : Int} (h : RLd S r f T) (hT : T ≤ T') : RLd S r f T' := ⟨h.1, h.2.1, h.2.2.1, h.2.2.2.1, h.2.2.2.2.1, by have := h.2.2.2.2.2; omega⟩
section cBecome
variable {N : Nat} {S : mSt} {r0 r1 : Nat} {Q : mSt → Prop}
theorem s_become5 (ap : r0 + 6 < r1 ∨ r1 + 6 < r0) (hok : okS S) (h : ∀ S', okS S' → CPM S S' r1 r0 → (∀ r, (r < r0 ∨ r0 + 6 < r) → S' r = S r) → Q S') : w_X5_become N r0 r1 S Q := by
  unfold w_X5_become
  intro S1 e1 S2 e2 S3 e3 S4 e4 S5 e5 S6 e6 S7 e7 S8 e8 S9 e9
  have ok6 : okS S6 := by rw [e6, e5, e4, e3, e2, e1]; exact okS_cp (okS_cp (okS_cp (okS_cp (okS_cp (okS_cp hok)))))
  have ok7 : okS S7 := by rw [e7]; exact okS_up ok6 (ok6 _ _)
  have ok8 : okS S8 := by rw [e8]; exact okS_up ok7 (ok7 _ _)
  have ok9 : okS S9 := by rw [e9]; exact okS_up ok8 (ok8 _ _)
  refine h S9 ok9 ⟨fun j j1 j6 i i0 i8 => ?_, ?_, ?_, ?_⟩ (fun r hr => ?_)
  · have hj : j = 1 ∨ j = 2 ∨ j = 3 ∨ j = 4 ∨ j = 5 ∨ j = 6 := by omega
    rw [e9, mup_ne _ _ _ (by omega), e8, mup_ne _ _ _ (by omega), e7, mup_ne _ _ _ (by omega), e6, e5, e4, e3, e2, e1]
    rcases hj with rfl | rfl | rfl | rfl | rfl | rfl
    · rw [mcp_ne _ _ (by omega), mcp_ne _ _ (by omega), mcp_ne _ _ (by omega), mcp_ne _ _ (by omega), mcp_ne _ _ (by omega), mcp_in _ _ _ i0 i8]
    · rw [mcp_ne _ _ (by omega), mcp_ne _ _ (by omega), mcp_ne _ _ (by omega), mcp_ne _ _ (by omega), mcp_in _ _ _ i0 i8, mcp_ne _ _ (by omega)]
    · rw [mcp_ne _ _ (by omega), mcp_ne _ _ (by omega), mcp_ne _ _ (by omega), mcp_in _ _ _ i0 i8, mcp_ne _ _ (by omega), mcp_ne _ _ (by omega)]
    · rw [mcp_ne _ _ (by omega), mcp_ne _ _ (by omega), mcp_in _ _ _ i0 i8, mcp_ne _ _ (by omega), mcp_ne _ _ (by omega), mcp_ne _ _ (by omega)]
    · rw [mcp_ne _ _ (by omega), mcp_in _ _ _ i0 i8, mcp_ne _ _ (by omega), mcp_ne _ _ (by omega), mcp_ne _ _ (by omega), mcp_ne _ _ (by omega)]
    · rw [mcp_in _ _ _ i0 i8, mcp_ne _ _ (by omega), mcp_ne _ _ (by omega), mcp_ne _ _ (by omega), mcp_ne _ _ (by omega), mcp_ne _ _ (by omega)]
  · rw [e9, mup_i _ _ _ (by decide), e8, mup_i _ _ _ (by decide), e7, mup_same, e6, e5, e4, e3, e2, e1, mcp_ne _ _ (by omega), mcp_ne _ _ (by omega), mcp_ne _ _ (by omega), mcp_ne _ _ (by omega), mcp_ne _ _ (by omega), mcp_ne _ _ (by omega)]
  · rw [e9, mup_i _ _ _ (by decide), e8, mup_same, e7, mup_ne _ _ _ (by omega), e6, e5, e4, e3, e2, e1, mcp_ne _ _ (by omega), mcp_ne _ _ (by omega), mcp_ne _ _ (by omega), mcp_ne _ _ (by omega), mcp_ne _ _ (by omega), mcp_ne _ _ (by omega)]
  · rw [e9, mup_same, e8, mup_ne _ _ _ (by omega), e7, mup_ne _ _ _ (by omega), e6, e5, e4, e3, e2, e1, mcp_ne _ _ (by omega), mcp_ne _ _ (by omega), mcp_ne _ _ (by omega), mcp_ne _ _ (by omega), mcp_ne _ _ (by omega), mcp_ne _ _ (by omega)]
  · rw [e9, mup_ne _ _ _ (by omega), e8, mup_ne _ _ _ (by omega), e7, mup_ne _ _ _ (by omega), e6, e5, e4, e3, e2, e1, mcp_ne _ _ (by omega), mcp_ne _ _ (by omega), mcp_ne _ _ (by omega), mcp_ne _ _ (by omega), mcp_ne _ _ (by omega), mcp_ne _ _ (by omega)]
theorem okS_self {S : mSt} {r : Nat} {i : Int} {r' : Nat} {i' : Int} (h : okS S) : okS (mup S r i (S r' i')) := okS_up h (h _ _)
theorem s_become2 (ap : r0 + 10 < r1 ∨ r1 + 10 < r0) (hok : okS S) (h : ∀ S', okS S' → CPL S S' r1 r0 → (∀ r, (r < r0 ∨ r0 + 10 < r) → S' r = S r) → Q S') : w_X2_become N r0 r1 S Q := by
  unfold w_X2_become
  refine s_become5 (by omega) hok (fun S1 ok1 c1 k1 => ?_)
  intro S2 e2 S3 e3 S4 e4 S5 e5 S6 e6 S7 e7 S8 e8 S9 e9 S10 e10 S11 e11 S12 e12 S13 e13
  have ok2 : okS S2 := by rw [e2]; exact okS_cp ok1
  have ok3 : okS S3 := by rw [e3]; exact okS_self ok2
  have ok4 : okS S4 := by rw [e4]; exact okS_cp ok3
  have ok5 : okS S5 := by rw [e5]; exact okS_self ok4
  have ok6 : okS S6 := by rw [e6]; exact okS_self ok5
  have ok7 : okS S7 := by rw [e7]; exact okS_self ok6
  have ok8 : okS S8 := by rw [e8]; exact okS_self ok7
  have ok9 : okS S9 := by rw [e9]; exact okS_self ok8
  have ok10 : okS S10 := by rw [e10]; exact okS_self ok9
  have ok11 : okS S11 := by rw [e11]; exact okS_self ok10
  have ok12 : okS S12 := by rw [e12]; exact okS_cp ok11
  have ok13 : okS S13 := by rw [e13]; exact okS_self ok12
  -- regions that no step touches
  have kk : ∀ r, r ≠ r0 → r ≠ r0 + 8 → r ≠ r0 + 9 → r ≠ r0 + 10 → S13 r = S1 r ∧ S12 r = S1 r ∧ S11 r = S1 r ∧ S10 r = S1 r ∧ S9 r = S1 r ∧ S8 r = S1 r ∧ S7 r = S1 r ∧ S6 r = S1 r ∧ S5 r = S1 r ∧ S4 r = S1 r ∧ S3 r = S1 r ∧ S2 r = S1 r := by
    intro r a b c d
    have f2 : S2 r = S1 r := by rw [e2, mcp_ne _ _ b]
    have f3 : S3 r = S1 r := by rw [e3, mup_ne _ _ _ a, f2]
    have f4 : S4 r = S1 r := by rw [e4, mcp_ne _ _ c, f3]
    have f5 : S5 r = S1 r := by rw [e5, mup_ne _ _ _ a, f4]
    have f6 : S6 r = S1 r := by rw [e6, mup_ne _ _ _ a, f5]
    have f7 : S7 r = S1 r := by rw [e7, mup_ne _ _ _ a, f6]
    have f8 : S8 r = S1 r := by rw [e8, mup_ne _ _ _ a, f7]
    have f9 : S9 r = S1 r := by rw [e9, mup_ne _ _ _ a, f8]
    have f10 : S10 r = S1 r := by rw [e10, mup_ne _ _ _ a, f9]
    have f11 : S11 r = S1 r := by rw [e11, mup_ne _ _ _ a, f10]
    have f12 : S12 r = S1 r := by rw [e12, mcp_ne _ _ d, f11]
    have f13 : S13 r = S1 r := by rw [e13, mup_ne _ _ _ a, f12]
    exact ⟨f13, f12, f11, f10, f9, f8, f7, f6, f5, f4, f3, f2⟩
  have kr := kk r1 (by omega) (by omega) (by omega) (by omega)
  obtain ⟨-, k12, k11, k10, k9, k8, k7, k6, k5, k4, k3, k2⟩ := kr
  rw [k2] at e3
  rw [k4] at e5
  rw [k5] at e6
  rw [k6] at e7
  rw [k7] at e8
  rw [k8] at e9
  rw [k9] at e10
  rw [k10] at e11
  rw [k12] at e13
  have kS1 : S1 r1 = S r1 := k1 r1 (by omega)
  rw [kS1] at e3 e5 e6 e7 e8 e9 e10 e11 e13
  refine h S13 ok13 ⟨⟨fun j j1 j6 i i0 i8 => ?_, ?_, ?_, ?_⟩, ⟨?_, ?_, ?_, ?_, ?_, ?_, ?_, ?_, ?_⟩, fun i i0 i1 => ?_, fun i i0 i1 => ?_, fun i i0 i1 => ?_⟩ (fun r hr => ?_)
  · rw [(kk (r0 + 1 + j) (by omega) (by omega) (by omega) (by omega)).1]; exact c1.1 j j1 j6 i i0 i8
  · rw [(kk (r0 + 1) (by omega) (by omega) (by omega) (by omega)).1]; exact c1.2.1
  · rw [(kk (r0 + 1) (by omega) (by omega) (by omega) (by omega)).1]; exact c1.2.2.1
  · rw [(kk (r0 + 1) (by omega) (by omega) (by omega) (by omega)).1]; exact c1.2.2.2
  · rw [e13, mup_i _ _ _ (by decide), e12, mcp_ne _ _ (by omega), e11, mup_i _ _ _ (by decide), e10, mup_i _ _ _ (by decide), e9, mup_i _ _ _ (by decide), e8, mup_i _ _ _ (by decide), e7, mup_i _ _ _ (by decide), e6, mup_i _ _ _ (by decide), e5, mup_i _ _ _ (by decide), e4, mcp_ne _ _ (by omega), e3, mup_same]
  · rw [e13, mup_i _ _ _ (by decide), e12, mcp_ne _ _ (by omega), e11, mup_i _ _ _ (by decide), e10, mup_i _ _ _ (by decide), e9, mup_i _ _ _ (by decide), e8, mup_i _ _ _ (by decide), e7, mup_i _ _ _ (by decide), e6, mup_i _ _ _ (by decide), e5, mup_same]
  · rw [e13, mup_i _ _ _ (by decide), e12, mcp_ne _ _ (by omega), e11, mup_i _ _ _ (by decide), e10, mup_i _ _ _ (by decide), e9, mup_i _ _ _ (by decide), e8, mup_i _ _ _ (by decide), e7, mup_i _ _ _ (by decide), e6, mup_same]
  · rw [e13, mup_i _ _ _ (by decide), e12, mcp_ne _ _ (by omega), e11, mup_i _ _ _ (by decide), e10, mup_i _ _ _ (by decide), e9, mup_i _ _ _ (by decide), e8, mup_i _ _ _ (by decide), e7, mup_same]
  · rw [e13, mup_i _ _ _ (by decide), e12, mcp_ne _ _ (by omega), e11, mup_i _ _ _ (by decide), e10, mup_i _ _ _ (by decide), e9, mup_i _ _ _ (by decide), e8, mup_same]
  · rw [e13, mup_i _ _ _ (by decide), e12, mcp_ne _ _ (by omega), e11, mup_i _ _ _ (by decide), e10, mup_i _ _ _ (by decide), e9, mup_same]
  · rw [e13, mup_i _ _ _ (by decide), e12, mcp_ne _ _ (by omega), e11, mup_i _ _ _ (by decide), e10, mup_same]
  · rw [e13, mup_i _ _ _ (by decide), e12, mcp_ne _ _ (by omega), e11, mup_same]
  · rw [e13, mup_same]
  · rw [e13, mup_ne _ _ _ (by omega), e12, mcp_ne _ _ (by omega), e11, mup_ne _ _ _ (by omega), e10, mup_ne _ _ _ (by omega), e9, mup_ne _ _ _ (by omega), e8, mup_ne _ _ _ (by omega), e7, mup_ne _ _ _ (by omega), e6, mup_ne _ _ _ (by omega), e5, mup_ne _ _ _ (by omega), e4, mcp_ne _ _ (by omega), e3, mup_ne _ _ _ (by omega), e2, mcp_in _ _ _ i0 i1, k1 _ (by omega)]
  · rw [e13, mup_ne _ _ _ (by omega), e12, mcp_ne _ _ (by omega), e11, mup_ne _ _ _ (by omega), e10, mup_ne _ _ _ (by omega), e9, mup_ne _ _ _ (by omega), e8, mup_ne _ _ _ (by omega), e7, mup_ne _ _ _ (by omega), e6, mup_ne _ _ _ (by omega), e5, mup_ne _ _ _ (by omega), e4, mcp_in _ _ _ i0 i1, (kk (r1 + 9) (by omega) (by omega) (by omega) (by omega)).2.2.2.2.2.2.2.2.2.2.1, k1 _ (by omega)]
  · rw [e13, mup_ne _ _ _ (by omega), e12, mcp_in _ _ _ i0 i1, (kk (r1 + 10) (by omega) (by omega) (by omega) (by omega)).2.2.1, k1 _ (by omega)]
  · rw [(kk r (by omega) (by omega) (by omega) (by omega)).1]; exact k1 r (by omega)
end cBecome
