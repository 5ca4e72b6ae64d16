set_option maxHeartbeats 400000
set_option maxRecDepth 20000
/-! ===== the pure part: what lines of the house change of a laundry, of a row ===== -/
def fSoap (f : mRow) (s w r t : Int) : mRow := fup (fup (fup (fup (fup f (70 + 4 * f 3) s) (70 + 4 * f 3 + 1) w) (70 + 4 * f 3 + 2) r) (70 + 4 * f 3 + 3) t) 3 (f 3 + 1)
def fDue (f : mRow) (m l : Int) : mRow := fup (fup (fup f (94 + 2 * f 4) m) (94 + 2 * f 4 + 1) l) 4 (f 4 + 1)
def fPart (f : mRow) (p g t s : Int) : mRow := fup (fup (fup f (14 + 6 * p) g) (14 + 6 * p + 1) t) (14 + 6 * p + 3) s
section hrows
variable {S S' : mSt} {r : Nat} {f : mRow} {T p v g t s w u i j k : Int}
theorem fSoap_ne (h3 : k ≠ 3) (h : k < 70 + 4 * f 3 ∨ 70 + 4 * f 3 + 3 < k) : fSoap f s w u t k = f k := by
  unfold fSoap
  rw [fup_ne _ _ h3, fup_ne _ _ (by omega), fup_ne _ _ (by omega), fup_ne _ _ (by omega), fup_ne _ _ (by omega)]
theorem fSoap_3 : fSoap f s w u t 3 = f 3 + 1 := fup_at _ _ _
theorem fSoap_at (h0 : 0 ≤ f 3) : fSoap f s w u t (70 + 4 * f 3) = s ∧ fSoap f s w u t (70 + 4 * f 3 + 1) = w ∧ fSoap f s w u t (70 + 4 * f 3 + 2) = u ∧ fSoap f s w u t (70 + 4 * f 3 + 3) = t := by
  unfold fSoap
  refine ⟨?_, ?_, ?_, ?_⟩
  · rw [fup_ne _ _ (by omega), fup_ne _ _ (by omega), fup_ne _ _ (by omega), fup_ne _ _ (by omega), fup_at]
  · rw [fup_ne _ _ (by omega), fup_ne _ _ (by omega), fup_ne _ _ (by omega), fup_at]
  · rw [fup_ne _ _ (by omega), fup_ne _ _ (by omega), fup_at]
  · rw [fup_ne _ _ (by omega), fup_at]
theorem fDue_ne (h4 : k ≠ 4) (h : k < 94 + 2 * f 4 ∨ 94 + 2 * f 4 + 1 < k) : fDue f s t k = f k := by
  unfold fDue
  rw [fup_ne _ _ h4, fup_ne _ _ (by omega), fup_ne _ _ (by omega)]
theorem fDue_4 : fDue f s t 4 = f 4 + 1 := fup_at _ _ _
theorem fDue_at (h0 : 0 ≤ f 4) : fDue f s t (94 + 2 * f 4) = s ∧ fDue f s t (94 + 2 * f 4 + 1) = t := by
  unfold fDue
  refine ⟨?_, ?_⟩
  · rw [fup_ne _ _ (by omega), fup_ne _ _ (by omega), fup_at]
  · rw [fup_ne _ _ (by omega), fup_at]
theorem RM.wind (h : RM S r f) (p0 : 0 ≤ p) (p1 : p < 8) : RM (mup S (r + 6) p v) r (fup f (62 + p) v) := by
  obtain ⟨h1, h2, h3, h4, h5⟩ := h
  refine ⟨fun q q0 q1 => ?_, ?_, ?_, ?_, ?_⟩
  · obtain ⟨e1, e2, e3, e4, e5, e6, e7⟩ := h1 q q0 q1
    exact ⟨(by rw [mup_ne _ _ _ (by omega), fup_ne _ _ (by omega)]; exact e1), (by rw [mup_ne _ _ _ (by omega), fup_ne _ _ (by omega)]; exact e2), (by rw [mup_ne _ _ _ (by omega), fup_ne _ _ (by omega)]; exact e3), (by rw [mup_ne _ _ _ (by omega), fup_ne _ _ (by omega)]; exact e4), (by rw [mup_ne _ _ _ (by omega), fup_ne _ _ (by omega)]; exact e5), (by rw [mup_ne _ _ _ (by omega), fup_ne _ _ (by omega)]; exact e6), (by rw [mup_at]; unfold fup; split <;> split <;> first | rfl | omega)⟩
  · rw [mup_ne _ _ _ (by omega), fup_ne _ _ (by omega)]; exact h2
  · rw [mup_ne _ _ _ (by omega), fup_ne _ _ (by omega)]; exact h3
  · rw [mup_ne _ _ _ (by omega)]; exact h4
  · rw [mup_ne _ _ _ (by omega)]; exact h5
theorem RO.wind (h : RO f) (p0 : 0 ≤ p) (p1 : p < 8) (hv : 0 ≤ v ∧ v ≤ 9) : RO (fup f (62 + p) v) := by
  obtain ⟨h1, h2, h3⟩ := h
  refine ⟨fun q q0 q1 => ?_, by rw [fup_ne _ _ (by omega)]; exact h2, by rw [fup_ne _ _ (by omega)]; exact h3⟩
  obtain ⟨e1, e2, e3, e4, e5, e6, e7⟩ := h1 q q0 q1
  unfold RP fup
  refine ⟨?_, ?_, ?_, ?_, ?_, ?_, ?_⟩ <;> split <;> omega
theorem RM.same {f' : mRow} (h : RM S r f) (e : ∀ k, (k = 9 ∨ k = 10 ∨ (14 ≤ k ∧ k < 70)) → f' k = f k) : RM S r f' := by
  obtain ⟨h1, h2, h3, h4⟩ := h
  refine ⟨fun p p0 p1 => ?_, by rw [e 9 (by omega)]; exact h2, by rw [e 10 (by omega)]; exact h3, h4⟩
  rw [e (14 + 6 * p) (by omega), e (14 + 6 * p + 1) (by omega), e (14 + 6 * p + 2) (by omega), e (14 + 6 * p + 3) (by omega), e (14 + 6 * p + 4) (by omega), e (14 + 6 * p + 5) (by omega), e (62 + p) (by omega)]
  exact h1 p p0 p1
theorem RO.same {f' : mRow} (h : RO f) (e : ∀ k, (k = 9 ∨ k = 10 ∨ (14 ≤ k ∧ k < 70)) → f' k = f k) : RO f' := by
  obtain ⟨h1, h2, h3⟩ := h
  refine ⟨fun p p0 p1 => ?_, by rw [e 10 (by omega)]; exact h2, by rw [e 9 (by omega)]; exact h3⟩
  unfold RP
  rw [e (14 + 6 * p) (by omega), e (14 + 6 * p + 1) (by omega), e (14 + 6 * p + 2) (by omega), e (14 + 6 * p + 3) (by omega), e (14 + 6 * p + 4) (by omega), e (14 + 6 * p + 5) (by omega), e (62 + p) (by omega)]
  exact h1 p p0 p1
/-- spring, water, wolves, thieves -/
theorem RLd.field (hi : (i = 6 ∧ j = 5) ∨ (i = 7 ∧ j = 6) ∨ (i = 8 ∧ j = 7) ∨ (i = 9 ∧ j = 8)) (h : RLd S r f T) : RLd (mup S r i v) r (fup f j v) T := by
  obtain ⟨⟨h1, h1a, h1b, h1c, h1d, h1e⟩, ⟨h2, h2a, h2b⟩, h3, h4, ⟨h5, h5a, h5b⟩, h6⟩ := h
  have ne : ∀ k, (k < 5 ∨ 9 ≤ k) → fup f j v k = f k := fun k hk => fup_ne _ _ (by omega)
  have mn : ∀ k, (k < 6 ∨ 10 ≤ k) → (mup S r i v) r k = S r k := fun k hk => mup_i _ _ _ (by omega)
  have mr : ∀ r', r' ≠ r → (mup S r i v) r' = S r' := fun r' h => mup_ne _ _ _ h
  have four : (mup S r i v) r 6 = fup f j v 5 ∧ (mup S r i v) r 7 = fup f j v 6 ∧ (mup S r i v) r 8 = fup f j v 7 ∧ (mup S r i v) r 9 = fup f j v 8 := by
    rcases hi with ⟨rfl, rfl⟩ | ⟨rfl, rfl⟩ | ⟨rfl, rfl⟩ | ⟨rfl, rfl⟩ <;> refine ⟨?_, ?_, ?_, ?_⟩ <;> simp [mup, fup] <;> assumption
  refine ⟨⟨(h1.of (fun r' a b => mr r' (by omega))).same (fun k hk => ne k (by omega)), four.1, four.2.1, four.2.2.1, four.2.2.2, by rw [mn 10 (by omega), ne 12 (by omega)]; exact h1e⟩, ⟨by rw [mn 5 (by omega), ne 0 (by omega)]; exact h2, by rw [mn 2 (by omega), ne 3 (by omega)]; exact h2a, by rw [mn 4 (by omega), ne 4 (by omega)]; exact h2b⟩, fun i i0 i1 => ?_, fun i i0 i1 => ?_, ⟨by rw [mn 12 (by omega), ne 11 (by omega)]; exact h5, by rw [mn 12 (by omega)]; exact h5a, fun ago j b0 b1 j0 j1 => ?_⟩, by rw [mn 12 (by omega)]; exact h6⟩
  · rw [ne 3 (by omega)] at i1; rw [mr _ (by omega), ne _ (by omega)]; exact h3 i i0 i1
  · rw [ne 4 (by omega)] at i1; rw [mr _ (by omega), ne _ (by omega)]; exact h4 i i0 i1
  · rw [ne 11 (by omega)] at b1; rw [mn 12 (by omega), mr _ (by omega), ne _ (by omega)]; exact h5b ago j b0 b1 j0 j1
theorem RR.field (hj : j = 5 ∨ j = 6 ∨ j = 7 ∨ j = 8) (h : RR f) (v0 : 0 ≤ v) (v5 : j = 5 → v ≤ 99) (v6 : j = 6 → v ≤ 20) : RR (fup f j v) := by
  obtain ⟨⟨h1, h1a, h1b⟩, h2, h3, h4, h5, h6⟩ := h
  have ne : ∀ k, (k < 5 ∨ 9 ≤ k) → fup f j v k = f k := fun k hk => fup_ne _ _ (by omega)
  refine ⟨⟨h1.same (fun k hk => ne k (by omega)), ?_, ?_⟩, by rw [ne 3 (by omega)]; exact h2, by rw [ne 4 (by omega)]; exact h3, by rw [ne 0 (by omega)]; exact h4, fun s s0 s1 => ?_, h6.other (by omega)⟩
  · unfold fup; split <;> omega
  · unfold fup; split <;> omega
  · rw [ne 3 (by omega)] at s1; exact (h5 s s0 s1).other (by omega) s0 (by omega)
theorem RLd.soap (h : RLd S r f T) (k0 : 0 ≤ f 3) (k6 : f 3 < 6) (hS : ∀ r', r' ≠ r → r' ≠ r + 8 → S' r' = S r') (h0 : ∀ i, i ≠ 2 → S' r i = S r i) (h2 : S' r 2 = f 3 + 1) (h8 : ∀ i, i < 4 * f 3 → S' (r + 8) i = S (r + 8) i) (w0 : S' (r + 8) (4 * f 3) = s) (w1 : S' (r + 8) (4 * f 3 + 1) = w) (w2 : S' (r + 8) (4 * f 3 + 2) = u) (w3 : S' (r + 8) (4 * f 3 + 3) = t) : RLd S' r (fSoap f s w u t) T := by
  obtain ⟨⟨h1, h1a, h1b, h1c, h1d, h1e⟩, ⟨g2, g2a, g2b⟩, h3, h4, ⟨h5, h5a, h5b⟩, h6⟩ := h
  have ne : ∀ k, k ≠ 3 → (k < 70 + 4 * f 3 ∨ 94 ≤ k) → fSoap f s w u t k = f k := fun k hk hk2 => fSoap_ne hk (by omega)
  obtain ⟨a0, a1, a2, a3⟩ := fSoap_at (s := s) (w := w) (u := u) (t := t) k0
  refine ⟨⟨(h1.of (fun r' a b => hS r' (by omega) (by omega))).same (fun k hk => ne k (by omega) (by omega)), by rw [h0 6 (by omega), ne 5 (by omega) (by omega)]; exact h1a, by rw [h0 7 (by omega), ne 6 (by omega) (by omega)]; exact h1b, by rw [h0 8 (by omega), ne 7 (by omega) (by omega)]; exact h1c, by rw [h0 9 (by omega), ne 8 (by omega) (by omega)]; exact h1d, by rw [h0 10 (by omega), ne 12 (by omega) (by omega)]; exact h1e⟩, ⟨by rw [h0 5 (by omega), ne 0 (by omega) (by omega)]; exact g2, by rw [h2, fSoap_3], by rw [h0 4 (by omega), ne 4 (by omega) (by omega)]; exact g2b⟩, fun i i0 i1 => ?_, fun i i0 i1 => ?_, ⟨by rw [h0 12 (by omega), ne 11 (by omega) (by omega)]; exact h5, by rw [h0 12 (by omega)]; exact h5a, fun ago j b0 b1 j0 j1 => ?_⟩, by rw [h0 12 (by omega)]; exact h6⟩
  · rw [fSoap_3] at i1
    by_cases hi : i < 4 * f 3
    · rw [h8 i hi, ne _ (by omega) (by omega)]; exact h3 i i0 hi
    · have hh : i = 4 * f 3 ∨ i = 4 * f 3 + 1 ∨ i = 4 * f 3 + 2 ∨ i = 4 * f 3 + 3 := by omega
      rcases hh with e | e | e | e
      · rw [e, w0, a0]
      · rw [e, w1, show 70 + (4 * f 3 + 1) = 70 + 4 * f 3 + 1 by omega, a1]
      · rw [e, w2, show 70 + (4 * f 3 + 2) = 70 + 4 * f 3 + 2 by omega, a2]
      · rw [e, w3, show 70 + (4 * f 3 + 3) = 70 + 4 * f 3 + 3 by omega, a3]
  · rw [ne 4 (by omega) (by omega)] at i1; rw [hS _ (by omega) (by omega), ne _ (by omega) (by omega)]; exact h4 i i0 i1
  · rw [ne 11 (by omega) (by omega)] at b1; rw [h0 12 (by omega), hS _ (by omega) (by omega), ne _ (by omega) (by omega)]; exact h5b ago j b0 b1 j0 j1
theorem RR.soap (h : RR f) (k6 : f 3 < 6) (hs : 0 ≤ s ∧ s ≤ 9) (hw : 1 ≤ w ∧ w ≤ 30) (hu : 0 ≤ u ∧ u ≤ 3) (ht : 0 ≤ t ∧ t < 32) : RR (fSoap f s w u t) := by
  obtain ⟨⟨h1, h1a, h1b⟩, h2, h3, h4, h5, h6⟩ := h
  have ne : ∀ k, k ≠ 3 → (k < 70 + 4 * f 3 ∨ 94 ≤ k) → fSoap f s w u t k = f k := fun k hk hk2 => fSoap_ne hk (by omega)
  obtain ⟨a0, a1, a2, a3⟩ := fSoap_at (s := s) (w := w) (u := u) (t := t) h2.1
  refine ⟨⟨h1.same (fun k hk => ne k (by omega) (by omega)), by rw [ne 5 (by omega) (by omega)]; exact h1a, by rw [ne 6 (by omega) (by omega)]; exact h1b⟩, by rw [fSoap_3]; omega, by rw [ne 4 (by omega) (by omega)]; exact h3, by rw [ne 0 (by omega) (by omega)]; exact h4, fun k s0 s1 => ?_, h6.pegs (fun p p0 p1 => ne _ (by omega) (by omega))⟩
  rw [fSoap_3] at s1
  unfold RS
  by_cases hk : k < f 3
  · rw [ne _ (by omega) (by omega), ne _ (by omega) (by omega), ne _ (by omega) (by omega), ne _ (by omega) (by omega)]
    exact h5 k s0 hk
  · have e : k = f 3 := by omega
    rw [e, a0, a1, a2, a3]
    exact ⟨hs, hw, hu, ht⟩
theorem RLd.due (h : RLd S r f T) (k3 : f 3 ≤ 6) (k0 : 0 ≤ f 4) (k8 : f 4 < 8) (hS : ∀ r', r' ≠ r → r' ≠ r + 9 → S' r' = S r') (h0 : ∀ i, i ≠ 4 → S' r i = S r i) (h2 : S' r 4 = f 4 + 1) (h9 : ∀ i, i < 2 * f 4 → S' (r + 9) i = S (r + 9) i) (w0 : S' (r + 9) (2 * f 4) = s) (w1 : S' (r + 9) (2 * f 4 + 1) = t) : RLd S' r (fDue f s t) T := by
  obtain ⟨⟨h1, h1a, h1b, h1c, h1d, h1e⟩, ⟨g2, g2a, g2b⟩, h3, h4, ⟨h5, h5a, h5b⟩, h6⟩ := h
  have ne : ∀ k, k ≠ 4 → (k < 94 ∨ 94 + 2 * f 4 > k ∨ 110 ≤ k) → fDue f s t k = f k := fun k hk hk2 => fDue_ne hk (by omega)
  obtain ⟨a0, a1⟩ := fDue_at (s := s) (t := t) k0
  refine ⟨⟨(h1.of (fun r' a b => hS r' (by omega) (by omega))).same (fun k hk => ne k (by omega) (by omega)), by rw [h0 6 (by omega), ne 5 (by omega) (by omega)]; exact h1a, by rw [h0 7 (by omega), ne 6 (by omega) (by omega)]; exact h1b, by rw [h0 8 (by omega), ne 7 (by omega) (by omega)]; exact h1c, by rw [h0 9 (by omega), ne 8 (by omega) (by omega)]; exact h1d, by rw [h0 10 (by omega), ne 12 (by omega) (by omega)]; exact h1e⟩, ⟨by rw [h0 5 (by omega), ne 0 (by omega) (by omega)]; exact g2, by rw [h0 2 (by omega), ne 3 (by omega) (by omega)]; exact g2a, by rw [h2, fDue_4]⟩, fun i i0 i1 => ?_, fun i i0 i1 => ?_, ⟨by rw [h0 12 (by omega), ne 11 (by omega) (by omega)]; exact h5, by rw [h0 12 (by omega)]; exact h5a, fun ago j b0 b1 j0 j1 => ?_⟩, by rw [h0 12 (by omega)]; exact h6⟩
  · rw [ne 3 (by omega) (by omega)] at i1
    rw [hS _ (by omega) (by omega), ne _ (by omega) (by omega)]; exact h3 i i0 i1
  · rw [fDue_4] at i1
    by_cases hi : i < 2 * f 4
    · rw [h9 i hi, ne _ (by omega) (by omega)]; exact h4 i i0 hi
    · have hh : i = 2 * f 4 ∨ i = 2 * f 4 + 1 := by omega
      rcases hh with e | e
      · rw [e, w0, a0]
      · rw [e, w1, show 94 + (2 * f 4 + 1) = 94 + 2 * f 4 + 1 by omega, a1]
  · rw [ne 11 (by omega) (by omega)] at b1; rw [h0 12 (by omega), hS _ (by omega) (by omega), ne _ (by omega) (by omega)]; exact h5b ago j b0 b1 j0 j1
theorem RR.due (h : RR f) (k8 : f 4 < 8) : RR (fDue f s t) := by
  obtain ⟨⟨h1, h1a, h1b⟩, h2, h3, h4, h5, h6⟩ := h
  have ne : ∀ k, k ≠ 4 → k < 94 → fDue f s t k = f k := fun k hk hk2 => fDue_ne hk (by omega)
  refine ⟨⟨h1.same (fun k hk => ne k (by omega) (by omega)), by rw [ne 5 (by omega) (by omega)]; exact h1a, by rw [ne 6 (by omega) (by omega)]; exact h1b⟩, by rw [ne 3 (by omega) (by omega)]; exact h2, by rw [fDue_4]; omega, by rw [ne 0 (by omega) (by omega)]; exact h4, fun k s0 s1 => ?_, h6.pegs (fun p p0 p1 => ne _ (by omega) (by omega))⟩
  rw [ne 3 (by omega) (by omega)] at s1
  unfold RS
  rw [ne _ (by omega) (by omega), ne _ (by omega) (by omega), ne _ (by omega) (by omega), ne _ (by omega) (by omega)]
  exact h5 k s0 s1
/-- one cell of a moon -/
theorem RLd.cell {k i : Int} {d : Nat} (h : RLd S r f T) (hd : 1 ≤ d ∧ d ≤ 7) (hm : RM (mup S (r + d) k v) (r + 1) (fup f i v)) (hi : 14 ≤ i ∧ i < 70) : RLd (mup S (r + d) k v) r (fup f i v) T :=
  h.moonly hm (fun r' hr => mup_ne _ _ _ (by omega)) (fun k hk => fup_ne _ _ (by omega))
theorem RR.cell {i : Int} (h : RR f) (hO : RO (fup f i v)) (hi : 14 ≤ i ∧ i < 70) (hp : ∀ p, 0 ≤ p → p < 8 → i ≠ 14 + 6 * p + 5) : RR (fup f i v) :=
  h.moonly hO (h.2.2.2.2.2.other hp) (fun k hk => fup_ne _ _ (by omega))
end hrows
