set_option maxHeartbeats 1000000
set_option maxRecDepth 20000
/-! ===== the pure part: two new objects ===== -/
theorem mup_fup (S : mSt) (r : Nat) (i v : Int) : mup S r i v r = fup (S r) i v := by funext k; unfold mup fup; simp
theorem mz_z (S : mSt) (n : Nat) : mz S n n = fun _ => 0 := by funext i; exact mz_at S n i
def m0 : mRow := (fup (fup (fup (fup (fup (fup (fup (fup (fup (fup (fup (fup (fup (fup (fup (fup (fup (fup (fup (fup (fup (fup (fup (fup (fup (fup (fup (fup (fun _ => 0) 1 (-1)) 5 30) 6 5) 12 1) 18 1) 19 0) 62 3) 24 1) 25 1) 63 3) 30 1) 31 2) 64 3) 36 1) 37 3) 65 3) 42 1) 43 4) 66 3) 48 1) 49 5) 67 3) 54 1) 55 6) 68 3) 60 1) 61 7) 69 3)
theorem m0_p : ∀ p : Nat, p < 8 → (m0 (14 + 6 * p) = 0 ∧ m0 (14 + 6 * p + 1) = 0 ∧ m0 (14 + 6 * p + 2) = 0 ∧ m0 (14 + 6 * p + 3) = 0 ∧ m0 (14 + 6 * p + 4) = 1 ∧ m0 (14 + 6 * p + 5) = p ∧ m0 (62 + p) = 3) := by decide +kernel
theorem m0_c : m0 0 = 0 ∧ m0 1 = -1 ∧ m0 3 = 0 ∧ m0 4 = 0 ∧ m0 5 = 30 ∧ m0 6 = 5 ∧ m0 7 = 0 ∧ m0 8 = 0 ∧ m0 9 = 0 ∧ m0 10 = 0 ∧ m0 11 = 0 ∧ m0 12 = 1 := by decide +kernel
theorem m0_at {p : Int} (p0 : 0 ≤ p) (p1 : p < 8) : m0 (14 + 6 * p) = 0 ∧ m0 (14 + 6 * p + 1) = 0 ∧ m0 (14 + 6 * p + 2) = 0 ∧ m0 (14 + 6 * p + 3) = 0 ∧ m0 (14 + 6 * p + 4) = 1 ∧ m0 (14 + 6 * p + 5) = p ∧ m0 (62 + p) = 3 := by
  have := m0_p p.toNat (by omega)
  rwa [show ((p.toNat : Nat) : Int) = p by omega] at this
theorem m0_RR : RR m0 := by
  obtain ⟨c0, c1, c3, c4, c5, c6, c7, c8, c9, c10, c11, c12⟩ := m0_c
  refine ⟨⟨⟨fun p p0 p1 => ?_, by rw [c10]; decide, by rw [c9]; decide⟩, by rw [c5]; decide, by rw [c6]; decide⟩, by rw [c3]; decide, by rw [c4]; decide, by rw [c0]; decide, fun s s0 s1 => ?_, fun g g0 g1 => ⟨g, g0, g1, (m0_at g0 g1).2.2.2.2.2.1⟩⟩
  · obtain ⟨d1, d2, d3, d4, d5, d6, d7⟩ := m0_at p0 p1
    unfold RP
    rw [d1, d2, d3, d4, d5, d6, d7]
    exact ⟨by decide, by decide, by decide, by decide, Or.inr rfl, ⟨p0, p1⟩, by decide⟩
  · rw [c3] at s1; omega
theorem i_M {S : mSt} {Q : mSt → Prop} (ok : okS S) (h : ∀ M, M 1 = m0 → (∀ i, i ≠ 13 → M 0 i = 0) → M 0 13 = -1 → Q M) : w_X12_init S Q := by
  intro S1 e1 S2 e2 S3 e3 S4 e4 S5 e5 S6 e6 S7 e7 S8 e8 S9 e9 S10 e10 S11 e11 S12 e12 S13 e13 S14 e14 S15 e15 S16 e16 S17 e17 S18 e18 S19 e19 S20 e20 S21 e21 S22 e22 S23 e23 S24 e24 S25 e25 S26 e26 S27 e27 S28 e28 S29 e29 S30 e30 S31 e31 S32 e32 S33 e33 S34 e34 S35 e35 S36 e36 S37 e37 S38 e38 S39 e39 S40 e40 S41 e41 S42 e42
  have r1 : S42 1 = m0 := by rw [e42, mup_1, e41, mup_1, e40, mup_1, e39, mup_1, e38, mup_1, e37, mup_1, e36, mup_1, e35, mup_1, e34, mup_1, e33, mup_1, e32, mup_1, e31, mup_1, e30, mup_1, e29, mup_1, e28, mup_1, e27, mup_1, e26, mup_1, e25, mup_1, e24, mup_1, e23, mup_1, e22, mup_1, e21, mup_1, e20, mup_1, e19, mup_1, e18, mup_1, e17, mup_1, e16, mup_1, e15, mup_1, e14, mz_ne _ (by decide), e13, mz_ne _ (by decide), e12, mz_ne _ (by decide), e11, mz_ne _ (by decide), e10, mz_ne _ (by decide), e9, mz_ne _ (by decide), e8, mup_ne _ _ _ (by decide), e7, mz_ne _ (by decide), e6, mz_ne _ (by decide), e5, mz_ne _ (by decide), e4, mz_ne _ (by decide), e3, mz_ne _ (by decide), e2, mz_z]; rfl
  have r0 : S42 0 = fup (fun _ => 0) 13 (-1) := by rw [e42, mup_ne _ _ _ (by decide), e41, mup_ne _ _ _ (by decide), e40, mup_ne _ _ _ (by decide), e39, mup_ne _ _ _ (by decide), e38, mup_ne _ _ _ (by decide), e37, mup_ne _ _ _ (by decide), e36, mup_ne _ _ _ (by decide), e35, mup_ne _ _ _ (by decide), e34, mup_ne _ _ _ (by decide), e33, mup_ne _ _ _ (by decide), e32, mup_ne _ _ _ (by decide), e31, mup_ne _ _ _ (by decide), e30, mup_ne _ _ _ (by decide), e29, mup_ne _ _ _ (by decide), e28, mup_ne _ _ _ (by decide), e27, mup_ne _ _ _ (by decide), e26, mup_ne _ _ _ (by decide), e25, mup_ne _ _ _ (by decide), e24, mup_ne _ _ _ (by decide), e23, mup_ne _ _ _ (by decide), e22, mup_ne _ _ _ (by decide), e21, mup_ne _ _ _ (by decide), e20, mup_ne _ _ _ (by decide), e19, mup_ne _ _ _ (by decide), e18, mup_ne _ _ _ (by decide), e17, mup_ne _ _ _ (by decide), e16, mup_ne _ _ _ (by decide), e15, mup_ne _ _ _ (by decide), e14, mz_ne _ (by decide), e13, mz_ne _ (by decide), e12, mz_ne _ (by decide), e11, mz_ne _ (by decide), e10, mz_ne _ (by decide), e9, mz_ne _ (by decide), e8, mup_fup, e7, mz_ne _ (by decide), e6, mz_ne _ (by decide), e5, mz_ne _ (by decide), e4, mz_ne _ (by decide), e3, mz_ne _ (by decide), e2, mz_ne _ (by decide), e1, mz_z]
  exact h S42 r1 (fun i hi => by rw [r0, fup_ne _ _ hi]) (by rw [r0, fup_at])
def pg0 : mRow := fup (fup (fup (fup (fup (fup (fup (fup (fun _ => 0) 0 0) 1 1) 2 2) 3 3) 4 4) 5 5) 6 6) 7 7
def wd0 : mRow := fup (fup (fup (fup (fup (fup (fup (fup (fun _ => 0) 0 3) 1 3) 2 3) 3 3) 4 3) 5 3) 6 3) 7 3
theorem pw0_p : ∀ p : Nat, p < 8 → (pg0 p = p ∧ wd0 p = 3 ∧ bt 255 p = 1) := by decide +kernel
theorem pw0 {p : Int} (p0 : 0 ≤ p) (p1 : p < 8) : pg0 p = p ∧ wd0 p = 3 ∧ bt 255 p = 1 := by
  have := pw0_p p.toNat (by omega)
  rwa [show ((p.toNat : Nat) : Int) = p by omega] at this
/-- a new moon at r -/
def Nmo (S : mSt) (r : Nat) : Prop := (∀ j : Nat, 1 ≤ j → j ≤ 4 → S (r + j) = fun _ => 0) ∧ S (r + 5) = pg0 ∧ S (r + 6) = wd0 ∧ S r = fup (fun _ => 0) 6 255
theorem i_5 {S : mSt} {r : Nat} {Q : mSt → Prop} (h : ∀ S', Nmo S' r → (∀ r', (r' < r ∨ r + 6 < r') → S' r' = S r') → Q S') : w_X5_init r S Q := by
  intro S1 e1 S2 e2 S3 e3 S4 e4 S5 e5 S6 e6 S7 e7 S8 e8 S9 e9 S10 e10 S11 e11 S12 e12 S13 e13 S14 e14 S15 e15 S16 e16 S17 e17 S18 e18 S19 e19 S20 e20 S21 e21 S22 e22 S23 e23 S24 e24
  have fr : ∀ r', (r' < r ∨ r + 6 < r') → S24 r' = S r' := fun r' hr => by rw [e24, mup_ne _ _ _ (by omega), e23, mup_ne _ _ _ (by omega), e22, mup_ne _ _ _ (by omega), e21, mup_ne _ _ _ (by omega), e20, mup_ne _ _ _ (by omega), e19, mup_ne _ _ _ (by omega), e18, mup_ne _ _ _ (by omega), e17, mup_ne _ _ _ (by omega), e16, mup_ne _ _ _ (by omega), e15, mup_ne _ _ _ (by omega), e14, mup_ne _ _ _ (by omega), e13, mup_ne _ _ _ (by omega), e12, mup_ne _ _ _ (by omega), e11, mup_ne _ _ _ (by omega), e10, mup_ne _ _ _ (by omega), e9, mup_ne _ _ _ (by omega), e8, mup_ne _ _ _ (by omega), e7, mz_ne _ (by omega), e6, mz_ne _ (by omega), e5, mz_ne _ (by omega), e4, mz_ne _ (by omega), e3, mz_ne _ (by omega), e2, mz_ne _ (by omega), e1, mz_ne _ (by omega)]
  have g1 : S24 (r + 1) = fun _ => 0 := by rw [e24, mup_ne _ _ _ (by omega), e23, mup_ne _ _ _ (by omega), e22, mup_ne _ _ _ (by omega), e21, mup_ne _ _ _ (by omega), e20, mup_ne _ _ _ (by omega), e19, mup_ne _ _ _ (by omega), e18, mup_ne _ _ _ (by omega), e17, mup_ne _ _ _ (by omega), e16, mup_ne _ _ _ (by omega), e15, mup_ne _ _ _ (by omega), e14, mup_ne _ _ _ (by omega), e13, mup_ne _ _ _ (by omega), e12, mup_ne _ _ _ (by omega), e11, mup_ne _ _ _ (by omega), e10, mup_ne _ _ _ (by omega), e9, mup_ne _ _ _ (by omega), e8, mup_ne _ _ _ (by omega), e7, mz_ne _ (by omega), e6, mz_ne _ (by omega), e5, mz_ne _ (by omega), e4, mz_ne _ (by omega), e3, mz_ne _ (by omega), e2, mz_z]
  have g2 : S24 (r + 2) = fun _ => 0 := by rw [e24, mup_ne _ _ _ (by omega), e23, mup_ne _ _ _ (by omega), e22, mup_ne _ _ _ (by omega), e21, mup_ne _ _ _ (by omega), e20, mup_ne _ _ _ (by omega), e19, mup_ne _ _ _ (by omega), e18, mup_ne _ _ _ (by omega), e17, mup_ne _ _ _ (by omega), e16, mup_ne _ _ _ (by omega), e15, mup_ne _ _ _ (by omega), e14, mup_ne _ _ _ (by omega), e13, mup_ne _ _ _ (by omega), e12, mup_ne _ _ _ (by omega), e11, mup_ne _ _ _ (by omega), e10, mup_ne _ _ _ (by omega), e9, mup_ne _ _ _ (by omega), e8, mup_ne _ _ _ (by omega), e7, mz_ne _ (by omega), e6, mz_ne _ (by omega), e5, mz_ne _ (by omega), e4, mz_ne _ (by omega), e3, mz_z]
  have g3 : S24 (r + 3) = fun _ => 0 := by rw [e24, mup_ne _ _ _ (by omega), e23, mup_ne _ _ _ (by omega), e22, mup_ne _ _ _ (by omega), e21, mup_ne _ _ _ (by omega), e20, mup_ne _ _ _ (by omega), e19, mup_ne _ _ _ (by omega), e18, mup_ne _ _ _ (by omega), e17, mup_ne _ _ _ (by omega), e16, mup_ne _ _ _ (by omega), e15, mup_ne _ _ _ (by omega), e14, mup_ne _ _ _ (by omega), e13, mup_ne _ _ _ (by omega), e12, mup_ne _ _ _ (by omega), e11, mup_ne _ _ _ (by omega), e10, mup_ne _ _ _ (by omega), e9, mup_ne _ _ _ (by omega), e8, mup_ne _ _ _ (by omega), e7, mz_ne _ (by omega), e6, mz_ne _ (by omega), e5, mz_ne _ (by omega), e4, mz_z]
  have g4 : S24 (r + 4) = fun _ => 0 := by rw [e24, mup_ne _ _ _ (by omega), e23, mup_ne _ _ _ (by omega), e22, mup_ne _ _ _ (by omega), e21, mup_ne _ _ _ (by omega), e20, mup_ne _ _ _ (by omega), e19, mup_ne _ _ _ (by omega), e18, mup_ne _ _ _ (by omega), e17, mup_ne _ _ _ (by omega), e16, mup_ne _ _ _ (by omega), e15, mup_ne _ _ _ (by omega), e14, mup_ne _ _ _ (by omega), e13, mup_ne _ _ _ (by omega), e12, mup_ne _ _ _ (by omega), e11, mup_ne _ _ _ (by omega), e10, mup_ne _ _ _ (by omega), e9, mup_ne _ _ _ (by omega), e8, mup_ne _ _ _ (by omega), e7, mz_ne _ (by omega), e6, mz_ne _ (by omega), e5, mz_z]
  have g5 : S24 (r + 5) = pg0 := by rw [e24, mup_ne _ _ _ (by omega), e23, mup_fup, e22, mup_ne _ _ _ (by omega), e21, mup_fup, e20, mup_ne _ _ _ (by omega), e19, mup_fup, e18, mup_ne _ _ _ (by omega), e17, mup_fup, e16, mup_ne _ _ _ (by omega), e15, mup_fup, e14, mup_ne _ _ _ (by omega), e13, mup_fup, e12, mup_ne _ _ _ (by omega), e11, mup_fup, e10, mup_ne _ _ _ (by omega), e9, mup_fup, e8, mup_ne _ _ _ (by omega), e7, mz_ne _ (by omega), e6, mz_z]; rfl
  have g6 : S24 (r + 6) = wd0 := by rw [e24, mup_fup, e23, mup_ne _ _ _ (by omega), e22, mup_fup, e21, mup_ne _ _ _ (by omega), e20, mup_fup, e19, mup_ne _ _ _ (by omega), e18, mup_fup, e17, mup_ne _ _ _ (by omega), e16, mup_fup, e15, mup_ne _ _ _ (by omega), e14, mup_fup, e13, mup_ne _ _ _ (by omega), e12, mup_fup, e11, mup_ne _ _ _ (by omega), e10, mup_fup, e9, mup_ne _ _ _ (by omega), e8, mup_ne _ _ _ (by omega), e7, mz_z]; rfl
  have g0 : S24 r = fup (fun _ => 0) 6 255 := by rw [e24, mup_ne _ _ _ (by omega), e23, mup_ne _ _ _ (by omega), e22, mup_ne _ _ _ (by omega), e21, mup_ne _ _ _ (by omega), e20, mup_ne _ _ _ (by omega), e19, mup_ne _ _ _ (by omega), e18, mup_ne _ _ _ (by omega), e17, mup_ne _ _ _ (by omega), e16, mup_ne _ _ _ (by omega), e15, mup_ne _ _ _ (by omega), e14, mup_ne _ _ _ (by omega), e13, mup_ne _ _ _ (by omega), e12, mup_ne _ _ _ (by omega), e11, mup_ne _ _ _ (by omega), e10, mup_ne _ _ _ (by omega), e9, mup_ne _ _ _ (by omega), e8, mup_fup, e7, mz_ne _ (by omega), e6, mz_ne _ (by omega), e5, mz_ne _ (by omega), e4, mz_ne _ (by omega), e3, mz_ne _ (by omega), e2, mz_ne _ (by omega), e1, mz_z]
  refine h S24 ⟨fun j j1 j4 => ?_, g5, g6, g0⟩ fr
  have hj : j = 1 ∨ j = 2 ∨ j = 3 ∨ j = 4 := by omega
  rcases hj with rfl | rfl | rfl | rfl
  · exact g1
  · exact g2
  · exact g3
  · exact g4
/-- a new laundry at r -/
def Nla (S : mSt) (r : Nat) : Prop := Nmo S (r + 1) ∧ S r = fup (fup (fup (fun _ => 0) 6 30) 7 5) 10 1
theorem Nmo.of {S S' : mSt} {r : Nat} (h : Nmo S r) (e : ∀ r', r ≤ r' → r' ≤ r + 6 → S' r' = S r') : Nmo S' r := by
  obtain ⟨h1, h2, h3, h4⟩ := h
  exact ⟨fun j a b => by rw [e _ (by omega) (by omega)]; exact h1 j a b, by rw [e _ (by omega) (by omega)]; exact h2, by rw [e _ (by omega) (by omega)]; exact h3, by rw [e _ (by omega) (by omega)]; exact h4⟩
theorem Nla.of {S S' : mSt} {r : Nat} (h : Nla S r) (e : ∀ r', r ≤ r' → r' ≤ r + 10 → S' r' = S r') : Nla S' r := ⟨h.1.of (fun r' a b => e r' (by omega) (by omega)), by rw [e r (by omega) (by omega)]; exact h.2⟩
theorem i_2 {S : mSt} {r : Nat} {Q : mSt → Prop} (h : ∀ S', Nla S' r → (∀ r', (r' < r ∨ r + 10 < r') → S' r' = S r') → Q S') : w_X2_init r S Q := by
  intro S1 e1
  refine i_5 (fun S2 m2 f2 => ?_)
  intro S3 e3 S4 e4 S5 e5 S6 e6 S7 e7 S8 e8
  refine h S8 ⟨m2.of (fun r' a b => by rw [e8, mz_ne _ (by omega), e7, mup_ne _ _ _ (by omega), e6, mup_ne _ _ _ (by omega), e5, mup_ne _ _ _ (by omega), e4, mz_ne _ (by omega), e3, mz_ne _ (by omega)]), ?_⟩ (fun r' hr => ?_)
  · rw [e8, mz_ne _ (by omega), e7, mup_fup, e6, mup_fup, e5, mup_fup, e4, mz_ne _ (by omega), e3, mz_ne _ (by omega), f2 r (by omega), e1, mz_z]
  · rw [e8, mz_ne _ (by omega), e7, mup_ne _ _ _ (by omega), e6, mup_ne _ _ _ (by omega), e5, mup_ne _ _ _ (by omega), e4, mz_ne _ (by omega), e3, mz_ne _ (by omega), f2 r' (by omega), e1, mz_ne _ (by omega)]
theorem i_3 {S : mSt} {r : Nat} {Q : mSt → Prop} (h : ∀ S', S' r = fup (fun _ => 0) 0 (-1) → (∀ r', (r' < r ∨ r + 6 < r') → S' r' = S r') → Q S') : w_X3_init r S Q := by
  intro S1 e1 S2 e2 S3 e3 S4 e4 S5 e5 S6 e6 S7 e7 S8 e8
  refine h S8 ?_ (fun r' hr => ?_)
  · rw [e8, mz_ne _ (by omega), e7, mz_ne _ (by omega), e6, mz_ne _ (by omega), e5, mz_ne _ (by omega), e4, mz_ne _ (by omega), e3, mz_ne _ (by omega), e2, mup_fup, e1, mz_z]
  · rw [e8, mz_ne _ (by omega), e7, mz_ne _ (by omega), e6, mz_ne _ (by omega), e5, mz_ne _ (by omega), e4, mz_ne _ (by omega), e3, mz_ne _ (by omega), e2, mup_ne _ _ _ (by omega), e1, mz_ne _ (by omega)]
theorem i_10 {S : mSt} {Q : mSt → Prop} (h : ∀ S', (∀ r', (r' < 38 ∨ 43 < r') → S' r' = S r') → Q S') : w_X10_init S Q := by
  intro S1 e1 S2 e2 S3 e3 S4 e4 S5 e5 S6 e6
  refine h _ (fun r' hr => ?_)
  rw [mz_ne _ (by omega), e6, mup_ne _ _ _ (by omega), e5, mz_ne _ (by omega), e4, mz_ne _ (by omega), e3, mz_ne _ (by omega), e2, mz_ne _ (by omega), e1, mz_ne _ (by omega)]
theorem i_6 {S : mSt} {Q : mSt → Prop} (h : ∀ S', (S' 44 = fun _ => 0) → (∀ r', (r' < 44 ∨ 177 < r') → S' r' = S r') → Q S') : w_X6_init S Q := by
  intro S1 e1
  refine i_2 (fun S2 _ f2 => i_2 (fun S3 _ f3 => i_2 (fun S4 _ f4 => i_2 (fun S5 _ f5 => i_2 (fun S6 _ f6 => i_2 (fun S7 _ f7 => i_2 (fun S8 _ f8 => i_2 (fun S9 _ f9 => i_2 (fun S10 _ f10 => i_2 (fun S11 _ f11 => i_2 (fun S12 _ f12 => i_2 (fun S13 _ f13 => h S13 ?_ (fun r' hr => ?_)))))))))))))
  · rw [f13 44 (by omega), f12 44 (by omega), f11 44 (by omega), f10 44 (by omega), f9 44 (by omega), f8 44 (by omega), f7 44 (by omega), f6 44 (by omega), f5 44 (by omega), f4 44 (by omega), f3 44 (by omega), f2 44 (by omega), e1, mz_z]
  · rw [f13 r' (by omega), f12 r' (by omega), f11 r' (by omega), f10 r' (by omega), f9 r' (by omega), f8 r' (by omega), f7 r' (by omega), f6 r' (by omega), f5 r' (by omega), f4 r' (by omega), f3 r' (by omega), f2 r' (by omega), e1, mz_ne _ (by omega)]
theorem i_1 {S : mSt} {Q : mSt → Prop} (h : ∀ S', (S' 178 = fun _ => 0) → (∀ r', (r' < 178 ∨ 197 < r') → S' r' = S r') → Q S') : w_X1_init S Q := by
  intro S1 e1
  refine i_2 (fun S2 _ f2 => i_3 (fun S3 _ f3 => ?_))
  intro S4 e4
  refine h S4 ?_ (fun r' hr => ?_)
  · rw [e4, mz_ne _ (by omega), f3 178 (by omega), f2 178 (by omega), e1, mz_z]
  · rw [e4, mz_ne _ (by omega), f3 r' (by omega), f2 r' (by omega), e1, mz_ne _ (by omega)]
theorem i_9 {S : mSt} {Q : mSt → Prop} (h : ∀ S', (S' 215 = fun _ => 0) → (∀ r', (r' < 205 ∨ 225 < r') → S' r' = S r') → Q S') : w_X9_init S Q := by
  intro S1 e1 S2 e2 S3 e3 S4 e4
  refine h S4 ?_ (fun r' hr => ?_)
  · rw [e4, mzz_ne _ (by omega), e3, mz_z]
  · rw [e4, mzz_ne _ (by omega), e3, mz_ne _ (by omega), e2, mzz_ne _ (by omega), e1, mz_ne _ (by omega)]
theorem i_7 {S : mSt} {Q : mSt → Prop} (h : ∀ S', (∀ r', (r' < 226 ∨ 236 < r') → S' r' = S r') → Q S') : w_X7_init S Q := by
  intro S1 e1 S2 e2 S3 e3
  refine h S3 (fun r' hr => ?_)
  rw [e3, mz_ne _ (by omega), e2, mzz_ne _ (by omega), e1, mz_ne _ (by omega)]
theorem i_X {S : mSt} {Q : mSt → Prop} (h : ∀ X, X 0 = fup (fup (fup (fup (fup (fun _ => 0) 2 (-1)) 3 2) 4 13) 5 24) 6 31 → Nla X 2 → X 24 = fup (fun _ => 0) 0 (-1) → (X 44 = fun _ => 0) → (X 178 = fun _ => 0) → (X 215 = fun _ => 0) → Q X) : w_X11_init S Q := by
  intro S1 e1 S2 e2 S3 e3
  refine i_2 (fun S4 n4 f4 => ?_)
  intro S5 e5
  refine i_2 (fun S6 _ f6 => ?_)
  intro S7 e7
  refine i_3 (fun S8 n8 f8 => ?_)
  intro S9 e9
  refine i_3 (fun S10 _ f10 => ?_)
  intro S11 e11
  refine i_10 (fun S12 f12 => i_6 (fun S13 n13 f13 => i_1 (fun S14 n14 f14 => i_5 (fun S15 _ f15 => i_9 (fun S16 n16 f16 => i_7 (fun S17 f17 => ?_))))))
  refine h S17 ?_ (n4.of (fun r' a b => ?_)) ?_ ?_ ?_ ?_
  · rw [f17 0 (by omega), f16 0 (by omega), f15 0 (by omega), f14 0 (by omega), f13 0 (by omega), f12 0 (by omega), e11, mup_fup, f10 0 (by omega), e9, mup_fup, f8 0 (by omega), e7, mup_fup, f6 0 (by omega), e5, mup_fup, f4 0 (by omega), e3, mup_fup, e2, mz_ne _ (by omega), e1, mz_z]
  · rw [f17 r' (by omega), f16 r' (by omega), f15 r' (by omega), f14 r' (by omega), f13 r' (by omega), f12 r' (by omega), e11, mup_ne _ _ _ (by omega), f10 r' (by omega), e9, mup_ne _ _ _ (by omega), f8 r' (by omega), e7, mup_ne _ _ _ (by omega), f6 r' (by omega), e5, mup_ne _ _ _ (by omega)]
  · rw [f17 24 (by omega), f16 24 (by omega), f15 24 (by omega), f14 24 (by omega), f13 24 (by omega), f12 24 (by omega), e11, mup_ne _ _ _ (by omega), f10 24 (by omega), e9, mup_ne _ _ _ (by omega)]; exact n8
  · rw [f17 44 (by omega), f16 44 (by omega), f15 44 (by omega), f14 44 (by omega)]; exact n13
  · rw [f17 178 (by omega), f16 178 (by omega), f15 178 (by omega)]; exact n14
  · rw [f17 215 (by omega)]; exact n16
theorem i_RM {S : mSt} {r : Nat} (h : Nmo S r) : RM S r m0 := by
  obtain ⟨h1, h2, h3, h4⟩ := h
  obtain ⟨c0, c1, c3, c4, c5, c6, c7, c8, c9, c10, c11, c12⟩ := m0_c
  refine ⟨fun p p0 p1 => ?_, by rw [h4, c9]; rfl, by rw [h4, c10]; rfl, by rw [h4]; decide, by rw [h4]; decide⟩
  obtain ⟨d1, d2, d3, d4, d5, d6, d7⟩ := m0_at p0 p1
  obtain ⟨b1, b2, b3⟩ := pw0 p0 p1
  rw [h1 1 (by decide) (by decide), h1 2 (by decide) (by decide), h1 3 (by decide) (by decide), h1 4 (by decide) (by decide), h2, h3, h4, d1, d2, d3, d4, d5, d6, d7, b1, b2]
  exact ⟨rfl, rfl, rfl, rfl, b3, rfl, rfl⟩
theorem i_RLd {S : mSt} {r : Nat} (h : Nla S r) : RLd S r m0 0 := by
  obtain ⟨h1, h2⟩ := h
  obtain ⟨c0, c1, c3, c4, c5, c6, c7, c8, c9, c10, c11, c12⟩ := m0_c
  refine ⟨⟨i_RM h1, by rw [h2, c5]; rfl, by rw [h2, c6]; rfl, by rw [h2, c7]; rfl, by rw [h2, c8]; rfl, by rw [h2, c12]; rfl⟩, ⟨by rw [h2, c0]; rfl, by rw [h2, c3]; rfl, by rw [h2, c4]; rfl⟩, fun i i0 i1 => ?_, fun i i0 i1 => ?_, ⟨by rw [h2, c11]; rfl, by rw [h2]; decide, fun ago j a0 a1 j0 j1 => ?_⟩, by rw [h2]; decide⟩
  · rw [c3] at i1; omega
  · rw [c4] at i1; omega
  · rw [c11] at a1; omega
theorem i_Inv {N : Nat} {X M : mSt} (x0 : X 0 = fup (fup (fup (fup (fup (fun _ => 0) 2 (-1)) 3 2) 4 13) 5 24) 6 31) (xl : Nla X 2) (x24 : X 24 = fup (fun _ => 0) 0 (-1)) (x44 : X 44 = fun _ => 0) (x178 : X 178 = fun _ => 0) (x215 : X 215 = fun _ => 0) (m1 : M 1 = m0) (mz0 : ∀ i, i ≠ 13 → M 0 i = 0) (m13 : M 0 13 = -1) : Inv N 0 X M := by
  obtain ⟨c0, c1, c3, c4, c5, c6, c7, c8, c9, c10, c11, c12⟩ := m0_c
  refine ⟨2, 13, 24, 31, (-1, X 25, X 26, X 27, X 28), ⟨by rw [x0]; rfl, by rw [x0]; rfl, by rw [x0]; rfl, by rw [x0]; rfl, Or.inl ⟨rfl, rfl⟩, Or.inl ⟨rfl, rfl⟩⟩, ⟨by rw [x0, mz0 9 (by decide)]; rfl, by rw [mz0 9 (by decide)]; decide, by rw [mz0 9 (by decide)]; decide, fun k k0 k1 => ?_⟩, ⟨by rw [x0, m13]; rfl, ⟨Or.inl (mz0 16 (by decide)), Or.inl (mz0 17 (by decide))⟩, by rw [x215]⟩, by rw [m1]; exact i_RLd xl, by rw [m1]; exact m0_RR, ⟨⟨by show (-1 : Int) ≤ 12; decide, fun i i0 i1 => ?_⟩, ⟨by rw [x24]; rfl, fun i i0 i1 => ?_, fun j _ _ => rfl⟩, ⟨fun _ k e => rfl, fun hc => ?_⟩, by rw [m1, c1]⟩, ⟨by rw [mz0 7 (by decide)]; decide, by rw [x44, mz0 7 (by decide)], by rw [x44]; decide, fun i i0 i1 => ?_⟩, Or.inl ⟨mz0 4 (by decide), by rw [x178]⟩⟩
  · rw [mz0 9 (by decide)] at k1; omega
  · have : i < -1 := i1
    omega
  · have : i < -1 := i1
    omega
  · rw [m1, c1] at hc; omega
  · rw [mz0 7 (by decide)] at i1; omega
