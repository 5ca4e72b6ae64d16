set_option maxHeartbeats 4000000
set_option maxRecDepth 20000
/-! ===== the pure part: the reference's asking and light ===== -/
/-- the reference's two booleans -/
def BB (S : mSt) : Prop := (S 0 16 = 0 ∨ S 0 16 = 1) ∧ (S 0 17 = 0 ∨ S 0 17 = 1)
theorem BB.of {S S' : mSt} (h : BB S) (e6 : S' 0 16 = S 0 16) (e7 : S' 0 17 = S 0 17) : BB S' := by unfold BB; rw [e6, e7]; exact h
/-- what an asking leaves -/
def MF (S S' : mSt) : Prop := (∀ r, r ≠ 0 → r ≠ 7 → S' r = S r) ∧ S' 0 0 = S 0 0 ∧ S' 0 4 = S 0 4 ∧ S' 0 7 = S 0 7 ∧ S' 0 9 = S 0 9 ∧ S' 0 13 = S 0 13 ∧ (BB S → BB S')
theorem MF.rf (S : mSt) : MF S S := ⟨fun _ _ _ => rfl, rfl, rfl, rfl, rfl, rfl, id⟩
theorem MF.tr {S S1 S2 : mSt} (h : MF S S1) (h' : MF S1 S2) : MF S S2 := ⟨fun r a b => (h'.1 r a b).trans (h.1 r a b), h'.2.1.trans h.2.1, h'.2.2.1.trans h.2.2.1, h'.2.2.2.1.trans h.2.2.2.1, h'.2.2.2.2.1.trans h.2.2.2.2.1, h'.2.2.2.2.2.1.trans h.2.2.2.2.2.1, fun b => h'.2.2.2.2.2.2 (h.2.2.2.2.2.2 b)⟩
theorem MF.m {S S' : mSt} (h : MF S S') : S' 1 = S 1 := h.1 1 (by decide) (by decide)
section mLight
variable {N : Nat} {S : mSt} {A : mLaw} {p : Int}
theorem a_of {w : Int} {Q : mSt → Int → Prop} (p0 : 0 ≤ p) (p1 : p < 8) (w0 : 0 ≤ w) (w1 : w < 6) (h : Q S (S 1 (14 + 6 * p + w))) : w_X12_of N 0 p w S Q := by
  unfold w_X12_of
  have e : nm (nm (14 + nm (6 * p)) + w) = 14 + 6 * p + w := by unfold nm; omega
  rw [e]
  exact ⟨by omega, by omega, h⟩
theorem a_has {w v : Int} {Q : mSt → Prop} (p0 : 0 ≤ p) (p1 : p < 8) (w0 : 0 ≤ w) (w1 : w < 6) (h : Q (mup S 1 (14 + 6 * p + w) v)) : w_X12_has N 0 p w v S Q := by
  unfold w_X12_has
  have e : nm (nm (14 + nm (6 * p)) + w) = 14 + 6 * p + w := by unfold nm; omega
  rw [e]
  exact ⟨by omega, by omega, fun S2 e2 => by rw [e2]; exact h⟩
theorem a_ofSoap {s w : Int} {Q : mSt → Int → Prop} (s0 : 0 ≤ s) (s1 : s < 6) (w0 : 0 ≤ w) (w1 : w < 4) (h : Q S (S 1 (70 + 4 * s + w))) : w_X12_ofSoap N 0 s w S Q := by
  unfold w_X12_ofSoap
  have e : nm (nm (70 + nm (4 * s)) + w) = 70 + 4 * s + w := by unfold nm; omega
  rw [e]
  exact ⟨by omega, by omega, h⟩
theorem a_lesser {x y : Int} {Q : mSt → Int → Prop} (h : Q S (min x y)) : w_X12_lesser N x y S Q := by
  unfold w_X12_lesser
  refine ⟨fun q => ?_, fun q => ?_⟩
  · rwa [show min x y = y by omega] at h
  · rwa [show min x y = x by omega] at h
theorem a_greater {x y : Int} {Q : mSt → Int → Prop} (h : Q S (max x y)) : w_X12_greater N x y S Q := by
  unfold w_X12_greater
  refine ⟨fun q => ?_, fun q => ?_⟩
  · rwa [show max x y = y by omega] at h
  · rwa [show max x y = x by omega] at h
theorem env0 (f : mRow) (p : Int) : env f p 0 = p := rfl
theorem env1 (f : mRow) (p : Int) : env f p 1 = f (14 + 6 * p) := rfl
theorem env2 (f : mRow) (p : Int) : env f p 2 = f (14 + 6 * p + 1) := rfl
theorem env3 (f : mRow) (p : Int) : env f p 3 = f (14 + 6 * p + 2) := rfl
theorem env4 (f : mRow) (p : Int) : env f p 4 = pc (f (14 + 6 * p + 3)) := rfl
theorem env5 (f : mRow) (p : Int) : env f p 5 = f (62 + f (14 + 6 * p + 5)) := rfl
theorem env6 (f : mRow) (p : Int) : env f p 6 = f 10 := rfl
theorem env7 (f : mRow) (p : Int) : env f p 7 = f 9 := rfl
theorem env8 (f : mRow) (p : Int) : env f p 8 = if iRem (f 9) 28 = 14 then 1 else 0 := rfl
theorem env9 (f : mRow) (p : Int) : env f p 9 = f (14 + 6 * p + 4) := rfl
theorem a_asks (hN : 1000 ≤ N) {Q : mSt → Prop} (hL : LM N (S 1) A) (hok : okS S) (hR : RO (S 1)) (p0 : 0 ≤ p) (p1 : p < 8) (h : ∀ S', okS S' → MF S S' → S' 0 18 = A 0 (env (S 1) p) - A 1 (env (S 1) p) → S' 0 19 = A 2 (env (S 1) p) → S' 0 20 = A 3 (env (S 1) p) → Q S') : w_X12_asks N 0 p S Q := by
  obtain ⟨n, rfl⟩ : ∃ m, N = m + 4 := ⟨N - 4, by omega⟩
  obtain ⟨g1, g2, g3, g4, g5, g6, g7⟩ := hR.at p0 p1
  unfold w_X12_asks
  intro S1 e1 S2 e2 S3 e3
  have ok3 : okS S3 := by rw [e3, e2, e1]; exact okS_up (okS_up (okS_up hok (by decide)) (by decide)) (by decide)
  have m3 : ∀ r, r ≠ 0 → S3 r = S r := fun r hr => by rw [e3, e2, e1, mup_ne _ _ _ hr, mup_ne _ _ _ hr, mup_ne _ _ _ hr]
  have z3 : ∀ j, j ≠ 18 → j ≠ 19 → j ≠ 20 → S3 0 j = S 0 j := fun j h1 h2 h3 => by rw [e3, e2, e1]; simp [mup, h1, h2, h3]
  have z18 : S3 0 18 = 0 := by rw [e3, e2, e1]; simp [mup]
  have z19 : S3 0 19 = 0 := by rw [e3, e2]; simp [mup]
  have z20 : S3 0 20 = 0 := by rw [e3]; simp [mup]
  clear e1 e2 e3
  refine ⟨fun q v4 e4 => ?_, fun q => ?_⟩
  · subst e4
    have hline : 1 ≤ S 1 1 := by rw [← m3 1 (by decide)]; exact q
    -- three facts
    refine ⟨fun hc => by omega, fun _ => a_of p0 p1 (by omega) (by omega) ⟨by decide, by decide, fun S4 e4 v5 e5 => ?_⟩⟩
    rw [show nm (0 + 1) = 1 by decide] at e5
    subst e5
    refine ⟨fun hc => by omega, fun _ => a_of p0 p1 (by omega) (by omega) ⟨by decide, by decide, fun S5 e5 v6 e6 => ?_⟩⟩
    rw [show nm (1 + 1) = 2 by decide] at e6
    subst e6
    refine ⟨fun hc => by omega, fun _ => a_of p0 p1 (by omega) (by omega) ⟨by decide, by decide, fun S6 e6 v7 e7 => ?_⟩⟩
    rw [show nm (2 + 1) = 3 by decide] at e7
    subst e7
    refine ⟨fun _ => ?_, fun hc => by omega⟩
    intro S7 e7
    have m7 : S7 1 = S 1 := by rw [e7, mup_ne _ _ _ (by decide), e6, mup_ne _ _ _ (by decide), e5, mup_ne _ _ _ (by decide), e4, mup_ne _ _ _ (by decide), m3 1 (by decide)]
    have m4 : S4 1 = S 1 := by rw [e4, mup_ne _ _ _ (by decide), m3 1 (by decide)]
    have m5 : S5 1 = S 1 := by rw [e5, mup_ne _ _ _ (by decide), m4]
    refine a_of p0 p1 (by omega) (by omega) ?_
    rw [m7]
    refine s_bits (by omega) (by omega) (by omega) (fun S9 e9 => ?_)
    have m9 : S9 1 = S 1 := by rw [e9, mup_ne _ _ _ (by decide), m7]
    refine a_of p0 p1 (by omega) (by omega) ?_
    rw [m9, nm_of (by omega) (by omega)]
    refine ⟨by omega, by omega, fun S12 e12 S13 e13 S14 e14 => ?_⟩
    have ex9 : S9 (0 + 1) = S 1 := m9
    have m12 : S12 (0 + 1) = S 1 := by rw [e12, mup_ne _ _ _ (by decide), ex9]
    have m13 : S13 (0 + 1) = S 1 := by rw [e13, mup_ne _ _ _ (by decide), m12]
    have m14 : S14 (0 + 1) = S 1 := by rw [e14, mup_ne _ _ _ (by decide), m13]
    rw [m12] at e13
    rw [m13] at e14
    rw [m3 1 (by decide)] at e4
    rw [m4] at e5
    rw [m5] at e6
    have ok14 : okS S14 := by
      rw [e14, e13, e12, e9, e7, e6, e5, e4]
      exact okS_up (okS_up (okS_up (okS_up (okS_up (okS_up (okS_up (okS_up ok3 (hok _ _)) (hok _ _)) (hok _ _)) (by unfold okI; omega)) (by have := pc_le (S 1 (14 + 6 * p + 3)); unfold okI; omega)) (hok _ _)) (hok _ _)) (hok _ _)
    have k14 : ∀ r, r ≠ 7 → S14 r = S3 r := fun r hr => by
      have hr' : r ≠ 0 + 7 := hr
      rw [e14, e13, e12, e9, e7, e6, e5, e4, mup_ne _ _ _ hr', mup_ne _ _ _ hr', mup_ne _ _ _ hr', mup_ne _ _ _ hr', mup_ne _ _ _ hr', mup_ne _ _ _ hr', mup_ne _ _ _ hr', mup_ne _ _ _ hr']
    have f14 : ∀ k, 0 ≤ k → k < 8 → S14 7 k = env (S 1) p k := by
      intro k k0 k1
      have hk : k = 0 ∨ k = 1 ∨ k = 2 ∨ k = 3 ∨ k = 4 ∨ k = 5 ∨ k = 6 ∨ k = 7 := by omega
      rw [e14, e13, e12, e9, e7, e6, e5, e4]
      have n1 : nm (1 + 0) = 1 := by decide
      have n2 : nm (1 + 1) = 2 := by decide
      have n3 : nm (1 + 2) = 3 := by decide
      have n4 : nm 1 = 1 := by decide
      have n5 : nm 2 = 2 := by decide
      have n6 : nm 3 = 3 := by decide
      rcases hk with rfl | rfl | rfl | rfl | rfl | rfl | rfl | rfl <;> simp [mup, env, n1, n2, n3, n4, n5, n6]
    clear e4 e5 e6 e7 e9 e12 e13 e14
    rw [m14]
    have fin : ∀ (b8 b9 : Int) (T : mSt), (b8 = 0 ∨ b8 = 1) → T = mup S14 0 16 b8 → b8 = env (S 1) p 8 → (b9 = 0 ∨ b9 = 1) → b9 = env (S 1) p 9 → w_X12_asks_163 (n + 4) Q 0 b9 0 T := by
      intro b8 b9 T hb8 eT e8 hb9 e9
      refine ⟨hb9, fun T1 t1 v2 ev T3 t3 T4 t4 T5 t5 T6 t6 T7 t7 => ?_⟩
      have r7 : ∀ r, r ≠ 0 → T7 r = S14 r := fun r hr => by rw [t7, t6, t5, t4, t3, t1, eT, mup_ne _ _ _ hr, mup_ne _ _ _ hr, mup_ne _ _ _ hr, mup_ne _ _ _ hr, mup_ne _ _ _ hr, mup_ne _ _ _ hr, mup_ne _ _ _ hr]
      have q4 : T4 (0 + 1) = S 1 := by rw [t4, t3, t1, eT, mup_ne _ _ _ (by decide), mup_ne _ _ _ (by decide), mup_ne _ _ _ (by decide), mup_ne _ _ _ (by decide), k14 _ (by decide), m3 _ (by decide)]
      have z : ∀ j, j ≠ 10 → j ≠ 11 → j ≠ 12 → j ≠ 13 → j ≠ 14 → j ≠ 16 → j ≠ 17 → T7 0 j = S3 0 j := fun j h1 h2 h3 h4 h5 h6 h7 => by
        rw [t7, t6, t5, t4, t3, t1, eT]
        simp [mup, h1, h2, h3, h4, h5, h6, h7, k14 0 (by decide)]
      have ok7 : okS T7 := by
        rw [t7, t6, t5, t4, t3, t1, eT]
        refine okS_up (okS_up (okS_up (okS_up (okS_up (okS_up (okS_up ok14 (by unfold okI; omega)) (by unfold okI; omega)) (by decide)) (by decide)) ?_) (by decide)) (by decide)
        exact (okS_up (okS_up (okS_up (okS_up ok14 (by unfold okI; omega)) (by unfold okI; omega)) (by decide)) (by decide)) _ _
      refine hL.2 hline T7 (env (S 1) p) _ ok7 (fun k hk _ => by rw [r7 1 (by decide), k14 1 (by decide), m3 1 (by decide)]) (by rw [t7, t6, t5, t4]; simp [mup]) (by rw [t7, t6, t5, q4]; simp [mup]) (by rw [t7, t6]; simp [mup]) (by rw [t7, t6, t5, t4, t3]; simp [mup]) (by rw [t7]; simp [mup]) (by rw [z 18 (by decide) (by decide) (by decide) (by decide) (by decide) (by decide) (by decide)]; exact z18) (by rw [z 19 (by decide) (by decide) (by decide) (by decide) (by decide) (by decide) (by decide)]; exact z19) (by rw [z 20 (by decide) (by decide) (by decide) (by decide) (by decide) (by decide) (by decide)]; exact z20) (fun k k0 k1 => by rw [r7 7 (by decide)]; exact f14 k k0 k1) (by rw [t7, t6, t5, t4, t3, t1, eT]; simp [mup]; exact e8) (by rw [t7, t6, t5, t4, t3, t1]; simp [mup]; exact e9) (by rw [← e8]; exact hb8) (by rw [← e9]; exact hb9) (fun M' v okM fr f0 f4 f7 f9 f16 f17 a18 a19 a20 v9 _ S10 e10 => ?_)
      have ev2 : v2 = S 0 13 := by
        rw [ev, t1, eT]
        simp [mup, k14 0 (by decide)]
        exact z3 13 (by decide) (by decide) (by decide)
      refine h S10 (by rw [e10, ev2]; exact okS_up okM (hok _ _)) ⟨fun r h0 h7 => ?_, ?_, ?_, ?_, ?_, ?_, fun _ => ?_⟩ ?_ ?_ ?_
      · rw [e10, mup_ne _ _ _ h0, fr r h0, r7 r h0, k14 r h7, m3 r h0]
      · rw [e10]; simp [mup]; rw [f0, z 0 (by decide) (by decide) (by decide) (by decide) (by decide) (by decide) (by decide)]; exact z3 0 (by decide) (by decide) (by decide)
      · rw [e10]; simp [mup]; rw [f4, z 4 (by decide) (by decide) (by decide) (by decide) (by decide) (by decide) (by decide)]; exact z3 4 (by decide) (by decide) (by decide)
      · rw [e10]; simp [mup]; rw [f7, z 7 (by decide) (by decide) (by decide) (by decide) (by decide) (by decide) (by decide)]; exact z3 7 (by decide) (by decide) (by decide)
      · rw [e10]; simp [mup]; rw [f9, z 9 (by decide) (by decide) (by decide) (by decide) (by decide) (by decide) (by decide)]; exact z3 9 (by decide) (by decide) (by decide)
      · rw [e10]; simp [mup]; exact ev2
      · have b16 : T7 0 16 = b8 := by rw [t7, t6, t5, t4, t3, t1, eT]; simp [mup]
        have b17 : T7 0 17 = b9 := by rw [t7, t6, t5, t4, t3, t1]; simp [mup]
        unfold BB
        rw [e10]
        simp only [mup_i _ _ _ (show (16 : Int) ≠ 13 by decide), mup_i _ _ _ (show (17 : Int) ≠ 13 by decide)]
        rw [f16, f17, b16, b17]
        exact ⟨hb8, hb9⟩
      · rw [e10]; simp [mup]; exact a18
      · rw [e10]; simp [mup]; exact a19
      · rw [e10]; simp [mup]; exact a20
    have fin2 : ∀ (b8 : Int), (b8 = 0 ∨ b8 = 1) → b8 = env (S 1) p 8 → w_X12_asks_144 (n + 4) Q 0 p b8 0 S14 := by
      intro b8 hb8 e8
      refine ⟨hb8, fun T eT => a_of p0 p1 (by omega) (by omega) ?_⟩
      have mT : T 1 = S 1 := by rw [eT, mup_ne _ _ _ (by decide)]; exact m14
      rw [mT]
      refine ⟨fun q => ?_, fun q => ?_⟩
      · exact fin b8 0 T hb8 eT e8 (Or.inl rfl) (by rw [env9]; omega)
      · exact fin b8 1 T hb8 eT e8 (Or.inr rfl) (by rw [env9]; omega)
    refine ⟨fun q => ?_, fun q => ?_⟩
    · exact fin2 0 (Or.inl rfl) (by rw [env8, if_neg q])
    · exact fin2 1 (Or.inr rfl) (by rw [env8, if_pos q])
  · have hl : S 1 1 < 1 := by rw [← m3 1 (by decide)]; exact q
    have hz := hL.1 hl
    exact h S3 ok3 ⟨fun r h0 _ => m3 r h0, z3 0 (by decide) (by decide) (by decide), z3 4 (by decide) (by decide) (by decide), z3 7 (by decide) (by decide) (by decide), z3 9 (by decide) (by decide) (by decide), z3 13 (by decide) (by decide) (by decide), fun b => b.of (z3 16 (by decide) (by decide) (by decide)) (z3 17 (by decide) (by decide) (by decide))⟩ (by rw [z18, hz, hz]; rfl) (by rw [z19, hz]) (by rw [z20, hz])
end mLight
