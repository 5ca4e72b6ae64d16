set_option maxHeartbeats 400000
set_option maxRecDepth 20000
/-! ===== the pure part: the soonest pegs ===== -/
theorem set_pc : ∀ h : Nat, h < 256 → ∀ p : Nat, p < 8 → bt h p = 0 → pc (bOr h (bShl 1 p)) = pc h + 1 ∧ (h : Int) < bOr h (bShl 1 p) := by decide +kernel
theorem pc_lim : ∀ h : Nat, h < 256 → 0 ≤ pc h ∧ pc h ≤ 8 ∧ (pc h = 8 → h = 255) := by decide +kernel
theorem set_pc' {t g : Int} (t0 : 0 ≤ t) (t1 : t < 256) (g0 : 0 ≤ g) (g1 : g < 8) (h : bt t g = 0) : pc (bOr t (bShl 1 g)) = pc t + 1 ∧ t < bOr t (bShl 1 g) ∧ bOr t (bShl 1 g) < 256 := by
  have e1 : ((t.toNat : Nat) : Int) = t := by omega
  have e2 : ((g.toNat : Nat) : Int) = g := by omega
  have h1 := set_pc t.toNat (by omega) g.toNat (by omega) (by rw [e1, e2]; exact h)
  have h2 := set_on t.toNat (by omega) g.toNat (by omega)
  rw [e1, e2] at h1 h2
  exact ⟨h1.1, h1.2, h2.1.2⟩
/-- rows alike but for the peg of part p, on pegs of one wind -/
def EP (p : Int) (g g' : mRow) : Prop := (∀ j, j ≠ 14 + 6 * p + 5 → g j = g' j) ∧ g (62 + g (14 + 6 * p + 5)) = g' (62 + g' (14 + 6 * p + 5)) ∧ 0 ≤ g (14 + 6 * p + 5) ∧ 0 ≤ g' (14 + 6 * p + 5)
theorem EP.fup {p i v : Int} {g g' : mRow} (h : EP p g g') (hi : i ≠ 14 + 6 * p + 5) (hi2 : i < 62) : EP p (fup g i v) (fup g' i v) := by
  obtain ⟨h1, h2, h3, h4⟩ := h
  refine ⟨fun j hj => ?_, ?_, ?_, ?_⟩
  · by_cases he : j = i
    · rw [he, fup_at, fup_at]
    · rw [fup_ne _ _ he, fup_ne _ _ he]; exact h1 j hj
  · rw [fup_ne _ _ (Ne.symm hi), fup_ne _ _ (Ne.symm hi), fup_ne _ _ (by omega), fup_ne _ _ (by omega)]; exact h2
  · rw [fup_ne _ _ (Ne.symm hi)]; exact h3
  · rw [fup_ne _ _ (Ne.symm hi)]; exact h4
theorem EP.en {p : Int} {g g' : mRow} (h : EP p g g') (p0 : 0 ≤ p) : env g p = env g' p := by
  obtain ⟨h1, h2, -, -⟩ := h
  funext k
  unfold env
  rw [h2, h1 (14 + 6 * p) (by omega), h1 (14 + 6 * p + 1) (by omega), h1 (14 + 6 * p + 2) (by omega), h1 (14 + 6 * p + 3) (by omega), h1 (14 + 6 * p + 4) (by omega), h1 10 (by omega), h1 9 (by omega)]
theorem EP.air {p : Int} {g g' : mRow} {A : mLaw} (h : EP p g g') (p0 : 0 ≤ p) (p1 : p < 8) : EP p (fAir1 A g p) (fAir1 A g' p) := by
  have he := h.en p0
  obtain ⟨h1, h2, h3, h4⟩ := id h
  unfold fAir1 fDries
  rw [he, h2, h1 (14 + 6 * p) (by omega), h1 (14 + 6 * p + 2) (by omega), h1 (14 + 6 * p + 4) (by omega), h1 10 (by omega)]
  split
  · exact h
  · split
    · exact h.fup (by omega) (by omega)
    · exact h.fup (by omega) (by omega)
theorem EP.pass {p : Int} {g g' : mRow} (h : EP p g g') (p0 : 0 ≤ p) : EP p (fPass g) (fPass g') := by
  obtain ⟨h1, h2, h3, h4⟩ := id h
  unfold fPass
  rw [h1 5 (by omega), h1 6 (by omega), h1 9 (by omega)]
  exact (h.fup (by omega) (by omega)).fup (by omega) (by omega)
theorem EP.dr {p d : Int} {A : mLaw} (p0 : 0 ≤ p) (p1 : p < 8) : ∀ (k : Nat) (n : Int) (g g' : mRow), EP p g g' → drL A d p k n g = drL A d p k n g'
  | 0, _, _, _, _ => rfl
  | k + 1, n, g, g', h => by
    have e : EP p (fDry1 A d p g) (fDry1 A d p g') := ((h.fup (i := 10) (v := d) (by omega) (by omega)).air p0 p1).pass p0
    have := EP.dr (d := d) (A := A) p0 p1 k (n + 1) _ _ e
    unfold drL
    rw [h.1 (14 + 6 * p + 2) (by omega), this]
def soD (A : mLaw) (f : mRow) (d p g : Int) : Int := if f (14 + 6 * p + 4) = 0 then 0 else drL A d p 41 0 (fup f (14 + 6 * p + 5) g)
theorem soD_ok (A : mLaw) (f : mRow) (d p g : Int) : 0 ≤ soD A f d p g ∧ soD A f d p g ≤ 41 := by
  unfold soD
  split
  · omega
  · exact drL_le 41 0 _ (Int.le_refl _) rfl
theorem soD_wind {A : mLaw} {f : mRow} {d p g g' : Int} (p0 : 0 ≤ p) (p1 : p < 8) (g0 : 0 ≤ g) (g0' : 0 ≤ g') (h : f (62 + g) = f (62 + g')) : soD A f d p g = soD A f d p g' := by
  unfold soD
  rw [EP.dr p0 p1 41 0 _ (fup f (14 + 6 * p + 5) g')]
  refine ⟨fun j hj => by rw [fup_ne _ _ hj, fup_ne _ _ hj], ?_, ?_, ?_⟩
  · rw [fup_at, fup_at, fup_ne _ _ (by omega), fup_ne _ _ (by omega)]; exact h
  · rw [fup_at]; exact g0
  · rw [fup_at]; exact g0'
-- the pegs
def lgS (t : Int) (h : Int → Int) : Nat → Int
  | 0 => 41
  | j + 1 => if bt t j = 1 then lgS t h j else min (lgS t h j) (h j)
def lgL (D : Int → Int → Int) : Nat → Int → Int
  | 0 => fun _ => 0
  | k + 1 => fun t => lgS t (fun g => max (D (7 - k) g) (lgL D k (bOr t (bShl 1 g)))) 8
def lgH (D : Int → Int → Int) (k : Nat) (t g : Int) : Int := max (D (7 - k) g) (lgL D k (bOr t (bShl 1 g)))
theorem lgL_s (D : Int → Int → Int) (k : Nat) (t : Int) : lgL D (k + 1) t = lgS t (lgH D k t) 8 := rfl
theorem lgS_ok {t : Int} {h : Int → Int} (hh : ∀ g : Int, 0 ≤ g → g < 8 → 0 ≤ h g) : ∀ k : Nat, k ≤ 8 → 0 ≤ lgS t h k ∧ lgS t h k ≤ 41
  | 0, _ => by unfold lgS; omega
  | k + 1, hk => by
    have h1 := lgS_ok (t := t) hh k (by omega)
    have h2 := hh k (by omega) (by omega)
    unfold lgS
    split <;> omega
theorem lgL_ok {D : Int → Int → Int} (hD : ∀ p g, 0 ≤ D p g) : ∀ (k : Nat) (t : Int), 0 ≤ lgL D k t ∧ lgL D k t ≤ 41
  | 0, t => by unfold lgL; omega
  | k + 1, t => by
    rw [lgL_s]
    refine lgS_ok (fun g a b => ?_) 8 (Nat.le_refl _)
    have := hD (7 - k) g
    unfold lgH
    omega
/-- the first peg that will do -/
def lgP (D : Int → Int → Int) (k : Nat) (m t : Int) : Int := fsL (fun g => if bt t g = 0 ∧ lgH D k t g ≤ m then 1 else 0) 1 8
theorem lgS_hit {t m : Int} {h : Int → Int} (hm : m < 41) : ∀ k : Nat, lgS t h k ≤ m → ∃ g : Int, 0 ≤ g ∧ g < k ∧ bt t g = 0 ∧ h g ≤ m
  | 0, hl => by unfold lgS at hl; omega
  | k + 1, hl => by
    have e : lgS t h (k + 1) = if bt t k = 1 then lgS t h k else min (lgS t h k) (h k) := rfl
    rw [e] at hl
    by_cases hb : bt t k = 1
    · rw [if_pos hb] at hl
      obtain ⟨g, a, b, c⟩ := lgS_hit hm k hl
      exact ⟨g, a, by omega, c⟩
    · rw [if_neg hb] at hl
      by_cases hc : lgS t h k ≤ m
      · obtain ⟨g, a, b, c⟩ := lgS_hit hm k hc
        exact ⟨g, a, by omega, c⟩
      · exact ⟨k, by omega, by omega, by have := bt_01 t k; omega, by omega⟩
theorem lgS_le {t : Int} {h : Int → Int} : ∀ (k : Nat) (g : Int), 0 ≤ g → g < k → bt t g = 0 → lgS t h k ≤ h g
  | 0, g, a, b, _ => by omega
  | k + 1, g, a, b, c => by
    have e : lgS t h (k + 1) = if bt t k = 1 then lgS t h k else min (lgS t h k) (h k) := rfl
    rw [e]
    by_cases he : g = k
    · rw [if_neg (by rw [← he]; omega), he]; omega
    · have := lgS_le (h := h) k g a (by omega) c
      split <;> omega
theorem lgP_ok {D : Int → Int → Int} {k : Nat} {m t : Int} (hm : m < 41) (h : lgL D (k + 1) t ≤ m) : 0 ≤ lgP D k m t ∧ lgP D k m t < 8 ∧ bt t (lgP D k m t) = 0 ∧ lgH D k t (lgP D k m t) ≤ m ∧ ∀ g, 0 ≤ g → g < lgP D k m t → bt t g = 0 → m < lgH D k t g := by
  rcases fsL_ok (fun g => if bt t g = 0 ∧ lgH D k t g ≤ m then 1 else 0) 1 8 with ⟨h1, h2⟩ | ⟨h1, h2, h3, h4⟩
  · obtain ⟨g, a, b, c, e⟩ := lgS_hit hm 8 (by rw [← lgL_s]; exact h)
    exact absurd (if_pos ⟨c, e⟩) (h2 g a b)
  · have h3' : (if bt t (lgP D k m t) = 0 ∧ lgH D k t (lgP D k m t) ≤ m then (1 : Int) else 0) = 1 := h3
    have h5 : bt t (lgP D k m t) = 0 ∧ lgH D k t (lgP D k m t) ≤ m := by
      apply Decidable.byContradiction
      intro hc
      rw [if_neg hc] at h3'
      exact absurd h3' (by decide)
    refine ⟨h1, h2, h5.1, h5.2, fun g a b c => ?_⟩
    apply Decidable.byContradiction
    intro hc
    exact h4 g a b (if_pos ⟨c, by omega⟩)
def lgT (D : Int → Int → Int) (m : Int) : Nat → Int
  | 0 => 0
  | p + 1 => bOr (lgT D m p) (bShl 1 (lgP D (7 - p) m (lgT D m p)))
def lgB (D : Int → Int → Int) (m : Int) : Nat → Int
  | 0 => 0
  | p + 1 => lgP D (7 - p) m (lgT D m p)
theorem lgT_ok {D : Int → Int → Int} {m : Int} (hm : m < 41) (h : lgL D 8 0 ≤ m) : ∀ p : Nat, p ≤ 8 → 0 ≤ lgT D m p ∧ lgT D m p < 256 ∧ pc (lgT D m p) = p ∧ lgL D (8 - p) (lgT D m p) ≤ m
  | 0, _ => ⟨Int.le_refl _, by show (0 : Int) < 256; decide, by show pc 0 = _; decide, h⟩
  | p + 1, hp => by
    obtain ⟨h1, h2, h3, h4⟩ := lgT_ok hm h p (by omega)
    rw [show 8 - p = (7 - p) + 1 by omega] at h4
    obtain ⟨g1, g2, g3, g4, -⟩ := lgP_ok hm h4
    have h5 := set_pc' h1 h2 g1 g2 g3
    rw [show 8 - (p + 1) = 7 - p by omega]
    refine ⟨by unfold lgT; omega, by unfold lgT; omega, by unfold lgT; rw [h5.1, h3]; omega, ?_⟩
    unfold lgH at g4
    show lgL D (7 - p) (bOr (lgT D m p) (bShl 1 (lgP D (7 - p) m (lgT D m p)))) ≤ m
    omega
def lgA (D : Int → Int → Int) (x : Int) : Int := if lgL D 8 0 < 41 then (if x = -1 then lgL D 8 0 else lgP D (7 - x.toNat) (lgL D 8 0) (lgT D (lgL D 8 0) x.toNat)) else -1
section soons
variable {N n : Nat} {X M : mSt} {q q' lw lw' : Nat} {f : mRow} {A : mLaw} {P : mPrg} {a1 a2 a3 a4 a5 : Int} {T : Int} {D : Int → Int → Int} {p g d t : Int}
theorem x_nightsOn {Q : mSt → Int → Prop} (hN : 5000 ≤ N) (C : CQ N X q q' lw lw' f A T) (d0 : 0 ≤ d) (d1 : d ≤ 9) (p0 : 0 ≤ p) (p1 : p < 8) (g0 : 0 ≤ g) (g1 : g < 8) (hX : ∀ j, 0 ≤ j → j < g → X (228 + p.toNat) j = soD A f d p j) (h : ∀ X', CQ N X' q q' lw lw' f A T → XF q' lw X X' → Q X' (soD A f d p g)) : w_X11_nightsOnPeg N 0 p g d X Q := by
  obtain ⟨ok, ⟨k1, k2, k3, k4, k5, k6⟩, hL, hR, hB, hXX⟩ := id C
  intro q1 e1
  have : q1 = q := by omega
  subst this
  have hM := hL.1.1
  refine s_isHung hM p0 p1 ⟨fun hh v3 e3 => ?_, fun hh => ?_⟩
  · subst e3
    refine lpUp (n := N) (T := X) (K := g.toNat) (W := fun n k T' => w_X11_nightsOnPeg_19 N Q (fun (r0_4 : Nat) (x1_4 : Int) (x2_4 : Int) (x3_4 : Int) (S_4 : mSt) => ∀ q5 : Nat, (q5) = S_4 r0_4 3 → w_X5_become N (r0_4 + 198) (q5 + 1) S_4 (fun (S6 : mSt) => (0 ≤ x1_4 ∧ x1_4 < 8 ∧ ∀ S8 : mSt, S8 = mup S6 ((r0_4 + 198) + 5) x1_4 x2_4 → ∀ q9 : Nat, (q9) = S8 r0_4 5 → w_X5_nightsTillDry N (r0_4 + 198) q9 x1_4 x3_4 S8 (fun (S10 : mSt) (v10 : Int) => Q S10 v10)))) n 0 p g d k T') (I := fun k T' => T' = X) (fun n T' hI => ?_) (fun n k T' hk hI ih => ?_) (by omega) rfl
    · subst hI
      refine ⟨fun _ q5 e5 => ?_, fun hc => by omega⟩
      have : q5 = q1 := by omega
      subst this
      show w_X5_become N 198 (q5 + 1) T' _
      refine x_guess C (fun X6 C6 F6 m6 => ⟨p0, p1, fun S8 e8 q9 e9 => ?_⟩)
      have e8' : S8 = mup X6 (198 + 5) p g := e8
      have ok8 : okS S8 := by rw [e8']; exact okS_up C6.1 (by unfold okI; omega)
      have F8 : XF q' lw X6 S8 := by rw [e8']; exact XF.up (by decide)
      have C8 := C6.of ok8 F8
      have : q9 = lw := by have := C8.2.1.2.2.1; omega
      subst this
      have m8 : RM S8 198 (fup f (14 + 6 * p + 5) g) := by rw [e8']; exact m6.peg p0 p1
      have hR8 : RN (fup f (14 + 6 * p + 5) g) := ⟨hR.1.1.peg p0 p1 ⟨g0, g1⟩, by rw [fup_ne _ _ (by omega)]; exact hR.1.2.1, by rw [fup_ne _ _ (by omega)]; exact hR.1.2.2⟩
      show w_X5_nightsTillDry N 198 q9 p d S8 _
      refine s_tillDry hN C8.2.2.2.2.2 hB ok8 m8 hR8 (by omega) d0 d1 p0 p1 (fun X9 ok9 k9 => ?_)
      have F9 : XF q' q9 S8 X9 := fun r a b c e => k9 r (by omega) a b
      have := h X9 (C8.of ok9 F9) ((F6.tr F8).tr F9)
      unfold soD at this
      rw [if_neg hh] at this
      exact this
    · subst hI
      refine ⟨fun hc => by omega, fun _ q1' e1' => ⟨by omega, by omega, fun q3 e3 => ?_⟩⟩
      have a1' : q1' = q1 := by omega
      have a3' : q3 = q1 := by omega
      rw [a1', a3']
      have w1 : T' (q1 + 1 + 6) k = f (62 + (k : Int)) := (hM.1 k (by omega) (by omega)).2.2.2.2.2.2
      have w2 : T' (q1 + 1 + 6) g = f (62 + g) := (hM.1 g g0 g1).2.2.2.2.2.2
      rw [w1, w2]
      refine ⟨g0, g1, fun _ v5 e5 => ?_, fun he => ⟨p0, p1, by omega, by omega, ?_⟩⟩
      · rw [nx8 (by omega)] at e5
        subst e5
        exact ih T' rfl
      · show Q T' (T' (0 + 226 + 1 + 1 + p.toNat) k)
        have e7 := hX k (by omega) (by omega)
        rw [show (0 + 226 + 1 + 1 + p.toNat : Nat) = 228 + p.toNat by omega, e7, soD_wind p0 p1 (by omega) g0 he]
        exact h T' C (XF.rf _ _ _)
  · have := h X C (XF.rf _ _ _)
    unfold soD at this
    rw [if_pos hh] at this
    exact this
theorem x_soons {Kk : Nat → Int → mSt → Prop} {R : mSt → Int → Prop} {E : String → mSt → Prop} (hN : 5000 ≤ N) (C : CQ N X q q' lw lw' f A T) (d0 : 0 ≤ d) (d1 : d ≤ 9) (x2 : Int) (h : ∀ X', CQ N X' q q' lw lw' f A T → XZ q' lw X X' → X' 215 = X 215 → (∀ p : Nat, p < 8 → ∀ g : Int, 0 ≤ g → g < 8 → X' (228 + p) g = soD A f d p g) → Kk 0 x2 X') : w_X11_soonest_18 N R E Kk N 0 d x2 0 X := by
  refine lpUp (n := N) (T := X) (K := 8) (W := fun n p T' => w_X11_soonest_18 N R E Kk n 0 d x2 p T') (I := fun p X' => CQ N X' q q' lw lw' f A T ∧ XZ q' lw X X' ∧ X' 215 = X 215 ∧ ∀ p' : Nat, p' < p → ∀ g : Int, 0 ≤ g → g < 8 → X' (228 + p') g = soD A f d p' g) (fun n X' hI => ?_) (fun n p X' hp hI ih => ?_) (by omega) ⟨C, fun _ _ _ _ _ => rfl, rfl, fun p' hp => by omega⟩
  · obtain ⟨i1, i2, i3, i4⟩ := hI
    exact ⟨fun _ => h X' i1 i2 i3 i4, fun hc => by omega⟩
  · obtain ⟨i1, i2, i3, i4⟩ := hI
    refine ⟨fun hc => by omega, fun _ v1 e1 => ?_⟩
    subst e1
    refine lpUp (n := N) (T := X') (K := 8) (W := fun n' g T' => w_X11_soonest_27 N R E (fun (r0_2 : Nat) (x1_2 : Int) (x2_2 : Int) (x3_2 : Int) (S_2 : mSt) => ∀ v3 : Int, v3 = nm (x3_2 + 1) → w_X11_soonest_18 N R E Kk n r0_2 x1_2 x2_2 v3 S_2) n' 0 d x2 p g T') (I := fun g X2 => CQ N X2 q q' lw lw' f A T ∧ XZ q' lw X X2 ∧ X2 215 = X 215 ∧ (∀ p' : Nat, p' < p → ∀ g : Int, 0 ≤ g → g < 8 → X2 (228 + p') g = soD A f d p' g) ∧ ∀ j : Int, 0 ≤ j → j < g → X2 (228 + p) j = soD A f d p j) (fun n' X2 hJ => ?_) (fun n' g X2 hg hJ jh => ?_) (by omega) ⟨i1, i2, i3, i4, fun j a b => by omega⟩
    · obtain ⟨j1, j2, j3, j4, j5⟩ := hJ
      refine ⟨fun _ v3 e3 => ?_, fun hc => by omega⟩
      rw [nx8 (by omega)] at e3
      subst e3
      refine ih X2 ⟨j1, j2, j3, fun p' hp' g a b => ?_⟩
      by_cases he : p' = p
      · subst he; exact j5 g a (by omega)
      · exact j4 p' (by omega) g a b
    · obtain ⟨j1, j2, j3, j4, j5⟩ := hJ
      refine ⟨fun hc => by omega, fun _ => ?_⟩
      refine x_nightsOn hN j1 d0 d1 (by omega) (by omega) (by omega) (by omega) (fun j a b => ?_) (fun X3 C3 F3 => ⟨by omega, by omega, by omega, by omega, fun S3 e3 v4 e4 => ?_⟩)
      · rw [Int.toNat_natCast]; exact j5 j a b
      rw [nx8 (by omega)] at e4
      subst e4
      have e3' : S3 = mup X3 (228 + p) g (soD A f d p g) := e3
      have hs := soD_ok A f d p g
      have ok3 : okI (soD A f d p g) := by unfold okI; omega
      have F5 : XZ q' lw X3 S3 := by rw [e3']; exact XZ.up (by omega)
      have nx : ∀ r, 205 ≤ r → r < 250 → X3 r = X2 r := fun r a b => F3 r (by have := j1.2.1; unfold KP at this; omega) (by have := j1.2.1; unfold KP at this; omega) (by have := j1.2.1; unfold KP at this; omega) (by omega)
      refine jh S3 ⟨C3.ofz (by rw [e3']; exact okS_up C3.1 ok3) F5, (j2.tr F3.z).tr F5, by rw [e3', mup_ne _ _ _ (by omega), nx 215 (by omega) (by omega)]; exact j3, fun p' hp' k a b => by rw [e3', mup_ne _ _ _ (by omega), nx _ (by omega) (by omega)]; exact j4 p' hp' k a b, fun j a b => ?_⟩
      rw [e3']
      by_cases he : j = g
      · rw [he, mup_same]
      · rw [mup_i _ _ _ he, nx _ (by omega) (by omega)]; exact j5 j a (by omega)
end soons
