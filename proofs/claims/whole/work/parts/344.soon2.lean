set_option maxHeartbeats 400000
set_option maxRecDepth 20000
section soont
variable {N n : Nat} {X M : mSt} {q q' lw lw' : Nat} {f : mRow} {A : mLaw} {P : mPrg} {a1 a2 a3 a4 a5 : Int} {T : Int} {D : Int → Int → Int} {p g d t m : Int}
theorem bt_sh {t g : Int} (t0 : 0 ≤ t) (t1 : t < 256) (g0 : 0 ≤ g) (g1 : g < 8) : bAnd (bShr t g) 1 = bt t g := sh_bt' t0 t1 g0 (by omega)
def NM (X : mSt) (D : Int → Int → Int) : Prop := ∀ p : Nat, p < 8 → ∀ g : Int, 0 ≤ g → g < 8 → X (228 + p) g = D p g
/-- the class's notes on the pegs taken from t on -/
def LN (X : mSt) (D : Int → Int → Int) (s : Int) : Prop := ∀ t : Int, s ≤ t → 0 ≤ t → t < 256 → X 236 t = lgL D (8 - (pc t).toNat) t
theorem x_with {Q : mSt → Int → Prop} (hNM : NM X D) (t0 : 0 ≤ t) (t1 : t < 255) (g0 : 0 ≤ g) (g1 : g < 8) (hb : bt t g = 0) (hL : LN X D (t + 1)) (hp : p = pc t) (h : Q X (lgH D (7 - (pc t).toNat) t g)) : w_X7_nightsWith N 226 p g t X Q := by
  have h5 := set_pc' t0 (by omega) g0 g1 hb
  have h6 := pc_lim t.toNat (by omega)
  rw [show ((t.toNat : Nat) : Int) = t by omega] at h6
  have p7 : pc t ≤ 7 := by
    apply Decidable.byContradiction
    intro hc
    have := h6.2.2 (by omega)
    omega
  have e1 := hNM p.toNat (by omega) g g0 g1
  have e2 := hL (bOr t (bShl 1 g)) (by omega) (by omega) h5.2.2
  rw [h5.1] at e2
  unfold w_X7_nightsWith
  refine ⟨by omega, by omega, g0, g1, by omega, h5.2.2, ?_⟩
  show Q X (iMax (X (226 + 1 + 1 + p.toNat) g) (X 236 (bOr t (bShl 1 g))))
  rw [show (226 + 1 + 1 + p.toNat : Nat) = 228 + p.toNat by omega, e1, e2, iMax_max]
  unfold lgH at h
  rw [show (7 : Int) - ((7 - (pc t).toNat : Nat) : Int) = (p.toNat : Int) by omega, show 7 - (pc t).toNat = 8 - (pc t + 1).toNat by omega] at h
  exact h
theorem x_pfill {Q : mSt → Prop} (hN : 5000 ≤ N) (ok : okS X) (hD : ∀ p g, 0 ≤ D p g) (hNM : NM X D) (h : ∀ X', okS X' → (∀ r, r ≠ 236 → X' r = X r) → LN X' D 0 → Q X') : w_X7_fill N 226 X Q := by
  intro S1 e1 v2 e2
  subst e2
  have e1' : S1 = mup X 236 255 0 := e1
  have o0 : okI 0 := by decide
  refine lpUp (n := N) (T := S1) (K := 255) (W := fun n i T => w_X7_fill_13 N Q (fun (S_3 : mSt) => Q S_3) n 226 (254 - (i : Int)) T) (I := fun i T => okS T ∧ (∀ r, r ≠ 236 → T r = X r) ∧ LN T D (255 - (i : Int))) (fun n T hI => ?_) (fun n i T hi hI ih => ?_) (by omega) ⟨by rw [e1']; exact okS_up ok o0, fun r hr => by rw [e1', mup_ne _ _ _ hr], fun t a b c => ?_⟩
  · obtain ⟨i1, i2, i3⟩ := hI
    exact ⟨fun _ => h T i1 i2 i3, fun hc => by omega⟩
  · obtain ⟨i1, i2, i3⟩ := hI
    refine ⟨fun hc => by omega, fun _ => s_bitCount (by omega) (by omega) (fun v2 e2 v3 e3 v4 e4 => ?_)⟩
    subst e2; subst e3; subst e4
    have h6 := pc_lim (254 - i) (by omega)
    have eti : (((254 - i : Nat)) : Int) = 254 - (i : Int) := by omega
    rw [eti] at h6
    generalize ht : (254 : Int) - i = t at *
    have p7 : pc t ≤ 7 := by
      apply Decidable.byContradiction
      intro hc
      have := h6.2.2 (by omega)
      omega
    have eL : lgL D (8 - (pc t).toNat) t = lgS t (lgH D (7 - (pc t).toNat) t) 8 := by
      rw [show 8 - (pc t).toNat = (7 - (pc t).toNat) + 1 by omega, lgL_s]
    refine lpUp (n := N) (T := T) (K := 8) (W := fun n' j T' => w_X7_fill_28 N Q (fun (r0_5 : Nat) (x1_5 : Int) (x3_5 : Int) (S_5 : mSt) => (0 ≤ x1_5 ∧ x1_5 < 256 ∧ ∀ S7 : mSt, S7 = mup S_5 (r0_5 + 10) x1_5 x3_5 → ∀ v8 : Int, v8 = nm (x1_5 + (-1)) → w_X7_fill_13 N Q (fun (S_3 : mSt) => Q S_3) n r0_5 v8 S7)) n' 226 t (pc t) (lgS t (lgH D (7 - (pc t).toNat) t) j) j T') (I := fun j T' => T' = T) (fun n' T' hJ => ?_) (fun n' j T' hj hJ jh => ?_) (by omega) rfl
    · subst hJ
      refine ⟨fun _ => ⟨by omega, by omega, fun S7 e7 v8 e8 => ?_⟩, fun hc => by omega⟩
      rw [nm_of (by omega) (by omega), show t + -1 = 254 - ((i + 1 : Nat) : Int) by omega] at e8
      subst e8
      have e7' : S7 = mup T' 236 t (lgL D (8 - (pc t).toNat) t) := by rw [eL]; exact e7
      have hl := lgL_ok hD (8 - (pc t).toNat) t
      have ol : okI (lgL D (8 - (pc t).toNat) t) := by unfold okI; omega
      refine ih S7 ⟨by rw [e7']; exact okS_up i1 ol, fun r hr => by rw [e7', mup_ne _ _ _ hr]; exact i2 r hr, fun t' a b c => ?_⟩
      rw [e7']
      by_cases he : t' = t
      · rw [he, mup_same]
      · rw [mup_i _ _ _ he]; exact i3 t' (by omega) b c
    · subst hJ
      refine ⟨fun hc => by omega, fun _ => ?_⟩
      rw [bt_sh (by omega) (by omega) (by omega) (by omega)]
      have es : lgS t (lgH D (7 - (pc t).toNat) t) (j + 1) = if bt t j = 1 then lgS t (lgH D (7 - (pc t).toNat) t) j else min (lgS t (lgH D (7 - (pc t).toNat) t) j) (lgH D (7 - (pc t).toNat) t j) := rfl
      have h01 := bt_01 t j
      refine ⟨fun hb v1 e1 => ?_, fun hb => x_with (D := D) (fun p hp g a b => by rw [i2 _ (by omega)]; exact hNM p hp g a b) (by omega) (by omega) (by omega) (by omega) hb (fun t' a b c => i3 t' (by omega) b c) rfl (fun v2 e2 v1 e1 => ?_)⟩
      · rw [nx8 (by omega)] at e1
        subst e1
        have := jh T' rfl
        rw [es, if_pos (by omega)] at this
        exact this
      · rw [nx8 (by omega)] at e1
        rw [iMin_min] at e2
        subst e1; subst e2
        have := jh T' rfl
        rw [es, if_neg (by omega)] at this
        exact this
  · have : t = 255 := by omega
    subst this
    rw [e1', mup_same]
    have : pc 255 = 8 := by decide
    rw [this]
    rfl
theorem x_leastN {Q : mSt → Int → Prop} (hL : LN X D 0) (h : Q X (lgA D (-1))) : w_X7_leastNights N 226 X Q := by
  have e : X (226 + 10) 0 = lgL D 8 0 := by
    have := hL 0 (by omega) (by omega) (by omega)
    rw [show pc 0 = 0 by decide] at this
    exact this
  unfold lgA at h
  unfold w_X7_leastNights
  rw [e]
  refine ⟨fun hc => ?_, fun hc => ?_⟩
  · rw [if_pos (by omega), if_pos rfl] at h; exact h
  · rw [if_neg (by omega)] at h; exact h
theorem x_pegOf {Q : mSt → Int → Prop} {x : Int} (hN : 5000 ≤ N) (hNM : NM X D) (hL : LN X D 0) (x0 : 0 ≤ x) (x1 : x < 8) (h : Q X (lgA D x)) : w_X7_pegOfPart N 226 x X Q := by
  have e : X (226 + 10) 0 = lgL D 8 0 := by
    have := hL 0 (by omega) (by omega) (by omega)
    rw [show pc 0 = 0 by decide] at this
    exact this
  unfold lgA at h
  unfold w_X7_pegOfPart
  rw [e]
  refine ⟨fun hc v1 e1 v2 e2 v3 e3 => ?_, fun hc => ?_⟩
  · rw [if_pos (by omega), if_neg (by omega)] at h
    subst e1; subst e2; subst e3
    have hT := fun p hp => lgT_ok (D := D) (m := lgL D 8 0) (by omega) (Int.le_refl _) p hp
    have hm : lgL D 8 0 < 41 := by omega
    generalize hmm : lgL D 8 0 = m at *
    refine lpUp (n := N) (T := X) (K := x.toNat + 1) (W := fun n p T => w_X7_pegOfPart_20 N Q (fun (x3_4 : Int) (S_4 : mSt) => Q S_4 x3_4) n 226 x (lgT D m p) (lgB D m p) p T) (I := fun k T => T = X) (fun n T hI => ?_) (fun n p T hp hI ih => ?_) (by omega) rfl
    · subst hI
      exact ⟨fun _ => h, fun hc => by omega⟩
    · subst hI
      refine ⟨fun hc => by omega, fun _ v1 e1 => ?_⟩
      subst e1
      obtain ⟨h1, h2, h3, h4⟩ := hT p (by omega)
      rw [show 8 - p = (7 - p) + 1 by omega] at h4
      obtain ⟨g1, g2, g3, g4, g5⟩ := lgP_ok hm h4
      have t255 : lgT D m p < 255 := by
        apply Decidable.byContradiction
        intro hc
        have e255 : lgT D m p = 255 := by omega
        rw [e255, show pc 255 = 8 by decide] at h3
        omega
      refine lpUp (n := N) (T := T) (K := (lgP D (7 - p) m (lgT D m p)).toNat) (W := fun n' j T' => w_X7_firstPeg_2 N (fun (S1 : mSt) (v1 : Int) => ∀ v2 : Int, v2 = v1 → ∀ v3 : Int, v3 = (bOr (lgT D m p) (bShl 1 v2)) → ∀ v4 : Int, v4 = nm ((p : Int) + 1) → w_X7_pegOfPart_20 N Q (fun (x3_4 : Int) (S_4 : mSt) => Q S_4 x3_4) n 226 x v3 v2 v4 S1) (fun (S_2 : mSt) => (fun (S1 : mSt) (v1 : Int) => ∀ v2 : Int, v2 = v1 → ∀ v3 : Int, v3 = (bOr (lgT D m p) (bShl 1 v2)) → ∀ v4 : Int, v4 = nm ((p : Int) + 1) → w_X7_pegOfPart_20 N Q (fun (x3_4 : Int) (S_4 : mSt) => Q S_4 x3_4) n 226 x v3 v2 v4 S1) S_2 0) n' 226 p (lgT D m p) j T') (I := fun j T' => T' = T) (fun n' T' hJ => ?_) (fun n' j T' hj hJ jh => ?_) (by omega) rfl
      · subst hJ
        refine ⟨fun hc => by omega, fun _ => ?_⟩
        rw [show (((lgP D (7 - p) m (lgT D m p)).toNat : Nat) : Int) = lgP D (7 - p) m (lgT D m p) by omega, bt_sh h1 h2 g1 g2, g3]
        refine ⟨fun hb => absurd rfl hb, fun _ => x_with (D := D) hNM h1 t255 g1 g2 g3 (fun t' a b c => hL t' b b c) h3.symm ?_⟩
        rw [e, h3, Int.toNat_natCast]
        refine ⟨fun hb => by omega, fun _ v2 e2 v3 e3 v4 e4 => ?_⟩
        rw [nx8 (by omega)] at e4
        subst e2; subst e3; subst e4
        exact ih T' rfl
      · subst hJ
        refine ⟨fun hc => by omega, fun _ => ?_⟩
        rw [bt_sh h1 h2 (by omega) (by omega)]
        have h01 := bt_01 (lgT D m p) j
        refine ⟨fun hb v1 e1 => ?_, fun hb => x_with (D := D) hNM h1 t255 (by omega) (by omega) hb (fun t' a b c => hL t' b b c) h3.symm ?_⟩
        · rw [nx8 (by omega)] at e1
          subst e1
          exact jh T' rfl
        · rw [e, h3, Int.toNat_natCast]
          refine ⟨fun _ v1 e1 => ?_, fun hb2 => ?_⟩
          · rw [nx8 (by omega)] at e1
            subst e1
            exact jh T' rfl
          · have := g5 j (by omega) (by omega) hb
            omega
  · rw [if_neg (by omega)] at h; exact h
-- the reference
def nfL (v : Int) : Int := if v = 41 then 2000000000 else v
theorem a_isOf {Q : mSt → Int → Prop} (t0 : 0 ≤ t) (t1 : t < 256) (g0 : 0 ≤ g) (g1 : g < 8) (h : Q M (bt t g)) : w_X12_isOf N t g M Q := by
  unfold w_X12_isOf
  rw [bt_sh t0 t1 g0 g1]
  rcases bt_01 t g with hb | hb <;> rw [hb] at h ⊢
  · exact ⟨fun _ => h, fun hc => absurd hc (by decide)⟩
  · exact ⟨fun hc => absurd rfl hc, fun _ => h⟩
theorem y_find (hN : 5000 ≤ N) (hM : ∀ p g : Int, 0 ≤ p → p < 8 → 0 ≤ g → g < 8 → M 10 (8 * p + g) = nfL (D p g)) (hD : ∀ p g, 0 ≤ D p g ∧ D p g ≤ 41) (m0 : 0 ≤ m) (m1 : m < 41) : ∀ (k fu : Nat) (t : Int) (Q : mSt → Int → Prop), k ≤ 8 → k < fu → 0 ≤ t → t < 256 → pc t = 8 - (k : Int) → ((lgL D k t ≤ m → Q M 1) ∧ (m < lgL D k t → Q M 0)) → w_X12_find N fu 0 (8 - (k : Int)) t m M Q := by
  intro k
  induction k with
  | zero =>
    intro fu t Q hk hf t0 t1 hp h
    obtain ⟨fu, rfl⟩ : ∃ x, fu = x + 1 := ⟨fu - 1, by omega⟩
    refine ⟨fun hc => absurd rfl hc, fun _ => h.1 (by unfold lgL; exact m0)⟩
  | succ k ih =>
    intro fu t Q hk hf t0 t1 hp h
    obtain ⟨fu, rfl⟩ : ∃ x, fu = x + 1 := ⟨fu - 1, by omega⟩
    refine ⟨fun _ v1 e1 => ?_, fun hc => by omega⟩
    subst e1
    refine lpUp (n := N) (T := M) (K := 8) (W := fun n j T => w_X12_find_11 N (w_X12_find N fu) Q (fun (S_2 : mSt) => Q S_2 0) n 0 (8 - ((k + 1 : Nat) : Int)) t m j T) (I := fun j T => T = M ∧ ∀ g : Int, 0 ≤ g → g < j → bt t g = 0 → m < lgH D k t g) (fun n T hI => ?_) (fun n j T hj hI jh => ?_) (by omega) ⟨rfl, fun g a b => by omega⟩
    · obtain ⟨rfl, hI2⟩ := hI
      refine ⟨fun _ => h.2 ?_, fun hc => by omega⟩
      apply Decidable.byContradiction
      intro hc
      obtain ⟨g, a, b, c, e⟩ := lgS_hit m1 8 (by rw [← lgL_s D k t]; omega)
      have := hI2 g a b c
      omega
    · obtain ⟨rfl, hI2⟩ := hI
      refine ⟨fun hc => by omega, fun _ => a_isOf t0 t1 (by omega) (by omega) ?_⟩
      have h01 := bt_01 t j
      have nx : (bt t j = 0 → m < lgH D k t j) → w_X12_find_62 N (w_X12_find N fu) Q (w_X12_find_11 N (w_X12_find N fu) Q (fun (S_2 : mSt) => Q S_2 0) n) 0 (8 - ((k + 1 : Nat) : Int)) t m j T := by
        intro hn v1 e1
        rw [nx8 (by omega)] at e1
        subst e1
        refine jh T ⟨rfl, fun g a b c => ?_⟩
        by_cases he : g = j
        · rw [he] at c ⊢; exact hn c
        · exact hI2 g a (by omega) c
      have ei : nm (nm (8 * (8 - ((k + 1 : Nat) : Int))) + j) = 8 * (8 - ((k + 1 : Nat) : Int)) + j := by rw [nm_of (x := 8 * (8 - ((k + 1 : Nat) : Int))) (by omega) (by omega), nm_of (by omega) (by omega)]
      have ep : nm (8 - ((k + 1 : Nat) : Int) + 1) = 8 - (k : Int) := by rw [nm_of (by omega) (by omega)]; omega
      refine ⟨fun hb => nx (fun h0 => by omega), fun hb => ?_⟩
      rw [ei, ep]
      have eM : T (0 + 10) (8 * (8 - ((k + 1 : Nat) : Int)) + j) = nfL (D (7 - (k : Int)) j) := by
        have := hM (8 - ((k + 1 : Nat) : Int)) j (by omega) (by omega) (by omega) (by omega)
        rw [show (8 : Int) - ((k + 1 : Nat) : Int) = 7 - k by omega] at this ⊢
        exact this
      rw [eM]
      have hd := hD (7 - (k : Int)) j
      have hH : lgH D k t j = max (D (7 - (k : Int)) j) (lgL D k (bOr t (bShl 1 j))) := rfl
      have h5 := set_pc' t0 t1 (by omega) (by omega) hb
      have hle := lgS_le (h := lgH D k t) 8 j (by omega) (by omega) hb
      rw [← lgL_s] at hle
      refine ⟨by omega, by omega, fun hc => nx (fun _ => ?_), fun hc => ?_⟩
      · unfold nfL at hc
        split at hc <;> omega
      · have hdm : D (7 - (k : Int)) j ≤ m := by
          unfold nfL at hc
          split at hc <;> omega
        refine ih fu _ _ (by omega) (by omega) (by omega) h5.2.2 (by omega) ⟨fun hl => ⟨fun hc => absurd hc (by decide), fun _ => h.1 (by omega)⟩, fun hl => ⟨fun _ => nx (fun _ => by omega), fun hc => absurd rfl hc⟩⟩
end soont
