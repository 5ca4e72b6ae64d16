set_option maxHeartbeats 400000
set_option maxRecDepth 20000
section soonu
variable {N n : Nat} {X M : mSt} {q q' lw lw' : Nat} {f g : mRow} {A : mLaw} {P : mPrg} {a1 a2 a3 a4 a5 : Int} {T : Int} {D : Int → Int → Int} {p d t m : Int}
def MPw (M M' : mSt) : Prop := (M' 2 = M 2 ∧ M' 5 = M 5 ∧ M' 6 = M 6) ∧ M' 0 0 = M 0 0 ∧ M' 0 4 = M 0 4 ∧ M' 0 7 = M 0 7 ∧ M' 0 9 = M 0 9 ∧ M' 0 13 = M 0 13 ∧ (BB M → BB M')
theorem MPu.w {M M' : mSt} (h : MPu M M') : MPw M M' := ⟨⟨h.1.1, h.1.2.1, h.1.2.2.1⟩, h.2⟩
theorem MPw.rf (M : mSt) : MPw M M := (MPu.rf M).w
theorem MPw.tr {M M1 M2 : mSt} (h : MPw M M1) (h' : MPw M1 M2) : MPw M M2 := by
  obtain ⟨⟨a2, a3, a4⟩, a5, a6, a7, a8, a9, a10⟩ := h
  obtain ⟨⟨b2, b3, b4⟩, b5, b6, b7, b8, b9, b10⟩ := h'
  exact ⟨⟨b2.trans a2, b3.trans a3, b4.trans a4⟩, b5.trans a5, b6.trans a6, b7.trans a7, b8.trans a8, b9.trans a9, fun b => b10 (a10 b)⟩
theorem MPw.qw {M M' : mSt} (h : MPw M M') (h1 : M' 1 = M 1) : MQw M M' := ⟨⟨h1, h.1⟩, h.2⟩
theorem MPw.up {M : mSt} {r : Nat} {i v : Int} (hr : r = 1 ∨ r = 3 ∨ r = 4 ∨ 7 ≤ r) : MPw M (mup M r i v) := by
  refine ⟨⟨?_, ?_, ?_⟩, ?_, ?_, ?_, ?_, ?_, fun b => b.of ?_ ?_⟩ <;> rw [mup_ne _ _ _ (by omega)]
def MR (N : Nat) (M : mSt) (f : mRow) (A : mLaw) : Prop := okS M ∧ M 1 = f ∧ RN f ∧ LB A ∧ LM N f A
theorem y_drySoonR {Q : mSt → Int → Prop} (hN : 5000 ≤ N) (C : MR N M f A) (d0 : 0 ≤ d) (d1 : d ≤ 9) (p0 : 0 ≤ p) (p1 : p < 8) (h : ∀ M', MR N M' f A → MPu M M' → Q M' (if drL A d p 41 0 f = 41 then 2000000000 else drL A d p 41 0 f)) : w_X12_drySoon N 0 p d M Q := by
  obtain ⟨ok, h1, hR, hB, hL⟩ := C
  unfold w_X12_drySoon
  refine a_aside hN (fun v2 e2 v3 e3 => ?_)
  subst e2; subst e3
  have D1 : MGd N M (mck M 1 0 4 0 350) f f A := ⟨okS_ck ok, by rw [mck_ne _ (by decide)]; exact h1, hR, hB, hL, MPu.ck (by omega), fun k a b => by rw [mck_in _ (by omega) (by omega), h1]; congr 1; omega, fun _ _ => rfl⟩
  refine y_drySoon hN d0 d1 p0 p1 41 N 0 f _ rfl (Int.le_refl _) (by omega) D1 (fun M2 g2 D2 => ?_)
  obtain ⟨ok, h1', hR2, -, hL2, hP, h4, hx⟩ := D2
  refine a_back hN ?_
  have e : (mck M2 4 0 1 0 350) 1 = f := by
    funext i
    by_cases hi : 0 ≤ i ∧ i < 350
    · rw [mck_in _ (by omega) (by omega), show i - 0 + 0 = i by omega]; exact h4 i hi.1 hi.2
    · rw [mck_out _ (by omega), h1']; exact hx i (by omega)
  exact h _ ⟨okS_ck ok, e, hR, hB, hL⟩ (hP.tr (MPu.ck (by omega)))
theorem y_soons {Kk : Nat → Int → mSt → Prop} {R : mSt → Int → Prop} (hN : 5000 ≤ N) (C : MR N M f A) (d0 : 0 ≤ d) (d1 : d ≤ 9) (x2 : Int) (h : ∀ M', okS M' → M' 1 = f → MPw M M' → (∀ p g : Int, 0 ≤ p → p < 8 → 0 ≤ g → g < 8 → M' 10 (8 * p + g) = nfL (soD A f d p g)) → Kk 0 x2 M') : w_X12_soonest_46 N R Kk N 0 d x2 0 M := by
  obtain ⟨ok, h1, hR, hB, hL⟩ := C
  refine lpUp (n := N) (T := M) (K := 8) (W := fun n p T' => w_X12_soonest_46 N R Kk n 0 d x2 p T') (I := fun p M' => okS M' ∧ M' 1 = f ∧ MPw M M' ∧ ∀ p' g : Int, 0 ≤ p' → p' < p → 0 ≤ g → g < 8 → M' 10 (8 * p' + g) = nfL (soD A f d p' g)) (fun n T hI => ?_) (fun n p T hp hI ih => ?_) (by omega) ⟨ok, h1, MPw.rf _, fun p' g a b => by omega⟩
  · obtain ⟨i1, i2, i3, i4⟩ := hI
    exact ⟨fun _ => h T i1 i2 i3 i4, fun hc => by omega⟩
  · obtain ⟨i1, i2, i3, i4⟩ := hI
    have pp0 : (0 : Int) ≤ p := by omega
    have pp1 : (p : Int) < 8 := by omega
    refine ⟨fun hc => by omega, fun _ => a_of pp0 pp1 (by omega) (by omega) (fun v2 e2 v3 e3 => ?_)⟩
    subst e3
    rw [i2] at e2
    subst e2
    refine lpUp (n := N) (T := T) (K := 8) (W := fun n' g T' => w_X12_soonest_63 N R (fun (r0_4 : Nat) (x1_4 : Int) (x2_4 : Int) (x3_4 : Int) (x4_4 : Int) (S_4 : mSt) => w_X12_has N r0_4 x3_4 5 x4_4 S_4 (fun (S5 : mSt) => ∀ v6 : Int, v6 = nm (x3_4 + 1) → w_X12_soonest_46 N R Kk n r0_4 x1_4 x2_4 v6 S5)) n' 0 d x2 p (f (14 + 6 * (p : Int) + 5)) g T') (I := fun g M' => okS M' ∧ (∀ j, j ≠ 14 + 6 * (p : Int) + 5 → M' 1 j = f j) ∧ MPw M M' ∧ (∀ p' g : Int, 0 ≤ p' → p' < p → 0 ≤ g → g < 8 → M' 10 (8 * p' + g) = nfL (soD A f d p' g)) ∧ ∀ j : Int, 0 ≤ j → j < g → M' 10 (8 * (p : Int) + j) = nfL (soD A f d p j)) (fun n' T' hJ => ?_) (fun n' g T' hg hJ jh => ?_) (by omega) ⟨i1, fun j _ => by rw [i2], i3, i4, fun j a b => by omega⟩
    · obtain ⟨j1, j2, j3, j4, j5⟩ := hJ
      refine ⟨fun _ => a_has pp0 pp1 (by omega) (by omega) (fun v6 e6 => ?_), fun hc => by omega⟩
      rw [nx8 (by omega)] at e6
      subst e6
      have of : okI (f (14 + 6 * (p : Int) + 5)) := by rw [← h1]; exact ok _ _
      refine ih _ ⟨okS_up j1 of, ?_, j3.tr (MPw.up (by omega)), fun p' g a b c e => ?_⟩
      · rw [mup_1]
        funext i
        by_cases he : i = 14 + 6 * (p : Int) + 5
        · rw [he, fup_at]
        · rw [fup_ne _ _ he]; exact j2 i he
      · rw [mup_ne _ _ _ (by decide)]
        by_cases he : p' = p
        · subst he; exact j5 g c e
        · exact j4 p' g a (by omega) c e
    · obtain ⟨j1, j2, j3, j4, j5⟩ := hJ
      refine ⟨fun hc => by omega, fun _ => a_has pp0 pp1 (by omega) (by omega) ?_⟩
      have e1 : (mup T' 1 (14 + 6 * (p : Int) + 5) g) 1 = fup f (14 + 6 * (p : Int) + 5) g := by
        rw [mup_1]
        funext i
        by_cases he : i = 14 + 6 * (p : Int) + 5
        · rw [he, fup_at, fup_at]
        · rw [fup_ne _ _ he, fup_ne _ _ he]; exact j2 i he
      have okg : okI (g : Int) := by unfold okI; omega
      have ok2 : okS (mup T' 1 (14 + 6 * (p : Int) + 5) g) := okS_up j1 okg
      have k2 : MPw M (mup T' 1 (14 + 6 * (p : Int) + 5) g) := j3.tr (MPw.up (by omega))
      have c2 : (mup T' 1 (14 + 6 * (p : Int) + 5) g) 10 = T' 10 := mup_ne _ _ _ (by decide)
      generalize mup T' 1 (14 + 6 * (p : Int) + 5) g = T2 at e1 ok2 k2 c2
      have hR2 : RN (fup f (14 + 6 * (p : Int) + 5) g) := ⟨hR.1.peg pp0 pp1 (by omega), by rw [fup_ne _ _ (by omega)]; exact hR.2.1, by rw [fup_ne _ _ (by omega)]; exact hR.2.2⟩
      have hL2 : LM N (fup f (14 + 6 * (p : Int) + 5) g) A := hL.of (fup_ne _ _ (by omega)) (fup_ne _ _ (by omega)) (fun k hk _ => fup_ne _ _ (by omega))
      have write : ∀ (v : Int) (T3 : mSt), v = nfL (soD A f d p g) → okS T3 → T3 1 = fup f (14 + 6 * (p : Int) + 5) g → MPw M T3 → T3 10 = T' 10 → w_X12_soonest_108 N R (w_X12_soonest_63 N R (fun (r0_4 : Nat) (x1_4 : Int) (x2_4 : Int) (x3_4 : Int) (x4_4 : Int) (S_4 : mSt) => w_X12_has N r0_4 x3_4 5 x4_4 S_4 (fun (S5 : mSt) => ∀ v6 : Int, v6 = nm (x3_4 + 1) → w_X12_soonest_46 N R Kk n r0_4 x1_4 x2_4 v6 S5)) n') 0 d x2 p (f (14 + 6 * (p : Int) + 5)) g v (nm (nm (8 * (p : Int)) + g)) (0 + 10) T3 := by
        intro v T3 ev ok3 f3 k3 c3
        have ei : nm (nm (8 * (p : Int)) + g) = 8 * (p : Int) + g := by rw [nm_of (x := 8 * (p : Int)) (by omega) (by omega), nm_of (by omega) (by omega)]
        rw [ei]
        clear ei
        refine ⟨by omega, by omega, fun S4 e4 v5 e5 => ?_⟩
        rw [nx8 (by omega)] at e5
        subst e5
        have e4' : S4 = mup T3 10 (8 * (p : Int) + g) v := e4
        have hs := soD_ok A f d p g
        have ov : okI v := by rw [ev]; unfold okI nfL; split <;> omega
        refine jh S4 ⟨by rw [e4']; exact okS_up ok3 ov, fun j hj => by rw [e4', mup_ne _ _ _ (by decide), f3, fup_ne _ _ hj], k3.tr (by rw [e4']; exact MPw.up (by decide)), fun p' g' a b c e => ?_, fun j a b => ?_⟩
        · rw [e4', mup_i _ _ _ (by omega), c3]; exact j4 p' g' a b c e
        · rw [e4']
          by_cases he : j = g
          · rw [he, mup_same, ev]
          · rw [mup_i _ _ _ (by omega), c3]; exact j5 j a (by omega)
      refine a_of pp0 pp1 (by omega) (by omega) ?_
      have eh : T2 1 (14 + 6 * (p : Int) + 4) = f (14 + 6 * (p : Int) + 4) := by rw [e1, fup_ne _ _ (by omega)]
      rw [eh]
      refine ⟨fun hh => y_drySoonR (f := fup f (14 + 6 * (p : Int) + 5) g) hN ⟨ok2, e1, hR2, hB, hL2⟩ d0 d1 pp0 pp1 (fun T3 C3 F3 => write _ T3 ?_ C3.1 C3.2.1 (k2.tr F3.w) ((F3.1.2.2.2 10 (by decide) (by decide)).trans c2)), fun hh => write 0 T2 ?_ ok2 e1 k2 c2⟩
      · unfold soD nfL; rw [if_neg hh]
      · unfold soD; rw [if_pos hh]; rfl
theorem y_min {Kk : Nat → Int → Int → mSt → Prop} {R : mSt → Int → Prop} (hN : 5000 ≤ N) (hM : ∀ p g : Int, 0 ≤ p → p < 8 → 0 ≤ g → g < 8 → M 10 (8 * p + g) = nfL (D p g)) (hD : ∀ p g, 0 ≤ D p g ∧ D p g ≤ 41) (x2 : Int) (h : Kk 0 x2 (lgL D 8 0) M) : w_X12_soonest_131 N R Kk N 0 x2 0 M := by
  have hl := lgL_ok (fun p g => (hD p g).1) 8 0
  refine lpUp (n := N) (T := M) (K := (lgL D 8 0).toNat) (W := fun n k T' => w_X12_soonest_131 N R Kk n 0 x2 k T') (I := fun k T => T = M) (fun n T hI => ?_) (fun n k T hk hI ih => ?_) (by omega) rfl
  · subst hI
    rw [show (((lgL D 8 0).toNat : Nat) : Int) = lgL D 8 0 by omega]
    refine ⟨fun _ => h, fun hc => ?_⟩
    exact y_find hN hM hD hl.1 (by omega) 8 12 0 _ (by omega) (by omega) (by omega) (by omega) (by decide) ⟨fun _ => ⟨fun _ => h, fun hc => absurd hc (by decide)⟩, fun hc => by omega⟩
  · subst hI
    refine ⟨fun hc => by omega, fun hc => ?_⟩
    refine y_find hN hM hD (by omega) (by omega) 8 12 0 _ (by omega) (by omega) (by omega) (by omega) (by decide) ⟨fun hc => by omega, fun _ => ⟨fun hc => absurd rfl hc, fun _ v2 e2 => ?_⟩⟩
    rw [nx8 (by omega)] at e2
    subst e2
    exact ih T rfl
theorem y_pegEnd {Q : mSt → Int → Prop} {x2 : Int} (hN : 5000 ≤ N) (hM : ∀ p g : Int, 0 ≤ p → p < 8 → 0 ≤ g → g < 8 → M 10 (8 * p + g) = nfL (D p g)) (hD : ∀ p g, 0 ≤ D p g ∧ D p g ≤ 41) (hx : x2 = -1 ∨ (0 ≤ x2 ∧ x2 < 8)) (h : Q M (lgA D x2)) : w_X12_soonest_153 N Q 0 x2 (lgL D 8 0) M := by
  have hl := lgL_ok (fun p g => (hD p g).1) 8 0
  unfold lgA at h
  refine ⟨fun hc => ⟨fun hp v1 e1 v2 e2 v3 e3 => ?_, fun hp => ?_⟩, fun hc => ?_⟩
  · have hx2 := hx.resolve_left hp
    rw [if_pos (by omega), if_neg hp] at h
    subst e1; subst e2; subst e3
    have hT := fun p hp => lgT_ok (D := D) (m := lgL D 8 0) (by omega) (Int.le_refl _) p hp
    have hm : lgL D 8 0 < 41 := by omega
    generalize lgL D 8 0 = m at *
    refine lpUp (n := N) (T := M) (K := x2.toNat + 1) (W := fun n p T => w_X12_soonest_177 N Q (fun (x5_4 : Int) (S_4 : mSt) => Q S_4 x5_4) n 0 x2 m (lgT D m p) (lgB D m p) p T) (I := fun k T => T = M) (fun n T hI => ?_) (fun n p T hp hI ih => ?_) (by omega) rfl
    · subst hI
      exact ⟨fun _ => h, fun hc => by omega⟩
    · subst hI
      refine ⟨fun hc => by omega, fun _ v1 e1 => ?_⟩
      subst e1
      obtain ⟨h1, h2, h3, h4⟩ := hT p (by omega)
      rw [show 8 - p = (7 - p) + 1 by omega] at h4
      obtain ⟨g1, g2, g3, g4, g5⟩ := lgP_ok hm h4
      have ep : nm ((p : Int) + 1) = 8 - ((7 - p : Nat) : Int) := by rw [nm_of (by omega) (by omega)]; omega
      have look : ∀ (j : Int) (Q1 Q2 : mSt → Prop), 0 ≤ j → j < 8 → ((bt (lgT D m p) j = 0 ∧ lgH D (7 - p) (lgT D m p) j ≤ m) → Q1 T) → (¬ (bt (lgT D m p) j = 0 ∧ lgH D (7 - p) (lgT D m p) j ≤ m) → Q2 T) → w_X12_isOf N (lgT D m p) j T (fun (S1 : mSt) (v1 : Int) => ((v1 ≠ 0 → Q2 S1) ∧ (v1 = 0 → (0 ≤ (nm ((nm (8 * (p : Int))) + j)) ∧ (nm ((nm (8 * (p : Int))) + j)) < 64 ∧ ((m < (S1 (0 + 10) (nm ((nm (8 * (p : Int))) + j))) → Q2 S1) ∧ ((S1 (0 + 10) (nm ((nm (8 * (p : Int))) + j))) ≤ m → w_X12_find N 12 0 (nm ((p : Int) + 1)) (bOr (lgT D m p) (bShl 1 j)) m S1 (fun (S3 : mSt) (v3 : Int) => ((v3 ≠ 0 → Q1 S3) ∧ (v3 = 0 → Q2 S3))))))))) := by
        intro j Q1 Q2 j0 j1 hq1 hq2
        have ei : nm (nm (8 * (p : Int)) + j) = 8 * (p : Int) + j := by rw [nm_of (x := 8 * (p : Int)) (by omega) (by omega), nm_of (by omega) (by omega)]
        have h01 := bt_01 (lgT D m p) j
        have hd := hD p j
        have m0 : 0 ≤ m := by have := lgL_ok (fun p g => (hD p g).1) (7 - p + 1) (lgT D m p); omega
        have eM : T (0 + 10) (8 * (p : Int) + j) = nfL (D p j) := hM p j (by omega) (by omega) j0 j1
        have hH : lgH D (7 - p) (lgT D m p) j = max (D p j) (lgL D (7 - p) (bOr (lgT D m p) (bShl 1 j))) := by
          unfold lgH
          rw [show (7 : Int) - ((7 - p : Nat) : Int) = p by omega]
        rw [ei, ep]
        clear ei ep
        refine a_isOf h1 h2 j0 j1 ⟨fun hb => hq2 (fun hc => by omega), fun hb => ⟨by omega, by omega, ?_⟩⟩
        rw [eM]
        have h5 := set_pc' h1 h2 j0 j1 hb
        refine ⟨fun hc => hq2 (fun hc2 => ?_), fun hc => ?_⟩
        · unfold nfL at hc
          split at hc <;> omega
        · have hdm : D p j ≤ m := by
            unfold nfL at hc
            split at hc <;> omega
          exact y_find hN hM hD m0 hm (7 - p) 12 _ _ (by omega) (by omega) (by omega) h5.2.2 (by omega) ⟨fun hl => ⟨fun _ => hq1 ⟨hb, by omega⟩, fun hc => absurd hc (by decide)⟩, fun hl => ⟨fun hc => absurd rfl hc, fun _ => hq2 (fun hc => by omega)⟩⟩
      refine lpUp (n := N) (T := T) (K := (lgP D (7 - p) m (lgT D m p)).toNat) (W := fun n' j T' => w_X12_soonest_186 N Q (fun (r0_2 : Nat) (x2_2 : Int) (x3_2 : Int) (x4_2 : Int) (x5_2 : Int) (x6_2 : Int) (S_2 : mSt) => ∀ v3 : Int, v3 = (bOr x4_2 (bShl 1 x5_2)) → ∀ v4 : Int, v4 = nm (x6_2 + 1) → w_X12_soonest_177 N Q (fun (x5_4 : Int) (S_4 : mSt) => Q S_4 x5_4) n r0_2 x2_2 x3_2 v3 x5_2 v4 S_2) n' 0 x2 m (lgT D m p) j p T') (I := fun j T' => T' = T) (fun n' T' hJ => ?_) (fun n' j T' hj hJ jh => ?_) (by omega) rfl
      · subst hJ
        rw [show (((lgP D (7 - p) m (lgT D m p)).toNat : Nat) : Int) = lgP D (7 - p) m (lgT D m p) by omega]
        refine look _ _ _ g1 g2 (fun _ v3 e3 v4 e4 => ?_) (fun hc => absurd ⟨g3, g4⟩ hc)
        rw [nx8 (by omega)] at e4
        subst e3; subst e4
        exact ih T' rfl
      · subst hJ
        refine look _ _ _ (by omega) (by omega) (fun hc => ?_) (fun _ v1 e1 => ?_)
        · have := g5 j (by omega) (by omega) hc.1
          omega
        · rw [nx8 (by omega)] at e1
          subst e1
          exact jh T' rfl
  · rw [if_pos (by omega), if_pos hp] at h; exact h
  · rw [if_neg (by omega)] at h; exact h
theorem x_soonest {Q : mSt → Int → Prop} {E : String → mSt → Prop} (hN : 5000 ≤ N) (C : CQ N X q q' lw lw' f A T) (d0 : 0 ≤ a1) (d1 : a1 ≤ 9) (hx : a2 = -1 ∨ (0 ≤ a2 ∧ a2 < 8)) (h : ∀ X' : mSt, XZ q' lw X X' → X' 215 0 = X 215 0 → Q X' (lgA (soD A f a1) a2)) : w_X11_soonest_9 N Q E 0 a1 a2 X := by
  have hD := fun p g => soD_ok A f a1 p g
  refine s_ckNum (fun _ _ v2 e2 => ?_) (fun hb => by omega)
  subst e2
  refine x_soons hN C d0 d1 a2 (fun X2 C2 F2 z2 N2 => ?_)
  refine x_pfill (D := soD A f a1) hN C2.1 (fun p g => (hD p g).1) N2 (fun X3 ok3 k3 L3 => ?_)
  have F : XZ q' lw X X3 := F2.tr (fun r a b c d => k3 r (by omega))
  have z : X3 215 0 = X 215 0 := by rw [k3 215 (by decide), z2]
  refine ⟨fun hp => ?_, fun hp => ?_⟩
  · have hx2 := hx.resolve_left hp
    exact x_pegOf (D := soD A f a1) hN (fun p hp g a b => by rw [k3 _ (by omega)]; exact N2 p hp g a b) L3 hx2.1 hx2.2 (h X3 F z)
  · refine x_leastN (D := soD A f a1) L3 ?_
    have := h X3 F z
    rw [hp] at this
    exact this
theorem y_soonest {Q : mSt → Int → Prop} (hN : 5000 ≤ N) (C : MC N (mup M 0 0 0) f A) (d0 : 0 ≤ a1) (d1 : a1 ≤ 9) (hx : a2 = -1 ∨ (0 ≤ a2 ∧ a2 < 8)) (h : ∀ M', MQw (mup M 0 0 0) M' → Q M' (lgA (soD A f a1) a2)) : w_X12_soonest_32 N Q 0 a1 a2 0 0 M := by
  obtain ⟨ok, h1, hR, hB, hL⟩ := id C
  have hD := fun p g => soD_ok A f a1 p g
  refine thrO (fun v2 e2 => ?_)
  subst e2
  refine y_soons hN ⟨ok, h1, hR.1, hB, hL⟩ d0 d1 a2 (fun M2 ok2 e2 F2 V2 v4 e4 => ?_)
  subst e4
  refine y_min (D := soD A f a1) hN V2 hD _ ?_
  exact y_pegEnd (D := soD A f a1) hN V2 hD hx (h M2 (F2.qw (e2.trans h1.symm)))
theorem k_22 (hN : 5000 ≤ N) (I : IV N n X M q q' lw lw' P) (okX : okS X) (okM : okS M) : wl_22 N a1 a2 a3 a4 a5 X M (fun X1 M1 => Inv N (n + 1) X1 M1) := by
  unfold wl_22 w_L_soonest w_X11_soonest
  have good : (a2 = -1 ∨ (0 ≤ a2 ∧ a2 < 8)) → 0 ≤ a1 → a1 ≤ 9 → ∀ {E : String → mSt → Prop}, w_X11_soonest_9 N (fun (S1 : mSt) (v1 : Int) => ∀ S2 : mSt, S2 = mup S1 250 0 v1 → w_X12_soonest N 0 a1 a2 M (fun (M2 : mSt) (v2 : Int) => w_X12_thrown N 0 M2 (fun (M3 : mSt) (v3 : Int) => v3 = 0 ∧ ((0 : Int) = 0 → (S2 250 0) = v2) ∧ Inv N (n + 1) S2 M3))) E 0 a1 a2 X := by
    intro hx L0 hL E
    refine x_soonest hN (I.CQ (by omega) okX) L0 hL hx (fun X' F' z' S2 e2 => ?_)
    subst e2
    have md : w_X12_soonest_17 N (fun (M2 : mSt) (v2 : Int) => w_X12_thrown N 0 M2 (fun (M3 : mSt) (v3 : Int) => v3 = 0 ∧ ((0 : Int) = 0 → (mup X' 250 0 (lgA (soD (AP P) (M 1) a1) a2) 250 0) = v2) ∧ Inv N (n + 1) (mup X' 250 0 (lgA (soD (AP P) (M 1) a1) a2)) M3)) 0 a1 a2 0 M :=
      a_isIn (fun _ _ => ⟨fun _ => y_soonest hN ((I.MC okM).thr (by decide)) L0 hL hx (fun M' F2 => fin0' I F' z' F2), fun hc => absurd hc (by decide)⟩) (fun hc => by omega)
    exact ⟨fun _ => md, fun hp => a_isPart (fun _ _ => ⟨fun _ => md, fun hc => absurd hc (by decide)⟩) (fun hc => by omega)⟩
  have bad : (a2 = -1 ∨ (0 ≤ a2 ∧ a2 < 8)) → (a1 < 0 ∨ 9 < a1) → w_X12_soonest N 0 a1 a2 M (fun (M2 : mSt) (v2 : Int) => w_X12_thrown N 0 M2 (fun (M3 : mSt) (v3 : Int) => v3 = 2 ∧ ((2 : Int) = 0 → (X 250 0) = v2) ∧ Inv N (n + 1) X M3)) := by
    intro hx hb
    have md : w_X12_soonest_17 N (fun (M2 : mSt) (v2 : Int) => w_X12_thrown N 0 M2 (fun (M3 : mSt) (v3 : Int) => v3 = 2 ∧ ((2 : Int) = 0 → (X 250 0) = v2) ∧ Inv N (n + 1) X M3)) 0 a1 a2 0 M :=
      a_isIn (fun _ _ => by omega) (fun _ => ⟨fun hc => absurd rfl hc, fun _ => thrX (by decide) (finE I (by decide) (XF.rf _ _ _) (MQu.rf _))⟩)
    exact ⟨fun _ => md, fun hp => a_isPart (fun _ _ => ⟨fun _ => md, fun hc => absurd hc (by decide)⟩) (fun hc => by omega)⟩
  refine ⟨fun h1 => ?_, fun h1 => s_ckPart (fun p0 p1 => ?_) (fun hb => Or.inl ⟨rfl, ?_⟩)⟩
  · by_cases hr : 0 ≤ a1 ∧ a1 ≤ 9
    · exact good (Or.inl h1) hr.1 hr.2
    · exact s_ckNum (fun _ _ => by omega) (fun hb => Or.inr ⟨rfl, bad (Or.inl h1) hb⟩)
  · by_cases hr : 0 ≤ a1 ∧ a1 ≤ 9
    · exact good (Or.inr ⟨p0, p1⟩) hr.1 hr.2
    · exact s_ckNum (fun _ _ => by omega) (fun hb => Or.inr ⟨rfl, bad (Or.inr ⟨p0, p1⟩) hb⟩)
  · exact ⟨fun hc => absurd hc h1, fun _ => a_isPart (fun _ _ => by omega) (fun _ => ⟨fun hc => absurd rfl hc, fun _ => thrX (by decide) (finE I (by decide) (XF.rf _ _ _) (MQu.rf _))⟩)⟩
end soonu
