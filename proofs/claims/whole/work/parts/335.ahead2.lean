set_option maxHeartbeats 400000
set_option maxRecDepth 20000
/-! ===== the pure part: tide, late, trial, span, dried ===== -/
def tdL (A : mLaw) (d x : Int) : Nat → Int → mRow → Int
  | 0, _, _ => -1
  | k + 1, n, g => if x ≤ fAll A g then n else tdL A d x k (n + 1) (fAhead A d g)
section tide
variable {N n : Nat} {X M : mSt} {q q' lw lw' : Nat} {f g : mRow} {A : mLaw} {P : mPrg} {a1 a2 a3 a4 a5 : Int} {T : Int} {p s d x : Int}
theorem x_tide {Q : mSt → Int → Prop} {E : String → mSt → Prop} {X0 : mSt} (hN : 5000 ≤ N) (d0 : 0 ≤ d) (d1 : d ≤ 9) : ∀ (k m : Nat) (j : Int) (g : mRow) (X : mSt), (k : Int) + j = 41 → 0 ≤ j → k < m → CG N X0 X q q' lw lw' f g A T → (∀ X' g', CG N X0 X' q q' lw lw' f g' A T → Q X' (tdL A d x k j g)) → w_X11_tide_31 N Q E (fun (S_6 : mSt) => Q S_6 (-1)) m 0 x d j X := by
  intro k
  induction k with
  | zero =>
    intro m j g X hj j0 hm C h
    obtain ⟨m, rfl⟩ : ∃ m', m = m' + 1 := ⟨m - 1, by omega⟩
    exact ⟨fun _ => h X g C, fun hc => by omega⟩
  | succ k ih =>
    intro m j g X hj j0 hm C h
    obtain ⟨m, rfl⟩ : ∃ m', m = m' + 1 := ⟨m - 1, by omega⟩
    refine ⟨fun hc => by omega, fun _ q1 e1 => ?_⟩
    have := qe e1 C.1.2.1.2.2.1
    subst q1
    refine g_all hN C (fun X2 C2 => ⟨fun hc q3 e3 => ?_, fun hc => ?_⟩)
    · have := qe e3 C2.1.2.1.2.2.1
      subst q3
      refine g_ahead hN C2 d0 d1 (fun X3 C3 v5 e5 => ?_)
      rw [nm_of (by omega) (by omega)] at e5
      subst e5
      refine ih m (j + 1) _ X3 (by omega) (by omega) (by omega) C3 (fun X' g' C' => ?_)
      have := h X' g' C'
      unfold tdL at this
      rw [if_neg (by omega)] at this
      exact this
    · have := h X2 g C2
      unfold tdL at this
      rw [if_pos hc] at this
      exact this
theorem y_tide {Q : mSt → Int → Prop} {ko : Nat → Int → mSt → Prop} {M0 : mSt} (hN : 5000 ≤ N) (d0 : 0 ≤ d) (d1 : d ≤ 9) : ∀ (k m : Nat) (j : Int) (g : mRow) (M : mSt), (k : Int) + j = 41 → 0 ≤ j → k < m → MGd N M0 M f g A → (∀ M' g', MGd N M0 M' f g' A → ko 0 (tdL A d x k j g) M') → w_X12_tide_48 N Q ko m 0 x d (-1) j M := by
  intro k
  induction k with
  | zero =>
    intro m j g M hj j0 hm C h
    obtain ⟨m, rfl⟩ : ∃ m', m = m' + 1 := ⟨m - 1, by omega⟩
    exact ⟨fun _ => h M g C, fun hc => by omega⟩
  | succ k ih =>
    intro m j g M hj j0 hm C h
    obtain ⟨m, rfl⟩ : ∃ m', m = m' + 1 := ⟨m - 1, by omega⟩
    refine ⟨fun hc => by omega, fun _ => ⟨fun hc => absurd rfl hc, fun _ => n_all hN C (fun M2 C2 => ⟨fun hc => ?_, fun hc v2 e2 => ?_⟩)⟩⟩
    · refine n_ahead hN C2 d0 d1 (fun M3 C3 v5 e5 => ?_)
      rw [nm_of (by omega) (by omega)] at e5
      subst e5
      refine ih m (j + 1) _ M3 (by omega) (by omega) (by omega) C3 (fun M' g' C' => ?_)
      have := h M' g' C'
      unfold tdL at this
      rw [if_neg (by omega)] at this
      exact this
    · refine n_ahead hN C2 d0 d1 (fun M3 C3 v5 e5 => ?_)
      have := h M3 _ C3
      unfold tdL at this
      rw [if_pos hc] at this
      rw [nm_of (by omega) (by omega)] at e5
      obtain ⟨m, rfl⟩ : ∃ m', m = m' + 1 := ⟨m - 1, by omega⟩
      rw [e2]
      refine ⟨fun _ => this, fun _ => ⟨fun _ => this, fun hc2 => by omega⟩⟩
theorem k_30 (hN : 5000 ≤ N) (I : IV N n X M q q' lw lw' P) (okX : okS X) (okM : okS M) : wl_30 N a1 a2 a3 a4 a5 X M (fun X1 M1 => Inv N (n + 1) X1 M1) := by
  obtain ⟨⟨hq, -, hlw, -⟩, -⟩ := id I
  have C := I.CQ (by omega) okX
  have D := (I.MC okM).thr (v := 0) (by decide)
  unfold wl_30 w_L_tide w_X11_tide w_X12_tide
  refine s_ckNum (fun x0 x1 => s_ckNum (fun d0 d1 q3 e3 => ?_) (fun hb => ⟨rfl, ?_⟩)) (fun hb => ⟨rfl, ?_⟩)
  · have := qe e3 hq
    subst q3
    refine g_start C (fun X1 G1 v5 e5 => ?_)
    subst e5
    refine x_tide hN d0 d1 41 N 0 _ X1 rfl (Int.le_refl _) (by omega) G1 (fun X2 g2 G2 S2 e2 => ?_)
    subst e2
    refine a_isIn (fun _ _ => ⟨fun hc => absurd hc (by decide), fun _ => a_isIn (fun _ _ => ⟨fun _ => thrO ?_, fun hc => absurd hc (by decide)⟩) (fun hc => by omega)⟩) (fun hc => by omega)
    refine n_aside hN D (fun M1 D1 v3 e3 v4 e4 => ?_)
    subst e3; subst e4
    refine y_tide hN d0 d1 41 N 0 _ M1 rfl (Int.le_refl _) (by omega) D1 (fun M2 g3 D2 => ?_)
    exact n_back hN D D2 (fun M' D' G' => fin0 I G2.2.1 G')
  · exact a_isIn (fun _ _ => ⟨fun hc => absurd hc (by decide), fun _ => a_isIn (fun _ _ => by omega) (fun _ => ⟨fun hc => absurd rfl hc, fun _ => thrX (by decide) (finE I (by decide) (XF.rf _ _ _) (MQu.rf _))⟩)⟩) (fun hc => by omega)
  · exact a_isIn (fun _ _ => by omega) (fun _ => ⟨fun _ => thrX (by decide) (finE I (by decide) (XF.rf _ _ _) (MQu.rf _)), fun hc => absurd rfl hc⟩)
-- late
theorem bOr_assoc (x y z : Int) : bOr x (bOr y z) = bOr (bOr x y) z := by
  unfold bOr
  simp only [mI_of]
  rw [Int32.or_assoc]
def dnB (A : mLaw) (f g : mRow) : Nat → Int
  | 0 => 0
  | k + 1 => if f (94 + 2 * k) = g 9 ∧ fAll A g < f (94 + 2 * k + 1) then bOr (dnB A f g k) (bShl 1 k) else dnB A f g k
def ltL (A : mLaw) (d : Int) (f : mRow) : Nat → Int
  | 0 => 0
  | k + 1 => bOr (ltL A d f k) (dnB A f (fAhs A d f k) (f 4).toNat)
theorem dnB_okI (A : mLaw) (f g : mRow) : ∀ k, okI (dnB A f g k)
  | 0 => by unfold dnB; decide
  | k + 1 => by unfold dnB; split; exact bOr_ok _ _; exact dnB_okI A f g k
theorem ltL_okI (A : mLaw) (d : Int) (f : mRow) : ∀ k, okI (ltL A d f k)
  | 0 => by unfold ltL; decide
  | k + 1 => bOr_ok _ _
theorem fAhs_9 (h : okI (f 9)) : ∀ k : Nat, fAhs A d f k 9 = nm (f 9 + k)
  | 0 => by
    show f 9 = nm (f 9 + ((0 : Nat) : Int))
    rw [show f 9 + ((0 : Nat) : Int) = f 9 by omega, nm_id h]
  | k + 1 => by
    have ih := fAhs_9 h k
    show fAhead A d (fAhs A d f k) 9 = _
    unfold fAhead fPass
    rw [fup_at, fAirs_hi A _ (by omega) 8 (by omega), fup_ne _ _ (by decide), ih, nm_nm1]
    congr 1
    omega
theorem x_dues {Q : mSt → Int → Prop} {X0 : mSt} (hN : 5000 ≤ N) (C : CG N X0 X q q' lw lw' f g A T) (h : ∀ X', CG N X0 X' q q' lw lw' f g A T → Q X' (dnB A f g (f 4).toNat)) : w_X11_duesNotMet N 0 X Q := by
  have h4 := C.1.2.2.2.1.2.2.1
  intro v1 e1 v2 e2
  subst e1; subst e2
  refine lpUp (K := (f 4).toNat) (W := fun n' k T' => w_X11_duesNotMet_4 N Q (fun (x1_3 : Int) (S_3 : mSt) => Q S_3 x1_3) n' 0 (dnB A f g k) k T') (I := fun k T' => CG N X0 T' q q' lw lw' f g A T) (fun n' T' hI => ?_) (fun n' k T' hk hI ih => ?_) (by omega) C
  · intro q1 e1
    have := qe e1 hI.1.2.1.1
    subst q1
    rw [hI.1.2.2.1.2.1.2.2]
    exact ⟨fun _ => h T' hI, fun hc => by omega⟩
  · intro q1 e1
    have := qe e1 hI.1.2.1.1
    subst q1
    have ed := hI.1.2.2.1.2.2.2.1
    rw [hI.1.2.2.1.2.1.2.2]
    refine ⟨fun hc => by omega, fun _ q2 e2 => ?_⟩
    have := qe e2 hI.1.2.1.1
    subst q2
    unfold w_X2_dueNight
    rw [nm_of (by omega) (by omega), ed _ (by omega) (by omega), show 94 + (k : Int) * 2 = 94 + 2 * k by omega]
    have en : T' (0 + 198) 7 = g 9 := hI.2.2.1.2.1
    refine ⟨by omega, by omega, ?_⟩
    show (f (94 + 2 * k) ≠ T' (0 + 198) 7 → _) ∧ (f (94 + 2 * k) = T' (0 + 198) 7 → _)
    rw [en]
    refine ⟨fun hc v1 e1 => ?_, fun hc q4 e4 => ?_⟩
    · rw [nx8 (by omega)] at e1
      subst e1
      have e5 : dnB A f g k = dnB A f g (k + 1) := by
        show _ = if _ then _ else _
        rw [if_neg (fun z => hc z.1)]
      rw [e5]; exact ih T' hI
    · have := qe e4 hI.1.2.1.2.2.1
      subst q4
      refine g_all hN hI (fun X5 C5 q6 e6 => ?_)
      have := qe e6 C5.1.2.1.1
      subst q6
      have ed5 := C5.1.2.2.1.2.2.2.1
      unfold w_X2_dueLight
      rw [nm_of (x := (k : Int) * 2) (by omega) (by omega), nm_of (by omega) (by omega), ed5 _ (by omega) (by omega), show 94 + ((k : Int) * 2 + 1) = 94 + 2 * k + 1 by omega]
      refine ⟨by omega, by omega, fun hc2 v1 e1 => ?_, fun hc2 v8 e8 v1 e1 => ?_⟩
      · rw [nx8 (by omega)] at e1
        subst e1
        have e5 : dnB A f g k = dnB A f g (k + 1) := by
          show _ = if _ then _ else _
          rw [if_neg (fun z => by have := z.2; omega)]
        rw [e5]; exact ih X5 C5
      · rw [nx8 (by omega)] at e1
        subst e1
        have e5 : v8 = dnB A f g (k + 1) := by
          rw [e8]
          show _ = if _ then _ else _
          rw [if_pos ⟨hc, hc2⟩]
        rw [e5]; exact ih X5 C5
theorem y_late61 {Q : mSt → Int → Prop} {ko : Nat → Int → Int → Int → Int → mSt → Prop} {S : mSt} {x1 x2 x3 x4 x5 : Int} (hN : 5000 ≤ N) (h1 : S 1 = g) (h4 : g 4 = f 4) (h48 : 0 ≤ f 4 ∧ f 4 ≤ 8) (hd : ∀ j, 0 ≤ j → j < 16 → g (94 + j) = f (94 + j)) (h9 : nm (x2 + x4) = g 9) (h5 : x5 = fAll A g) (ox : okI x3) (h : ko 0 x1 x2 (bOr x3 (dnB A f g (f 4).toNat)) x4 S) : w_X12_late_61 N Q ko N 0 x1 x2 x3 x4 x5 0 S := by
  suffices H : w_X12_late_61 N Q ko N 0 x1 x2 (bOr x3 (dnB A f g 0)) x4 x5 0 S by
    rw [show bOr x3 (dnB A f g 0) = x3 from bOr_0 ox] at H
    exact H
  refine lpUp (K := (f 4).toNat) (W := fun n'' j T'' => w_X12_late_61 N Q ko n'' 0 x1 x2 (bOr x3 (dnB A f g j)) x4 x5 j T'') (I := fun j T'' => T'' = S) (fun n'' T'' hJ => ?_) (fun n'' j T'' hj hJ ihj => ?_) (by omega) rfl
  · subst hJ
    exact ⟨fun _ => h, fun hc => by rw [Nat.zero_add, h1, h4] at hc; omega⟩
  · subst hJ
    have e4 : T'' (0 + 1) 4 = f 4 := by rw [Nat.zero_add, h1, h4]
    have ea : T'' (0 + 1) (94 + 2 * j) = f (94 + 2 * j) := by rw [Nat.zero_add, h1, hd _ (by omega) (by omega)]
    have eb : T'' (0 + 1) (94 + 2 * j + 1) = f (94 + 2 * j + 1) := by
      rw [Nat.zero_add, h1, show 94 + 2 * (j : Int) + 1 = 94 + (2 * j + 1) by omega, hd _ (by omega) (by omega)]
    refine ⟨fun hc => by rw [e4] at hc; omega, fun _ => ?_⟩
    rw [nm_of (x := 2 * (j : Int)) (by omega) (by omega), nm_of (x := 94 + 2 * (j : Int)) (by omega) (by omega), nm_of (x := 94 + 2 * (j : Int) + 1) (by omega) (by omega), ea, eb, h9, h5]
    have no : ¬ (f (94 + 2 * j) = g 9 ∧ fAll A g < f (94 + 2 * j + 1)) → w_X12_late_118 N Q (w_X12_late_61 N Q ko n'') 0 x1 x2 x4 (fAll A g) j (bOr x3 (dnB A f g j)) T'' := by
      intro hno v1 e1 v2' e2
      rw [nx8 (by omega)] at e2
      rw [bOr_0 (bOr_ok _ _)] at e1
      subst e2
      have e5 : dnB A f g j = dnB A f g (j + 1) := by
        show _ = if _ then _ else _
        rw [if_neg hno]
      rw [e1, e5, ← h5]
      exact ihj T'' rfl
    refine ⟨by omega, by omega, fun hc => no (fun z => hc z.1), fun hc => ⟨by omega, by omega, fun hc2 => no (fun z => by have := z.2; omega), fun hc2 v1 e1 v2' e2 => ?_⟩⟩
    rw [nx8 (by omega)] at e2
    rw [← bOr_assoc] at e1
    subst e2
    have e5 : bOr (dnB A f g j) (bShl 1 j) = dnB A f g (j + 1) := by
      show _ = if _ then _ else _
      rw [if_pos ⟨hc, hc2⟩]
    rw [e1, e5, ← h5]
    exact ihj T'' rfl
theorem y_lateQ {Q : mSt → Int → Prop} (hN : 5000 ≤ N) (C : MC N M f A) (d0 : 0 ≤ d) (d1 : d ≤ 9) (hQ : ∀ M', MQu (mup M 0 0 0) M' → Q M' (ltL A d f 41)) : w_X12_late N 0 d M Q := by
  have D := C.thr (v := 0) (by decide)
  have h4 := C.2.2.1.2.2.1
  have o9 : okI (f 9) := C.2.2.1.1.1.2.2
  unfold w_X12_late
  refine a_isIn (fun _ _ => ⟨fun _ => thrO ?_, fun hc => absurd hc (by decide)⟩) (fun hc => by omega)
  refine n_aside hN D (fun M1 D1 v3 e3 v4 e4 v5 e5 => ?_)
  have e9 : M1 (0 + 1) 9 = f 9 := by rw [Nat.zero_add, D1.2.1]
  rw [e9] at e3
  subst e3; subst e4; subst e5
  refine lpUp (K := 41) (W := fun n' k T' => w_X12_late_45 N Q (fun (r0_6 : Nat) (x3_6 : Int) (S_6 : mSt) => w_X12_comesBack N r0_6 S_6 (fun (S7 : mSt) => Q S7 x3_6)) n' 0 d (f 9) (ltL A d f k) k T') (I := fun k T' => MGd N (mup M 0 0 0) T' f (fAhs A d f k) A) (fun n' T' hI => ?_) (fun n' k T' hk hI ih => ?_) (by omega) D1
  · exact ⟨fun _ => n_back hN D hI (fun M' D' G' => hQ M' G'), fun hc => by omega⟩
  · refine ⟨fun hc => by omega, fun _ => n_all hN hI (fun M2 D2 v2 e2 v3 e3 => ?_)⟩
    subst e3
    have hh : ∀ j : Int, j < 14 ∨ 62 ≤ j → j ≠ 5 → j ≠ 9 → j ≠ 10 → fAhs A d f k j = f j := fun j a b c e => fAhs_hi A f a b c e k
    refine y_late61 (f := f) hN D2.2.1 (hh 4 (by decide) (by decide) (by decide) (by decide)) h4 (fun j a b => hh _ (by omega) (by omega) (by omega) (by omega)) (fAhs_9 o9 k).symm e2 (ltL_okI A d f k) ?_
    refine n_ahead hN D2 d0 d1 (fun M3 D3 v6 e6 => ?_)
    rw [nx8 (by omega)] at e6
    subst e6
    exact ih M3 D3
theorem x_late25 {Q : mSt → Int → Prop} {E : String → mSt → Prop} {X0 : mSt} (hN : 5000 ≤ N) (C : CG N X0 X q q' lw lw' f f A T) (d0 : 0 ≤ d) (d1 : d ≤ 9) (h : ∀ X', XF q' lw X0 X' → Q X' (ltL A d f 41)) : w_X11_late_25 N Q E (fun (x2_6 : Int) (S_6 : mSt) => Q S_6 x2_6) N 0 d 0 0 X := by
  refine lpUp (K := 41) (W := fun n' k T' => w_X11_late_25 N Q E (fun (x2_6 : Int) (S_6 : mSt) => Q S_6 x2_6) n' 0 d (ltL A d f k) k T') (I := fun k T' => CG N X0 T' q q' lw lw' f (fAhs A d f k) A T) (fun n' T' hI => ?_) (fun n' k T' hk hI ih => ?_) (by omega) C
  · exact ⟨fun _ => h T' hI.2.1, fun hc => by omega⟩
  · refine ⟨fun hc => by omega, fun _ => x_dues hN hI (fun X2 C2 v2 e2 q3 e3 => ?_)⟩
    have := qe e3 C2.1.2.1.2.2.1
    subst q3
    refine g_ahead hN C2 d0 d1 (fun X3 C3 v5 e5 => ?_)
    rw [nx8 (by omega)] at e5
    subst e5
    rw [e2]
    exact ih X3 C3
theorem k_31 (hN : 5000 ≤ N) (I : IV N n X M q q' lw lw' P) (okX : okS X) (okM : okS M) : wl_31 N a1 a2 a3 a4 a5 X M (fun X1 M1 => Inv N (n + 1) X1 M1) := by
  obtain ⟨⟨hq, -, hlw, -⟩, -, -, -, hR, -⟩ := id I
  have C := I.CQ (by omega) okX
  unfold wl_31 w_L_late w_X11_late
  refine s_ckNum (fun d0 d1 q3 e3 => ?_) (fun hb => ⟨rfl, ?_⟩)
  · have := qe e3 hq
    subst q3
    refine g_start C (fun X1 G1 v4 e4 v5 e5 => ?_)
    subst e4; subst e5
    refine x_late25 hN G1 d0 d1 (fun X2 F2 S2 e2 => ?_)
    subst e2
    exact y_lateQ hN (I.MC okM) d0 d1 (fun M' G' => fin0 I F2 G')
  · exact a_isIn (fun _ _ => by omega) (fun _ => ⟨fun hc => absurd rfl hc, fun _ => thrX (by decide) (finE I (by decide) (XF.rf _ _ _) (MQu.rf _))⟩)
-- trial, span
def fStains (f : mRow) : Nat → Int
  | 0 => 0
  | k + 1 => fStains f k + pc (f (14 + 6 * k + 3))
theorem fStains_ok (f : mRow) : ∀ k : Nat, 0 ≤ fStains f k ∧ fStains f k ≤ 8 * k
  | 0 => by unfold fStains; omega
  | k + 1 => by
    have := fStains_ok f k
    have := pc_le (f (14 + 6 * k + 3))
    unfold fStains
    omega
theorem s_stains {Q : mSt → Int → Prop} {S : mSt} {r : Nat} (hN : 5000 ≤ N) (hM : RM S r g) (hR : RO g) (h : Q S (fStains g 8)) : w_X5_allStains N r S Q := by
  intro v1 e1 v2 e2
  subst e1; subst e2
  refine lpUp (K := 8) (W := fun n k T => w_X5_allStains_4 N Q (fun (x1_3 : Int) (S_3 : mSt) => Q S_3 x1_3) n r (fStains g k) k T) (I := fun k X' => X' = S) (fun n X' hI => ?_) (fun n k X' hk hI ih => ?_) (by omega) rfl
  · subst hI; exact ⟨fun _ => h, fun hc => by omega⟩
  · subst hI
    have hg := (hR.at (p := (k : Int)) (by omega) (by omega)).2.2.2.1
    refine ⟨fun hc => by omega, fun _ => ⟨by omega, by omega, ?_⟩⟩
    rw [(hM.1 k (by omega) (by omega)).2.2.2.1]
    refine s_bitCount hg.1 (by omega) (fun v3 e3 v4 e4 => ?_)
    have hs := fStains_ok g k
    have hp := pc_le (g (14 + 6 * k + 3))
    rw [nx8 (by omega)] at e4
    rw [nm_of (by omega) (by omega)] at e3
    subst e4
    rw [show v3 = fStains g (k + 1) from e3]
    exact ih X' rfl
theorem y_stains {Q : mSt → Int → Prop} {S : mSt} (hN : 5000 ≤ N) (h1 : S 1 = g) (hR : RO g) (h : Q S (fStains g 8)) : w_X12_stains N 0 S Q := by
  intro v1 e1 v2 e2
  subst e1; subst e2
  refine lpUp (K := 8) (W := fun n k T => w_X12_stains_4 N Q (fun (x1_3 : Int) (S_3 : mSt) => Q S_3 x1_3) n 0 (fStains g k) k T) (I := fun k X' => X' = S) (fun n X' hI => ?_) (fun n k X' hk hI ih => ?_) (by omega) rfl
  · subst hI; exact ⟨fun _ => h, fun hc => by omega⟩
  · subst hI
    have hg := (hR.at (p := (k : Int)) (by omega) (by omega)).2.2.2.1
    refine ⟨fun hc => by omega, fun _ => a_of (by omega) (by omega) (by omega) (by omega) ?_⟩
    rw [h1]
    refine s_bits (by omega) hg.1 (by omega) (fun v3 e3 v4 e4 => ?_)
    have hs := fStains_ok g k
    have hp := pc_le (g (14 + 6 * k + 3))
    rw [nx8 (by omega)] at e4
    rw [nm_of (by omega) (by omega)] at e3
    subst e4
    rw [show v3 = fStains g (k + 1) from e3]
    exact ih X' rfl
theorem RY.seedAt {S : mSt} {r : Nat} {v : Int} (h : RY S r f) : RY (mup S r 10 v) r (fup f 12 v) := h.seed
/-- trying nights, in the class -/
theorem x_try {Q : mSt → Prop} {m : Nat} {v : Int} (hN : 5000 ≤ N) (hm : m ≤ 40) (hP : PG P) (hlw : LWR X lw P) (C : CQ N X q q' lw lw' f (AP P) T) (ov : okI v) (h : ∀ X', CQ N X' q q' lw lw' f (AP P) T → XF q' lw X X' → LWR X' lw P → RM X' (q' + 1) (fNs (AP P) (fup f 12 v) m) → Q X') : w_X11_tryNights N 0 m v X Q := by
  obtain ⟨ok, ⟨k1, k2, k3, k4, k5, k6⟩, hL, hR, hB, hX⟩ := id C
  intro q1 e1 q2 e2
  have := qe e1 k2
  have := qe e2 k1
  subst q1 q2
  refine s_become2 (by omega) ok (fun X1 ok1 c1 k1' q4 e4 X5 e5 v6 e6 => ?_)
  have x01 : X1 0 = X 0 := k1' 0 (by omega)
  have := qe e4 (by rw [x01]; exact k2)
  subst q4
  subst e6
  have hY : RY X5 q' (fup f 12 v) := by rw [e5]; exact ((hL.copy hR c1).1).seed
  have hR' : RN (fup f 12 v) := ⟨hR.1.1.other (by decide) (by decide) (by decide), by rw [fup_ne _ _ (by decide)]; exact hR.1.2.1, by rw [fup_ne _ _ (by decide)]; exact hR.1.2.2⟩
  have ok5 : okS X5 := by rw [e5]; exact okS_up ok1 ov
  have F5 : XF q' lw X X5 := fun r a b c e => by rw [e5, mup_ne _ _ _ (by omega)]; exact k1' r (by omega)
  have lw5 : LWR X5 lw P := hlw.of hP.1 (by rw [F5 lw (by omega) (by omega) (by omega) (by omega)]) (fun j a b i _ _ => by rw [F5 _ (by omega) (by omega) (by omega) (by omega)]) (fun i _ _ => by rw [F5 _ (by omega) (by omega) (by omega) (by omega)])
  refine lpUp (K := m) (W := fun n' k T' => w_X11_tryNights_21 N Q (fun (S_7 : mSt) => Q S_7) n' 0 m k T') (I := fun k T' => okS T' ∧ RY T' q' (fNs (AP P) (fup f 12 v) k) ∧ XF q' lw X T') (fun n' T' hI => ?_) (fun n' k T' hk hI ih => ?_) (by omega) ⟨ok5, hY, F5⟩
  · obtain ⟨i1, i2, i3⟩ := hI
    have lwT : LWR T' lw P := hlw.of hP.1 (by rw [i3 lw (by omega) (by omega) (by omega) (by omega)]) (fun j a b i _ _ => by rw [i3 _ (by omega) (by omega) (by omega) (by omega)]) (fun i _ _ => by rw [i3 _ (by omega) (by omega) (by omega) (by omega)])
    exact ⟨fun _ => h T' (C.of i1 i3) i3 lwT i2.1, fun hc => by omega⟩
  · obtain ⟨i1, i2, i3⟩ := hI
    have T0 : T' 0 = X 0 := i3 0 (by omega) (by omega) (by omega) (by omega)
    refine ⟨fun hc => by omega, fun _ q1 e1 q2 e2 => ?_⟩
    have := qe e1 (by rw [T0]; exact k2)
    have := qe e2 (by rw [T0]; exact k3)
    subst q1 q2
    have lwT : LWR T' lw P := hlw.of hP.1 (by rw [i3 lw (by omega) (by omega) (by omega) (by omega)]) (fun j a b i _ _ => by rw [i3 _ (by omega) (by omega) (by omega) (by omega)]) (fun i _ _ => by rw [i3 _ (by omega) (by omega) (by omega) (by omega)])
    refine s_night (by omega) (lwT.LX (by omega) hP) hB i1 i2 (fNs_RN hB hR' k) (by omega) (fun T2 ok2 h2 k2' v4 e4 => ?_)
    rw [nx8 (by omega)] at e4
    subst e4
    refine ih T2 ⟨ok2, h2, fun r a b c e => ?_⟩
    rw [k2'.1 r (by omega) a b]
    exact i3 r a b c e
theorem fNs_hi' {A : mLaw} {f : mRow} {v j : Int} (hj : j < 0 ∨ 350 ≤ j) (k : Nat) : fNs A (fup f 12 v) k j = f j := by
  rw [fNs_hi (by omega) (by omega) (by omega) (by omega) (by omega) k, fup_ne _ _ (by omega)]
/-- trying nights, in the reference -/
theorem n_goes {Q : mSt → Int → Prop} {M0 S : mSt} {m : Nat} {v : Int} (hN : 5000 ≤ N) (hm : m ≤ 40) (C : MGd N M0 M f f A) (ov : okI v) (e : S = mup M 1 12 v) (h : ∀ M' c, MGd N M0 M' f (fNs A (fup f 12 v) m) A → Q M' c) : w_X12_goes N 0 m S Q := by
  obtain ⟨ok, h1, hR, hB, hL, hP, h4, hx⟩ := C
  have e1 : S 1 = fup f 12 v := by rw [e, mup_1, h1]
  have hR' : RN (fup f 12 v) := ⟨hR.1.other (by decide) (by decide) (by decide), by rw [fup_ne _ _ (by decide)]; exact hR.2.1, by rw [fup_ne _ _ (by decide)]; exact hR.2.2⟩
  have hL' : LM N (fup f 12 v) A := hL.of (fup_ne _ _ (by decide)) (fup_ne _ _ (by decide)) (fun k hk _ => fup_ne _ _ (by omega))
  refine y_goes (A := A) hN (by omega) (by rw [e1]; exact hL') hB (by rw [e]; exact okS_up ok ov) (by rw [e1]; exact hR') (fun S' ok' h' k' => ?_)
  rw [e1] at h' ⊢
  refine h S' _ ⟨ok', h', fNs_RN hB hR' m, hB, fNs_LM hL' m, ?_, fun k a b => ?_, fun k hk => fNs_hi' hk m⟩
  · have : MPu M S := by rw [e]; exact MPu.up (by omega)
    exact (hP.tr this).tr k'.p
  · rw [k'.1 4 (by decide) (by decide) (by decide), e, mup_ne _ _ _ (by decide)]
    exact h4 k a b
theorem fup_self (f : mRow) (i : Int) : fup f i (f i) = f := by
  funext k
  unfold fup
  split
  · next h => rw [h]
  · rfl
theorem mup_self (S : mSt) (r : Nat) (i : Int) : mup S r i (S r i) = S := by
  funext r' i'
  unfold mup
  split
  · next h => rw [h.1, h.2]
  · rfl
theorem k_36 (hN : 5000 ≤ N) (I : IV N n X M q q' lw lw' P) (okX : okS X) (okM : okS M) : wl_36 N a1 a2 a3 a4 a5 X M (fun X1 M1 => Inv N (n + 1) X1 M1) := by
  obtain ⟨⟨hq, -, hlw, -, k5, k6⟩, -, -, hL, hR, ⟨pg, plw, -, -⟩, -⟩ := id I
  have C := I.CQ (by omega) okX
  have D := (I.MC okM).thr (v := 0) (by decide)
  unfold wl_36 w_L_trial w_X11_trial w_X12_trial
  generalize bI a2 = b2
  refine s_ckNum (fun n0 n1 q2 e2 => ?_) (fun hb => ⟨rfl, ?_⟩)
  · have := qe e2 hq
    subst q2
    obtain ⟨m, rfl⟩ : ∃ m : Nat, a1 = m := ⟨a1.toNat, by omega⟩
    have e12 : X q 10 = M 1 12 := hL.1.2.2.2.2.2
    rw [e12]
    have o12 : okI (M 1 12) := okM _ _
    refine x_try hN (by omega) pg plw C o12 (fun X3 C3 F3 lw3 m3 => ?_)
    rw [fup_self] at m3
    have hB := C.2.2.2.2.1
    have hRn := fNs_RN hB hR.1 m
    have md : ∀ (X' : mSt) (v : Int), XF q' lw X X' → v = (if b2 = 0 then fAll (AP P) (fNs (AP P) (M 1) m) else fStains (fNs (AP P) (M 1) m) 8) → ∀ S2 : mSt, S2 = mup X' 250 0 v → w_X12_isIn N m 0 40 M (fun (S1 : mSt) (v1 : Int) => ((v1 ≠ 0 → w_X12_trial_16 N (fun (M2 : mSt) (v2 : Int) => w_X12_thrown N 0 M2 (fun (M3 : mSt) (v3 : Int) => v3 = 0 ∧ ((0 : Int) = 0 → (S2 250 0) = v2) ∧ Inv N (n + 1) S2 M3)) 0 m b2 0 0 S1) ∧ (v1 = 0 → w_X12_trial_16 N (fun (M2 : mSt) (v2 : Int) => w_X12_thrown N 0 M2 (fun (M3 : mSt) (v3 : Int) => v3 = 0 ∧ ((0 : Int) = 0 → (S2 250 0) = v2) ∧ Inv N (n + 1) S2 M3)) 0 m b2 1 0 S1))) := by
      intro X' v F' ev S2 e2
      subst e2
      refine a_isIn (fun _ _ => ⟨fun _ => thrO ?_, fun hc => absurd hc (by decide)⟩) (fun hc => by omega)
      refine n_aside hN D (fun M1 D1 => ?_)
      refine n_goes hN (by omega) D1 (v := M 1 12) o12 (by rw [← D1.2.1, mup_self]) (fun M2 c D2 v4 e4 => ?_)
      rw [fup_self] at D2
      refine ⟨fun hb => n_all hN D2 (fun M3 D3 v1 e1 => n_back hN D D3 (fun M' D' G' => ?_)), fun hb => y_stains hN D2.2.1 D2.2.2.1.1 (fun v1 e1 => n_back hN D D2 (fun M' D' G' => ?_))⟩
      · rw [if_pos hb] at ev
        rw [e1, ← ev]
        exact fin0 I F' G'
      · rw [if_neg hb] at ev
        rw [e1, ← ev]
        exact fin0 I F' G'
    refine ⟨fun hb q4 e4 q5 e5 => ?_, fun hb q7 e7 => ?_⟩
    · have := qe e4 C3.2.1.2.2.1
      have := qe e5 C3.2.1.2.1
      subst q4 q5
      refine s_all (by omega) C3.2.2.2.2.2 hB C3.1 m3 hRn.1 (by omega) (fun X4 ok4 k4 => md X4 _ (F3.tr (C3.fr k4)) ?_)
      rw [if_pos hb]
    · have := qe e7 C3.2.1.2.1
      subst q7
      refine s_stains hN m3 hRn.1 (md X3 _ F3 ?_)
      rw [if_neg hb]
  · exact a_isIn (fun _ _ => by omega) (fun _ => ⟨fun hc => absurd rfl hc, fun _ => thrX (by decide) (finE I (by decide) (XF.rf _ _ _) (MQu.rf _))⟩)
end tide
