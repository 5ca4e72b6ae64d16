set_option maxHeartbeats 400000
set_option maxRecDepth 20000
/-! ===== the pure part: tide, late, trial, span, dried ===== -/
def tdL (A : mLaw) (d x : Int) : Nat → Int → mRow → Int
  | 0, _, _ => -1
  | k + 1, n, g => if x ≤ fAll A g then n else tdL A d x k (n + 1) (fAhead A d g)
section tide
variable {N n : Nat} {X M : mSt} {q q' lw lw' : Nat} {f g : mRow} {A : mLaw} {P : mPrg} {a1 a2 a3 a4 a5 : Int} {T : Int} {p s d x : Int}
theorem x_tide {Q : mSt → Int → Prop} {E : String → mSt → Prop} {X0 : mSt} (hN : 5000 ≤ N) (d0 : 0 ≤ d) (d1 : d ≤ 9) : ∀ (k m : Nat) (j : Int) (g : mRow) (X : mSt), (k : Int) + j = 41 → 0 ≤ j → k < m → CG N X0 X q q' lw lw' f g A T → (∀ X' g', CG N X0 X' q q' lw lw' f g' A T → Q X' (tdL A d x k j g)) → w_X11_tide_31 N Q E (fun (S_6 : mSt) => Q S_6 (-1)) m 0 x d j X := by
  intro k
  induction k with
  | zero =>
    intro m j g X hj j0 hm C h
    obtain ⟨m, rfl⟩ : ∃ m', m = m' + 1 := ⟨m - 1, by omega⟩
    exact ⟨fun _ => h X g C, fun hc => by omega⟩
  | succ k ih =>
    intro m j g X hj j0 hm C h
    obtain ⟨m, rfl⟩ : ∃ m', m = m' + 1 := ⟨m - 1, by omega⟩
    refine ⟨fun hc => by omega, fun _ q1 e1 => ?_⟩
    have := qe e1 C.1.2.1.2.2.1
    subst q1
    refine g_all hN C (fun X2 C2 => ⟨fun hc q3 e3 => ?_, fun hc => ?_⟩)
    · have := qe e3 C2.1.2.1.2.2.1
      subst q3
      refine g_ahead hN C2 d0 d1 (fun X3 C3 v5 e5 => ?_)
      rw [nm_of (by omega) (by omega)] at e5
      subst e5
      refine ih m (j + 1) _ X3 (by omega) (by omega) (by omega) C3 (fun X' g' C' => ?_)
      have := h X' g' C'
      unfold tdL at this
      rw [if_neg (by omega)] at this
      exact this
    · have := h X2 g C2
      unfold tdL at this
      rw [if_pos hc] at this
      exact this
theorem y_tide {Q : mSt → Int → Prop} {ko : Nat → Int → mSt → Prop} {M0 : mSt} (hN : 5000 ≤ N) (d0 : 0 ≤ d) (d1 : d ≤ 9) : ∀ (k m : Nat) (j : Int) (g : mRow) (M : mSt), (k : Int) + j = 41 → 0 ≤ j → k < m → MGd N M0 M f g A → (∀ M' g', MGd N M0 M' f g' A → ko 0 (tdL A d x k j g) M') → w_X12_tide_48 N Q ko m 0 x d (-1) j M := by
  intro k
  induction k with
  | zero =>
    intro m j g M hj j0 hm C h
    obtain ⟨m, rfl⟩ : ∃ m', m = m' + 1 := ⟨m - 1, by omega⟩
    exact ⟨fun _ => h M g C, fun hc => by omega⟩
  | succ k ih =>
    intro m j g M hj j0 hm C h
    obtain ⟨m, rfl⟩ : ∃ m', m = m' + 1 := ⟨m - 1, by omega⟩
    refine ⟨fun hc => by omega, fun _ => ⟨fun hc => absurd rfl hc, fun _ => n_all hN C (fun M2 C2 => ⟨fun hc => ?_, fun hc v2 e2 => ?_⟩)⟩⟩
    · refine n_ahead hN C2 d0 d1 (fun M3 C3 v5 e5 => ?_)
      rw [nm_of (by omega) (by omega)] at e5
      subst e5
      refine ih m (j + 1) _ M3 (by omega) (by omega) (by omega) C3 (fun M' g' C' => ?_)
      have := h M' g' C'
      unfold tdL at this
      rw [if_neg (by omega)] at this
      exact this
    · refine n_ahead hN C2 d0 d1 (fun M3 C3 v5 e5 => ?_)
      have := h M3 _ C3
      unfold tdL at this
      rw [if_pos hc] at this
      rw [nm_of (by omega) (by omega)] at e5
      obtain ⟨m, rfl⟩ : ∃ m', m = m' + 1 := ⟨m - 1, by omega⟩
      rw [e2]
      refine ⟨fun _ => this, fun _ => ⟨fun _ => this, fun hc2 => by omega⟩⟩
theorem k_30 (hN : 5000 ≤ N) (I : IV N n X M q q' lw lw' P) (okX : okS X) (okM : okS M) : wl_30 N a1 a2 a3 a4 a5 X M (fun X1 M1 => Inv N (n + 1) X1 M1) := by
  obtain ⟨⟨hq, -, hlw, -⟩, -⟩ := id I
  have C := I.CQ (by omega) okX
  have D := (I.MC okM).thr (v := 0) (by decide)
  unfold wl_30 w_L_tide w_X11_tide w_X12_tide
  refine s_ckNum (fun x0 x1 => s_ckNum (fun d0 d1 q3 e3 => ?_) (fun hb => ⟨rfl, ?_⟩)) (fun hb => ⟨rfl, ?_⟩)
  · have := qe e3 hq
    subst q3
    refine g_start C (fun X1 G1 v5 e5 => ?_)
    subst e5
    refine x_tide hN d0 d1 41 N 0 _ X1 rfl (Int.le_refl _) (by omega) G1 (fun X2 g2 G2 S2 e2 => ?_)
    subst e2
    refine a_isIn (fun _ _ => ⟨fun hc => absurd hc (by decide), fun _ => a_isIn (fun _ _ => ⟨fun _ => thrO ?_, fun hc => absurd hc (by decide)⟩) (fun hc => by omega)⟩) (fun hc => by omega)
    refine n_aside hN D (fun M1 D1 v3 e3 v4 e4 => ?_)
    subst e3; subst e4
    refine y_tide hN d0 d1 41 N 0 _ M1 rfl (Int.le_refl _) (by omega) D1 (fun M2 g3 D2 => ?_)
    exact n_back hN D D2 (fun M' D' G' => fin0 I G2.2.1 G')
  · exact a_isIn (fun _ _ => ⟨fun hc => absurd hc (by decide), fun _ => a_isIn (fun _ _ => by omega) (fun _ => ⟨fun hc => absurd rfl hc, fun _ => thrX (by decide) (finE I (by decide) (XF.rf _ _ _) (MQu.rf _))⟩)⟩) (fun hc => by omega)
  · exact a_isIn (fun _ _ => by omega) (fun _ => ⟨fun _ => thrX (by decide) (finE I (by decide) (XF.rf _ _ _) (MQu.rf _)), fun hc => absurd rfl hc⟩)
-- late
theorem bOr_assoc (x y z : Int) : bOr x (bOr y z) = bOr (bOr x y) z := by
  unfold bOr
  simp only [mI_of]
  rw [Int32.or_assoc]
def dnB (A : mLaw) (f g : mRow) : Nat → Int
  | 0 => 0
  | k + 1 => if f (94 + 2 * k) = g 9 ∧ fAll A g < f (94 + 2 * k + 1) then bOr (dnB A f g k) (bShl 1 k) else dnB A f g k
def ltL (A : mLaw) (d : Int) (f : mRow) : Nat → Int
  | 0 => 0
  | k + 1 => bOr (ltL A d f k) (dnB A f (fAhs A d f k) (f 4).toNat)
theorem dnB_okI (A : mLaw) (f g : mRow) : ∀ k, okI (dnB A f g k)
  | 0 => by unfold dnB; decide
  | k + 1 => by unfold dnB; split; exact bOr_ok _ _; exact dnB_okI A f g k
theorem ltL_okI (A : mLaw) (d : Int) (f : mRow) : ∀ k, okI (ltL A d f k)
  | 0 => by unfold ltL; decide
  | k + 1 => bOr_ok _ _
theorem fAhs_9 (h : okI (f 9)) : ∀ k : Nat, fAhs A d f k 9 = nm (f 9 + k)
  | 0 => by
    show f 9 = nm (f 9 + ((0 : Nat) : Int))
    rw [show f 9 + ((0 : Nat) : Int) = f 9 by omega, nm_id h]
  | k + 1 => by
    have ih := fAhs_9 h k
    show fAhead A d (fAhs A d f k) 9 = _
    unfold fAhead fPass
    rw [fup_at, fAirs_hi A _ (by omega) 8 (by omega), fup_ne _ _ (by decide), ih, nm_nm1]
    congr 1
    omega
theorem x_dues {Q : mSt → Int → Prop} {X0 : mSt} (hN : 5000 ≤ N) (C : CG N X0 X q q' lw lw' f g A T) (h : ∀ X', CG N X0 X' q q' lw lw' f g A T → Q X' (dnB A f g (f 4).toNat)) : w_X11_duesNotMet N 0 X Q := by
  have h4 := C.1.2.2.2.1.2.2.1
  intro v1 e1 v2 e2
  subst e1; subst e2
  refine lpUp (K := (f 4).toNat) (W := fun n' k T' => w_X11_duesNotMet_4 N Q (fun (x1_3 : Int) (S_3 : mSt) => Q S_3 x1_3) n' 0 (dnB A f g k) k T') (I := fun k T' => CG N X0 T' q q' lw lw' f g A T) (fun n' T' hI => ?_) (fun n' k T' hk hI ih => ?_) (by omega) C
  · intro q1 e1
    have := qe e1 hI.1.2.1.1
    subst q1
    rw [hI.1.2.2.1.2.1.2.2]
    exact ⟨fun _ => h T' hI, fun hc => by omega⟩
  · intro q1 e1
    have := qe e1 hI.1.2.1.1
    subst q1
    have ed := hI.1.2.2.1.2.2.2.1
    rw [hI.1.2.2.1.2.1.2.2]
    refine ⟨fun hc => by omega, fun _ q2 e2 => ?_⟩
    have := qe e2 hI.1.2.1.1
    subst q2
    unfold w_X2_dueNight
    rw [nm_of (by omega) (by omega), ed _ (by omega) (by omega), show 94 + (k : Int) * 2 = 94 + 2 * k by omega]
    have en : T' (0 + 198) 7 = g 9 := hI.2.2.1.2.1
    rw [en]
    refine ⟨by omega, by omega, fun hc v1 e1 => ?_, fun hc q4 e4 => ?_⟩
    · rw [nx8 (by omega)] at e1
      subst e1
      have e5 : dnB A f g k = dnB A f g (k + 1) := by
        show _ = if _ then _ else _
        rw [if_neg (fun z => hc z.1)]
      rw [e5]; exact ih T' hI
    · have := qe e4 hI.1.2.1.2.2.1
      subst q4
      refine g_all hN hI (fun X5 C5 q6 e6 => ?_)
      have := qe e6 C5.1.2.1.1
      subst q6
      have ed5 := C5.1.2.2.1.2.2.2.1
      unfold w_X2_dueLight
      rw [nm_of (x := (k : Int) * 2) (by omega) (by omega), nm_of (by omega) (by omega), ed5 _ (by omega) (by omega), show 94 + ((k : Int) * 2 + 1) = 94 + 2 * k + 1 by omega]
      refine ⟨by omega, by omega, fun hc2 v1 e1 => ?_, fun hc2 v8 e8 v1 e1 => ?_⟩
      · rw [nx8 (by omega)] at e1
        subst e1
        have e5 : dnB A f g k = dnB A f g (k + 1) := by
          show _ = if _ then _ else _
          rw [if_neg (fun z => by have := z.2; omega)]
        rw [e5]; exact ih X5 C5
      · rw [nx8 (by omega)] at e1
        subst e1
        have e5 : v8 = dnB A f g (k + 1) := by
          rw [e8]
          show _ = if _ then _ else _
          rw [if_pos ⟨hc, hc2⟩]
        rw [e5]; exact ih X5 C5
theorem k_31 (hN : 5000 ≤ N) (I : IV N n X M q q' lw lw' P) (okX : okS X) (okM : okS M) : wl_31 N a1 a2 a3 a4 a5 X M (fun X1 M1 => Inv N (n + 1) X1 M1) := by
  obtain ⟨⟨hq, -, hlw, -⟩, -, -, -, hR, -⟩ := id I
  have C := I.CQ (by omega) okX
  have D := (I.MC okM).thr (v := 0) (by decide)
  have h4 := hR.2.2.1
  unfold wl_31 w_L_late w_X11_late w_X12_late
  refine s_ckNum (fun d0 d1 q3 e3 => ?_) (fun hb => ⟨rfl, ?_⟩)
  · have := qe e3 hq
    subst q3
    refine g_start C (fun X1 G1 v4 e4 v5 e5 => ?_)
    subst e4; subst e5
    have model : ∀ (Q : mSt → Int → Prop), (∀ M', MQu (mup M 0 0 0) M' → Q M' (ltL (AP P) a1 (M 1) 41)) → w_X12_isIn N a1 0 9 M (fun (S1 : mSt) (v1 : Int) => ((v1 ≠ 0 → w_X12_late_16 N Q 0 a1 0 0 S1) ∧ (v1 = 0 → w_X12_late_16 N Q 0 a1 1 0 S1))) := by
      intro Q hQ
      refine a_isIn (fun _ _ => ⟨fun _ => thrO ?_, fun hc => absurd hc (by decide)⟩) (fun hc => by omega)
      refine n_aside hN D (fun M1 D1 v3 e3 v4 e4 v5 e5 => ?_)
      have e9 : M1 (0 + 1) 9 = M 1 9 := by rw [Nat.zero_add, D1.2.1]
      rw [e9] at e3
      subst e3; subst e4; subst e5
      refine lpUp (K := 41) (W := fun n' k T' => w_X12_late_45 N Q (fun (r0_6 : Nat) (x3_6 : Int) (S_6 : mSt) => w_X12_comesBack N r0_6 S_6 (fun (S7 : mSt) => Q S7 x3_6)) n' 0 a1 (M 1 9) (ltL (AP P) a1 (M 1) k) k T') (I := fun k T' => MGd N (mup M 0 0 0) T' (M 1) (fAhs (AP P) a1 (M 1) k) (AP P)) (fun n' T' hI => ?_) (fun n' k T' hk hI ih => ?_) (by omega) D1
      · exact ⟨fun _ => n_back hN D hI (fun M' D' G' => hQ M' G'), fun hc => by omega⟩
      · refine ⟨fun hc => by omega, fun _ => n_all hN hI (fun M2 D2 v2 e2 v3 e3 => ?_)⟩
        subst e3
        have e2' : v2 = fAll (AP P) (fAhs (AP P) a1 (M 1) k) := e2
        have hx := ltL_okI (AP P) a1 (M 1) k
        have hh : ∀ j : Int, j < 14 ∨ 62 ≤ j → j ≠ 5 → j ≠ 9 → j ≠ 10 → fAhs (AP P) a1 (M 1) k j = M 1 j := fun j a b c e => fAhs_hi (AP P) (M 1) a b c e k
        have o9 : okI (M 1 9) := hR.1.1.2.2
        have n9 := fAhs_9 (A := AP P) (d := a1) o9 k
        refine lpUp (K := (M 1 4).toNat) (W := fun n'' j T'' => w_X12_late_61 N Q (fun (r0_4 : Nat) (x1_4 : Int) (x2_4 : Int) (x3_4 : Int) (x4_4 : Int) (S_4 : mSt) => w_X12_ahead N r0_4 x1_4 S_4 (fun (S5 : mSt) => ∀ v6 : Int, v6 = nm (x4_4 + 1) → w_X12_late_45 N Q (fun (r0_6 : Nat) (x3_6 : Int) (S_6 : mSt) => w_X12_comesBack N r0_6 S_6 (fun (S7 : mSt) => Q S7 x3_6)) n' r0_4 x1_4 x2_4 x3_4 v6 S5)) n'' 0 a1 (M 1 9) (bOr (ltL (AP P) a1 (M 1) k) (dnB (AP P) (M 1) (fAhs (AP P) a1 (M 1) k) j)) k v2 j T'') (I := fun j T'' => T'' = M2) (fun n'' T'' hJ => ?_) (fun n'' j T'' hj hJ ihj => ?_) (by omega) rfl |> fun z => ?_
        · subst hJ
          refine ⟨fun _ => n_ahead hN D2 d0 d1 (fun M3 D3 v6 e6 => ?_), fun hc => by rw [Nat.zero_add, D2.2.1, hh 4 (by decide) (by decide) (by decide) (by decide)] at hc; omega⟩
          rw [nx8 (by omega)] at e6
          subst e6
          exact ih M3 D3
        · subst hJ
          have e4 : T'' (0 + 1) 4 = M 1 4 := by rw [Nat.zero_add, D2.2.1, hh 4 (by decide) (by decide) (by decide) (by decide)]
          have ea : T'' (0 + 1) (94 + 2 * j) = M 1 (94 + 2 * j) := by rw [Nat.zero_add, D2.2.1, hh _ (by omega) (by omega) (by omega) (by omega)]
          have eb : T'' (0 + 1) (94 + 2 * j + 1) = M 1 (94 + 2 * j + 1) := by rw [Nat.zero_add, D2.2.1, hh _ (by omega) (by omega) (by omega) (by omega)]
          refine ⟨fun hc => by rw [e4] at hc; omega, fun _ => ?_⟩
          rw [nm_of (x := 2 * (j : Int)) (by omega) (by omega), nm_of (x := 94 + 2 * (j : Int)) (by omega) (by omega), nm_of (x := 94 + 2 * (j : Int) + 1) (by omega) (by omega), ea, eb, ← n9, e2']
          have no : ¬ (M 1 (94 + 2 * j) = fAhs (AP P) a1 (M 1) k 9 ∧ fAll (AP P) (fAhs (AP P) a1 (M 1) k) < M 1 (94 + 2 * j + 1)) → w_X12_late_118 N Q (w_X12_late_61 N Q (fun (r0_4 : Nat) (x1_4 : Int) (x2_4 : Int) (x3_4 : Int) (x4_4 : Int) (S_4 : mSt) => w_X12_ahead N r0_4 x1_4 S_4 (fun (S5 : mSt) => ∀ v6 : Int, v6 = nm (x4_4 + 1) → w_X12_late_45 N Q (fun (r0_6 : Nat) (x3_6 : Int) (S_6 : mSt) => w_X12_comesBack N r0_6 S_6 (fun (S7 : mSt) => Q S7 x3_6)) n' r0_4 x1_4 x2_4 x3_4 v6 S5)) n'') 0 a1 (M 1 9) k (fAll (AP P) (fAhs (AP P) a1 (M 1) k)) j (bOr (ltL (AP P) a1 (M 1) k) (dnB (AP P) (M 1) (fAhs (AP P) a1 (M 1) k) j)) T'' := by
            intro hno v1 e1 v2' e2
            rw [nx8 (by omega)] at e2
            rw [bOr_0 (bOr_ok _ _)] at e1
            subst e2
            have e5 : dnB (AP P) (M 1) (fAhs (AP P) a1 (M 1) k) j = dnB (AP P) (M 1) (fAhs (AP P) a1 (M 1) k) (j + 1) := by
              show _ = if _ then _ else _
              rw [if_neg hno]
            rw [e1, e5, ← e2']
            exact ihj T'' rfl
          refine ⟨by omega, by omega, fun hc => no (fun z => hc z.1), fun hc => ⟨by omega, by omega, fun hc2 => no (fun z => by have := z.2; omega), fun hc2 v1 e1 v2' e2 => ?_⟩⟩
          rw [nx8 (by omega)] at e2
          rw [← bOr_assoc] at e1
          subst e2
          have e5 : bOr (dnB (AP P) (M 1) (fAhs (AP P) a1 (M 1) k) j) (bShl 1 j) = dnB (AP P) (M 1) (fAhs (AP P) a1 (M 1) k) (j + 1) := by
            show _ = if _ then _ else _
            rw [if_pos ⟨hc, hc2⟩]
          rw [e1, e5, ← e2']
          exact ihj T'' rfl
        · have e0 : bOr (ltL (AP P) a1 (M 1) k) (dnB (AP P) (M 1) (fAhs (AP P) a1 (M 1) k) 0) = ltL (AP P) a1 (M 1) k := bOr_0 hx
          rw [e0] at z
          exact z
    refine lpUp (K := 41) (W := fun n' k T' => w_X11_late_25 N (fun (S1 : mSt) (v1 : Int) => ∀ S2 : mSt, S2 = mup S1 250 0 v1 → w_X12_isIn N a1 0 9 M (fun (S1 : mSt) (v1 : Int) => ((v1 ≠ 0 → w_X12_late_16 N (fun (M2 : mSt) (v2 : Int) => w_X12_thrown N 0 M2 (fun (M3 : mSt) (v3 : Int) => v3 = 0 ∧ ((0 : Int) = 0 → (S2 250 0) = v2) ∧ Inv N (n + 1) S2 M3)) 0 a1 0 0 S1) ∧ (v1 = 0 → w_X12_late_16 N (fun (M2 : mSt) (v2 : Int) => w_X12_thrown N 0 M2 (fun (M3 : mSt) (v3 : Int) => v3 = 0 ∧ ((0 : Int) = 0 → (S2 250 0) = v2) ∧ Inv N (n + 1) S2 M3)) 0 a1 1 0 S1)))) (fun (En : String) (S1 : mSt) => En = "java/lang/IllegalArgumentException" ∧ w_X12_isIn N a1 0 9 M (fun (S1' : mSt) (v1 : Int) => ((v1 ≠ 0 → w_X12_late_16 N (fun (M2 : mSt) (v2 : Int) => w_X12_thrown N 0 M2 (fun (M3 : mSt) (v3 : Int) => v3 = 1 ∧ ((1 : Int) = 0 → (S1 250 0) = v2) ∧ Inv N (n + 1) S1 M3)) 0 a1 0 0 S1') ∧ (v1 = 0 → w_X12_late_16 N (fun (M2 : mSt) (v2 : Int) => w_X12_thrown N 0 M2 (fun (M3 : mSt) (v3 : Int) => v3 = 1 ∧ ((1 : Int) = 0 → (S1 250 0) = v2) ∧ Inv N (n + 1) S1 M3)) 0 a1 1 0 S1')))) (fun (x2_6 : Int) (S_6 : mSt) => ∀ S2 : mSt, S2 = mup S_6 250 0 x2_6 → w_X12_isIn N a1 0 9 M (fun (S1 : mSt) (v1 : Int) => ((v1 ≠ 0 → w_X12_late_16 N (fun (M2 : mSt) (v2 : Int) => w_X12_thrown N 0 M2 (fun (M3 : mSt) (v3 : Int) => v3 = 0 ∧ ((0 : Int) = 0 → (S2 250 0) = v2) ∧ Inv N (n + 1) S2 M3)) 0 a1 0 0 S1) ∧ (v1 = 0 → w_X12_late_16 N (fun (M2 : mSt) (v2 : Int) => w_X12_thrown N 0 M2 (fun (M3 : mSt) (v3 : Int) => v3 = 0 ∧ ((0 : Int) = 0 → (S2 250 0) = v2) ∧ Inv N (n + 1) S2 M3)) 0 a1 1 0 S1)))) n' 0 a1 (ltL (AP P) a1 (M 1) k) k T') (I := fun k T' => CG N X T' q q' lw lw' (M 1) (fAhs (AP P) a1 (M 1) k) (AP P) n) (fun n' T' hI => ?_) (fun n' k T' hk hI ih => ?_) (by omega) G1
    · refine ⟨fun _ S2 e2 => ?_, fun hc => by omega⟩
      subst e2
      exact model _ (fun M' G' => fin0 I hI.2.1 G')
    · refine ⟨fun hc => by omega, fun _ => x_dues hN hI (fun X2 C2 v2 e2 q3 e3 => ?_)⟩
      have := qe e3 C2.1.2.1.2.2.1
      subst q3
      refine g_ahead hN C2 d0 d1 (fun X3 C3 v5 e5 => ?_)
      rw [nx8 (by omega)] at e5
      subst e5
      rw [e2]
      exact ih X3 C3
  · exact a_isIn (fun _ _ => by omega) (fun _ => ⟨fun hc => absurd rfl hc, fun _ => thrX (by decide) (finE I (by decide) (XF.rf _ _ _) (MQu.rf _))⟩)
end tide
