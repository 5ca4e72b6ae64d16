set_option maxHeartbeats 400000
set_option maxRecDepth 20000
/-! ===== the pure part: dried, halves, watch ===== -/
def fDry1 (A : mLaw) (d p : Int) (f : mRow) : mRow := fPass (fAir1 A (fup f 10 d) p)
/-- the first night ahead by which part p is not wet; 41 if there is none -/
def drL (A : mLaw) (d p : Int) : Nat → Int → mRow → Int
  | 0, _, _ => 41
  | k + 1, n, g => if g (14 + 6 * p + 2) = 0 then n else drL A d p k (n + 1) (fDry1 A d p g)
section dried
variable {N n : Nat} {X M : mSt} {q q' lw lw' : Nat} {f g : mRow} {A : mLaw} {P : mPrg} {a1 a2 a3 a4 a5 : Int} {T : Int} {p s d x : Int}
theorem fDry1_hi {k : Int} (p0 : 0 ≤ p) (p1 : p < 8) (hk : k < 14 ∨ 62 ≤ k) (h5 : k ≠ 5) (h9 : k ≠ 9) (h10 : k ≠ 10) : fDry1 A d p f k = f k := by
  unfold fDry1 fPass
  rw [fup_ne _ _ h9, fup_ne _ _ h5, fAir1_hi A _ p0 p1 hk, fup_ne _ _ h10]
theorem RN.dry1 (hB : LB A) (h : RN f) (d0 : 0 ≤ d) (d1 : d ≤ 9) (p0 : 0 ≤ p) (p1 : p < 8) : RN (fDry1 A d p f) := by
  have h1 := h.damp d0 d1
  refine RN.pass ⟨fAir1_RO hB h1.1 p0 p1, ?_, ?_⟩
  · rw [fAir1_hi A _ p0 p1 (by omega)]; exact h1.2.1
  · rw [fAir1_hi A _ p0 p1 (by omega)]; exact h1.2.2
theorem y_drySoon {Q : mSt → Int → Prop} {M0 : mSt} {ko : Nat → Int → mSt → Prop} (hN : 5000 ≤ N) (d0 : 0 ≤ d) (d1 : d ≤ 9) (p0 : 0 ≤ p) (p1 : p < 8) : ∀ (k m : Nat) (j : Int) (g : mRow) (M : mSt), (k : Int) + j = 41 → 0 ≤ j → k < m → MGd N M0 M f g A → (∀ M' g', MGd N M0 M' f g' A → ko 0 (if drL A d p k j g = 41 then 2000000000 else drL A d p k j g) M') → w_X12_drySoon_11 N Q ko m 0 p d 2000000000 j M := by
  intro k
  induction k with
  | zero =>
    intro m j g M hj j0 hm C h
    obtain ⟨m, rfl⟩ : ∃ m', m = m' + 1 := ⟨m - 1, by omega⟩
    have := h M g C
    rw [if_pos (show drL A d p 0 j g = 41 from rfl)] at this
    exact ⟨fun _ => this, fun hc => by omega⟩
  | succ k ih =>
    intro m j g M hj j0 hm C h
    obtain ⟨m, rfl⟩ : ∃ m', m = m' + 1 := ⟨m - 1, by omega⟩
    have hu : drL A d p (k + 1) j g = if g (14 + 6 * p + 2) = 0 then j else drL A d p k (j + 1) (fDry1 A d p g) := rfl
    -- a night for the part alone
    have night : ∀ (x3 : Int), (∀ M', MGd N M0 M' f (fDry1 A d p g) A → w_X12_drySoon_11 N Q ko m 0 p d x3 (j + 1) M') → w_X12_drySoon_37 N Q (w_X12_drySoon_11 N Q ko m) 0 p d x3 j M := by
      intro x3 hx S1 e1
      obtain ⟨ok, h1, hR, hB, hL, hP, h4, hxx⟩ := C
      rw [Nat.zero_add] at e1
      have e11 : S1 1 = fup g 10 d := by rw [e1, mup_1, h1]
      have ok1 : okS S1 := by rw [e1]; exact okS_up ok (by unfold okI; omega)
      have hR1 := hR.damp d0 d1
      refine a_dry (A := A) (by omega) (by rw [e11]; exact hL.of (fup_ne _ _ (by decide)) (fup_ne _ _ (by decide)) (fun k hk _ => fup_ne _ _ (by omega))) hB ok1 (by rw [e11]; exact hR1.1) p0 p1 (fun S2 ok2 h2 k2 v3 _ => ?_)
      rw [e11] at h2
      have hRa : RN (fAir1 A (fup g 10 d) p) := ⟨fAir1_RO hB hR1.1 p0 p1, by rw [fAir1_hi A _ p0 p1 (by omega)]; exact hR1.2.1, by rw [fAir1_hi A _ p0 p1 (by omega)]; exact hR1.2.2⟩
      refine a_pass ok2 (by rw [h2]; exact hRa) (fun S3 ok3 h3 k3 v5 e5 => ?_)
      rw [nm_of (by omega) (by omega)] at e5
      subst e5
      have hi := fun k a b c e => fDry1_hi (A := A) (d := d) (f := g) (k := k) p0 p1 a b c e
      have k1 : MG M S1 := by rw [e1]; exact MG.up _ _
      refine hx S3 ⟨ok3, by rw [h3, h2]; rfl, hR.dry1 hB d0 d1 p0 p1, hB, hL.of (hi _ (by omega) (by omega) (by omega) (by omega)) (hi _ (by omega) (by omega) (by omega) (by omega)) (fun k hk _ => hi _ (by omega) (by omega) (by omega) (by omega)), hP.tr ((k1.tr k2).tr k3).p, fun k a b => ?_, fun k hk => (hi _ (by omega) (by omega) (by omega) (by omega)).trans (hxx k hk)⟩
      rw [((k1.tr k2).tr k3).1 4 (by decide) (by decide) (by decide)]; exact h4 k a b
    refine ⟨fun hc => by omega, fun _ => ⟨fun hc => absurd rfl hc, fun _ => a_of p0 p1 (by omega) (by omega) ?_⟩⟩
    rw [C.2.1]
    refine ⟨fun hw => night _ (fun M' D' => ih m (j + 1) _ M' (by omega) (by omega) (by omega) D' (fun M2 g2 D2 => ?_)), fun hw v2 e2 => night _ (fun M' D' => ?_)⟩
    · have := h M2 g2 D2
      rw [hu, if_neg hw] at this
      exact this
    · have := h M' _ D'
      rw [hu, if_pos hw, if_neg (by omega)] at this
      obtain ⟨m, rfl⟩ : ∃ m', m = m' + 1 := ⟨m - 1, by omega⟩
      rw [e2]
      exact ⟨fun _ => this, fun _ => ⟨fun _ => this, fun hc => by omega⟩⟩
theorem y_drySoonQ {Q : mSt → Int → Prop} (hN : 5000 ≤ N) (C : MC N M f A) (d0 : 0 ≤ d) (d1 : d ≤ 9) (p0 : 0 ≤ p) (p1 : p < 8) (h : ∀ M', MC N M' f A → MQu M M' → Q M' (if drL A d p 41 0 f = 41 then 2000000000 else drL A d p 41 0 f)) : w_X12_drySoon N 0 p d M Q := by
  unfold w_X12_drySoon
  refine n_aside hN C (fun M1 D1 v2 e2 v3 e3 => ?_)
  subst e2; subst e3
  refine y_drySoon hN d0 d1 p0 p1 41 N 0 f M1 rfl (Int.le_refl _) (by omega) D1 (fun M2 g2 D2 => ?_)
  exact n_back hN C D2 h
-- the class
theorem drL_stuck (h4 : g (14 + 6 * p + 4) = 0) (h2 : g (14 + 6 * p + 2) ≠ 0) (p0 : 0 ≤ p) : ∀ (k : Nat) (n : Int), drL A d p k n g = 41 := by
  have main : ∀ (k : Nat) (n : Int) (g : mRow), g (14 + 6 * p + 4) = 0 → g (14 + 6 * p + 2) ≠ 0 → drL A d p k n g = 41 := by
    intro k
    induction k with
    | zero => intro n g _ _; rfl
    | succ k ih =>
      intro n g h4 h2
      have hu : drL A d p (k + 1) n g = if g (14 + 6 * p + 2) = 0 then n else drL A d p k (n + 1) (fDry1 A d p g) := rfl
      rw [hu, if_neg h2]
      have e : ∀ j, j ≠ 5 → j ≠ 9 → j ≠ 10 → fDry1 A d p g j = g j := by
        intro j a b c
        unfold fDry1 fPass
        rw [fup_ne _ _ b, fup_ne _ _ a]
        unfold fAir1
        rw [fup_ne _ _ (by omega), if_pos h4, fup_ne _ _ c]
      refine ih (n + 1) _ ?_ ?_
      · rw [e _ (by omega) (by omega) (by omega)]; exact h4
      · rw [e _ (by omega) (by omega) (by omega)]; exact h2
  exact fun k n => main k n g h4 h2
theorem drL_le : ∀ (k : Nat) (n : Int) (g : mRow), 0 ≤ n → (k : Int) + n = 41 → 0 ≤ drL A d p k n g ∧ drL A d p k n g ≤ 41
  | 0, n, g, h0, h => by unfold drL; omega
  | k + 1, n, g, h0, h => by
    have := drL_le k (n + 1) (fDry1 A d p g) (by omega) (by omega)
    unfold drL
    split <;> omega
theorem s_tillDry {Q : mSt → Int → Prop} {S : mSt} {r : Nat} (hN : 5000 ≤ N) (hA : LX N S lw A) (hB : LB A) (hok : okS S) (hM : RM S r g) (hR : RN g) (ap : lw + 6 < r ∨ r + 6 < lw) (d0 : 0 ≤ d) (d1 : d ≤ 9) (p0 : 0 ≤ p) (p1 : p < 8) (h : ∀ S', okS S' → (∀ r', (r' < r ∨ r + 6 < r') → r' ≠ lw + 5 → r' ≠ lw + 6 → S' r' = S r') → Q S' (drL A d p 41 0 g)) : w_X5_nightsTillDry N r lw p d S Q := by
  have hu : drL A d p 41 0 g = if g (14 + 6 * p + 2) = 0 then 0 else drL A d p 40 1 (fDry1 A d p g) := rfl
  unfold w_X5_nightsTillDry
  rw [(hM.1 p p0 p1).2.2.1]
  refine ⟨p0, p1, fun hw => s_isHung hM p0 p1 ⟨fun hh S3 e3 v4 e4 => ?_, fun hh => ?_⟩, fun hw => ?_⟩
  · subst e4
    rw [if_neg hw] at hu
    have hh1 : g (14 + 6 * p + 4) = 1 := by have := (hR.1.at p0 p1).2.2.2.2.1; omega
    have m3 : RM S3 r (fup g 10 d) := by rw [e3]; exact hM.damp
    have ok3 : okS S3 := by rw [e3]; exact okS_up hok (by unfold okI; omega)
    have k3 : ∀ r', (r' < r ∨ r + 6 < r') → r' ≠ lw + 5 → r' ≠ lw + 6 → S3 r' = S r' := fun r' a b c => by rw [e3, mup_ne _ _ _ (by omega)]
    -- from night j on
    have loop : ∀ (k m : Nat) (j : Int) (g' : mRow) (S' : mSt), (k : Int) + j = 41 → 1 ≤ j → k < m → okS S' → RM S' r (fup g' 10 d) → RN g' → g' (14 + 6 * p + 4) = 1 → g' (14 + 6 * p + 2) ≠ 0 → (∀ r', (r' < r ∨ r + 6 < r') → r' ≠ lw + 5 → r' ≠ lw + 6 → S' r' = S r') → drL A d p 41 0 g = drL A d p k j (fDry1 A d p g') → w_X5_nightsTillDry_30 N Q (fun (S_5 : mSt) => Q S_5 41) m r lw p j S' := by
      intro k
      induction k with
      | zero =>
        intro m j g' S' hj j1 hm ok' m' hR' hh' hw' k' e
        obtain ⟨m, rfl⟩ : ∃ m', m = m' + 1 := ⟨m - 1, by omega⟩
        have := h S' ok' k'
        rw [e] at this
        exact ⟨fun _ => this, fun hc => by omega⟩
      | succ k ih =>
        intro m j g' S' hj j1 hm ok' m' hR' hh' hw' k' e
        obtain ⟨m, rfl⟩ : ∃ m', m = m' + 1 := ⟨m - 1, by omega⟩
        have hRd := hR'.damp d0 d1
        have ew : fup g' 10 d (14 + 6 * p + 2) = g' (14 + 6 * p + 2) := fup_ne _ _ (by omega)
        have eh : fup g' 10 d (14 + 6 * p + 4) = g' (14 + 6 * p + 4) := fup_ne _ _ (by omega)
        refine ⟨fun hc => by omega, fun _ => ⟨p0, p1, ?_⟩⟩
        rw [(m'.1 p p0 p1).2.2.1, ew]
        refine s_dries (hA.of (fun i hi => k' _ (by omega) (by omega) (by omega))) hB ok' m' hRd.1 ap p0 p1 (fun S2 ok2 k2 => ⟨p0, p1, fun S4 e4 S5 e5 => ⟨p0, p1, ?_⟩⟩)
        have bw := (hR'.1.at p0 p1).2.2.1
        have bd := fDries_ok hB hRd.1 p0 p1
        rw [nm_of (by omega) (by omega), iMax_max] at e4
        have eA : fAir1 A (fup g' 10 d) p = fup (fup g' 10 d) (14 + 6 * p + 2) (max 0 (g' (14 + 6 * p + 2) - fDries A (fup g' 10 d) p)) := by
          unfold fAir1
          rw [eh, if_neg (by omega), ew, if_neg hw']
        have m2 : RM S2 r (fup g' 10 d) := m'.of (fun r' a b => k2 r' (by omega) (by omega))
        have m4 : RM S4 r (fAir1 A (fup g' 10 d) p) := by rw [e4, eA]; exact m2.wet p0 p1
        have e9 : S4 r 7 = fAir1 A (fup g' 10 d) p 9 := m4.2.1
        rw [e9] at e5
        have m5 : RM S5 r (fDry1 A d p g') := by rw [e5]; exact (m4.other (i := 5) (by decide) (by decide) (by decide)).night
        have ok5 : okS S5 := by rw [e5, e4]; exact okS_up (okS_up ok2 (by unfold okI; omega)) (nm_ok _)
        have k5 : ∀ r', (r' < r ∨ r + 6 < r') → r' ≠ lw + 5 → r' ≠ lw + 6 → S5 r' = S r' := fun r' a b c => by rw [e5, mup_ne _ _ _ (by omega), e4, mup_ne _ _ _ (by omega), k2 r' b c]; exact k' r' a b c
        have hu2 : drL A d p (k + 1) j (fDry1 A d p g') = if fDry1 A d p g' (14 + 6 * p + 2) = 0 then j else drL A d p k (j + 1) (fDry1 A d p (fDry1 A d p g')) := rfl
        rw [(m5.1 p p0 p1).2.2.1]
        refine ⟨fun hw2 v7 e7 => ?_, fun hw2 => ?_⟩
        · rw [if_neg hw2] at hu2
          rw [nm_of (by omega) (by omega)] at e7
          subst e7
          have e10 : fDry1 A d p g' 10 = d := by
            unfold fDry1 fPass
            rw [fup_ne _ _ (by decide), fup_ne _ _ (by decide), fAir1_hi A _ p0 p1 (by omega), fup_at]
          have e4' : fDry1 A d p g' (14 + 6 * p + 4) = 1 := by
            unfold fDry1 fPass
            rw [fup_ne _ _ (by omega), fup_ne _ _ (by omega), eA, fup_ne _ _ (by omega), fup_ne _ _ (by omega)]; exact hh'
          have ed : fup (fDry1 A d p g') 10 d = fDry1 A d p g' := by
            have := fup_self (fDry1 A d p g') 10
            rw [e10] at this
            exact this
          exact ih m (j + 1) (fDry1 A d p g') S5 (by omega) (by omega) (by omega) ok5 (by rw [ed]; exact m5) (hR'.dry1 hB d0 d1 p0 p1) e4' hw2 k5 (by rw [e, hu2])
        · rw [if_pos hw2] at hu2
          have := h S5 ok5 k5
          rw [e, hu2] at this
          exact this
    exact loop 40 N 1 g S3 rfl (Int.le_refl _) (by omega) ok3 m3 hR hh1 hw k3 hu
  · have := h S hok (fun _ _ _ _ => rfl)
    rw [drL_stuck hh hw p0] at this
    exact this
  · rw [if_pos hw] at hu
    have := h S hok (fun _ _ _ _ => rfl)
    rw [hu] at this
    exact this
theorem k_23 (hN : 5000 ≤ N) (I : IV N n X M q q' lw lw' P) (okX : okS X) (okM : okS M) : wl_23 N a1 a2 a3 a4 a5 X M (fun X1 M1 => Inv N (n + 1) X1 M1) := by
  obtain ⟨⟨hq, -, hlw, -, k5, k6⟩, -⟩ := id I
  have C := I.CQ (by omega) okX
  have D := (I.MC okM).thr (v := 0) (by decide)
  unfold wl_23 w_L_dried w_X11_dried w_X12_dried
  refine s_ckPart (fun p0 p1 => s_ckNum (fun d0 d1 q3 e3 => ?_) (fun hb => Or.inr ⟨rfl, ?_⟩)) (fun hb => Or.inl ⟨rfl, ?_⟩)
  · have := qe e3 hq
    subst q3
    refine g_start C (fun X1 G1 q5 e5 => ?_)
    have := qe e5 G1.1.2.1.2.2.1
    subst q5
    have hl := drL_le (A := AP P) (d := a2) (p := a1) 41 0 (M 1) (Int.le_refl _) rfl
    refine s_tillDry hN G1.1.2.2.2.2.2 G1.1.2.2.2.2.1 G1.1.1 G1.2.2.1 G1.2.2.2 (by omega) d0 d1 p0 p1 (fun X2 ok2 k2 v7 e7 => ?_)
    have F2 : XF q' lw X1 X2 := fun r a b c e => k2 r (by omega) a b
    have md : ∀ v, v = (if drL (AP P) a2 a1 41 0 (M 1) = 41 then -1 else drL (AP P) a2 a1 41 0 (M 1)) → ∀ S2 : mSt, S2 = mup X2 250 0 v → w_X12_isPart N a1 M (fun (S1 : mSt) (v1 : Int) => ((v1 ≠ 0 → w_X12_isIn N a2 0 9 S1 (fun (S2' : mSt) (v2 : Int) => ((v2 ≠ 0 → w_X12_dried_27 N (fun (M2 : mSt) (v2 : Int) => w_X12_thrown N 0 M2 (fun (M3 : mSt) (v3 : Int) => v3 = 0 ∧ ((0 : Int) = 0 → (S2 250 0) = v2) ∧ Inv N (n + 1) S2 M3)) 0 a1 a2 0 0 S2') ∧ (v2 = 0 → w_X12_dried_27 N (fun (M2 : mSt) (v2 : Int) => w_X12_thrown N 0 M2 (fun (M3 : mSt) (v3 : Int) => v3 = 0 ∧ ((0 : Int) = 0 → (S2 250 0) = v2) ∧ Inv N (n + 1) S2 M3)) 0 a1 a2 2 0 S2')))) ∧ (v1 = 0 → w_X12_dried_27 N (fun (M2 : mSt) (v2 : Int) => w_X12_thrown N 0 M2 (fun (M3 : mSt) (v3 : Int) => v3 = 0 ∧ ((0 : Int) = 0 → (S2 250 0) = v2) ∧ Inv N (n + 1) S2 M3)) 0 a1 a2 1 0 S1))) := by
      intro v ev S2 e2
      subst e2
      refine a_isPart (fun _ _ => ⟨fun _ => a_isIn (fun _ _ => ⟨fun _ => thrO ?_, fun hc => absurd hc (by decide)⟩) (fun hc => by omega), fun hc => absurd hc (by decide)⟩) (fun hc => by omega)
      refine y_drySoonQ hN D d0 d1 p0 p1 (fun M' D' G' v3 e3 => ?_)
      by_cases h41 : drL (AP P) a2 a1 41 0 (M 1) = 41
      · rw [if_pos h41] at e3 ev
        refine ⟨fun hc => absurd e3 hc, fun _ => ?_⟩
        rw [← ev]
        exact fin0 I (G1.2.1.tr F2) G'
      · rw [if_neg h41] at e3 ev
        refine ⟨fun _ => ?_, fun hc => by omega⟩
        rw [e3, ← ev]
        exact fin0 I (G1.2.1.tr F2) G'
    refine ⟨fun hc => md _ ?_, fun hc => md _ ?_⟩
    · rw [if_neg (by omega)]; exact e7
    · rw [if_pos (by omega)]
  · exact a_isPart (fun _ _ => ⟨fun _ => a_isIn (fun _ _ => by omega) (fun _ => ⟨fun hc => absurd rfl hc, fun _ => thrX (by decide) (finE I (by decide) (XF.rf _ _ _) (MQu.rf _))⟩), fun hc => absurd hc (by decide)⟩) (fun hc => by omega)
  · exact a_isPart (fun _ _ => by omega) (fun hc => ⟨fun hc => absurd rfl hc, fun _ => thrX (by decide) (finE I (by decide) (XF.rf _ _ _) (MQu.rf _))⟩)
end dried
