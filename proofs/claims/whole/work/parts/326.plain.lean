set_option maxHeartbeats 400000
set_option maxRecDepth 20000
/-! ===== the pure part: the plain questions ===== -/
section plain
variable {N n : Nat} {X M : mSt} {q q' lw lw' : Nat} {f : mRow} {A : mLaw} {P : mPrg} {a1 a2 a3 a4 a5 : Int} {T : Int} {Q : mSt → Int → Prop} {p s : Int}
theorem qe {q1 q : Nat} {v : Int} (e : (q1 : Int) = v) (h : v = q) : q1 = q := by omega
theorem noSoapM (I : IV N n X M q q' lw lw' P) {k : Int} (hk : 0 < k) {X1 : mSt} {v : Int} (F : XF q' lw X X1) : w_X12_thrown N 0 (mup M 0 0 k) (fun (M3 : mSt) (v3 : Int) => v3 = k ∧ (k = 0 → X1 250 0 = v) ∧ Inv N (n + 1) X1 M3) := finE I (by omega) F (MQu.rf _)
theorem k_21 (hN : 5000 ≤ N) (I : IV N n X M q q' lw lw' P) (okX : okS X) (okM : okS M) : wl_21 N a1 a2 a3 a4 a5 X M (fun X1 M1 => Inv N (n + 1) X1 M1) := by
  obtain ⟨⟨hq, -⟩, -, -, hL, hR, -⟩ := id I
  have h3 := hR.2.1
  have C := I.CQ (by omega) okX
  unfold wl_21 w_L_washes w_X11_washes w_X12_washes
  refine s_ckPart (fun p0 p1 => s_ckSoap hq hL.2.1.2.1 (fun s0 s1 => ?_) (fun hb => ⟨rfl, ?_⟩)) (fun hb => ⟨rfl, ?_⟩)
  · intro q3 e3
    have := qe e3 hq
    subst q3
    have e1 : X (q + 1 + 1) a1 = M 1 (14 + 6 * a1) := (hL.1.1.1 a1 p0 p1).1
    refine ⟨p0, p1, fun v5 e5 q6 e6 => ?_⟩
    have := qe e6 hq
    subst q6
    rw [e1] at e5
    refine x_strength C s0 s1 (fun v8 e8 => ?_)
    obtain ⟨r1, -⟩ := hR.2.2.2.2.1 a2 s0 s1
    have md : ∀ (v : Int), (M 1 (14 + 6 * a1) = 0 → v = 0) → (M 1 (14 + 6 * a1) ≠ 0 → M 1 (70 + 4 * a2) = 0 → v = -1) → (M 1 (14 + 6 * a1) ≠ 0 → M 1 (70 + 4 * a2) ≠ 0 → v = iDiv (nm (nm (M 1 (14 + 6 * a1) + M 1 (70 + 4 * a2)) - 1)) (M 1 (70 + 4 * a2))) → w_X12_isPart N a1 M (fun S1 v1 => (v1 = 0 → w_X12_washes_16 N (fun (M2 : mSt) (v2 : Int) => w_X12_thrown N 0 M2 (fun (M3 : mSt) (v3 : Int) => v3 = 0 ∧ ((0 : Int) = 0 → (mup X 250 0 v) 250 0 = v2) ∧ Inv N (n + 1) (mup X 250 0 v) M3)) 0 a1 a2 0 S1) ∧ (v1 ≠ 0 → w_X12_isSoap N 0 a2 S1 (fun S2 v2 => (v2 ≠ 0 → w_X12_washes_21 N (fun (M2 : mSt) (v2 : Int) => w_X12_thrown N 0 M2 (fun (M3 : mSt) (v3 : Int) => v3 = 0 ∧ ((0 : Int) = 0 → (mup X 250 0 v) 250 0 = v2) ∧ Inv N (n + 1) (mup X 250 0 v) M3)) 0 a1 a2 0 0 S2) ∧ (v2 = 0 → w_X12_washes_16 N (fun (M2 : mSt) (v2 : Int) => w_X12_thrown N 0 M2 (fun (M3 : mSt) (v3 : Int) => v3 = 0 ∧ ((0 : Int) = 0 → (mup X 250 0 v) 250 0 = v2) ∧ Inv N (n + 1) (mup X 250 0 v) M3)) 0 a1 a2 0 S2)))) := by
      intro v h0 h1 h2
      refine a_isPart (fun _ _ => ⟨fun hc => absurd hc (by decide), fun _ => a_isSoap rfl h3.1 h3.2 (fun _ _ => ⟨fun _ => ?_, fun hc => absurd hc (by decide)⟩) (fun hc => by omega)⟩) (fun hc => by omega)
      intro S1 e1
      refine ⟨fun hc => by rw [e1, mup_same] at hc; omega, fun _ => a_of p0 p1 (by omega) (by omega) ?_⟩
      have m1 : S1 1 = M 1 := by rw [e1, mup_ne _ _ _ (by decide)]
      have fin : ∀ w, v = w → w_X12_thrown N 0 S1 (fun (M3 : mSt) (v3 : Int) => v3 = 0 ∧ ((0 : Int) = 0 → (mup X 250 0 v) 250 0 = w) ∧ Inv N (n + 1) (mup X 250 0 v) M3) := by
        intro w ew
        subst ew
        rw [e1]
        exact fin0 I (XF.rf _ _ _) (MQu.rf _)
      rw [m1, show 14 + 6 * a1 + 0 = 14 + 6 * a1 by omega]
      refine ⟨fun hg => a_ofSoap s0 (by omega) (by omega) (by omega) ?_, fun hg => fin _ (h0 hg)⟩
      rw [m1, show 70 + 4 * a2 + 0 = 70 + 4 * a2 by omega]
      refine ⟨fun hs => a_of p0 p1 (by omega) (by omega) (a_ofSoap s0 (by omega) (by omega) (by omega) ?_), fun hs => fin _ (h1 hg hs)⟩
      rw [m1, show 14 + 6 * a1 + 0 = 14 + 6 * a1 by omega, show 70 + 4 * a2 + 0 = 70 + 4 * a2 by omega]
      exact ⟨hs, fin _ (h2 hg hs)⟩
    refine ⟨fun hg => ⟨fun hs => ⟨by omega, fun S2 e2 => ?_⟩, fun hs S2 e2 => ?_⟩, fun hg S2 e2 => ?_⟩
    · subst e2
      exact md _ (fun h => by omega) (fun _ h => by omega) (fun _ _ => by rw [e5, e8])
    · subst e2
      exact md _ (fun h => by omega) (fun _ h => rfl) (fun _ h => by omega)
    · subst e2
      exact md _ (fun h => rfl) (fun h => by omega) (fun h => by omega)
  · exact a_isPart (fun _ _ => ⟨fun hc => absurd hc (by decide), fun _ => a_isSoap rfl h3.1 h3.2 (fun _ _ => by omega) (fun hc => ⟨fun hc => absurd rfl hc, fun _ S1 e1 => ⟨fun _ => by rw [e1]; exact finE I (by decide) (XF.rf _ _ _) (MQu.rf _), fun hc => by rw [e1, mup_same] at hc; omega⟩⟩)⟩) (fun hc => by omega)
  · exact a_isPart (fun _ _ => by omega) (fun hc => ⟨fun _ S1 e1 => ⟨fun _ => by rw [e1]; exact finE I (by decide) (XF.rf _ _ _) (MQu.rf _), fun hc => by rw [e1, mup_same] at hc; omega⟩, fun hc => absurd rfl hc⟩)
theorem k_33 (hN : 5000 ≤ N) (I : IV N n X M q q' lw lw' P) (okX : okS X) (okM : okS M) : wl_33 N a1 a2 a3 a4 a5 X M (fun X1 M1 => Inv N (n + 1) X1 M1) := by
  obtain ⟨⟨hq, -⟩, -, -, hL, hR, -⟩ := id I
  have h3 := hR.2.1
  have C := I.CQ (by omega) okX
  unfold wl_33 w_L_wears w_X11_wears w_X12_wears
  refine s_ckPart (fun p0 p1 => s_ckSoap hq hL.2.1.2.1 (fun s0 s1 => ?_) (fun hb => ⟨rfl, ?_⟩)) (fun hb => ⟨rfl, ?_⟩)
  · intro q3 e3
    have := qe e3 hq
    subst q3
    obtain ⟨r1, r2, r3, r4⟩ := hR.2.2.2.2.1 a2 s0 s1
    refine x_rough C s0 s1 (fun v5 e5 => ⟨fun _ q6 e6 => ?_, fun hc => by rw [e5, nm_of (by omega) (by omega)] at hc; omega⟩)
    have := qe e6 hq
    subst q6
    have e1 : X (q + 1 + 2) a1 = M 1 (14 + 6 * a1 + 1) := (hL.1.1.1 a1 p0 p1).2.1
    rw [e1]
    refine ⟨p0, p1, by rw [e5, nm_of (by omega) (by omega)]; omega, fun S2 e2 => ?_⟩
    subst e2
    refine a_isPart (fun _ _ => ⟨fun hc => absurd hc (by decide), fun _ => a_isSoap rfl h3.1 h3.2 (fun _ _ => ⟨fun _ => thrO ?_, fun hc => absurd hc (by decide)⟩) (fun hc => by omega)⟩) (fun hc => by omega)
    refine a_of p0 p1 (by omega) (by omega) (a_ofSoap s0 (by omega) (by omega) (by omega) ?_)
    rw [mup_ne _ _ _ (by decide), ← e5]
    refine ⟨by rw [e5, nm_of (by omega) (by omega)]; omega, ?_⟩
    exact fin0 I (XF.rf _ _ _) (MQu.rf _)
  · exact a_isPart (fun _ _ => ⟨fun hc => absurd hc (by decide), fun _ => a_isSoap rfl h3.1 h3.2 (fun _ _ => by omega) (fun hc => ⟨fun hc => absurd rfl hc, fun _ => thrX (by decide) (finE I (by decide) (XF.rf _ _ _) (MQu.rf _))⟩)⟩) (fun hc => by omega)
  · exact a_isPart (fun _ _ => by omega) (fun hc => ⟨fun _ => thrX (by decide) (finE I (by decide) (XF.rf _ _ _) (MQu.rf _)), fun hc => absurd rfl hc⟩)
-- enough
def enL (w sp x : Int) : Nat → Int → Int
  | 0, _ => -1
  | d + 1, n => if nm (w + nm (n * sp)) < x then enL w sp x d (n + 1) else n
theorem x_enough (hN : 5000 ≤ N) {S : mSt} (hq : S 0 3 = q) {x : Int} {E : String → mSt → Prop} (h : Q S (enL (S q 6) (S q 7) x 100 0)) : w_X11_enough_9 N Q E (fun (S_3 : mSt) => Q S_3 (-1)) N 0 x 0 S := by
  have loop : ∀ (d k m : Nat), k + d = 100 → d < m → enL (S q 6) (S q 7) x 100 0 = enL (S q 6) (S q 7) x d k → w_X11_enough_9 N Q E (fun (S_3 : mSt) => Q S_3 (-1)) m 0 x k S := by
    intro d
    induction d with
    | zero =>
      intro k m hk hm hv
      obtain ⟨m, rfl⟩ : ∃ m', m = m' + 1 := ⟨m - 1, by omega⟩
      rw [hv] at h
      exact ⟨fun _ => h, fun hc => by omega⟩
    | succ d ih =>
      intro k m hk hm hv
      obtain ⟨m, rfl⟩ : ∃ m', m = m' + 1 := ⟨m - 1, by omega⟩
      refine ⟨fun hc => by omega, fun _ q1 e1 q2 e2 => ?_⟩
      have := qe e1 hq
      have := qe e2 hq
      subst q1 q2
      have hu : enL (S q 6) (S q 7) x (d + 1) k = if nm (S q 6 + nm (k * S q 7)) < x then enL (S q 6) (S q 7) x d (k + 1) else k := rfl
      refine ⟨fun hc v1 e1 => ?_, fun hc => ?_⟩
      · rw [nx8 (by omega)] at e1
        subst e1
        rw [if_pos hc] at hu
        exact ih (k + 1) m (by omega) (by omega) (by rw [hv, hu]; rfl)
      · rw [if_neg (by omega)] at hu
        rw [hv, hu] at h
        exact h
  exact loop 100 0 N rfl (by omega) rfl
theorem y_enough (hN : 5000 ≤ N) {S : mSt} {x : Int} (h : Q S (enL (S 1 5) (S 1 6) x 100 0)) : w_X12_enough_30 N Q (fun (S_3 : mSt) => Q S_3 (-1)) N 0 x 0 S := by
  have loop : ∀ (d k m : Nat), k + d = 100 → d < m → enL (S 1 5) (S 1 6) x 100 0 = enL (S 1 5) (S 1 6) x d k → w_X12_enough_30 N Q (fun (S_3 : mSt) => Q S_3 (-1)) m 0 x k S := by
    intro d
    induction d with
    | zero =>
      intro k m hk hm hv
      obtain ⟨m, rfl⟩ : ∃ m', m = m' + 1 := ⟨m - 1, by omega⟩
      rw [hv] at h
      exact ⟨fun _ => h, fun hc => by omega⟩
    | succ d ih =>
      intro k m hk hm hv
      obtain ⟨m, rfl⟩ : ∃ m', m = m' + 1 := ⟨m - 1, by omega⟩
      refine ⟨fun hc => by omega, fun _ => ?_⟩
      have hu : enL (S 1 5) (S 1 6) x (d + 1) k = if nm (S 1 5 + nm (k * S 1 6)) < x then enL (S 1 5) (S 1 6) x d (k + 1) else k := rfl
      rw [Nat.zero_add]
      refine ⟨fun hc v1 e1 => ?_, fun hc => ?_⟩
      · rw [nx8 (by omega)] at e1
        subst e1
        rw [if_pos hc] at hu
        exact ih (k + 1) m (by omega) (by omega) (by rw [hv, hu]; rfl)
      · rw [if_neg (by omega)] at hu
        rw [hv, hu] at h
        exact h
  exact loop 100 0 N rfl (by omega) rfl
theorem k_32 (hN : 5000 ≤ N) (I : IV N n X M q q' lw lw' P) (okX : okS X) (okM : okS M) : wl_32 N a1 a2 a3 a4 a5 X M (fun X1 M1 => Inv N (n + 1) X1 M1) := by
  obtain ⟨⟨hq, -⟩, -, -, hL, hR, -⟩ := id I
  obtain ⟨-, w5, w6, -⟩ := hL.1
  unfold wl_32 w_L_enough w_X11_enough w_X12_enough
  refine s_ckNum (fun p0 p1 v2 e2 => ?_) (fun hb => ⟨rfl, ?_⟩)
  · subst e2
    refine x_enough hN hq (fun S2 e2 => ?_)
    subst e2
    refine a_isIn (fun _ _ => ⟨fun _ => thrO (fun v2 e2' => ?_), fun hc => absurd hc (by decide)⟩) (fun hc => by omega)
    subst e2'
    refine y_enough hN ?_
    have em : (mup M 0 0 0) 1 = M 1 := mup_ne _ _ _ (by decide)
    rw [w5, w6, em]
    exact fin0 I (XF.rf _ _ _) (MQu.rf _)
  · exact a_isIn (fun _ _ => by omega) (fun hc => ⟨fun hc => absurd rfl hc, fun _ => thrX (by decide) (finE I (by decide) (XF.rf _ _ _) (MQu.rf _))⟩)
end plain
