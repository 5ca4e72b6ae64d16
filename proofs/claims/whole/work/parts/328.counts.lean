set_option maxHeartbeats 400000
set_option maxRecDepth 20000
theorem hung_set : ∀ h : Nat, h < 256 → bset (fun p => bt h p) 8 = h := by decide +kernel
section cnts
variable {N n : Nat} {X M : mSt} {q q' lw lw' : Nat} {f : mRow} {A : mLaw} {P : mPrg} {a1 a2 a3 a4 a5 : Int} {T : Int} {Q : mSt → Int → Prop} {p s : Int}
theorem k_6 (hN : 5000 ≤ N) (I : IV N n X M q q' lw lw' P) (okX : okS X) (okM : okS M) : wl_6 N a1 a2 a3 a4 a5 X M (fun X1 M1 => Inv N (n + 1) X1 M1) := by
  obtain ⟨⟨hq, -, hlw, -⟩, -, -, hL, hR, -⟩ := id I
  have h3 := hR.2.1
  have C := I.CQ (by omega) okX
  unfold wl_6 w_L_soap w_X11_soap w_X12_soap
  refine s_ckSoap hq hL.2.1.2.1 (fun s0 s1 => ?_) (fun hb => Or.inl ⟨rfl, ?_⟩)
  · have md : ∀ w v, a2 = w → 0 ≤ w → w < 4 → v = M 1 (70 + 4 * a1 + w) → ∀ S2 : mSt, S2 = mup X 250 0 v → w_X12_isSoap N 0 a1 M (fun (S1 : mSt) (v1 : Int) => ((v1 ≠ 0 → w_X12_isIn N a2 0 3 S1 (fun (S2' : mSt) (v2 : Int) => ((v2 ≠ 0 → w_X12_soap_27 N (fun (M2 : mSt) (v2 : Int) => w_X12_thrown N 0 M2 (fun (M3 : mSt) (v3 : Int) => v3 = 0 ∧ ((0 : Int) = 0 → (S2 250 0) = v2) ∧ Inv N (n + 1) S2 M3)) 0 a1 a2 0 0 S2') ∧ (v2 = 0 → w_X12_soap_27 N (fun (M2 : mSt) (v2 : Int) => w_X12_thrown N 0 M2 (fun (M3 : mSt) (v3 : Int) => v3 = 0 ∧ ((0 : Int) = 0 → (S2 250 0) = v2) ∧ Inv N (n + 1) S2 M3)) 0 a1 a2 2 0 S2')))) ∧ (v1 = 0 → w_X12_soap_27 N (fun (M2 : mSt) (v2 : Int) => w_X12_thrown N 0 M2 (fun (M3 : mSt) (v3 : Int) => v3 = 0 ∧ ((0 : Int) = 0 → (S2 250 0) = v2) ∧ Inv N (n + 1) S2 M3)) 0 a1 a2 1 0 S1))) := by
      intro w v ew w0 w1 ev S2 e2
      subst e2
      refine a_isSoap rfl h3.1 h3.2 (fun _ _ => ⟨fun _ => a_isIn (fun _ _ => ⟨fun _ => thrO (a_ofSoap s0 (by omega) (by omega) (by omega) ?_), fun hc => absurd hc (by decide)⟩) (fun hc => by omega), fun hc => absurd hc (by decide)⟩) (fun hc => by omega)
      have em : (mup M 0 0 0) 1 = M 1 := mup_ne _ _ _ (by decide)
      rw [em, ew, ← ev]
      exact fin0 I (XF.rf _ _ _) (MQu.rf _)
    refine ⟨fun h q2 e2 => ?_, fun h q2 e2 => ?_, fun h q2 e2 => ?_, fun h q2 e2 => ?_, fun h => ?_⟩
    · have := qe e2 hq
      subst q2
      exact x_strength C s0 s1 (md 0 _ h (by omega) (by omega) (by congr 1; omega))
    · have := qe e2 hq
      subst q2
      exact x_price C s0 s1 (md 1 _ h (by omega) (by omega) rfl)
    · have := qe e2 hq
      subst q2
      exact x_rough C s0 s1 (md 2 _ h (by omega) (by omega) rfl)
    · have := qe e2 hq
      subst q2
      exact x_takes C s0 s1 (md 3 _ h (by omega) (by omega) rfl)
    · exact Or.inr ⟨rfl, a_isSoap rfl h3.1 h3.2 (fun _ _ => ⟨fun _ => a_isIn (fun _ _ => by omega) (fun _ => ⟨fun hc => absurd rfl hc, fun _ => thrX (by decide) (finE I (by decide) (XF.rf _ _ _) (MQu.rf _))⟩), fun hc => absurd hc (by decide)⟩) (fun hc => by omega)⟩
  · exact a_isSoap rfl h3.1 h3.2 (fun _ _ => by omega) (fun hc => ⟨fun hc => absurd rfl hc, fun _ => thrX (by decide) (finE I (by decide) (XF.rf _ _ _) (MQu.rf _))⟩)
/-- the part on a peg: the first that has it -/
def onP (f : mRow) (g : Int) (o : Int) : Prop := 0 ≤ o ∧ o < 8 ∧ f (14 + 6 * o + 5) = g ∧ ∀ p, 0 ≤ p → p < o → f (14 + 6 * p + 5) ≠ g
theorem onP_ex {f : mRow} (h : PS f) {g : Int} (g0 : 0 ≤ g) (g1 : g < 8) : ∃ o, onP f g o := by
  obtain ⟨p, p0, p1, e⟩ := h g g0 g1
  have : ∀ k : Nat, (k : Int) ≤ p → (∃ o, onP f g o ∧ o < k) ∨ ∀ j, 0 ≤ j → j < (k : Int) → f (14 + 6 * j + 5) ≠ g := by
    intro k
    induction k with
    | zero => intro _; exact Or.inr (fun j a b => by omega)
    | succ k ih =>
      intro hk
      rcases ih (by omega) with ⟨o, ho, hl⟩ | h2
      · exact Or.inl ⟨o, ho, by omega⟩
      · by_cases hg : f (14 + 6 * k + 5) = g
        · exact Or.inl ⟨k, ⟨by omega, by omega, hg, h2⟩, by omega⟩
        · refine Or.inr (fun j a b => ?_)
          by_cases hj : j = k
          · rw [hj]; exact hg
          · exact h2 j a (by omega)
  rcases this p.toNat (by omega) with ⟨o, ho, -⟩ | h2
  · exact ⟨o, ho⟩
  · exact ⟨p, p0, p1, e, fun j a b => h2 j a (by omega)⟩
theorem s_partAt (hN : 5000 ≤ N) {S : mSt} {r : Nat} (hM : RM S r f) {g o : Int} (ho : onP f g o) (h : Q S o) : w_X5_partAt N r g S Q := by
  obtain ⟨o0, o1, o2, o3⟩ := ho
  intro v1 e1
  subst e1
  have loop : ∀ (d k m : Nat), (k : Int) + d = o → d < m → w_X5_partAt_2 N Q (fun (S_2 : mSt) => Q S_2 0) m r g k S := by
    intro d
    induction d with
    | zero =>
      intro k m hk hm
      obtain ⟨m, rfl⟩ : ∃ m', m = m' + 1 := ⟨m - 1, by omega⟩
      have e : (k : Int) = o := by omega
      refine ⟨fun hc => by omega, fun _ => ⟨by omega, by omega, ?_⟩⟩
      rw [(hM.1 k (by omega) (by omega)).2.2.2.2.2.1, e]
      exact ⟨fun hc => absurd o2 hc, fun _ => h⟩
    | succ d ih =>
      intro k m hk hm
      obtain ⟨m, rfl⟩ : ∃ m', m = m' + 1 := ⟨m - 1, by omega⟩
      refine ⟨fun hc => by omega, fun _ => ⟨by omega, by omega, ?_⟩⟩
      rw [(hM.1 k (by omega) (by omega)).2.2.2.2.2.1]
      refine ⟨fun _ v2 e2 => ?_, fun hc => absurd hc (o3 k (by omega) (by omega))⟩
      rw [nx8 (by omega)] at e2
      subst e2
      exact ih (k + 1) m (by omega) (by omega)
  exact loop o.toNat 0 N (by omega) (by omega)
theorem a_partOn (hN : 5000 ≤ N) {S : mSt} {g o : Int} (h1 : S 1 = f) (ho : onP f g o) (h : Q S o) : w_X12_partOn N 0 g S Q := by
  obtain ⟨o0, o1, o2, o3⟩ := ho
  intro v1 e1
  subst e1
  have loop : ∀ (d k m : Nat), (k : Int) + d = o → d < m → w_X12_partOn_2 N Q (fun (x2_2 : Int) (S_2 : mSt) => Q S_2 x2_2) m 0 g k S := by
    intro d
    induction d with
    | zero =>
      intro k m hk hm
      obtain ⟨m, rfl⟩ : ∃ m', m = m' + 1 := ⟨m - 1, by omega⟩
      have e : (k : Int) = o := by omega
      show w_X12_partOn_2b N Q (w_X12_partOn_2 N Q (fun (x2_2 : Int) (S_2 : mSt) => Q S_2 x2_2) m) (fun (x2_2 : Int) (S_2 : mSt) => Q S_2 x2_2) 0 g k S
      unfold w_X12_partOn_2b
      refine a_of (by omega) (by omega) (by omega) (by omega) ?_
      rw [h1, e]
      exact ⟨fun _ => h, fun hc => absurd o2 hc⟩
    | succ d ih =>
      intro k m hk hm
      obtain ⟨m, rfl⟩ : ∃ m', m = m' + 1 := ⟨m - 1, by omega⟩
      show w_X12_partOn_2b N Q (w_X12_partOn_2 N Q (fun (x2_2 : Int) (S_2 : mSt) => Q S_2 x2_2) m) (fun (x2_2 : Int) (S_2 : mSt) => Q S_2 x2_2) 0 g k S
      unfold w_X12_partOn_2b
      refine a_of (by omega) (by omega) (by omega) (by omega) ?_
      rw [h1]
      refine ⟨fun hc => absurd hc (o3 k (by omega) (by omega)), fun _ v2 e2 => ?_⟩
      rw [nx8 (by omega)] at e2
      subst e2
      exact ih (k + 1) m (by omega) (by omega)
  exact loop o.toNat 0 N (by omega) (by omega)
theorem k_7 (hN : 5000 ≤ N) (I : IV N n X M q q' lw lw' P) (okX : okS X) (okM : okS M) : wl_7 N a1 a2 a3 a4 a5 X M (fun X1 M1 => Inv N (n + 1) X1 M1) := by
  obtain ⟨⟨hq, -, hlw, -⟩, -, -, hL, hR, -⟩ := id I
  unfold wl_7 w_L_peg w_X11_peg w_X12_peg
  generalize bI a2 = b2
  refine s_ckPart (fun p0 p1 => ⟨fun hb q2 e2 => ?_, fun hb q2 e2 => ?_⟩) (fun hb => ⟨rfl, ?_⟩)
  · have := qe e2 hq
    subst q2
    refine ⟨p0, p1, fun S2 e2 => ?_⟩
    subst e2
    refine a_isPart (fun _ _ => ⟨fun _ => thrO ⟨fun _ => ?_, fun hc => by omega⟩, fun hc => absurd hc (by decide)⟩) (fun hc => by omega)
    rw [nm_of (by omega) (by omega), Nat.zero_add, mup_ne _ _ _ (by decide : (1 : Nat) ≠ 0)]
    refine ⟨by omega, by omega, ?_⟩
    rw [(hL.1.1.1 a1 p0 p1).2.2.2.2.2.2]
    exact fin0 I (XF.rf _ _ _) (MQu.rf _)
  · have := qe e2 hq
    subst q2
    obtain ⟨o, ho⟩ := onP_ex hR.2.2.2.2.2 p0 p1
    refine s_partAt hN hL.1.1 ho (fun S2 e2 => ?_)
    subst e2
    refine a_isPart (fun _ _ => ⟨fun _ => thrO ⟨fun hc => by omega, fun _ => a_partOn hN (mup_ne _ _ _ (by decide)) ho ?_⟩, fun hc => absurd hc (by decide)⟩) (fun hc => by omega)
    exact fin0 I (XF.rf _ _ _) (MQu.rf _)
  · exact a_isPart (fun _ _ => by omega) (fun hc => ⟨fun hc => absurd rfl hc, fun _ => thrX (by decide) (finE I (by decide) (XF.rf _ _ _) (MQu.rf _))⟩)
theorem k_8 (hN : 5000 ≤ N) (I : IV N n X M q q' lw lw' P) (okX : okS X) (okM : okS M) : wl_8 N a1 a2 a3 a4 a5 X M (fun X1 M1 => Inv N (n + 1) X1 M1) := by
  obtain ⟨⟨hq, -, hlw, -⟩, -, -, hL, hR, -⟩ := id I
  have h4 := hR.2.2.1
  have e4 : X q 4 = M 1 4 := hL.2.1.2.2
  unfold wl_8 w_L_due w_X11_due w_X12_due
  generalize bI a2 = b2
  have n4 : nm (M 1 4 - 1) = M 1 4 - 1 := nm_of (by omega) (by omega)
  have no : (a1 < 0 ∨ M 1 4 ≤ a1) → w_X12_isIn N a1 0 (nm (M (0 + 1) 4 - 1)) M (fun (S1 : mSt) (v1 : Int) => ((v1 ≠ 0 → w_X12_due_22 N (fun (M2 : mSt) (v2 : Int) => w_X12_thrown N 0 M2 (fun (M3 : mSt) (v3 : Int) => v3 = 1 ∧ ((1 : Int) = 0 → (X 250 0) = v2) ∧ Inv N (n + 1) X M3)) 0 a1 b2 0 0 S1) ∧ (v1 = 0 → w_X12_due_22 N (fun (M2 : mSt) (v2 : Int) => w_X12_thrown N 0 M2 (fun (M3 : mSt) (v3 : Int) => v3 = 1 ∧ ((1 : Int) = 0 → (X 250 0) = v2) ∧ Inv N (n + 1) X M3)) 0 a1 b2 1 0 S1))) := by
    intro hb
    rw [Nat.zero_add, n4]
    exact a_isIn (fun _ _ => by omega) (fun hc => ⟨fun hc => absurd rfl hc, fun _ => thrX (by decide) (finE I (by decide) (XF.rf _ _ _) (MQu.rf _))⟩)
  refine ⟨fun hc => ⟨rfl, no (Or.inl hc)⟩, fun p0 q1 e1 => ?_⟩
  have := qe e1 hq
  subst q1
  rw [e4]
  refine ⟨fun p1 => ?_, fun hc => ⟨rfl, no (Or.inr hc)⟩⟩
  have ed := hL.2.2.2.1
  refine ⟨fun hb q2 e2 => ?_, fun hb q2 e2 => ?_⟩
  · have := qe e2 hq
    subst q2
    unfold w_X2_dueNight
    rw [nm_of (by omega) (by omega), ed _ (by omega) (by omega)]
    refine ⟨by omega, by omega, fun S2 e2 => ?_⟩
    subst e2
    rw [Nat.zero_add, n4]
    refine a_isIn (fun _ _ => ⟨fun _ => thrO ⟨fun _ => ?_, fun hc => by omega⟩, fun hc => absurd hc (by decide)⟩) (fun hc => by omega)
    rw [nm_of (x := 2 * a1) (by omega) (by omega), nm_of (x := 94 + 2 * a1) (by omega) (by omega), nm_of (by omega) (by omega), Nat.zero_add, mup_ne _ _ _ (by decide : (1 : Nat) ≠ 0)]
    refine ⟨by omega, by omega, ?_⟩
    rw [show 94 + 2 * a1 + 0 = 94 + a1 * 2 by omega]
    exact fin0 I (XF.rf _ _ _) (MQu.rf _)
  · have := qe e2 hq
    subst q2
    unfold w_X2_dueLight
    rw [nm_of (x := a1 * 2) (by omega) (by omega), nm_of (by omega) (by omega), ed _ (by omega) (by omega)]
    refine ⟨by omega, by omega, fun S2 e2 => ?_⟩
    subst e2
    rw [Nat.zero_add, n4]
    refine a_isIn (fun _ _ => ⟨fun _ => thrO ⟨fun hc => by omega, fun _ => ?_⟩, fun hc => absurd hc (by decide)⟩) (fun hc => by omega)
    rw [nm_of (x := 2 * a1) (by omega) (by omega), nm_of (x := 94 + 2 * a1) (by omega) (by omega), nm_of (by omega) (by omega), Nat.zero_add, mup_ne _ _ _ (by decide : (1 : Nat) ≠ 0)]
    refine ⟨by omega, by omega, ?_⟩
    rw [show 94 + 2 * a1 + 1 = 94 + (a1 * 2 + 1) by omega]
    exact fin0 I (XF.rf _ _ _) (MQu.rf _)
-- the log
theorem x_logged {S : mSt} {r : Nat} (h : LG S r f) (hT : S r 12 ≤ 512) {ago w : Int} (a0 : 0 ≤ ago) (a1 : ago < f 11) (w0 : 0 ≤ w) (w1 : w < 4) (hQ : Q S (f (110 + 4 * ago + w))) : w_X2_logged N r ago w S Q := by
  obtain ⟨l1, l2, l3⟩ := h
  intro v1 e1
  rw [nm_of (x := S r 12 - 1) (by omega) (by omega), nm_of (by omega) (by omega), iRem_nn (by unfold okI; omega) (by decide) (by omega) (by decide)] at e1
  rw [nm_of (x := v1 * 4) (by omega) (by omega), nm_of (by omega) (by omega)]
  refine ⟨by omega, by omega, ?_⟩
  have := l3 ago w a0 a1 w0 w1
  rw [show v1 * 4 + w = 4 * ((S r 12 - 1 - ago) % 60) + w by omega, this]
  exact hQ
theorem a_logged {S : mSt} {ago w : Int} (a0 : 0 ≤ ago) (a1 : ago < 60) (w0 : 0 ≤ w) (w1 : w < 4) (h : Q S (S 1 (110 + 4 * ago + w))) : w_X12_logged N 0 ago w S Q := by
  unfold w_X12_logged
  rw [nm_of (x := 4 * ago) (by omega) (by omega), nm_of (x := 110 + 4 * ago) (by omega) (by omega), nm_of (by omega) (by omega)]
  exact ⟨by omega, by omega, h⟩
theorem k_39 (hN : 5000 ≤ N) (hn : n < 512) (I : IV N n X M q q' lw lw' P) (okX : okS X) (okM : okS M) : wl_39 N a1 a2 a3 a4 a5 X M (fun X1 M1 => Inv N (n + 1) X1 M1) := by
  obtain ⟨⟨hq, -, hlw, -⟩, -, -, hL, hR, -⟩ := id I
  obtain ⟨-, -, -, -, hG, hT⟩ := hL
  obtain ⟨l1, l2, -⟩ := id hG
  unfold wl_39 w_L_log w_X11_log w_X12_log
  have bad : (a2 < 0 ∨ 3 < a2) → w_X12_isIn N a2 0 3 M (fun (S1 : mSt) (v1 : Int) => ((v1 ≠ 0 → w_X12_log_15 N (fun (M2 : mSt) (v2 : Int) => w_X12_thrown N 0 M2 (fun (M3 : mSt) (v3 : Int) => v3 = 1 ∧ ((1 : Int) = 0 → (X 250 0) = v2) ∧ Inv N (n + 1) X M3)) 0 a1 a2 0 0 S1) ∧ (v1 = 0 → w_X12_log_15 N (fun (M2 : mSt) (v2 : Int) => w_X12_thrown N 0 M2 (fun (M3 : mSt) (v3 : Int) => v3 = 1 ∧ ((1 : Int) = 0 → (X 250 0) = v2) ∧ Inv N (n + 1) X M3)) 0 a1 a2 1 0 S1))) := fun hb => a_isIn (fun _ _ => by omega) (fun hc => ⟨fun hc => absurd rfl hc, fun _ => thrX (by decide) (finE I (by decide) (XF.rf _ _ _) (MQu.rf _))⟩)
  refine ⟨fun hc => ⟨rfl, bad (Or.inl hc)⟩, fun w0 => ⟨fun w1 => ?_, fun hc => ⟨rfl, bad (Or.inr (by omega))⟩⟩⟩
  have em : (mup M 0 0 0) (0 + 1) 11 = M 1 11 := by rw [Nat.zero_add, mup_ne _ _ _ (by decide)]
  have none : (a1 < 0 ∨ M 1 11 ≤ a1) → ∀ S2 : mSt, S2 = mup X 250 0 (-1) → w_X12_isIn N a2 0 3 M (fun (S1 : mSt) (v1 : Int) => ((v1 ≠ 0 → w_X12_log_15 N (fun (M2 : mSt) (v2 : Int) => w_X12_thrown N 0 M2 (fun (M3 : mSt) (v3 : Int) => v3 = 0 ∧ ((0 : Int) = 0 → (S2 250 0) = v2) ∧ Inv N (n + 1) S2 M3)) 0 a1 a2 0 0 S1) ∧ (v1 = 0 → w_X12_log_15 N (fun (M2 : mSt) (v2 : Int) => w_X12_thrown N 0 M2 (fun (M3 : mSt) (v3 : Int) => v3 = 0 ∧ ((0 : Int) = 0 → (S2 250 0) = v2) ∧ Inv N (n + 1) S2 M3)) 0 a1 a2 1 0 S1))) := by
    intro hb S2 e2
    subst e2
    refine a_isIn (fun _ _ => ⟨fun _ => thrO ?_, fun hc => absurd hc (by decide)⟩) (fun hc => by omega)
    rw [em, nm_of (by omega) (by omega)]
    exact a_isIn (fun _ _ => by omega) (fun _ => ⟨fun _ => fin0 I (XF.rf _ _ _) (MQu.rf _), fun hc => absurd rfl hc⟩)
  refine ⟨fun hc => none (Or.inl hc), fun b0 q1 e1 => ?_⟩
  have := qe e1 hq
  subst q1
  unfold w_X2_logSize
  rw [iMin_min, ← l1]
  refine ⟨fun b1 q3 e3 => ?_, fun hc => none (Or.inr hc)⟩
  have := qe e3 hq
  subst q3
  refine x_logged hG (by omega) b0 b1 w0 w1 (fun S2 e2 => ?_)
  subst e2
  refine a_isIn (fun _ _ => ⟨fun _ => thrO ?_, fun hc => absurd hc (by decide)⟩) (fun hc => by omega)
  rw [em, nm_of (by omega) (by omega)]
  refine a_isIn (fun _ _ => ⟨fun hc => absurd hc (by decide), fun _ => a_logged b0 (by omega) w0 w1 ?_⟩) (fun hc => by omega)
  have em1 : (mup M 0 0 0) 1 = M 1 := mup_ne _ _ _ (by decide)
  rw [em1]
  exact fin0 I (XF.rf _ _ _) (MQu.rf _)
def ldL (f : mRow) (p : Int) : Nat → Int × Int
  | 0 => (0, -1)
  | k + 1 => if f (110 + 4 * (f 11 - 1 - k) + 1) = p then ((ldL f p k).1 + 1, f (110 + 4 * (f 11 - 1 - k) + 2)) else ldL f p k
theorem ldL_ok (f : mRow) (p : Int) : ∀ k : Nat, 0 ≤ (ldL f p k).1 ∧ (ldL f p k).1 ≤ k
  | 0 => by simp [ldL]
  | k + 1 => by have := ldL_ok f p k; unfold ldL; split <;> (try simp only []) <;> omega
theorem x_led (hN : 5000 ≤ N) {S : mSt} {r : Nat} {x2 : Int} {E : String → mSt → Prop} (hq : S 0 3 = r) (h : LG S r f) (hT : S r 12 ≤ 512) (hQ : Q S (if x2 = 0 then (ldL f p (f 11).toNat).1 else (ldL f p (f 11).toNat).2)) : w_X11_led_20 N Q E (fun (x2_7 : Int) (x3_7 : Int) (x4_7 : Int) (S_7 : mSt) => ((x2_7 = 0 → Q S_7 x3_7) ∧ (x2_7 ≠ 0 → Q S_7 x4_7))) N 0 p x2 0 (-1) (f 11 - 1) S := by
  obtain ⟨l1, l2, -⟩ := id h
  have loop : ∀ (d k m : Nat), (k : Int) + d = f 11 → d < m → w_X11_led_20 N Q E (fun (x2_7 : Int) (x3_7 : Int) (x4_7 : Int) (S_7 : mSt) => ((x2_7 = 0 → Q S_7 x3_7) ∧ (x2_7 ≠ 0 → Q S_7 x4_7))) m 0 p x2 (ldL f p k).1 (ldL f p k).2 (f 11 - 1 - k) S := by
    intro d
    induction d with
    | zero =>
      intro k m hk hm
      obtain ⟨m, rfl⟩ : ∃ m', m = m' + 1 := ⟨m - 1, by omega⟩
      refine ⟨fun _ => ?_, fun hc => by omega⟩
      rw [show k = (f 11).toNat by omega]
      refine ⟨fun hx => ?_, fun hx => ?_⟩
      · rw [if_pos hx] at hQ; exact hQ
      · rw [if_neg hx] at hQ; exact hQ
    | succ d ih =>
      intro k m hk hm
      obtain ⟨m, rfl⟩ : ∃ m', m = m' + 1 := ⟨m - 1, by omega⟩
      have hl := ldL_ok f p k
      refine ⟨fun hc => by omega, fun _ q1 e1 => ?_⟩
      have := qe e1 hq
      subst q1
      have nx : nm (f 11 - 1 - (k : Int) + -1) = f 11 - 1 - ((k + 1 : Nat) : Int) := by rw [nm_of (by omega) (by omega)]; omega
      refine x_logged h hT (by omega) (by omega) (by omega) (by omega) ⟨fun hc v1 e1 => ?_, fun hc v3 e3 q4 e4 => ?_⟩
      · rw [nx] at e1
        subst e1
        have e5 : ldL f p (k + 1) = ldL f p k := by
          show (if _ then _ else _) = _
          rw [if_neg hc]
        have := ih (k + 1) m (by omega) (by omega)
        rw [e5] at this
        exact this
      · have := qe e4 hq
        subst q4
        refine x_logged h hT (by omega) (by omega) (by omega) (by omega) (fun v6 e6 v1 e1 => ?_)
        rw [nx] at e1
        rw [nm_of (by omega) (by omega)] at e3
        subst e1
        have e5 : ldL f p (k + 1) = ((ldL f p k).1 + 1, f (110 + 4 * (f 11 - 1 - k) + 2)) := by
          show (if _ then _ else _) = _
          rw [if_pos hc]
        have := ih (k + 1) m (by omega) (by omega)
        rw [e5] at this
        rw [e3, e6]
        exact this
  have := loop (f 11).toNat 0 N (by omega) (by omega)
  rw [show f 11 - 1 - ((0 : Nat) : Int) = f 11 - 1 by omega] at this
  exact this
theorem y_led (hN : 5000 ≤ N) {S : mSt} {x2 : Int} (h1 : S 1 = f) (h11 : 0 ≤ f 11 ∧ f 11 ≤ 60) (hQ : Q S (if x2 = 0 then (ldL f p (f 11).toNat).1 else (ldL f p (f 11).toNat).2)) : w_X12_led_41 N Q (fun (x2_7 : Int) (x3_7 : Int) (x4_7 : Int) (S_7 : mSt) => ((x2_7 = 0 → Q S_7 x3_7) ∧ (x2_7 ≠ 0 → Q S_7 x4_7))) N 0 p x2 0 (-1) (f 11 - 1) S := by
  have loop : ∀ (d k m : Nat), (k : Int) + d = f 11 → d < m → w_X12_led_41 N Q (fun (x2_7 : Int) (x3_7 : Int) (x4_7 : Int) (S_7 : mSt) => ((x2_7 = 0 → Q S_7 x3_7) ∧ (x2_7 ≠ 0 → Q S_7 x4_7))) m 0 p x2 (ldL f p k).1 (ldL f p k).2 (f 11 - 1 - k) S := by
    intro d
    induction d with
    | zero =>
      intro k m hk hm
      obtain ⟨m, rfl⟩ : ∃ m', m = m' + 1 := ⟨m - 1, by omega⟩
      refine ⟨fun _ => ?_, fun hc => by omega⟩
      rw [show k = (f 11).toNat by omega]
      refine ⟨fun hx => ?_, fun hx => ?_⟩
      · rw [if_pos hx] at hQ; exact hQ
      · rw [if_neg hx] at hQ; exact hQ
    | succ d ih =>
      intro k m hk hm
      obtain ⟨m, rfl⟩ : ∃ m', m = m' + 1 := ⟨m - 1, by omega⟩
      have hl := ldL_ok f p k
      have nx : nm (f 11 - 1 - (k : Int) + -1) = f 11 - 1 - ((k + 1 : Nat) : Int) := by rw [nm_of (by omega) (by omega)]; omega
      refine ⟨fun hc => by omega, fun _ => a_logged (by omega) (by omega) (by omega) (by omega) ?_⟩
      rw [h1]
      refine ⟨fun hc v3 e3 => a_logged (by omega) (by omega) (by omega) (by omega) (fun v6 e6 v1 e1 => ?_), fun hc v1 e1 => ?_⟩
      · rw [nx] at e1
        rw [nm_of (by omega) (by omega)] at e3
        subst e1
        have e5 : ldL f p (k + 1) = ((ldL f p k).1 + 1, f (110 + 4 * (f 11 - 1 - k) + 2)) := by
          show (if _ then _ else _) = _
          rw [if_pos hc]
        have := ih (k + 1) m (by omega) (by omega)
        rw [e5] at this
        rw [e3, e6, h1]
        exact this
      · rw [nx] at e1
        subst e1
        have e5 : ldL f p (k + 1) = ldL f p k := by
          show (if _ then _ else _) = _
          rw [if_neg hc]
        have := ih (k + 1) m (by omega) (by omega)
        rw [e5] at this
        exact this
  have := loop (f 11).toNat 0 N (by omega) (by omega)
  rw [show f 11 - 1 - ((0 : Nat) : Int) = f 11 - 1 by omega] at this
  exact this
theorem k_38 (hN : 5000 ≤ N) (hn : n < 512) (I : IV N n X M q q' lw lw' P) (okX : okS X) (okM : okS M) : wl_38 N a1 a2 a3 a4 a5 X M (fun X1 M1 => Inv N (n + 1) X1 M1) := by
  obtain ⟨⟨hq, -, hlw, -⟩, -, -, hL, hR, -⟩ := id I
  obtain ⟨-, -, -, -, hG, hT⟩ := hL
  obtain ⟨l1, l2, -⟩ := id hG
  unfold wl_38 w_L_led w_X11_led w_X12_led
  generalize bI a2 = b2
  refine s_ckPart (fun p0 p1 v2 e2 v3 e3 q4 e4 => ?_) (fun hb => ⟨rfl, ?_⟩)
  · have := qe e4 hq
    subst q4
    subst e2; subst e3
    unfold w_X2_logSize
    intro v6 e6
    rw [iMin_min, ← l1, nm_of (by omega) (by omega)] at e6
    subst e6
    refine x_led hN hq hG (by omega) (fun S2 e2 => ?_)
    subst e2
    refine a_isPart (fun _ _ => ⟨fun _ => thrO (fun v2 e2 v3 e3 v4 e4 => ?_), fun hc => absurd hc (by decide)⟩) (fun hc => by omega)
    subst e2; subst e3
    rw [Nat.zero_add, mup_ne _ _ _ (by decide : (1 : Nat) ≠ 0), nm_of (by omega) (by omega)] at e4
    subst e4
    exact y_led hN (mup_ne _ _ _ (by decide)) (by omega) (fin0 I (XF.rf _ _ _) (MQu.rf _))
  · exact a_isPart (fun _ _ => by omega) (fun hc => ⟨fun hc => absurd rfl hc, fun _ => thrX (by decide) (finE I (by decide) (XF.rf _ _ _) (MQu.rf _))⟩)
-- count
theorem x_wetParts (hN : 5000 ≤ N) {S : mSt} {r : Nat} (hM : RM S r f) (h : Q S (bset (fun p => f (14 + 6 * p + 2)) 8)) : w_X5_wetParts N r S Q := by
  intro v1 e1 v2 e2
  subst e1; subst e2
  refine lpUp (K := 8) (W := fun n k T => w_X5_wetParts_4 N Q (fun (x1_3 : Int) (S_3 : mSt) => Q S_3 x1_3) n r (bset (fun p => f (14 + 6 * p + 2)) k) k T) (I := fun k X' => X' = S) (fun n X' hI => ?_) (fun n k X' hk hI ih => ?_) (by omega) rfl
  · subst hI; exact ⟨fun _ => h, fun hc => by omega⟩
  · subst hI
    refine ⟨fun hc => by omega, fun _ => ⟨by omega, by omega, ?_⟩⟩
    rw [(hM.1 k (by omega) (by omega)).2.2.1]
    refine ⟨fun hv v1 e1 => ?_, fun hv v2 e2 v1 e1 => ?_⟩
    · rw [nx8 (by omega)] at e1
      subst e1
      rw [bset_no (g := fun p => f (14 + 6 * p + 2)) (by show ¬ 0 < f (14 + 6 * k + 2); omega)]
      exact ih X' rfl
    · rw [nx8 (by omega)] at e1
      subst e1
      rw [bset_up (g := fun p => f (14 + 6 * p + 2)) hv] at e2
      subst e2
      exact ih X' rfl
theorem y_such (hN : 5000 ≤ N) {S : mSt} (h1 : S 1 = f) {w : Int} (w0 : 0 ≤ w) (w1 : w < 6) (h : Q S (bset (fun p => f (14 + 6 * p + w)) 8)) : w_X12_such N 0 w S Q := by
  intro v1 e1 v2 e2
  subst e1; subst e2
  refine lpUp (K := 8) (W := fun n k T => w_X12_such_4 N Q (fun (x2_3 : Int) (S_3 : mSt) => Q S_3 x2_3) n 0 w (bset (fun p => f (14 + 6 * p + w)) k) k T) (I := fun k X' => X' = S) (fun n X' hI => ?_) (fun n k X' hk hI ih => ?_) (by omega) rfl
  · subst hI; exact ⟨fun _ => h, fun hc => by omega⟩
  · subst hI
    refine ⟨fun hc => by omega, fun _ => a_of (by omega) (by omega) w0 w1 ?_⟩
    rw [h1]
    have hb := bset_ok (fun p => f (14 + 6 * p + w)) k (by omega)
    refine ⟨fun hv v1 e1 v2 e2 => ?_, fun hv v1 e1 v2 e2 => ?_⟩
    · rw [nx8 (by omega)] at e2
      rw [bOr_0 (by unfold okI; omega), bset_no (g := fun p => f (14 + 6 * p + w)) (by show ¬ 0 < f (14 + 6 * k + w); omega)] at e1
      subst e1; subst e2
      exact ih X' rfl
    · rw [nx8 (by omega)] at e2
      rw [bset_up (g := fun p => f (14 + 6 * p + w)) hv] at e1
      subst e1; subst e2
      exact ih X' rfl
theorem k_44 (hN : 5000 ≤ N) (I : IV N n X M q q' lw lw' P) (okX : okS X) (okM : okS M) : wl_44 N a1 a2 a3 a4 a5 X M (fun X1 M1 => Inv N (n + 1) X1 M1) := by
  obtain ⟨⟨hq, -, hlw, -⟩, -, -, hL, hR, ⟨-, lw1, -, lw2⟩, hP, -⟩ := id I
  obtain ⟨⟨hM, y5, y6, y7, y8, y12⟩, ⟨z0, z3, z4⟩, -, -, ⟨l1, l2, -⟩, -⟩ := hL
  unfold wl_44 w_X11_count w_X12_count
  -- the model's answer
  have md : ∀ v, (∀ (Q : mSt → Int → Prop), Q (mup M 0 0 0) v → ((a1 ≠ 0 → ((a1 ≠ 1 → ((a1 ≠ 2 → ((a1 ≠ 3 → ((a1 ≠ 4 → ((a1 ≠ 5 → w_X12_isIn N a1 6 9 (mup M 0 0 0) (fun (S2 : mSt) (v2 : Int) => ((v2 = 0 → ((a1 ≠ 10 → ((a1 ≠ 11 → ((a1 ≠ 12 → ((a1 ≠ 13 → Q S2 (-1)) ∧ (a1 = 13 → Q S2 (S2 0 7)))) ∧ (a1 = 12 → Q S2 (S2 (0 + 1) 11)))) ∧ (a1 = 11 → w_X12_such N 0 2 S2 (fun (S3 : mSt) (v3 : Int) => Q S3 v3)))) ∧ (a1 = 10 → w_X12_such N 0 4 S2 (fun (S4 : mSt) (v4 : Int) => Q S4 v4)))) ∧ (v2 ≠ 0 → (0 ≤ (nm ((nm (5 + a1)) - 6)) ∧ (nm ((nm (5 + a1)) - 6)) < 750 ∧ Q S2 (S2 (0 + 1) (nm ((nm (5 + a1)) - 6)))))))) ∧ (a1 = 5 → Q (mup M 0 0 0) ((mup M 0 0 0) (0 + 1) 10)))) ∧ (a1 = 4 → Q (mup M 0 0 0) ((mup M 0 0 0) (0 + 1) 9)))) ∧ (a1 = 3 → Q (mup M 0 0 0) ((mup M 0 0 0) (0 + 1) 1)))) ∧ (a1 = 2 → Q (mup M 0 0 0) ((mup M 0 0 0) (0 + 1) 0)))) ∧ (a1 = 1 → Q (mup M 0 0 0) ((mup M 0 0 0) (0 + 1) 4)))) ∧ (a1 = 0 → Q (mup M 0 0 0) ((mup M 0 0 0) (0 + 1) 3)))) → ∀ S1 : mSt, S1 = mup M 0 0 0 → ((a1 ≠ 0 → ((a1 ≠ 1 → ((a1 ≠ 2 → ((a1 ≠ 3 → ((a1 ≠ 4 → ((a1 ≠ 5 → w_X12_isIn N a1 6 9 S1 (fun (S2 : mSt) (v2 : Int) => ((v2 = 0 → ((a1 ≠ 10 → ((a1 ≠ 11 → ((a1 ≠ 12 → ((a1 ≠ 13 → (v = -1 ∧ Inv N (n + 1) X S2)) ∧ (a1 = 13 → (v = (S2 0 7) ∧ Inv N (n + 1) X S2)))) ∧ (a1 = 12 → (v = (S2 (0 + 1) 11) ∧ Inv N (n + 1) X S2)))) ∧ (a1 = 11 → w_X12_such N 0 2 S2 (fun (S3 : mSt) (v3 : Int) => (v = v3 ∧ Inv N (n + 1) X S3))))) ∧ (a1 = 10 → w_X12_such N 0 4 S2 (fun (S4 : mSt) (v4 : Int) => (v = v4 ∧ Inv N (n + 1) X S4))))) ∧ (v2 ≠ 0 → (0 ≤ (nm ((nm (5 + a1)) - 6)) ∧ (nm ((nm (5 + a1)) - 6)) < 750 ∧ (v = (S2 (0 + 1) (nm ((nm (5 + a1)) - 6))) ∧ Inv N (n + 1) X S2)))))) ∧ (a1 = 5 → (v = (S1 (0 + 1) 10) ∧ Inv N (n + 1) X S1)))) ∧ (a1 = 4 → (v = (S1 (0 + 1) 9) ∧ Inv N (n + 1) X S1)))) ∧ (a1 = 3 → (v = (S1 (0 + 1) 1) ∧ Inv N (n + 1) X S1)))) ∧ (a1 = 2 → (v = (S1 (0 + 1) 0) ∧ Inv N (n + 1) X S1)))) ∧ (a1 = 1 → (v = (S1 (0 + 1) 4) ∧ Inv N (n + 1) X S1)))) ∧ (a1 = 0 → (v = (S1 (0 + 1) 3) ∧ Inv N (n + 1) X S1))) := by
    intro v hQ S1 e1
    subst e1
    exact hQ (fun S v' => v = v' ∧ Inv N (n + 1) X S) ⟨rfl, I.next (XF.rf _ _ _) (MQu.rf _)⟩
  have m1 : (mup M 0 0 0) (0 + 1) = M 1 := mup_ne _ _ _ (by decide)
  have m7 : (mup M 0 0 0) 0 7 = M 0 7 := mup_i _ _ _ (by decide)
  refine ⟨fun h q1 e1 => ?_, fun h q1 e1 => ?_, fun h q1 e1 => ?_, fun h q1 e1 => ?_, fun h q1 e1 => ?_, fun h q1 e1 => ?_, fun h q1 e1 => ?_, fun h q1 e1 => ?_, fun h q1 e1 => ?_, fun h q1 e1 => ?_, fun h q1 e1 => ?_, fun h q1 e1 => ?_, fun h q1 e1 => ?_, fun h => ?_, fun h => ?_⟩
  case refine_4 =>
    have := qe e1 hlw
    subst q1
    refine md _ (fun Q hQ => ⟨fun _ => ⟨fun _ => ⟨fun _ => ⟨fun hc => by omega, fun _ => ?_⟩, fun hc => by omega⟩, fun hc => by omega⟩, fun hc => by omega⟩)
    rw [m1, ← lw2, ← lw1.1]; exact hQ
  case refine_14 =>
    refine md _ (fun Q hQ => ⟨fun _ => ⟨fun _ => ⟨fun _ => ⟨fun _ => ⟨fun _ => ⟨fun _ => a_isIn (fun _ _ => by omega) (fun _ => ⟨fun _ => ⟨fun _ => ⟨fun _ => ⟨fun _ => ⟨fun hc => by omega, fun _ => ?_⟩, fun hc => by omega⟩, fun hc => by omega⟩, fun hc => by omega⟩, fun hc => absurd rfl hc⟩), fun hc => by omega⟩, fun hc => by omega⟩, fun hc => by omega⟩, fun hc => by omega⟩, fun hc => by omega⟩, fun hc => by omega⟩)
    rw [m7, ← hP.2.1]; exact hQ
  case refine_15 =>
    refine md _ (fun Q hQ => ⟨fun _ => ⟨fun _ => ⟨fun _ => ⟨fun _ => ⟨fun _ => ⟨fun _ => a_isIn (fun _ _ => by omega) (fun _ => ⟨fun _ => ⟨fun _ => ⟨fun _ => ⟨fun _ => ⟨fun _ => hQ, fun hc => by omega⟩, fun hc => by omega⟩, fun hc => by omega⟩, fun hc => by omega⟩, fun hc => absurd rfl hc⟩), fun hc => by omega⟩, fun hc => by omega⟩, fun hc => by omega⟩, fun hc => by omega⟩, fun hc => by omega⟩, fun hc => by omega⟩)
  all_goals (have := qe e1 hq; subst q1)
  · refine md _ (fun Q hQ => ⟨fun hc => by omega, fun _ => ?_⟩)
    rw [m1, ← z3]; exact hQ
  · refine md _ (fun Q hQ => ⟨fun _ => ⟨fun hc => by omega, fun _ => ?_⟩, fun hc => by omega⟩)
    rw [m1, ← z4]; exact hQ
  · refine md _ (fun Q hQ => ⟨fun _ => ⟨fun _ => ⟨fun hc => by omega, fun _ => ?_⟩, fun hc => by omega⟩, fun hc => by omega⟩)
    rw [m1, ← z0]; exact hQ
  · refine md _ (fun Q hQ => ⟨fun _ => ⟨fun _ => ⟨fun _ => ⟨fun _ => ⟨fun hc => by omega, fun _ => ?_⟩, fun hc => by omega⟩, fun hc => by omega⟩, fun hc => by omega⟩, fun hc => by omega⟩)
    rw [m1, ← hM.2.1]; exact hQ
  · refine md _ (fun Q hQ => ⟨fun _ => ⟨fun _ => ⟨fun _ => ⟨fun _ => ⟨fun _ => ⟨fun hc => by omega, fun _ => ?_⟩, fun hc => by omega⟩, fun hc => by omega⟩, fun hc => by omega⟩, fun hc => by omega⟩, fun hc => by omega⟩)
    rw [m1, ← hM.2.2.1]; exact hQ
  · refine md _ (fun Q hQ => ⟨fun _ => ⟨fun _ => ⟨fun _ => ⟨fun _ => ⟨fun _ => ⟨fun _ => a_isIn (fun _ _ => ⟨fun hc => absurd hc (by decide), fun _ => ?_⟩) (fun hc => by omega), fun hc => by omega⟩, fun hc => by omega⟩, fun hc => by omega⟩, fun hc => by omega⟩, fun hc => by omega⟩, fun hc => by omega⟩)
    rw [m1, h, show nm (nm (5 + 6) - 6) = 5 by decide, ← y5]; exact ⟨by decide, by decide, hQ⟩
  · refine md _ (fun Q hQ => ⟨fun _ => ⟨fun _ => ⟨fun _ => ⟨fun _ => ⟨fun _ => ⟨fun _ => a_isIn (fun _ _ => ⟨fun hc => absurd hc (by decide), fun _ => ?_⟩) (fun hc => by omega), fun hc => by omega⟩, fun hc => by omega⟩, fun hc => by omega⟩, fun hc => by omega⟩, fun hc => by omega⟩, fun hc => by omega⟩)
    rw [m1, h, show nm (nm (5 + 7) - 6) = 6 by decide, ← y6]; exact ⟨by decide, by decide, hQ⟩
  · refine md _ (fun Q hQ => ⟨fun _ => ⟨fun _ => ⟨fun _ => ⟨fun _ => ⟨fun _ => ⟨fun _ => a_isIn (fun _ _ => ⟨fun hc => absurd hc (by decide), fun _ => ?_⟩) (fun hc => by omega), fun hc => by omega⟩, fun hc => by omega⟩, fun hc => by omega⟩, fun hc => by omega⟩, fun hc => by omega⟩, fun hc => by omega⟩)
    rw [m1, h, show nm (nm (5 + 8) - 6) = 7 by decide, ← y7]; exact ⟨by decide, by decide, hQ⟩
  · refine md _ (fun Q hQ => ⟨fun _ => ⟨fun _ => ⟨fun _ => ⟨fun _ => ⟨fun _ => ⟨fun _ => a_isIn (fun _ _ => ⟨fun hc => absurd hc (by decide), fun _ => ?_⟩) (fun hc => by omega), fun hc => by omega⟩, fun hc => by omega⟩, fun hc => by omega⟩, fun hc => by omega⟩, fun hc => by omega⟩, fun hc => by omega⟩)
    rw [m1, h, show nm (nm (5 + 9) - 6) = 8 by decide, ← y8]; exact ⟨by decide, by decide, hQ⟩
  · refine md _ (fun Q hQ => ⟨fun _ => ⟨fun _ => ⟨fun _ => ⟨fun _ => ⟨fun _ => ⟨fun _ => a_isIn (fun _ _ => by omega) (fun _ => ⟨fun _ => ⟨fun hc => by omega, fun _ => y_such hN m1 (by omega) (by omega) ?_⟩, fun hc => absurd rfl hc⟩), fun hc => by omega⟩, fun hc => by omega⟩, fun hc => by omega⟩, fun hc => by omega⟩, fun hc => by omega⟩, fun hc => by omega⟩)
    have e5 : bset (fun p => M 1 (14 + 6 * p + 4)) 8 = X (q + 1) 6 := by
      have h0 := hM.2.2.2
      have := hung_set (X (q + 1) 6).toNat (by omega)
      rw [show (((X (q + 1) 6).toNat : Nat) : Int) = X (q + 1) 6 by omega] at this
      rw [← this]
      exact bset_cong 8 (fun j hj => (hM.1 j (by omega) (by omega)).2.2.2.2.1.symm)
    rw [e5]; exact hQ
  · refine x_wetParts hN hM (md _ (fun Q hQ => ⟨fun _ => ⟨fun _ => ⟨fun _ => ⟨fun _ => ⟨fun _ => ⟨fun _ => a_isIn (fun _ _ => by omega) (fun _ => ⟨fun _ => ⟨fun _ => ⟨fun hc => by omega, fun _ => y_such hN m1 (by omega) (by omega) hQ⟩, fun hc => by omega⟩, fun hc => absurd rfl hc⟩), fun hc => by omega⟩, fun hc => by omega⟩, fun hc => by omega⟩, fun hc => by omega⟩, fun hc => by omega⟩, fun hc => by omega⟩))
  · unfold w_X2_logSize
    refine md _ (fun Q hQ => ⟨fun _ => ⟨fun _ => ⟨fun _ => ⟨fun _ => ⟨fun _ => ⟨fun _ => a_isIn (fun _ _ => by omega) (fun _ => ⟨fun _ => ⟨fun _ => ⟨fun _ => ⟨fun hc => by omega, fun _ => ?_⟩, fun hc => by omega⟩, fun hc => by omega⟩, fun hc => absurd rfl hc⟩), fun hc => by omega⟩, fun hc => by omega⟩, fun hc => by omega⟩, fun hc => by omega⟩, fun hc => by omega⟩, fun hc => by omega⟩)
    rw [m1, l1, ← iMin_min]; exact hQ
end cnts
