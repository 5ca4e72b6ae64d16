set_option maxHeartbeats 400000
set_option maxRecDepth 20000
/-! ===== the pure part: a text of the house, the reference ===== -/
section hrefr
variable {N : Nat} {M0 M M' : mSt} {tx : Int → Int} {L a p lo hi w B : Int} {t j : Nat} {f : mRow}
theorem tok_one {t t' : Nat} {b : Int} (hne : t ≠ t') (h1 : tok tx L t b = true) : ¬ tok tx L t' b = true := fun h2 => hne ((of_decide_eq_true h1).2.symm.trans (of_decide_eq_true h2).2)
theorem y_houseLine {Q : mSt → Prop} (hN : 5000 ≤ N) (hbt : ∀ k, 0 ≤ k → k < L → 0 ≤ tx k ∧ tx k ≤ 255) (ok : okS M) (h10 : M 0 10 = -1) (e1 : M 1 = f) (hR : RR f) (R : RD M tx L a) (h13 : M 0 13 = -1) (hQ : ∀ M', HR M M' tx L (hLine tx L f (ns tx L a)) → Q M') : w_X12_houseLine N 0 M Q := by
  have h : LR M M tx L a := ⟨MS.rf ok, R, h13⟩
  have h0 := h.ns0
  have hid := ns_idem tx L a
  have bad : ∀ (M' : mSt), DR M M' (ns tx L a) 400 → HR M M' tx L (ns tx L a, ns tx L a, f) := fun M' hd => HR.bad hd rfl
  unfold hLine at hQ
  refine h.place hN (fun M1 h1 v2 ev => ?_)
  subst ev
  refine h1.has hN (t := 9) (j := 7) rfl (by decide) (by decide) (fun t9 M2 p2 h2 n2 => ⟨fun hc => absurd hc (by decide), fun _ => ?_⟩) (fun t9 M2 h2 => ⟨fun _ => ?_, fun hc => absurd rfl hc⟩)
  · rw [hid] at t9 n2
    rw [if_pos t9] at hQ
    have e21 : M2 1 = f := (h2.1.2.1 1 (by decide)).trans e1
    have e23 : M2 (0 + 1) 3 = f 3 := by show M2 1 3 = _; rw [e21]
    unfold w_X12_soapLine
    rw [e23]
    refine ⟨fun k6 => ?_, fun k6 => ?_⟩
    · rw [if_neg k6, ← n2] at hQ
      exact y_soapLine hN hbt h10 e1 hR h2 k6 hQ
    · rw [if_pos k6] at hQ
      exact h2.wrong h0.1 h0.2 (fun M3 hd => hd.soapLine (hQ M3 (bad M3 hd)))
  rw [hid] at t9 h2
  rw [if_neg (by rw [t9]; decide)] at hQ
  refine h2.has hN (t := 13) (j := 11) rfl (by decide) (by decide) (fun t13 M3 p3 h3 n3 => ⟨fun hc => absurd hc (by decide), fun _ => ?_⟩) (fun t13 M3 h3 => ⟨fun _ => ?_, fun hc => absurd rfl hc⟩)
  · rw [hid] at t13 n3
    rw [if_neg (tok_one (t' := 21) (by decide) t13), if_pos t13, ← n3] at hQ
    exact y_partLine hN hbt h10 e1 hR h3 hQ
  rw [hid] at t13 h3
  refine h3.has hN (t := 18) (j := 16) rfl (by decide) (by decide) (fun t18 M4 p4 h4 n4 => ⟨fun hc => absurd hc (by decide), fun _ => ?_⟩) (fun t18 M4 h4 => ⟨fun _ => ?_, fun hc => absurd rfl hc⟩)
  · rw [hid] at t18 n4
    rw [if_neg (tok_one (t' := 21) (by decide) t18), if_neg (by rw [t13]; decide), if_pos t18, ← n4] at hQ
    unfold hWind at hQ
    refine h4.num hN (fun M5 p5 g r5 g0 g1 h5 v18 ev => ?_) (fun M5 w v r5 hd v18 ev => ?_)
    · subst ev
      rw [bnd_good r5] at hQ
      rw [nm_of (x := 62 + v18) (by omega) (by omega)]
      exact y_tells hN (by decide) h10 e1 (by omega) (by omega) h5 (fun v v0 v1 => hR.cell (hR.1.1.wind g0 (by omega) ⟨v0, v1⟩) (by omega) (fun p a b => by omega)) hQ
    · exact hd.fig (fun v2 ev => ⟨fun _ => hQ M5 (HR.bad hd (bnd_bad r5 hd.2.2.1)), fun hc => absurd hc hd.no⟩)
  rw [hid] at t18 h4
  refine h4.has hN (t := 21) (j := 19) rfl (by decide) (by decide) (fun t21 M5 p5 h5 n5 => ⟨fun hc => absurd hc (by decide), fun _ => ?_⟩) (fun t21 M5 h5 => ⟨fun _ => ?_, fun hc => absurd rfl hc⟩)
  · rw [hid] at t21 n5
    rw [if_pos t21] at hQ
    have e21 : M5 1 = f := (h5.1.2.1 1 (by decide)).trans e1
    have e24 : M5 (0 + 1) 4 = f 4 := by show M5 1 4 = _; rw [e21]
    unfold w_X12_dueLine
    rw [e24]
    refine ⟨fun k8 => ?_, fun k8 => ?_⟩
    · rw [if_neg k8, ← n5] at hQ
      exact y_dueLine hN h10 e1 hR h5 k8 hQ
    · rw [if_pos k8] at hQ
      exact h5.wrong h0.1 h0.2 (fun M3 hd => hd.dueLine (hQ M3 (bad M3 hd)))
  rw [hid] at t21 h5
  rw [if_neg (by rw [t21]; decide), if_neg (by rw [t13]; decide), if_neg (by rw [t18]; decide)] at hQ
  refine h5.has hN (t := 23) (j := 21) rfl (by decide) (by decide) (fun t23 M6 p6 h6 n6 => ⟨fun hc => absurd hc (by decide), fun _ => ?_⟩) (fun t23 M6 h6 => ⟨fun _ => ?_, fun hc => absurd rfl hc⟩)
  · rw [hid] at t23 n6
    rw [if_pos t23, ← n6] at hQ
    exact y_tells hN (by decide) h10 e1 (by decide) (by decide) h6 (fun v v0 v1 => hR.field (by omega) v0 (by omega) (by omega)) hQ
  rw [hid] at t23 h6
  rw [if_neg (by rw [t23]; decide)] at hQ
  refine h6.has hN (t := 10) (j := 8) rfl (by decide) (by decide) (fun t10 M7 p7 h7 n7 => ⟨fun hc => absurd hc (by decide), fun _ => ?_⟩) (fun t10 M7 h7 => ⟨fun _ => ?_, fun hc => absurd rfl hc⟩)
  · rw [hid] at t10 n7
    rw [if_pos t10, ← n7] at hQ
    exact y_tells hN (by decide) h10 e1 (by decide) (by decide) h7 (fun v v0 v1 => hR.field (by omega) v0 (by omega) (by omega)) hQ
  rw [hid] at t10 h7
  rw [if_neg (by rw [t10]; decide)] at hQ
  refine h7.has hN (t := 24) (j := 22) rfl (by decide) (by decide) (fun t24 M8 p8 h8 n8 => ⟨fun hc => absurd hc (by decide), fun _ => ?_⟩) (fun t24 M8 h8 => ⟨fun _ => ?_, fun hc => absurd rfl hc⟩)
  · rw [hid] at t24 n8
    rw [if_pos t24, ← n8] at hQ
    exact y_tells hN (by decide) h10 e1 (by decide) (by decide) h8 (fun v v0 v1 => hR.field (by omega) v0 (by omega) (by omega)) hQ
  rw [hid] at t24 h8
  rw [if_neg (by rw [t24]; decide)] at hQ
  refine h8.has hN (t := 25) (j := 23) rfl (by decide) (by decide) (fun t25 M9 p9 h9 n9 => ⟨fun hc => absurd hc (by decide), fun _ => ?_⟩) (fun t25 M9 h9 => ⟨fun _ => ?_, fun hc => absurd rfl hc⟩)
  · rw [hid] at t25 n9
    rw [if_pos t25, ← n9] at hQ
    exact y_tells hN (by decide) h10 e1 (by decide) (by decide) h9 (fun v v0 v1 => hR.field (by omega) v0 (by omega) (by omega)) hQ
  rw [hid] at t25 h9
  rw [if_neg (by rw [t25]; decide)] at hQ
  rw [h9.2.1.2.1]
  exact h9.wrong h0.1 h0.2 (fun M10 hd => hQ M10 (bad M10 hd))
/-- a blank skipped behind a fault -/
theorem RD.skipH {Q : mSt → Prop} (hN : 5000 ≤ N) (R : RD M tx L a) (h10 : M 0 10 = -1) (h : MH M M') (p0 : 0 ≤ M' 0 12) (hQ : ∀ M2, MH M M2 → M2 0 13 = M' 0 13 → Q M2) : w_X12_skip N 0 M' Q := by
  obtain ⟨r1, r2, r3, r4, r5, r6⟩ := R
  have e11 : M' 0 11 = L := (h.2.2.1 11 (by decide) (by decide)).trans r1
  by_cases hl : M' 0 12 ≤ L
  · have R' : RD M' tx L (M' 0 12) := by
      refine ⟨e11, rfl, p0, hl, r5, Or.inl ?_⟩
      rw [h.2.2.1 10 (by decide) (by decide), h.2.1 6 (by decide) (by decide)]
      rcases r6 with r6 | r6
      · exact r6
      · exact absurd (h10.symm.trans r6.1) (by decide)
    refine y_skip hN R' (fun R2 => hQ _ ⟨okS_up h.1 ?_, fun r x y => (mup_ne _ _ _ x).trans (h.2.1 r x y), fun i x y => by rw [mup_i _ _ _ x]; exact h.2.2.1 i x y, fun k hk => by rw [mup_ne _ _ _ (by decide)]; exact h.2.2.2 k hk⟩ (mup_i _ _ _ (by decide)))
    have := R2.2.2
    unfold okI; omega
  · obtain ⟨fu, rfl⟩ : ∃ m, N = m + 1 := ⟨N - 1, by omega⟩
    refine ⟨fun _ => hQ M' h rfl, fun hc => ?_⟩
    rw [e11] at hc
    omega
/-- the text's result -/
def HZ (M M' : mSt) (q : Int × mRow) : Prop := (q.1 = -1 ∧ MH M M' ∧ M' 0 13 = -1 ∧ M' 1 = q.2) ∨ (q.1 ≠ -1 ∧ MH M M' ∧ M' 0 13 = q.1)
theorem y_readH {Q : mSt → Int → Prop} {ko144 : Int → mSt → Prop} (hN : 5000 ≤ N) (hbt : ∀ k, 0 ≤ k → k < L → 0 ≤ tx k ∧ tx k ≤ 255) : ∀ (k fu x3 : Nat) (M : mSt) (a : Int) (f : mRow), x3 + k = 14 → k + 1 < fu → okS M → M 0 10 = -1 → M 1 = f → RR f → RD M tx L a → M 0 13 = -1 → (∀ M' v, HZ M M' (hLoop tx L k f (ns tx L a)) → ko144 v M') → w_X12_read_23 N Q ko144 fu 0 0 1 x3 M := by
  intro k
  induction k with
  | zero =>
    intro fu x3 M a f hk hf ok h10 e1 hR R h13 hQ
    obtain ⟨fu, rfl⟩ : ∃ m, fu = m + 2 := ⟨fu - 2, by omega⟩
    have h : LR M M tx L a := ⟨MS.rf ok, R, h13⟩
    have h0 := h.ns0
    have e3 : x3 = 14 := by omega
    subst e3
    refine ⟨fun hc => absurd hc (by decide), fun _ => ⟨fun hc => absurd h13 hc, fun _ => h.skip hN (fun M1 h1 => ⟨fun _ => ⟨fun hc => absurd rfl hc, fun _ => ?_⟩, fun hc => absurd rfl hc⟩)⟩⟩
    rw [h1.2.1.2.1]
    refine h1.wrong h0.1 h0.2 (fun M2 h2 v1 ev => R.skipH hN h10 h2.1.h h2.2.2.2.1 (fun M3 m3 e13 => ⟨fun _ v2 ev2 => ?_, fun hc => ?_⟩))
    · subst ev2
      refine ⟨fun _ => hQ M3 _ (Or.inr ⟨?_, m3, ?_⟩), fun hc => absurd rfl hc⟩
      · show ns tx L a ≠ -1
        omega
      · rw [e13, h2.2.1]; rfl
    · rw [e13, h2.2.1] at hc; omega
  | succ k ih =>
    intro fu x3 M a f hk hf ok h10 e1 hR R h13 hQ
    obtain ⟨fu, rfl⟩ : ∃ m, fu = m + 2 := ⟨fu - 2, by omega⟩
    have h : LR M M tx L a := ⟨MS.rf ok, R, h13⟩
    have h0 := h.ns0
    have hid := ns_idem tx L a
    have nx3 : nm ((x3 : Int) + 1) = ((x3 + 1 : Nat) : Int) := nx8 (by omega)
    unfold hLoop at hQ
    refine ⟨fun hc => absurd hc (by decide), fun _ => ⟨fun hc => absurd h13 hc, fun _ => h.skip hN (fun M1 h1 => ⟨fun _ => ⟨fun _ => ⟨fun _ => ?_, fun hc => absurd rfl hc⟩, fun hc => by omega⟩, fun hc => absurd rfl hc⟩)⟩⟩
    have a10 : M1 0 10 = -1 := (h1.1.2.2 10 (by decide) (by decide)).trans h10
    have a1 : M1 1 = f := (h1.1.2.1 1 (by decide)).trans e1
    refine y_houseLine hN hbt h1.1.1 a10 a1 hR h1.2.1 h1.2.2 (fun M2 hr => ?_)
    rw [hid] at hr
    intro v1 ev1
    rw [nx3] at ev1
    subst ev1
    rcases hr with ⟨q1, p2, m2, R2, f2, n2, er2, hR2⟩ | ⟨q1, m2, f2, p0⟩
    · rw [if_pos q1] at hQ
      have h2 : LR M2 M2 tx L p2 := ⟨MS.rf m2.1, R2, f2⟩
      have n20 := h2.ns0
      refine h2.skip hN (fun M3 h3 => ⟨fun hc => absurd h3.2.2 hc, fun _ => ⟨fun hne => ?_, fun heq => ?_⟩⟩)
      · rw [n2] at h3
        have neL : ¬ (hLine tx L f (ns tx L a)).2.1 = L := fun hh => hne (by rw [h3.2.1.2.1, h3.2.1.1]; exact hh)
        rw [if_neg neL] at hQ
        have hid3 : ns tx L (hLine tx L f (ns tx L a)).2.1 = (hLine tx L f (ns tx L a)).2.1 := by rw [← n2]; exact ns_idem tx L p2
        refine h3.isSign hN (show sgc 3 = 59 from rfl) (by decide) (by decide) (fun ht M4 h4 => ⟨fun hc => absurd hc (by decide), fun _ S5 e5 => ?_⟩) (fun ht M4 h4 => ⟨fun _ => ?_, fun hc => absurd rfl hc⟩)
        · rw [hid3] at ht h4
          rw [if_pos ht] at hQ
          obtain ⟨h5, n5⟩ := h4.inc (by decide) (by decide) ht e5
          have m5 : MH M S5 := (h1.1.h.tr m2).tr h5.1.h
          refine ih (fu + 1) (x3 + 1) S5 _ (hLine tx L f (ns tx L a)).2.2 (by omega) (by omega) h5.1.1 (by rw [m5.2.2.1 10 (by decide) (by decide)]; exact h10) ((h5.1.2.1 1 (by decide)).trans er2) hR2 h5.2.1 h5.2.2 (fun M6 v hv => hQ M6 v ?_)
          rw [n5] at hv
          rcases hv with ⟨k1, m6, f6, e6⟩ | ⟨k1, m6, f6⟩
          · exact Or.inl ⟨k1, m5.tr m6, f6, e6⟩
          · exact Or.inr ⟨k1, m5.tr m6, f6⟩
        · rw [hid3] at ht h4
          rw [if_neg (by rw [ht]; decide)] at hQ
          rw [h4.2.1.2.1]
          refine h4.wrong (by omega) (by omega) (fun M5 h5 => ⟨fun hc => absurd hc (by decide), fun _ => ⟨fun _ => hQ M5 _ (Or.inr ⟨?_, (h1.1.h.tr m2).tr h5.1.h, h5.2.1⟩), fun hc => absurd hc h5.no⟩⟩)
          show (hLine tx L f (ns tx L a)).2.1 ≠ -1
          omega
      · rw [n2] at h3
        have eL : (hLine tx L f (ns tx L a)).2.1 = L := by rw [h3.2.1.2.1, h3.2.1.1] at heq; exact heq
        rw [if_pos eL] at hQ
        intro v2 ev2
        subst ev2
        exact ⟨fun _ => hQ M3 _ (Or.inl ⟨rfl, (h1.1.h.tr m2).tr h3.1.h, h3.2.2, (h3.1.2.1 1 (by decide)).trans er2⟩), fun hc => absurd rfl hc⟩
    · rw [if_neg q1] at hQ
      refine h1.2.1.skipH hN a10 m2 p0 (fun M3 m3 e13 => ⟨fun _ v2 ev2 => ?_, fun hc => ?_⟩)
      · subst ev2
        exact ⟨fun _ => hQ M3 _ (Or.inr ⟨q1, h1.1.h.tr m3, e13.trans f2⟩), fun hc => absurd rfl hc⟩
      · rw [e13, f2] at hc; exact absurd hc q1
theorem y_readHouse {Q : mSt → Int → Prop} (hN : 5000 ≤ N) (hbt : ∀ k, 0 ≤ k → k < L → 0 ≤ tx k ∧ tx k ≤ 255) (ok : okS M) (h10 : M 0 10 = -1) (e1 : M 1 = f) (hR : RR f) (R : RD M tx L 0) (h13 : M 0 13 = -1) (hQ : ∀ M' v, HZ M M' (hTxt tx L f) → Q M' v) : w_X12_read N 0 0 M Q := by
  have h : LR M M tx L 0 := ⟨MS.rf ok, R, h13⟩
  unfold hTxt at hQ
  refine h.skip hN (fun M1 h1 => ?_)
  rw [h1.2.1.1, h1.2.1.2.1]
  have h0 := h.ns0
  have a1 : M1 1 = f := (h1.1.2.1 1 (by decide)).trans e1
  refine ⟨fun hle v1 e1' v2 e2 => ?_, fun hlt v1 e1' v2 e2 => ?_⟩
  · subst e1'; subst e2
    obtain ⟨fu, rfl⟩ : ∃ m, N = m + 1 := ⟨N - 1, by omega⟩
    rw [if_pos (by omega)] at hQ
    refine ⟨fun _ => hQ M1 0 (Or.inl ⟨rfl, h1.1.h, h1.2.2, a1⟩), fun hc => absurd rfl hc⟩
  · subst e1'; subst e2
    rw [if_neg (by omega)] at hQ
    refine y_readH hN hbt 14 N 0 M1 _ f rfl (by omega) h1.1.1 ((h1.1.2.2 10 (by decide) (by decide)).trans h10) a1 hR h1.2.1 h1.2.2 (fun M' v hv => hQ M' v ?_)
    rw [ns_idem] at hv
    rcases hv with ⟨k1, m6, f6, e6⟩ | ⟨k1, m6, f6⟩
    · exact Or.inl ⟨k1, h1.1.h.tr m6, f6, e6⟩
    · exact Or.inr ⟨k1, h1.1.h.tr m6, f6⟩
end hrefr
