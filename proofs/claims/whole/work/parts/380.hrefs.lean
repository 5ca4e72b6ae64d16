set_option maxHeartbeats 400000
set_option maxRecDepth 20000
/-! ===== the pure part: lines of the house, the reference ===== -/
/-- what reading the house may change of the reference -/
def MH (M M' : mSt) : Prop := okS M' ∧ (∀ r, r ≠ 0 → r ≠ 1 → M' r = M r) ∧ (∀ i, i ≠ 12 → i ≠ 13 → M' 0 i = M 0 i) ∧ ∀ k, (k < 3 ∨ 350 ≤ k) → M' 1 k = M 1 k
theorem MS.h {M M' : mSt} (h : MS M M') : MH M M' := ⟨h.1, fun r a _ => h.2.1 r a, h.2.2, fun k _ => by rw [h.2.1 1 (by decide)]⟩
theorem MH.tr {M M1 M2 : mSt} (h : MH M M1) (h' : MH M1 M2) : MH M M2 := ⟨h'.1, fun r a b => (h'.2.1 r a b).trans (h.2.1 r a b), fun i a b => (h'.2.2.1 i a b).trans (h.2.2.1 i a b), fun k hk => (h'.2.2.2 k hk).trans (h.2.2.2 k hk)⟩
/-- a line's result -/
def HR (M M' : mSt) (tx : Int → Int) (L : Int) (q : PW) : Prop := (q.1 = -1 ∧ ∃ p, MH M M' ∧ RD M' tx L p ∧ M' 0 13 = -1 ∧ ns tx L p = q.2.1 ∧ M' 1 = q.2.2 ∧ RR q.2.2) ∨ (q.1 ≠ -1 ∧ MH M M' ∧ M' 0 13 = q.1 ∧ 0 ≤ M' 0 12)
section hrefs
variable {N : Nat} {M0 M M' : mSt} {tx : Int → Int} {L a p lo hi w B : Int} {t j : Nat} {f : mRow}
theorem HR.bad {q : PW} (h : DR M M' w B) (e : q.1 = w) : HR M M' tx L q := Or.inr ⟨by rw [e]; exact h.2.2.1, h.1.h, by rw [e]; exact h.2.1, h.2.2.2.1⟩
theorem HR.mk {M7 : mSt} {g : mRow} {b : Int} (h10 : M 0 10 = -1) (h7 : LR M M7 tx L p) (hb : ns tx L p = b) (ok : okS M') (hr : ∀ r, r ≠ 1 → M' r = M7 r) (hg : M' 1 = g) (hk : ∀ k, (k < 3 ∨ 350 ≤ k) → g k = M 1 k) (hR : RR g) : HR M M' tx L (-1, b, g) := by
  obtain ⟨⟨m1, m2, m3⟩, ⟨r1, r2, r3, r4, r5, r6⟩, h13⟩ := h7
  have e0 : M' 0 = M7 0 := hr 0 (by decide)
  refine Or.inl ⟨rfl, p, ⟨ok, fun r x y => (hr r y).trans (m2 r x), fun i x y => by rw [e0]; exact m3 i x y, fun k hk' => by rw [hg]; exact hk k hk'⟩, ⟨by rw [e0]; exact r1, by rw [e0]; exact r2, r3, r4, r5, Or.inl ?_⟩, by rw [e0]; exact h13, hb, hg, hR⟩
  have h10' : M7 0 10 = -1 := (m3 10 (by decide) (by decide)).trans h10
  rw [e0, hr 6 (by decide)]
  rcases r6 with r6 | r6
  · exact r6
  · exact absurd (h10'.symm.trans r6.1) (by decide)
theorem LR.num {Q : mSt → Int → Prop} (hN : 5000 ≤ N) (h : LR M0 M tx L a) (h1 : ∀ M' p v, rdN tx L lo hi (ns tx L a) = (-1, ns tx L p, v) → lo ≤ v → v ≤ hi → LR M0 M' tx L p → Q M' v) (h0 : ∀ M' w v, (rdN tx L lo hi (ns tx L a)).1 = w → DR M0 M' w 400 → Q M' v) : w_X12_figures N 0 lo hi M Q := by
  refine h.figures hN (fun hf M' p hp n1 => ?_) (fun hf M' v _ _ hd => h0 M' (ns tx L a) v ?_ hd)
  · have hr := fg_rng hf
    exact h1 M' p _ (by rw [n1]; exact if_pos hf) hr.1 hr.2 hp
  · unfold rdN
    rw [if_neg (by rw [hf]; decide)]
theorem DR.fig {Q : mSt → Int → Prop} (h : DR M0 M w B) (hQ : Q M 0) : w_X12_figures N 0 lo hi M Q := ⟨fun hc => absurd hc h.no, fun _ => hQ⟩
theorem DR.after {Q : mSt → Int → Prop} (h : DR M0 M w B) (hQ : Q M 0) : w_X12_after N 0 j lo hi M Q := ⟨fun _ => h.fig hQ, fun hc => absurd hc h.no⟩
theorem DR.kinds {Q : mSt → Int → Prop} (h : DR M0 M w B) (hQ : Q M 0) : w_X12_kinds N 0 j M Q := ⟨fun _ => hQ, fun hc => absurd hc h.no⟩
theorem LR.after {Q : mSt → Int → Prop} (hN : 5000 ≤ N) (ht : t = j + 2) (h7 : 7 ≤ j) (hj : j < 34) (h : LR M0 M tx L a) (h1 : ∀ M' p v, rdA tx L t lo hi (ns tx L a) = (-1, ns tx L p, v) → lo ≤ v → v ≤ hi → LR M0 M' tx L p → Q M' v) (h0 : ∀ M' w v, (rdA tx L t lo hi (ns tx L a)).1 = w → DR M0 M' w 400 → Q M' v) : w_X12_after N 0 j lo hi M Q := by
  have hn := h.ns0
  refine ⟨fun hc => absurd h.2.2 hc, fun _ => h.has hN ht h7 hj (fun tt M1 p1 h2 n2 => ⟨fun _ => ?_, fun hc => absurd hc (by decide)⟩) (fun tt M1 h2 => ⟨fun hc => absurd rfl hc, fun _ => ?_⟩)⟩
  · have eq : rdA tx L t lo hi (ns tx L a) = rdN tx L lo hi (ns tx L p1) := by unfold rdA; rw [if_pos tt, n2]
    rw [eq] at h1 h0
    exact h2.num hN h1 h0
  · rw [h2.2.1.2.1]
    refine h2.wrong hn.1 hn.2 (fun M2 hd => hd.fig (h0 M2 (ns tx L a) 0 ?_ hd))
    unfold rdA
    rw [if_neg (by rw [tt]; decide)]
theorem LR.kinds {Q : mSt → Int → Prop} (hN : 5000 ≤ N) (hbt : ∀ k, 0 ≤ k → k < L → 0 ≤ tx k ∧ tx k ≤ 255) (ht : t = j + 2) (h7 : 7 ≤ j) (hj : j < 34) (h : LR M0 M tx L a) (h1 : ∀ M' p v, rdK tx L t (ns tx L a) = (-1, ns tx L p, v) → 0 ≤ v → v < 32 → LR M0 M' tx L p → Q M' v) (h0 : ∀ M' w v, (rdK tx L t (ns tx L a)).1 = w → DR M0 M' w 400 → Q M' v) : w_X12_kinds N 0 j M Q := by
  have hid := ns_idem tx L a
  refine ⟨fun hc => absurd h.2.2 hc, fun _ => h.has hN ht h7 hj (fun tt M1 p1 h2 n2 => ⟨fun _ => h2.place hN (fun M2 h3 v3 e3 v4 e4 v5 e5 => ?_), fun hc => absurd hc (by decide)⟩) (fun tt M1 h2 => ⟨fun hc => absurd rfl hc, fun _ => h1 M1 (ns tx L a) 0 ?_ (by decide) (by decide) h2⟩)⟩
  · subst e3; subst e4; subst e5
    have n0 := h3.at0
    have eb : nx tx L (ns tx L a) = ns tx L p1 := n2.symm
    refine y_kinds28 hN h3.2.1 hbt h3.2.2 (fun hk R => ?_) (fun hk v v0 v1 R => h0 _ (ns tx L p1) v ?_ (h3.die R.2.2.1 R.2.2.2.1 (by unfold okI; omega) (by omega)))
    · have hlt : ns tx L p1 < L := by
        apply Decidable.byContradiction
        intro hc
        have e : ns tx L p1 = L := by omega
        rw [e, kd_end] at hk
        exact hk rfl
      have hr := (kdF_ok tx (ns tx L p1) (en tx L (ns tx L p1) - ns tx L p1).toNat)
      rw [kd_meet hlt] at hr
      have hr' := hr.resolve_left hk
      refine h1 _ (le' tx L (ns tx L p1)) _ ?_ hr'.1 hr'.2.1 (h3.go R)
      unfold rdK
      rw [if_pos tt, eb, if_neg hk]
      unfold nx
      rw [kd_en hlt hk]
    · unfold rdK
      rw [if_pos tt, eb, if_pos hk]
  · unfold rdK
    rw [if_neg (by rw [tt]; decide), hid]
theorem y_soapLine {Q : mSt → Prop} (hN : 5000 ≤ N) (hbt : ∀ k, 0 ≤ k → k < L → 0 ≤ tx k ∧ tx k ≤ 255) (h10 : M0 0 10 = -1) (e1 : M0 1 = f) (hR : RR f) (h : LR M0 M tx L a) (k6 : f 3 ≠ 6) (hQ : ∀ M', HR M0 M' tx L (hSoap tx L f (ns tx L a)) → Q M') : w_X12_soapLine_16 N Q 0 M := by
  have f3 := hR.2.1
  unfold hSoap at hQ
  refine h.num hN (fun M1 p1 s r1 s0 s1 h1 v2 ev => ?_) (fun M1 w v r1 hd v2 ev => ?_)
  · subst ev
    rw [bnd_good r1] at hQ
    refine h1.after hN (t := 10) rfl (by decide) (by decide) (fun M2 p2 m r2 m0 m1 h2 v4 ev => ?_) (fun M2 w v r2 hd v4 ev => ?_)
    · subst ev
      rw [bnd_good r2] at hQ
      refine h2.after hN (t := 11) rfl (by decide) (by decide) (fun M3 p3 u r3 u0 u1 h3 v6 ev => ?_) (fun M3 w v r3 hd v6 ev => ?_)
      · subst ev
        rw [bnd_good r3] at hQ
        refine h3.kinds hN hbt (t := 12) rfl (by decide) (by decide) (fun M4 p4 k r4 k0 k1 h4 v8 ev => ⟨fun _ v9 e9 => ?_, fun hc => absurd h4.2.2 hc⟩) (fun M4 w v r4 hd v8 ev => ⟨fun hc => absurd hc hd.no, fun _ => ?_⟩)
        · subst ev
          rw [bnd_good r4] at hQ
          have e41 : M4 1 = f := (h4.1.2.1 1 (by decide)).trans e1
          have e43 : M4 (0 + 1) 3 = f 3 := by show M4 1 3 = _; rw [e41]
          rw [e43, nm_of (x := 4 * f 3) (by omega) (by omega), nm_of (by omega) (by omega)] at e9
          subst e9
          have n0 : nm (70 + 4 * f 3 + 0) = 70 + 4 * f 3 := by rw [Int.add_zero]; exact nm_of (by omega) (by omega)
          have n1 : nm (70 + 4 * f 3 + 1) = 70 + 4 * f 3 + 1 := nm_of (by omega) (by omega)
          have n2 : nm (70 + 4 * f 3 + 2) = 70 + 4 * f 3 + 2 := nm_of (by omega) (by omega)
          have n3 : nm (70 + 4 * f 3 + 3) = 70 + 4 * f 3 + 3 := nm_of (by omega) (by omega)
          rw [n0, n1, n2, n3]
          refine ⟨by omega, by omega, fun S11 e11 => ⟨by omega, by omega, fun S13 e13 => ⟨by omega, by omega, fun S15 e15 => ⟨by omega, by omega, fun S17 e17 S18 e18 => hQ S18 ?_⟩⟩⟩⟩
          have a11 : S11 = mup M4 1 (70 + 4 * f 3) v2 := e11
          have a13 : S13 = mup S11 1 (70 + 4 * f 3 + 1) v4 := e13
          have a15 : S15 = mup S13 1 (70 + 4 * f 3 + 2) v6 := e15
          have a17 : S17 = mup S15 1 (70 + 4 * f 3 + 3) v8 := e17
          have r17 : S17 1 = fup (fup (fup (fup f (70 + 4 * f 3) v2) (70 + 4 * f 3 + 1) v4) (70 + 4 * f 3 + 2) v6) (70 + 4 * f 3 + 3) v8 := by rw [a17, mup_1, a15, mup_1, a13, mup_1, a11, mup_1, e41]
          have r173 : S17 (0 + 1) 3 = f 3 := by show S17 1 3 = _; rw [r17, fup_ne _ _ (by omega), fup_ne _ _ (by omega), fup_ne _ _ (by omega), fup_ne _ _ (by omega)]
          rw [r173, nm_of (by omega) (by omega)] at e18
          have a18 : S18 = mup S17 1 3 (f 3 + 1) := e18
          refine HR.mk h10 h4 rfl ?_ (fun r hr => by rw [a18, mup_ne _ _ _ hr, a17, mup_ne _ _ _ hr, a15, mup_ne _ _ _ hr, a13, mup_ne _ _ _ hr, a11, mup_ne _ _ _ hr]) (by rw [a18, mup_1, r17]; rfl) (fun k hk => by rw [e1]; exact fSoap_ne (by omega) (by omega)) (hR.soap (by omega) ⟨s0, s1⟩ ⟨m0, m1⟩ ⟨u0, u1⟩ ⟨k0, k1⟩)
          rw [a18, a17, a15, a13, a11]
          exact okS_up (okS_up (okS_up (okS_up (okS_up h4.1.1 (by unfold okI; omega)) (by unfold okI; omega)) (by unfold okI; omega)) (by unfold okI; omega)) (by unfold okI; omega)
        · exact hQ M4 (HR.bad hd (bnd_bad r4 hd.2.2.1))
      · subst ev
        exact hd.kinds (fun v8 ev => ⟨fun hc => absurd hc hd.no, fun _ => hQ M3 (HR.bad hd (bnd_bad r3 hd.2.2.1))⟩)
    · subst ev
      refine hd.after (fun v6 ev => ?_)
      exact hd.kinds (fun v8 ev => ⟨fun hc => absurd hc hd.no, fun _ => hQ M2 (HR.bad hd (bnd_bad r2 hd.2.2.1))⟩)
  · subst ev
    refine hd.after (fun v4 ev => ?_)
    refine hd.after (fun v6 ev => ?_)
    exact hd.kinds (fun v8 ev => ⟨fun hc => absurd hc hd.no, fun _ => hQ M1 (HR.bad hd (bnd_bad r1 hd.2.2.1))⟩)
theorem DR.soapLine {Q : mSt → Prop} (hd : DR M0 M w B) (hQ : Q M) : w_X12_soapLine_16 N Q 0 M := by
  refine hd.fig (fun v2 ev => ?_)
  refine hd.after (fun v4 ev => ?_)
  refine hd.after (fun v6 ev => ?_)
  exact hd.kinds (fun v8 ev => ⟨fun hc => absurd hc hd.no, fun _ => hQ⟩)
theorem y_dueLine {Q : mSt → Prop} (hN : 5000 ≤ N) (h10 : M0 0 10 = -1) (e1 : M0 1 = f) (hR : RR f) (h : LR M0 M tx L a) (k8 : f 4 ≠ 8) (hQ : ∀ M', HR M0 M' tx L (hDue tx L f (ns tx L a)) → Q M') : w_X12_dueLine_16 N Q 0 M := by
  have f4 := hR.2.2.1
  unfold hDue at hQ
  refine h.num hN (fun M1 p1 m r1 m0 m1 h1 v2 ev => ?_) (fun M1 w v r1 hd v2 ev => ?_)
  · subst ev
    rw [bnd_good r1] at hQ
    refine h1.after hN (t := 22) rfl (by decide) (by decide) (fun M2 p2 l r2 l0 l1 h2 v4 ev => ⟨fun _ => ?_, fun hc => absurd h2.2.2 hc⟩) (fun M2 w v r2 hd v4 ev => ⟨fun hc => absurd hc hd.no, fun _ => ?_⟩)
    · subst ev
      rw [bnd_good r2] at hQ
      have e41 : M2 1 = f := (h2.1.2.1 1 (by decide)).trans e1
      have e44 : M2 (0 + 1) 4 = f 4 := by show M2 1 4 = _; rw [e41]
      have n0 : nm (94 + nm (2 * f 4)) = 94 + 2 * f 4 := by rw [nm_of (x := 2 * f 4) (by omega) (by omega)]; exact nm_of (by omega) (by omega)
      have n1 : nm (94 + 2 * f 4 + 1) = 94 + 2 * f 4 + 1 := nm_of (by omega) (by omega)
      rw [e44, n0]
      refine ⟨by omega, by omega, fun S6 e6 => ?_⟩
      have a6 : S6 = mup M2 1 (94 + 2 * f 4) v2 := e6
      have r6 : S6 1 = fup f (94 + 2 * f 4) v2 := by rw [a6, mup_1, e41]
      have r64 : S6 (0 + 1) 4 = f 4 := by show S6 1 4 = _; rw [r6, fup_ne _ _ (by omega)]
      rw [r64, n0, n1]
      refine ⟨by omega, by omega, fun S8 e8 S9 e9 => hQ S9 ?_⟩
      have a8 : S8 = mup S6 1 (94 + 2 * f 4 + 1) v4 := e8
      have r8 : S8 1 = fup (fup f (94 + 2 * f 4) v2) (94 + 2 * f 4 + 1) v4 := by rw [a8, mup_1, r6]
      have r84 : S8 (0 + 1) 4 = f 4 := by show S8 1 4 = _; rw [r8, fup_ne _ _ (by omega), fup_ne _ _ (by omega)]
      rw [r84, nm_of (by omega) (by omega)] at e9
      have a9 : S9 = mup S8 1 4 (f 4 + 1) := e9
      refine HR.mk h10 h2 rfl ?_ (fun r hr => by rw [a9, mup_ne _ _ _ hr, a8, mup_ne _ _ _ hr, a6, mup_ne _ _ _ hr]) (by rw [a9, mup_1, r8]; rfl) (fun k hk => by rw [e1]; exact fDue_ne (by omega) (by omega)) (hR.due (by omega))
      rw [a9, a8, a6]
      exact okS_up (okS_up (okS_up h2.1.1 (by unfold okI; omega)) (by unfold okI; omega)) (by unfold okI; omega)
    · exact hQ M2 (HR.bad hd (bnd_bad r2 hd.2.2.1))
  · subst ev
    exact hd.after (fun v4 ev => ⟨fun hc => absurd hc hd.no, fun _ => hQ M1 (HR.bad hd (bnd_bad r1 hd.2.2.1))⟩)
theorem DR.dueLine {Q : mSt → Prop} (hd : DR M0 M w B) (hQ : Q M) : w_X12_dueLine_16 N Q 0 M := by
  refine hd.fig (fun v2 ev => ?_)
  exact hd.after (fun v4 ev => ⟨fun hc => absurd hc hd.no, fun _ => hQ⟩)
theorem y_partLine {Q : mSt → Prop} (hN : 5000 ≤ N) (hbt : ∀ k, 0 ≤ k → k < L → 0 ≤ tx k ∧ tx k ≤ 255) (h10 : M0 0 10 = -1) (e1 : M0 1 = f) (hR : RR f) (h : LR M0 M tx L a) (hQ : ∀ M', HR M0 M' tx L (hPart tx L f (ns tx L a)) → Q M') : w_X12_partLine N 0 M Q := by
  unfold hPart at hQ
  refine h.num hN (fun M1 p1 s r1 s0 s1 h1 v2 ev => ?_) (fun M1 w v r1 hd v2 ev => ?_)
  · subst ev
    rw [bnd_good r1] at hQ
    refine h1.after hN (t := 14) rfl (by decide) (by decide) (fun M2 p2 m r2 m0 m1 h2 v4 ev => ?_) (fun M2 w v r2 hd v4 ev => ?_)
    · subst ev
      rw [bnd_good r2] at hQ
      refine h2.after hN (t := 15) rfl (by decide) (by decide) (fun M3 p3 u r3 u0 u1 h3 v6 ev => ?_) (fun M3 w v r3 hd v6 ev => ?_)
      · subst ev
        rw [bnd_good r3] at hQ
        refine h3.kinds hN hbt (t := 17) rfl (by decide) (by decide) (fun M4 p4 k r4 k0 k1 h4 v8 ev => ⟨fun _ => ?_, fun hc => absurd h4.2.2 hc⟩) (fun M4 w v r4 hd v8 ev => ⟨fun hc => absurd hc hd.no, fun _ => ?_⟩)
        · subst ev
          rw [bnd_good r4] at hQ
          have e41 : M4 1 = f := (h4.1.2.1 1 (by decide)).trans e1
          refine a_has s0 (by omega) (by decide) (by decide) (a_has s0 (by omega) (by decide) (by decide) (a_has s0 (by omega) (by decide) (by decide) (hQ _ ?_)))
          rw [show 14 + 6 * v2 + 0 = 14 + 6 * v2 by omega]
          have k3 : ∀ (x : Int), x = 14 + 6 * v2 ∨ x = 14 + 6 * v2 + 1 ∨ x = 14 + 6 * v2 + 3 → 14 ≤ x ∧ x < 70 ∧ ∀ p, 0 ≤ p → p < 8 → x ≠ 14 + 6 * p + 5 := fun x hx => ⟨by omega, by omega, fun p p0 p1 => by omega⟩
          have c1 := hR.cell (hR.1.1.grey s0 (by omega) ⟨m0, m1⟩) ⟨(k3 _ (Or.inl rfl)).1, (k3 _ (Or.inl rfl)).2.1⟩ (k3 _ (Or.inl rfl)).2.2
          have c2 := c1.cell (c1.1.1.thin s0 (by omega) ⟨u0, u1⟩) ⟨(k3 _ (Or.inr (Or.inl rfl))).1, (k3 _ (Or.inr (Or.inl rfl))).2.1⟩ (k3 _ (Or.inr (Or.inl rfl))).2.2
          have c3 := c2.cell (c2.1.1.stain s0 (by omega) ⟨k0, k1⟩) ⟨(k3 _ (Or.inr (Or.inr rfl))).1, (k3 _ (Or.inr (Or.inr rfl))).2.1⟩ (k3 _ (Or.inr (Or.inr rfl))).2.2
          refine HR.mk h10 h4 rfl ?_ (fun r hr => by rw [mup_ne _ _ _ hr, mup_ne _ _ _ hr, mup_ne _ _ _ hr]) (by rw [mup_1, mup_1, mup_1, e41]; rfl) (fun k hk => ?_) c3
          · exact okS_up (okS_up (okS_up h4.1.1 (by unfold okI; omega)) (by unfold okI; omega)) (by unfold okI; omega)
          · rw [e1]
            unfold fPart
            rw [fup_ne _ _ (by omega), fup_ne _ _ (by omega), fup_ne _ _ (by omega)]
        · exact hQ M4 (HR.bad hd (bnd_bad r4 hd.2.2.1))
      · subst ev
        exact hd.kinds (fun v8 ev => ⟨fun hc => absurd hc hd.no, fun _ => hQ M3 (HR.bad hd (bnd_bad r3 hd.2.2.1))⟩)
    · subst ev
      refine hd.after (fun v6 ev => ?_)
      exact hd.kinds (fun v8 ev => ⟨fun hc => absurd hc hd.no, fun _ => hQ M2 (HR.bad hd (bnd_bad r2 hd.2.2.1))⟩)
  · subst ev
    refine hd.after (fun v4 ev => ?_)
    refine hd.after (fun v6 ev => ?_)
    exact hd.kinds (fun v8 ev => ⟨fun hc => absurd hc hd.no, fun _ => hQ M1 (HR.bad hd (bnd_bad r1 hd.2.2.1))⟩)
/-- one number into the row -/
theorem y_tells {Q : mSt → Prop} {i : Int} (hN : 5000 ≤ N) (h1000 : hi ≤ 1000) (h10 : M0 0 10 = -1) (e1 : M0 1 = f) (i3 : 3 ≤ i) (i350 : i < 350) (h : LR M0 M tx L a) (hg : ∀ v, 0 ≤ v → v ≤ hi → RR (fup f i v)) (hQ : ∀ M', HR M0 M' tx L (bnd (rdN tx L 0 hi (ns tx L a)) (fun b1 v => (-1, b1, fup f i v))) → Q M') : w_X12_tells N 0 i hi M Q := by
  refine h.num hN (fun M1 p1 v r1 v0 v1 h1 v2 ev => ⟨fun hc => absurd h1.2.2 hc, fun _ => ⟨by omega, by omega, fun S4 e4 => hQ S4 ?_⟩⟩) (fun M1 w v r1 hd v2 ev => ⟨fun _ => hQ M1 (HR.bad hd (bnd_bad r1 hd.2.2.1)), fun hc => absurd hc hd.no⟩)
  subst ev
  rw [bnd_good r1]
  have a4 : S4 = mup M1 1 i v2 := e4
  have e41 : M1 1 = f := (h1.1.2.1 1 (by decide)).trans e1
  have hR := hg v2 v0 v1
  refine HR.mk h10 h1 rfl ?_ (fun r hr => by rw [a4, mup_ne _ _ _ hr]) (by rw [a4, mup_1, e41]) (fun k hk => by rw [e1, fup_ne _ _ (by omega)]) hR
  rw [a4]
  exact okS_up h1.1.1 (by unfold okI; omega)
end hrefs
