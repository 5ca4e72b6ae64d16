set_option maxHeartbeats 400000
set_option maxRecDepth 20000
/-! ===== the pure part: lines of the house, the class ===== -/
/-- a line's result -/
def HO (X0 X : mSt) (tx : Int → Int) (L : Int) (n q' : Nat) (T : Int) (q : PW) : Prop := (q.1 = -1 ∧ ∃ c, HV X0 X tx L n c q' q.2.2 T ∧ tkp tx L c = q.2.1) ∨ (q.1 ≠ -1 ∧ HD X0 X tx L n q' q.1)
section hlines
variable {N : Nat} {X X0 : mSt} {tx : Int → Int} {L w lo hi T : Int} {n c q' t : Nat} {f : mRow}
theorem HO.bad {q : PW} (h : HD X0 X tx L n q' w) (e : q.1 = w) (hw : w ≠ -1) : HO X0 X tx L n q' T q := Or.inr ⟨by rw [e]; exact hw, by rw [e]; exact h⟩
theorem HV.addSoap {Q : mSt → Prop} {s m u k : Int} (hq : q' = 2 ∨ q' = 13) (h : HV X0 X tx L n c q' f T) (k6 : f 3 < 6) (hs : 0 ≤ s ∧ s ≤ 9) (hm : 1 ≤ m ∧ m ≤ 30) (hu : 0 ≤ u ∧ u ≤ 3) (hk : 0 ≤ k ∧ k < 32) (hQ : ∀ X', HV X0 X' tx L n c q' (fSoap f s m u k) T → Q X') : w_X0_readSoap_76 N Q q' s m u k X := by
  obtain ⟨h1, h2, h3, h4, h5⟩ := h
  have e2 : X q' 2 = f 3 := h3.2.1.2.1
  have f0 := h5.2.1.1
  intro v1 ev
  subst ev
  unfold w_X2_addSoap
  rw [e2]
  refine ⟨fun hc => by omega, fun _ v2 ev2 => ?_⟩
  rw [nm_of (by omega) (by omega)] at ev2
  have n1 : nm (v2 + 1) = v2 + 1 := nm_of (by omega) (by omega)
  have n2 : nm (v2 + 2) = v2 + 2 := nm_of (by omega) (by omega)
  have n3 : nm (v2 + 3) = v2 + 3 := nm_of (by omega) (by omega)
  rw [n1, n2, n3]
  refine ⟨by omega, by omega, fun S3 e3 => ⟨by omega, by omega, fun S5 e5 => ⟨by omega, by omega, fun S7 e7 => ⟨by omega, by omega, fun S9 e9 S10 e10 => hQ S10 ?_⟩⟩⟩⟩
  have r9 : ∀ r, r ≠ q' + 8 → S9 r = X r := fun r hr => by rw [e9, mup_ne _ _ _ hr, e7, mup_ne _ _ _ hr, e5, mup_ne _ _ _ hr, e3, mup_ne _ _ _ hr]
  have e92 : S9 q' 2 = f 3 := by rw [r9 q' (by omega)]; exact e2
  rw [e92, nm_of (by omega) (by omega)] at e10
  have r10 : ∀ r, r ≠ q' → r ≠ q' + 8 → S10 r = X r := fun r h h' => by rw [e10, mup_ne _ _ _ h]; exact r9 r h'
  have r8 : S10 (q' + 8) = S9 (q' + 8) := by rw [e10, mup_ne _ _ _ (by omega)]
  have hv : v2 = 4 * f 3 := by omega
  refine ⟨?_, h2.of (fun r a b => r10 r (by omega) (by omega)), ?_, h4.tr (fun r a b => r10 r (by omega) (by omega)), h5.soap k6 hs hm hu hk⟩
  · rw [e10, e9, e7, e5, e3]
    exact okS_up (okS_up (okS_up (okS_up (okS_up h1 (by unfold okI; omega)) (by unfold okI; omega)) (by unfold okI; omega)) (by unfold okI; omega)) (by unfold okI; omega)
  · refine h3.soap f0 k6 r10 (fun i hi => by rw [e10, mup_i _ _ _ hi, r9 q' (by omega)]) (by rw [e10, mup_same]) (fun i hi => ?_) ?_ ?_ ?_ ?_
    · rw [r8, e9, mup_i _ _ _ (by omega), e7, mup_i _ _ _ (by omega), e5, mup_i _ _ _ (by omega), e3, mup_i _ _ _ (by omega)]
    · rw [r8, e9, mup_i _ _ _ (by omega), e7, mup_i _ _ _ (by omega), e5, mup_i _ _ _ (by omega), e3, ← hv, mup_same]
    · rw [r8, e9, mup_i _ _ _ (by omega), e7, mup_i _ _ _ (by omega), e5, ← hv, mup_same]
    · rw [r8, e9, mup_i _ _ _ (by omega), e7, ← hv, mup_same]
    · rw [r8, e9, ← hv, mup_same]
theorem HL.addSoap {Q : mSt → Prop} {s m u k : Int} (hq : q' = 2 ∨ q' = 13) (h : HL X0 X tx L n q' w) (hs : okI s) (hm : okI m) (hu : okI u) (hk : okI k) (hQ : ∀ X', HD X0 X' tx L n q' w → Q X') : w_X0_readSoap_76 N Q q' s m u k X := by
  obtain ⟨c, h1, h2, hw, ⟨g1, g2⟩, h4⟩ := h
  intro v1 ev
  subst ev
  refine ⟨fun _ => hQ X ⟨c, h1, h2, hw, h4⟩, fun hk6 v2 ev2 => ?_⟩
  rw [nm_of (by omega) (by omega)] at ev2
  have n1 : nm (v2 + 1) = v2 + 1 := nm_of (by omega) (by omega)
  have n2 : nm (v2 + 2) = v2 + 2 := nm_of (by omega) (by omega)
  have n3 : nm (v2 + 3) = v2 + 3 := nm_of (by omega) (by omega)
  rw [n1, n2, n3]
  refine ⟨by omega, by omega, fun S3 e3 => ⟨by omega, by omega, fun S5 e5 => ⟨by omega, by omega, fun S7 e7 => ⟨by omega, by omega, fun S9 e9 S10 e10 => hQ S10 ⟨c, ?_, h2.of (fun r a b => ?_), hw, h4.tr (fun r a b => ?_)⟩⟩⟩⟩⟩
  · rw [e10, e9, e7, e5, e3]
    exact okS_up (okS_up (okS_up (okS_up (okS_up h1 hs) hm) hu) hk) (nm_ok _)
  · rw [e10, mup_ne _ _ _ (by omega), e9, mup_ne _ _ _ (by omega), e7, mup_ne _ _ _ (by omega), e5, mup_ne _ _ _ (by omega), e3, mup_ne _ _ _ (by omega)]
  · rw [e10, mup_ne _ _ _ (by omega), e9, mup_ne _ _ _ (by omega), e7, mup_ne _ _ _ (by omega), e5, mup_ne _ _ _ (by omega), e3, mup_ne _ _ _ (by omega)]
theorem HV.soap {Q : mSt → Prop} (hN : 5000 ≤ N) (hq : q' = 2 ∨ q' = 13) (L0 : 0 ≤ L) (hL : L ≤ 400) (hbt : ∀ k, 0 ≤ k → k < L → 0 ≤ tx k ∧ tx k ≤ 255) (h : HV X0 X tx L n c q' f T) (k6 : f 3 < 6) (ht : tok tx L 9 (tkp tx L c) = true) (hQ : ∀ X', HO X0 X' tx L n q' T (hSoap tx L f (nx tx L (tkp tx L c))) → Q X') : w_X0_readSoap_13 N Q 38 q' X := by
  refine h.need hq L0 (by decide) (fun _ h0 e0 => ?_) (fun hf _ => by rw [ht] at hf; exact absurd hf (by decide))
  rw [← e0] at hQ
  unfold hSoap at hQ
  have o : ∀ {x a b : Int}, a ≤ x → x ≤ b → 0 ≤ a → b ≤ 1000 → okI x := fun h1 h2 h3 h4 => by unfold okI; omega
  have z : okI 0 := by decide
  refine h0.num hq L0 (by decide) (fun X1 c1 s e1 s0 s1 h1 v3 ev => ?_) (fun X1 w e1 hw h1 v3 ev => ?_)
  · subst ev
    rw [bnd_good e1] at hQ
    refine h1.after hq L0 (by decide) (by decide) (fun X2 c2 m e2 m0 m1 h2 v6 ev => ?_) (fun X2 w e2 hw h2 v6 ev => ?_)
    · subst ev
      rw [bnd_good e2] at hQ
      refine h2.after hq L0 (by decide) (by decide) (fun X3 c3 u e3 u0 u1 h3 v9 ev => ?_) (fun X3 w e3 hw h3 v9 ev => ?_)
      · subst ev
        rw [bnd_good e3] at hQ
        refine h3.kinds (Z := fun k S => w_X0_readSoap_76 N Q q' v3 v6 v9 k S) hN hq L0 hL hbt (by decide) (fun X4 c4 k e4 k0 k1 h4 => ?_) (fun X4 w e4 hw h4 => ?_)
        · rw [bnd_good e4] at hQ
          exact h4.addSoap hq k6 ⟨s0, s1⟩ ⟨m0, m1⟩ ⟨u0, u1⟩ ⟨k0, k1⟩ (fun X' h' => hQ X' (Or.inl ⟨rfl, c4, h', rfl⟩))
        · exact h4.addSoap hq (o s0 s1 (by decide) (by decide)) (o m0 m1 (by decide) (by decide)) (o u0 u1 (by decide) (by decide)) z (fun X' h' => hQ X' (HO.bad h' (bnd_bad e4 hw) hw))
      · subst ev
        exact h3.kinds (Z := fun k S => w_X0_readSoap_76 N Q q' v3 v6 0 k S) (by decide) (h3.addSoap hq (o s0 s1 (by decide) (by decide)) (o m0 m1 (by decide) (by decide)) z z (fun X' h' => hQ X' (HO.bad h' (bnd_bad e3 hw) hw)))
    · subst ev
      refine h2.after (by decide) (by decide) (fun v9 ev => ?_)
      subst ev
      exact h2.kinds (Z := fun k S => w_X0_readSoap_76 N Q q' v3 1 0 k S) (by decide) (h2.addSoap hq (o s0 s1 (by decide) (by decide)) (by decide) z z (fun X' h' => hQ X' (HO.bad h' (bnd_bad e2 hw) hw)))
  · subst ev
    refine h1.after (by decide) (by decide) (fun v6 ev => ?_)
    subst ev
    refine h1.after (by decide) (by decide) (fun v9 ev => ?_)
    subst ev
    exact h1.kinds (Z := fun k S => w_X0_readSoap_76 N Q q' 0 1 0 k S) (by decide) (h1.addSoap hq z (by decide) z z (fun X' h' => hQ X' (HO.bad h' (bnd_bad e1 hw) hw)))
theorem HL.soap {Q : mSt → Prop} (hq : q' = 2 ∨ q' = 13) (h : HL X0 X tx L n q' w) (hQ : ∀ X', HD X0 X' tx L n q' w → Q X') : w_X0_readSoap_13 N Q 38 q' X := by
  refine h.after (by decide) (by decide) (fun v3 ev => ?_)
  subst ev
  refine h.after (by decide) (by decide) (fun v6 ev => ?_)
  subst ev
  refine h.after (by decide) (by decide) (fun v9 ev => ?_)
  subst ev
  exact h.kinds (Z := fun k S => w_X0_readSoap_76 N Q q' 0 1 0 k S) (by decide) (h.addSoap hq (by decide) (by decide) (by decide) (by decide) hQ)
theorem HV.addDue {Q : mSt → Prop} {m l : Int} (hq : q' = 2 ∨ q' = 13) (h : HV X0 X tx L n c q' f T) (k8 : f 4 < 8) (om : okI m) (ol : okI l) (hQ : ∀ X', HV X0 X' tx L n c q' (fDue f m l) T → Q X') : w_X2_addDue N q' m l X Q := by
  obtain ⟨h1, h2, h3, h4, h5⟩ := h
  have e4 : X q' 4 = f 4 := h3.2.1.2.2
  have f0 := h5.2.2.1.1
  have n0 : nm (f 4 * 2) = 2 * f 4 := by rw [nm_of (by omega) (by omega)]; omega
  have n1 : nm (2 * f 4 + 1) = 2 * f 4 + 1 := nm_of (by omega) (by omega)
  unfold w_X2_addDue
  rw [e4, n0]
  refine ⟨fun hc => by omega, fun _ => ⟨by omega, by omega, fun S2 e2 => ?_⟩⟩
  have e24 : S2 q' 4 = f 4 := by rw [e2, mup_ne _ _ _ (by omega)]; exact e4
  rw [e24, n0, n1]
  refine ⟨by omega, by omega, fun S4 e4' S5 e5 => hQ S5 ?_⟩
  have e44 : S4 q' 4 = f 4 := by rw [e4', mup_ne _ _ _ (by omega)]; exact e24
  rw [e44, nm_of (by omega) (by omega)] at e5
  have r5 : ∀ r, r ≠ q' → r ≠ q' + 9 → S5 r = X r := fun r h h' => by rw [e5, mup_ne _ _ _ h, e4', mup_ne _ _ _ h', e2, mup_ne _ _ _ h']
  refine ⟨?_, h2.of (fun r a b => r5 r (by omega) (by omega)), ?_, h4.tr (fun r a b => r5 r (by omega) (by omega)), h5.due k8⟩
  · rw [e5, e4', e2]
    exact okS_up (okS_up (okS_up h1 om) ol) (by unfold okI; omega)
  · refine h3.due h5.2.1.2 f0 k8 r5 (fun i hi => by rw [e5, mup_i _ _ _ hi, e4', mup_ne _ _ _ (by omega), e2, mup_ne _ _ _ (by omega)]) (by rw [e5, mup_same]) (fun i hi => ?_) ?_ ?_
    · rw [e5, mup_ne _ _ _ (by omega), e4', mup_i _ _ _ (by omega), e2, mup_i _ _ _ (by omega)]
    · rw [e5, mup_ne _ _ _ (by omega), e4', mup_i _ _ _ (by omega), e2, mup_same]
    · rw [e5, mup_ne _ _ _ (by omega), e4', mup_same]
theorem HL.addDue {Q : mSt → Prop} {m l : Int} (hq : q' = 2 ∨ q' = 13) (h : HL X0 X tx L n q' w) (om : okI m) (ol : okI l) (hQ : ∀ X', HD X0 X' tx L n q' w → Q X') : w_X2_addDue N q' m l X Q := by
  obtain ⟨c, h1, h2, hw, ⟨g1, g2⟩, h4⟩ := h
  refine ⟨fun _ => hQ X ⟨c, h1, h2, hw, h4⟩, fun hk8 => ?_⟩
  have n0 : nm (X q' 4 * 2) = X q' 4 * 2 := nm_of (by omega) (by omega)
  have n1 : nm (X q' 4 * 2 + 1) = X q' 4 * 2 + 1 := nm_of (by omega) (by omega)
  rw [n0]
  refine ⟨by omega, by omega, fun S2 e2 => ?_⟩
  have e24 : S2 q' 4 = X q' 4 := by rw [e2, mup_ne _ _ _ (by omega)]
  rw [e24, n0, n1]
  refine ⟨by omega, by omega, fun S4 e4' S5 e5 => hQ S5 ⟨c, ?_, h2.of (fun r a b => ?_), hw, h4.tr (fun r a b => ?_)⟩⟩
  · rw [e5, e4', e2]
    exact okS_up (okS_up (okS_up h1 om) ol) (nm_ok _)
  · rw [e5, mup_ne _ _ _ (by omega), e4', mup_ne _ _ _ (by omega), e2, mup_ne _ _ _ (by omega)]
  · rw [e5, mup_ne _ _ _ (by omega), e4', mup_ne _ _ _ (by omega), e2, mup_ne _ _ _ (by omega)]
theorem HV.due {Q : mSt → Prop} (hq : q' = 2 ∨ q' = 13) (L0 : 0 ≤ L) (h : HV X0 X tx L n c q' f T) (k8 : f 4 < 8) (ht : tok tx L 21 (tkp tx L c) = true) (hQ : ∀ X', HO X0 X' tx L n q' T (hDue tx L f (nx tx L (tkp tx L c))) → Q X') : w_X0_readDue_13 N Q 38 q' X := by
  refine h.need hq L0 (by decide) (fun _ h0 e0 => ?_) (fun hf _ => by rw [ht] at hf; exact absurd hf (by decide))
  rw [← e0] at hQ
  unfold hDue at hQ
  have o : ∀ {x a b : Int}, a ≤ x → x ≤ b → 0 ≤ a → b ≤ 1000 → okI x := fun h1 h2 h3 h4 => by unfold okI; omega
  refine h0.num hq L0 (by decide) (fun X1 c1 m e1 m0 m1 h1 v3 ev => ?_) (fun X1 w e1 hw h1 v3 ev => ?_)
  · subst ev
    rw [bnd_good e1] at hQ
    refine h1.after hq L0 (by decide) (by decide) (fun X2 c2 l e2 l0 l1 h2 => ?_) (fun X2 w e2 hw h2 => ?_)
    · rw [bnd_good e2] at hQ
      exact h2.addDue hq k8 (o m0 m1 (by decide) (by decide)) (o l0 l1 (by decide) (by decide)) (fun X' h' => hQ X' (Or.inl ⟨rfl, c2, h', rfl⟩))
    · exact h2.addDue hq (o m0 m1 (by decide) (by decide)) (by decide) (fun X' h' => hQ X' (HO.bad h' (bnd_bad e2 hw) hw))
  · subst ev
    exact h1.after (by decide) (by decide) (h1.addDue hq (by decide) (by decide) (fun X' h' => hQ X' (HO.bad h' (bnd_bad e1 hw) hw)))
theorem HL.due {Q : mSt → Prop} (hq : q' = 2 ∨ q' = 13) (h : HL X0 X tx L n q' w) (hQ : ∀ X', HD X0 X' tx L n q' w → Q X') : w_X0_readDue_13 N Q 38 q' X := by
  refine h.after (by decide) (by decide) (fun v3 ev => ?_)
  subst ev
  exact h.after (by decide) (by decide) (h.addDue hq (by decide) (by decide) hQ)
/-- a cell of the moon -/
theorem HV.cell {i k v : Int} {d : Nat} (hq : q' = 2 ∨ q' = 13) (h : HV X0 X tx L n c q' f T) (hd : 1 ≤ d ∧ d ≤ 7) (hm : RM (mup X (q' + d) k v) (q' + 1) (fup f i v)) (hO : RO (fup f i v)) (hi : 14 ≤ i ∧ i < 70) (hp : ∀ p, 0 ≤ p → p < 8 → i ≠ 14 + 6 * p + 5) (ov : okI v) : HV X0 (mup X (q' + d) k v) tx L n c q' (fup f i v) T := by
  obtain ⟨h1, h2, h3, h4, h5⟩ := h
  exact ⟨okS_up h1 ov, h2.of (fun r a b => mup_ne _ _ _ (by omega)), h3.cell hd hm hi, h4.tr (fun r a b => mup_ne _ _ _ (by omega)), h5.cell hO hi hp⟩
theorem HL.cell {k v : Int} {d : Nat} (hq : q' = 2 ∨ q' = 13) (h : HL X0 X tx L n q' w) (hd : 1 ≤ d ∧ d ≤ 7) (ov : okI v) : HL X0 (mup X (q' + d) k v) tx L n q' w := by
  obtain ⟨c, h1, h2, hw, h3, h4⟩ := h
  exact ⟨c, okS_up h1 ov, h2.of (fun r a b => mup_ne _ _ _ (by omega)), hw, by rw [mup_ne _ _ _ (by omega)]; exact h3, h4.tr (fun r a b => mup_ne _ _ _ (by omega))⟩
theorem HL.part71 {Q : mSt → Prop} {p v : Int} (hq : q' = 2 ∨ q' = 13) (h : HL X0 X tx L n q' w) (p0 : 0 ≤ p) (p1 : p < 8) (ov : okI v) (hQ : ∀ X', HD X0 X' tx L n q' w → Q X') : w_X0_readPart_71 N Q v p (q' + 1 + 4) X :=
  ⟨p0, p1, fun S2 e2 => hQ S2 (by rw [e2]; exact (h.cell (d := 5) hq (by decide) ov).d)⟩
theorem HV.part {Q : mSt → Prop} (hN : 5000 ≤ N) (hq : q' = 2 ∨ q' = 13) (L0 : 0 ≤ L) (hL : L ≤ 400) (hbt : ∀ k, 0 ≤ k → k < L → 0 ≤ tx k ∧ tx k ≤ 255) (h : HV X0 X tx L n c q' f T) (hQ : ∀ X', HO X0 X' tx L n q' T (hPart tx L f (tkp tx L c)) → Q X') : w_X0_readPart N 38 (q' + 1) X Q := by
  unfold hPart at hQ
  have o : ∀ {x a b : Int}, a ≤ x → x ≤ b → 0 ≤ a → b ≤ 1000 → okI x := fun h1 h2 h3 h4 => by unfold okI; omega
  have z : okI 0 := by decide
  refine h.num hq L0 (by decide) (fun X1 c1 p e1 p0 p1 h1 v2 ev => ?_) (fun X1 w e1 hw h1 v2 ev => ?_)
  · subst ev
    have p8 : v2 < 8 := by omega
    rw [bnd_good e1] at hQ
    refine h1.after hq L0 (by decide) (by decide) (fun X2 c2 g e2 g0 g1 h2 => ⟨p0, p8, fun S6 e6 => ?_⟩) (fun X2 w e2 hw h2 => ⟨p0, p8, fun S6 e6 => ?_⟩)
    · rw [bnd_good e2] at hQ
      have h6 : HV X0 S6 tx L n c2 q' (fup f (14 + 6 * v2) g) T := by
        rw [e6]
        exact h2.cell (d := 2) hq (by decide) (h2.2.2.1.1.1.grey p0 p8) (h2.2.2.2.2.1.1.grey p0 p8 ⟨g0, g1⟩) (by omega) (fun p a b => by omega) (o g0 g1 (by decide) (by decide))
      refine h6.after hq L0 (by decide) (by decide) (fun X3 c3 t e3 t0 t1 h3 => ⟨p0, p8, fun S10 e10 => ?_⟩) (fun X3 w e3 hw h3 => ⟨p0, p8, fun S10 e10 => ?_⟩)
      · rw [bnd_good e3] at hQ
        have h10 : HV X0 S10 tx L n c3 q' (fup (fup f (14 + 6 * v2) g) (14 + 6 * v2 + 1) t) T := by
          rw [e10]
          exact h3.cell (d := 3) hq (by decide) (h3.2.2.1.1.1.thin p0 p8) (h3.2.2.2.2.1.1.thin p0 p8 ⟨t0, t1⟩) (by omega) (fun p a b => by omega) (o t0 t1 (by decide) (by decide))
        refine h10.kinds (Z := fun k S => w_X0_readPart_71 N Q k v2 (q' + 1 + 4) S) hN hq L0 hL hbt (by decide) (fun X4 c4 k e4 k0 k1 h4 => ?_) (fun X4 w e4 hw h4 => ?_)
        · rw [bnd_good e4] at hQ
          refine ⟨p0, p8, fun S2 e2' => hQ S2 (Or.inl ⟨rfl, c4, ?_, rfl⟩)⟩
          rw [e2']
          exact h4.cell (d := 5) hq (by decide) (h4.2.2.1.1.1.stain p0 p8) (h4.2.2.2.2.1.1.stain p0 p8 ⟨k0, k1⟩) (by omega) (fun p a b => by omega) (by unfold okI; omega)
        · exact h4.part71 hq p0 p8 z (fun X' h' => hQ X' (HO.bad h' (bnd_bad e4 hw) hw))
      · have h10 : HL X0 S10 tx L n q' w := by rw [e10]; exact h3.cell (d := 3) hq (by decide) z
        exact h10.kinds (Z := fun k S => w_X0_readPart_71 N Q k v2 (q' + 1 + 4) S) (by decide) (h10.part71 hq p0 p8 z (fun X' h' => hQ X' (HO.bad h' (bnd_bad e3 hw) hw)))
    · have h6 : HL X0 S6 tx L n q' w := by rw [e6]; exact h2.cell (d := 2) hq (by decide) z
      refine h6.after (by decide) (by decide) ⟨p0, p8, fun S10 e10 => ?_⟩
      have h10 : HL X0 S10 tx L n q' w := by rw [e10]; exact h6.cell (d := 3) hq (by decide) z
      exact h10.kinds (Z := fun k S => w_X0_readPart_71 N Q k v2 (q' + 1 + 4) S) (by decide) (h10.part71 hq p0 p8 z (fun X' h' => hQ X' (HO.bad h' (bnd_bad e2 hw) hw)))
  · subst ev
    refine h1.after (by decide) (by decide) ⟨by decide, by decide, fun S6 e6 => ?_⟩
    have h6 : HL X0 S6 tx L n q' w := by rw [e6]; exact h1.cell (d := 2) hq (by decide) z
    refine h6.after (by decide) (by decide) ⟨by decide, by decide, fun S10 e10 => ?_⟩
    have h10 : HL X0 S10 tx L n q' w := by rw [e10]; exact h6.cell (d := 3) hq (by decide) z
    exact h10.kinds (Z := fun k S => w_X0_readPart_71 N Q k 0 (q' + 1 + 4) S) (by decide) (h10.part71 hq (by decide) (by decide) z (fun X' h' => hQ X' (HO.bad h' (bnd_bad e1 hw) hw)))
theorem HV.wind {Q : mSt → Prop} (hq : q' = 2 ∨ q' = 13) (L0 : 0 ≤ L) (h : HV X0 X tx L n c q' f T) (hQ : ∀ X', HO X0 X' tx L n q' T (hWind tx L f (tkp tx L c)) → Q X') : w_X10_needNumber N 38 0 7 X (fun (S18 : mSt) (v18 : Int) => ∀ v19 : Int, v19 = v18 → w_X10_needNumber N 38 0 9 S18 (fun (S20 : mSt) (v20 : Int) => (0 ≤ v19 ∧ v19 < 8 ∧ ∀ S22 : mSt, S22 = mup S20 ((q' + 1) + 6) v19 v20 → Q S22))) := by
  unfold hWind at hQ
  have o : ∀ {x a b : Int}, a ≤ x → x ≤ b → 0 ≤ a → b ≤ 1000 → okI x := fun h1 h2 h3 h4 => by unfold okI; omega
  refine h.num hq L0 (by decide) (fun X1 c1 p e1 p0 p1 h1 v2 ev => ?_) (fun X1 w e1 hw h1 v2 ev => ?_)
  · subst ev
    have p8 : v2 < 8 := by omega
    rw [bnd_good e1] at hQ
    refine h1.num hq L0 (by decide) (fun X2 c2 v e2 v0 v1 h2 => ⟨p0, p8, fun S6 e6 => ?_⟩) (fun X2 w e2 hw h2 => ⟨p0, p8, fun S6 e6 => ?_⟩)
    · rw [bnd_good e2] at hQ
      refine hQ S6 (Or.inl ⟨rfl, c2, ?_, rfl⟩)
      rw [e6]
      exact h2.cell (d := 7) hq (by decide) (h2.2.2.1.1.1.wind p0 p8) (h2.2.2.2.2.1.1.wind p0 p8 ⟨v0, v1⟩) (by omega) (fun p a b => by omega) (o v0 v1 (by decide) (by decide))
    · exact hQ S6 (HO.bad (by rw [e6]; exact (h2.cell (d := 7) hq (by decide) (by decide)).d) (bnd_bad e2 hw) hw)
  · subst ev
    exact h1.num (by decide) ⟨by decide, by decide, fun S6 e6 => hQ S6 (HO.bad (by rw [e6]; exact (h1.cell (d := 7) hq (by decide) (by decide)).d) (bnd_bad e1 hw) hw)⟩
theorem HV.tell {Q : mSt → Prop} {i j : Int} (hq : q' = 2 ∨ q' = 13) (L0 : 0 ≤ L) (hij : (i = 6 ∧ j = 5 ∧ hi = 99) ∨ (i = 7 ∧ j = 6 ∧ hi = 20) ∨ (i = 8 ∧ j = 7 ∧ hi = 100) ∨ (i = 9 ∧ j = 8 ∧ hi = 100)) (h : HV X0 X tx L n c q' f T) (hQ : ∀ X', HO X0 X' tx L n q' T (hTell tx L f j hi (tkp tx L c)) → Q X') : w_X10_needNumber N 38 0 hi X (fun (S10 : mSt) (v10 : Int) => ∀ S11 : mSt, S11 = mup S10 q' i v10 → Q S11) := by
  unfold hTell at hQ
  refine h.num hq L0 (by decide) (fun X1 c1 v e1 v0 v1 h1 S6 e6 => ?_) (fun X1 w e1 hw h1 S6 e6 => ?_)
  · rw [bnd_good e1] at hQ
    refine hQ S6 (Or.inl ⟨rfl, c1, ?_, rfl⟩)
    obtain ⟨g1, g2, g3, g4, g5⟩ := h1
    rw [e6]
    exact ⟨okS_up g1 (by unfold okI; omega), g2.of (fun r a b => mup_ne _ _ _ (by omega)), g3.field (by omega), g4.tr (fun r a b => mup_ne _ _ _ (by omega)), g5.field (by omega) v0 (by omega) (by omega)⟩
  · obtain ⟨c2, g1, g2, gw, g3, g4⟩ := h1
    refine hQ S6 (HO.bad (w := w) ⟨c2, ?_, ?_, gw, ?_⟩ (bnd_bad e1 hw) hw)
    · rw [e6]; exact okS_up g1 (by decide)
    · rw [e6]; exact g2.of (fun r a b => mup_ne _ _ _ (by omega))
    · rw [e6]; exact g4.tr (fun r a b => mup_ne _ _ _ (by omega))
end hlines
