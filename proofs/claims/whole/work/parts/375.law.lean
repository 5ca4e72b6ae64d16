set_option maxHeartbeats 400000
set_option maxRecDepth 20000
/-! ===== the pure part: a call of law ===== -/
def EQ1 (f g : mRow) : Prop := ∀ k, k ≠ 1 → k ≠ 2 → k < 350 → g k = f k
section congr1
variable {S : mSt} {r : Nat} {f g : mRow} {T : Int}
theorem RM.congr1 (h : RM S r f) (e : EQ1 f g) : RM S r g := by
  obtain ⟨h1, h2, h3, h4⟩ := h
  refine ⟨fun p p0 p1 => ?_, by rw [e 9 (by omega) (by omega) (by omega)]; exact h2, by rw [e 10 (by omega) (by omega) (by omega)]; exact h3, h4⟩
  rw [e (14 + 6 * p) (by omega) (by omega) (by omega), e (14 + 6 * p + 1) (by omega) (by omega) (by omega), e (14 + 6 * p + 2) (by omega) (by omega) (by omega), e (14 + 6 * p + 3) (by omega) (by omega) (by omega), e (14 + 6 * p + 4) (by omega) (by omega) (by omega), e (14 + 6 * p + 5) (by omega) (by omega) (by omega), e (62 + p) (by omega) (by omega) (by omega)]
  exact h1 p p0 p1
theorem RO.congr1 (h : RO f) (e : EQ1 f g) : RO g := by
  obtain ⟨h1, h2, h3⟩ := h
  refine ⟨fun p p0 p1 => ?_, by rw [e 10 (by omega) (by omega) (by omega)]; exact h2, by rw [e 9 (by omega) (by omega) (by omega)]; exact h3⟩
  unfold RP
  rw [e (14 + 6 * p) (by omega) (by omega) (by omega), e (14 + 6 * p + 1) (by omega) (by omega) (by omega), e (14 + 6 * p + 2) (by omega) (by omega) (by omega), e (14 + 6 * p + 3) (by omega) (by omega) (by omega), e (14 + 6 * p + 4) (by omega) (by omega) (by omega), e (14 + 6 * p + 5) (by omega) (by omega) (by omega), e (62 + p) (by omega) (by omega) (by omega)]
  exact h1 p p0 p1
theorem RY.congr1 (h : RY S r f) (e : EQ1 f g) : RY S r g := by
  obtain ⟨h1, h2⟩ := h
  refine ⟨h1.congr1 e, ?_⟩
  rw [e 5 (by omega) (by omega) (by omega), e 6 (by omega) (by omega) (by omega), e 7 (by omega) (by omega) (by omega), e 8 (by omega) (by omega) (by omega), e 12 (by omega) (by omega) (by omega)]
  exact h2
theorem LG.congr1 (h : LG S r f) (e : EQ1 f g) : LG S r g := by
  obtain ⟨h1, h2, h3⟩ := h
  refine ⟨by rw [e 11 (by omega) (by omega) (by omega)]; exact h1, h2, fun ago j a0 a1 j0 j1 => ?_⟩
  rw [e 11 (by omega) (by omega) (by omega)] at a1
  rw [e (110 + 4 * ago + j) (by omega) (by omega) (by omega)]
  exact h3 ago j a0 a1 j0 j1
theorem RR.congr1 (h : RR f) (e : EQ1 f g) : RR g := by
  obtain ⟨⟨h1, h1a, h1b⟩, h2, h3, h4, h5, h6⟩ := h
  refine ⟨⟨h1.congr1 e, by rw [e 5 (by omega) (by omega) (by omega)]; exact h1a, by rw [e 6 (by omega) (by omega) (by omega)]; exact h1b⟩, by rw [e 3 (by omega) (by omega) (by omega)]; exact h2, by rw [e 4 (by omega) (by omega) (by omega)]; exact h3, by rw [e 0 (by omega) (by omega) (by omega)]; exact h4, fun s s0 s1 => ?_, fun p p0 p1 => ?_⟩
  · rw [e 3 (by omega) (by omega) (by omega)] at s1
    unfold RS
    rw [e (70 + 4 * s) (by omega) (by omega) (by omega), e (70 + 4 * s + 1) (by omega) (by omega) (by omega), e (70 + 4 * s + 2) (by omega) (by omega) (by omega), e (70 + 4 * s + 3) (by omega) (by omega) (by omega)]
    exact h5 s s0 s1
  · obtain ⟨q, q0, q1, hq⟩ := h6 p p0 p1
    exact ⟨q, q0, q1, by rw [e _ (by omega) (by omega) (by omega)]; exact hq⟩
theorem RLd.congr1 (h : RLd S r f T) (hR : RR f) (e : EQ1 f g) : RLd S r g T := by
  obtain ⟨h1, h2, h3, h4, h5, h6⟩ := h
  obtain ⟨-, r3, r4, -⟩ := hR
  refine ⟨h1.congr1 e, by rw [e 0 (by omega) (by omega) (by omega), e 3 (by omega) (by omega) (by omega), e 4 (by omega) (by omega) (by omega)]; exact h2, fun i i0 i1 => ?_, fun i i0 i1 => ?_, h5.congr1 e, h6⟩
  · rw [e 3 (by omega) (by omega) (by omega)] at i1
    rw [e _ (by omega) (by omega) (by omega)]
    exact h3 i i0 i1
  · rw [e 4 (by omega) (by omega) (by omega)] at i1
    rw [e _ (by omega) (by omega) (by omega)]
    exact h4 i i0 i1
end congr1
section laws
variable {N n : Nat} {X X' M M' : mSt} {q q' lw lw' : Nat} {P P' : mPrg} {a1 a2 a3 a4 a5 : Int}
/-- a text that was refused -/
theorem IV.txt (I : IV N n X M q q' lw lw' P) (hX : ∀ r, r ≠ 0 → (r < q' ∨ q' + 10 < r) → (r < lw' ∨ lw' + 6 < r) → (r < 38 ∨ 43 < r) → X' r = X r) (hX0 : ∀ i, i ≠ 1 → i ≠ 2 → X' 0 i = X 0 i) (h1 : X' 0 1 = 0) (h2 : X' 0 2 = M' 0 13) (hM : M' 1 = M 1 ∧ M' 2 = M 2 ∧ M' 5 = M 5) (hM0 : M' 0 4 = M 0 4 ∧ M' 0 7 = M 0 7) (h9 : M' 0 9 = 0) (hb : BB M') : Inv N (n + 1) X' M' := by
  obtain ⟨hK, hT2, hf, hL, hR, ⟨p1, p2, p3, p4⟩, hP, hG⟩ := I
  obtain ⟨m1, m2, m5⟩ := hM
  have hKK := hK
  obtain ⟨k1, k2, k3, k4, k5, k6⟩ := hK
  refine ⟨q, q', lw, lw', P, ?_, ?_, ⟨h2, hb, ?_⟩, ?_, by rw [m1]; exact hR, ⟨p1, ?_, by rw [m1]; exact p3, by rw [m1]; exact p4⟩, ?_, ?_⟩
  · unfold KP
    rw [hX0 3 (by decide) (by decide), hX0 4 (by decide) (by decide), hX0 5 (by decide) (by decide), hX0 6 (by decide) (by decide)]
    exact hKK
  · exact ⟨h1.trans h9.symm, by omega, by omega, fun k k0 k1 => by omega⟩
  · rw [hX 215 (by decide) (by omega) (by omega) (by decide)]; exact hf.2.2
  · rw [m1]
    exact (hL.of (fun r' a b => hX r' (by omega) (by omega) (by omega) (by omega))).mono (by omega)
  · exact p2.of p1.1 (by rw [hX lw (by omega) (by omega) (by omega) (by omega)]) (fun j a b i _ _ => by rw [hX _ (by omega) (by omega) (by omega) (by omega)]) (fun i _ _ => by rw [hX _ (by omega) (by omega) (by omega) (by omega)])
  · exact hP.of (by omega) (hX 44 (by omega) (by omega) (by omega) (by omega)) (fun r a b => hX r (by omega) (by omega) (by omega) (by omega)) hM0.2 m5 ⟨by rw [m1], by rw [m1]⟩
  · exact hG.of (by omega) (fun r a b => hX r (by omega) (by omega) (by omega) (by omega)) (hX 197 (by omega) (by omega) (by omega) (by omega)) hM0.1 m2
/-- a law that was taken -/
theorem IV.newlaw (I : IV N n X M q q' lw lw' P) (hX : ∀ r, r ≠ 0 → r ≠ 44 → (r < lw' ∨ lw' + 6 < r) → (r < 38 ∨ 43 < r) → r ≠ 250 → X' r = X r) (hX0 : X' 0 3 = X 0 3 ∧ X' 0 4 = X 0 4 ∧ X' 0 5 = lw' ∧ X' 0 6 = lw) (h1 : X' 0 1 = 0) (h2 : X' 0 2 = M' 0 13) (h44 : X' 44 2 = 0 ∧ X' 44 1 = X 44 1) (hM : EQ1 (M 1) (M' 1) ∧ M' 2 = M 2) (hM0 : M' 0 4 = M 0 4 ∧ M' 0 7 = 0) (h9 : M' 0 9 = 0) (hb : BB M') (hP' : PG P' ∧ LWR X' lw' P' ∧ LM N (M' 1) (AP P') ∧ P'.1 = M' 1 1) : Inv N (n + 1) X' M' := by
  obtain ⟨hK, hT2, hf, hL, hR, -, hP, hG⟩ := I
  obtain ⟨m1, m2⟩ := hM
  have hKK := hK
  obtain ⟨k1, k2, k3, k4, k5, k6⟩ := hK
  refine ⟨q, q', lw', lw, P', ?_, ?_, ⟨h2, hb, ?_⟩, ?_, hR.congr1 m1, hP', ?_, ?_⟩
  · obtain ⟨b1, b2, b3, b4⟩ := hX0
    exact ⟨b1.trans k1, b2.trans k2, b3, b4, k5, k6.symm.imp (fun h => ⟨h.2, h.1⟩) (fun h => ⟨h.2, h.1⟩)⟩
  · exact ⟨h1.trans h9.symm, by omega, by omega, fun k k0 k1 => by omega⟩
  · rw [hX 215 (by decide) (by decide) (by omega) (by decide) (by decide)]; exact hf.2.2
  · exact ((hL.of (fun r' a b => hX r' (by omega) (by omega) (by omega) (by omega) (by omega))).mono (by omega)).congr1 hR m1
  · refine ⟨by rw [hM0.2]; omega, by rw [h44.1, hM0.2], by rw [h44.2]; exact hP.2.2.1, fun i i0 i1 => ?_⟩
    rw [hM0.2] at i1; omega
  · exact hG.of (by omega) (fun r a b => hX r (by omega) (by omega) (by omega) (by omega) (by omega)) (hX 197 (by omega) (by omega) (by omega) (by omega) (by omega)) hM0.1 m2
/-- the reference begins a text -/
theorem y_begins {Q : mSt → Prop} (okM : okS M) (hT : 0 ≤ M 0 9 ∧ M 0 9 ≤ 400) (hb : BB M) (hQ : ∀ M1, okS M1 → (∀ r, r ≠ 0 → M1 r = M r) → (∀ i, i ≠ 9 → i ≠ 10 → i ≠ 11 → i ≠ 12 → i ≠ 13 → i ≠ 14 → M1 0 i = M 0 i) → M1 0 9 = 0 → M1 0 14 = 0 → M1 0 13 = -1 → RD M1 (M 6) (M 0 9) 0 → M1 0 10 = -1 → Q M1) : w_X12_begins N 0 M Q := by
  intro S1 e1 S2 e2 S3 e3 S4 e4 S5 e5 S6 e6
  have a9 : S2 0 9 = M 0 9 := by rw [e2, mup_i _ _ _ (by decide), e1, mup_i _ _ _ (by decide)]
  rw [a9] at e3
  have fr : ∀ r, r ≠ 0 → S6 r = M r := fun r hr => by rw [e6, mup_ne _ _ _ hr, e5, mup_ne _ _ _ hr, e4, mup_ne _ _ _ hr, e3, mup_ne _ _ _ hr, e2, mup_ne _ _ _ hr, e1, mup_ne _ _ _ hr]
  have a10 : S6 0 10 = -1 := by rw [e6, mup_i _ _ _ (by decide), e5, mup_i _ _ _ (by decide), e4, mup_i _ _ _ (by decide), e3, mup_i _ _ _ (by decide), e2, mup_same]
  refine hQ S6 (by rw [e6, e5, e4, e3, e2, e1]; exact okS_up (okS_up (okS_up (okS_up (okS_up (okS_up okM (by decide)) (by decide)) (okM _ _)) (by decide)) (by decide)) (by decide)) fr (fun i h9 h10 h11 h12 h13 h14 => by rw [e6, mup_i _ _ _ h14, e5, mup_i _ _ _ h12, e4, mup_i _ _ _ h9, e3, mup_i _ _ _ h11, e2, mup_i _ _ _ h10, e1, mup_i _ _ _ h13]) ?_ (by rw [e6, mup_same]) ?_ ⟨?_, ?_, Int.le_refl _, hT.1, hT.2, Or.inl ⟨a10, fun k _ _ => by rw [fr 6 (by decide)]⟩⟩ a10
  · rw [e6, mup_i _ _ _ (by decide), e5, mup_i _ _ _ (by decide), e4, mup_same]
  · rw [e6, mup_i _ _ _ (by decide), e5, mup_i _ _ _ (by decide), e4, mup_i _ _ _ (by decide), e3, mup_i _ _ _ (by decide), e2, mup_i _ _ _ (by decide), e1, mup_same]
  · rw [e6, mup_i _ _ _ (by decide), e5, mup_i _ _ _ (by decide), e4, mup_i _ _ _ (by decide), e3, mup_same]
  · rw [e6, mup_i _ _ _ (by decide), e5, mup_same]
/-- the reference's facts as they stand -/
def eM (M : mSt) : Int → Int := fun k => if k < 8 then M 7 k else M 0 (k + 8)
theorem eM_EV (hb : BB M) : EV M (eM M) := ⟨fun k _ k1 => (if_pos k1).symm, rfl, rfl, hb.1, hb.2⟩
theorem y_law {Q : mSt → Int → Prop} (hN : 5000 ≤ N) (okM : okS M) (hT : 0 ≤ M 0 9 ∧ M 0 9 ≤ 400) (hb : BB M) (hQ1 : (qTxt (M 6) (M 0 9)).1 = -1 → ∀ M', okS M' → (∀ r, r ≠ 0 → r ≠ 1 → M' r = M r) → M' 0 0 = 0 → M' 0 4 = M 0 4 → M' 0 7 = 0 → M' 0 9 = 0 → M' 0 13 = -1 → BB M' → EQ1 (M 1) (M' 1) → M' 1 1 = (qTxt (M 6) (M 0 9)).2.length → M' 1 2 = M 0 9 → (∀ k, 0 ≤ k → k < M 0 9 → M' 1 (350 + k) = M 6 k) → Q M' (qTxt (M 6) (M 0 9)).2.length) (hQ0 : (qTxt (M 6) (M 0 9)).1 ≠ -1 → ∀ M', okS M' → (∀ r, r ≠ 0 → M' r = M r) → M' 0 0 = 1 → M' 0 4 = M 0 4 → M' 0 7 = M 0 7 → M' 0 9 = 0 → M' 0 13 = (qTxt (M 6) (M 0 9)).1 → BB M' → Q M' 0) : w_X12_law N 0 M Q := by
  refine y_begins okM hT hb (fun M1 ok1 fr1 z1 z9 z14 z13 R _ => ?_)
  have hb1 : BB M1 := hb.of (z1 16 (by decide) (by decide) (by decide) (by decide) (by decide) (by decide)) (z1 17 (by decide) (by decide) (by decide) (by decide) (by decide) (by decide))
  refine y_readLaw hN ok1 (eM_EV hb1) z14 R z13 (fun M2 v hr v3 ev => ?_)
  subst ev
  have fin : ∀ {w : Int}, ML M1 M2 → M2 0 13 = w → okS M2 ∧ (∀ r, r ≠ 0 → M2 r = M r) ∧ M2 0 4 = M 0 4 ∧ M2 0 7 = M 0 7 ∧ M2 0 9 = 0 ∧ M2 0 11 = M 0 9 ∧ BB M2 := by
    intro w ml _
    obtain ⟨o1, o2, o3⟩ := ml
    refine ⟨o1, fun r hr => (o2 r hr).trans (fr1 r hr), ?_, ?_, ?_, ?_, ?_⟩
    · rw [o3 4 (by decide) (by decide) (by decide) (by decide) (by decide)]; exact z1 4 (by decide) (by decide) (by decide) (by decide) (by decide) (by decide)
    · rw [o3 7 (by decide) (by decide) (by decide) (by decide) (by decide)]; exact z1 7 (by decide) (by decide) (by decide) (by decide) (by decide) (by decide)
    · rw [o3 9 (by decide) (by decide) (by decide) (by decide) (by decide)]; exact z9
    · rw [o3 11 (by decide) (by decide) (by decide) (by decide) (by decide)]; exact R.1
    · exact hb1.of (o3 16 (by decide) (by decide) (by decide) (by decide) (by decide)) (o3 17 (by decide) (by decide) (by decide) (by decide) (by decide))
  rcases hr with ⟨q1, ml, f13, ac, evv⟩ | ⟨q1, ml, f13⟩
  · obtain ⟨o1, o2, o4, o7, o9, o11, ob⟩ := fin ml f13
    refine ⟨fun _ S7 e7 => ?_, fun hc => absurd f13 hc⟩
    have t0 : S7 0 0 = 0 := by rw [e7, mup_same]
    rw [t0]
    refine ⟨fun _ S8 e8 S9 e9 v4 e4 => ?_, fun hc => absurd hc (by decide)⟩
    have e8' : S8 = mup S7 1 1 v3 := e8
    have e11 : S8 0 11 = M 0 9 := by rw [e8', mup_ne _ _ _ (by decide), e7, mup_i _ _ _ (by decide)]; exact o11
    rw [e11] at e9
    have e9' : S9 = mup S8 1 2 (M 0 9) := e9
    have z : ∀ i, i ≠ 0 → S9 0 i = M2 0 i := fun i hi => by rw [e9', mup_ne _ _ _ (by decide), e8', mup_ne _ _ _ (by decide), e7, mup_i _ _ _ hi]
    have z00 : S9 0 0 = 0 := by rw [e9', mup_ne _ _ _ (by decide), e8', mup_ne _ _ _ (by decide)]; exact t0
    have zr : ∀ r, r ≠ 0 → r ≠ 1 → S9 r = M r := fun r h0 h1 => by rw [e9', mup_ne _ _ _ h1, e8', mup_ne _ _ _ h1, e7, mup_ne _ _ _ h0]; exact o2 r h0
    have z1' : ∀ i, i ≠ 1 → i ≠ 2 → S9 1 i = M 1 i := fun i h1 h2 => by rw [e9', mup_i _ _ _ h2, e8', mup_i _ _ _ h1, e7, mup_ne _ _ _ (by decide), o2 1 (by decide)]
    have z11 : S9 1 1 = v3 := by rw [e9', mup_i _ _ _ (by decide), e8', mup_same]
    have z12 : S9 1 2 = M 0 9 := by rw [e9', mup_same]
    have ov : okI v3 := by
      obtain ⟨i1, -, -⟩ := qTxt_ok hT.1 q1
      rw [evv]; unfold okI; omega
    have ok9 : okS S9 := by rw [e9', e8', e7]; exact okS_up (okS_up (okS_up o1 (by decide)) ov) (okM _ _)
    clear e7 e8 e8' e9 e9'
    subst e4
    have evv' : v3 = ((qTxt (M 6) (M 0 9)).2.length : Int) := by rw [evv, Nat.zero_add]
    refine lpUp (n := N) (T := S9) (K := (M 0 9).toNat) (W := fun m k T => w_X12_law_55 N Q (fun (r0_5 : Nat) (x1_5 : Int) (S_5 : mSt) => ∀ S6 : mSt, S6 = mup S_5 r0_5 7 0 → Q S6 x1_5) m 0 v3 k T) (I := fun k T => okS T ∧ (∀ r, r ≠ 1 → T r = S9 r) ∧ (∀ i, i < 350 → T 1 i = S9 1 i) ∧ ∀ j : Int, 0 ≤ j → j < k → T 1 (350 + j) = M 6 j) (fun m T hI => ?_) (fun m k T hk hI ih => ?_) (by omega) ⟨ok9, fun _ _ => rfl, fun _ _ => rfl, fun j j0 j1 => by omega⟩
    · obtain ⟨i1, i2, i3, i4⟩ := hI
      have e11' : T 0 11 = M 0 9 := by rw [i2 0 (by decide), z 11 (by decide)]; exact o11
      refine ⟨fun _ S6 e6 => ?_, fun hc => by rw [e11'] at hc; omega⟩
      have y : ∀ i, i ≠ 7 → S6 0 i = S9 0 i := fun i hi => by rw [e6, mup_i _ _ _ hi, i2 0 (by decide)]
      have y1 : ∀ r, r ≠ 0 → S6 r = T r := fun r hr => by rw [e6, mup_ne _ _ _ hr]
      rw [evv']
      refine hQ1 q1 S6 (by rw [e6]; exact okS_up i1 (by decide)) (fun r h0 h1 => by rw [y1 r h0, i2 r h1]; exact zr r h0 h1) ((y 0 (by decide)).trans z00) (by rw [y 4 (by decide), z 4 (by decide)]; exact o4) (by rw [e6, mup_same]) (by rw [y 9 (by decide), z 9 (by decide)]; exact o9) (by rw [y 13 (by decide), z 13 (by decide)]; exact f13) (ob.of (by rw [y 16 (by decide), z 16 (by decide)]) (by rw [y 17 (by decide), z 17 (by decide)])) (fun k h1 h2 h3 => by rw [y1 1 (by decide), i3 k h3]; exact z1' k h1 h2) (by rw [y1 1 (by decide), i3 1 (by decide), z11]; exact evv') (by rw [y1 1 (by decide), i3 2 (by decide)]; exact z12) (fun k k0 k1 => by rw [y1 1 (by decide)]; exact i4 k k0 (by omega))
    · obtain ⟨i1, i2, i3, i4⟩ := hI
      have e11' : T 0 11 = M 0 9 := by rw [i2 0 (by decide), z 11 (by decide)]; exact o11
      refine ⟨fun hc => by rw [e11'] at hc; omega, fun _ => ⟨by omega, by omega, ?_⟩⟩
      rw [nm_of (x := 350 + (k : Int)) (by omega) (by omega)]
      refine ⟨by omega, by omega, fun S3 e3 v4 e4 => ?_⟩
      have e6 : T (0 + 6) k = M 6 k := by show T 6 k = _; rw [i2 6 (by decide), zr 6 (by decide) (by decide)]
      rw [e6] at e3
      have e3' : S3 = mup T 1 (350 + (k : Int)) (M 6 k) := e3
      rw [nx8 (by omega)] at e4
      subst e4
      refine ih S3 ⟨by rw [e3']; exact okS_up i1 (okM _ _), fun r hr => by rw [e3', mup_ne _ _ _ hr]; exact i2 r hr, fun i hi => by rw [e3', mup_i _ _ _ (by omega)]; exact i3 i hi, fun j j0 j1 => ?_⟩
      by_cases hj : j = k
      · subst hj; rw [e3', mup_same]
      · rw [e3', mup_i _ _ _ (by omega)]; exact i4 j j0 (by omega)
  · obtain ⟨o1, o2, o4, o7, o9, o11, ob⟩ := fin ml f13
    refine ⟨fun hc => absurd (f13.symm.trans hc) q1, fun _ S7 e7 => ?_⟩
    have t0 : S7 0 0 = 1 := by rw [e7, mup_same]
    have y : ∀ i, i ≠ 0 → S7 0 i = M2 0 i := fun i hi => by rw [e7, mup_i _ _ _ hi]
    rw [t0]
    refine ⟨fun hc => absurd hc (by decide), fun _ => hQ0 q1 S7 (by rw [e7]; exact okS_up o1 (by decide)) (fun r hr => by rw [e7, mup_ne _ _ _ hr]; exact o2 r hr) t0 ((y 4 (by decide)).trans o4) ((y 7 (by decide)).trans o7) ((y 9 (by decide)).trans o9) ((y 13 (by decide)).trans f13) (ob.of (y 16 (by decide)) (y 17 (by decide)))⟩
theorem k_3 (hN : 5000 ≤ N) (I : IV N n X M q q' lw lw' P) (okX : okS X) (okM : okS M) : wl_3 N a1 a2 a3 a4 a5 X M (fun X1 M1 => Inv N (n + 1) X1 M1) := by
  obtain ⟨t1, t2, t3, t4⟩ := I.2.1
  obtain ⟨k1, k2, k3, k4, k5, k6⟩ := id I.1
  have hb := I.2.2.1.2.1
  have hl' : lw' = 24 ∨ lw' = 31 := by omega
  unfold wl_3 w_L_law w_X11_law
  refine x_cutTape (tx := M 6) hN okX t1 t2 t3 (fun k a b => (t4 k a b).1) (fun X1 n1 ok1 C1 f1 g1 z1 q2 e2 => ?_)
  have eq2 : q2 = lw' := by rw [g1 6 (by decide), k4] at e2; omega
  subst eq2
  refine s_readLaw hN hl' t2 t3 ok1 C1 (fun X3 hT => ?_)
  obtain ⟨ok3, pf3, w3, good3⟩ := hT
  intro S4 e4
  have eS4 : S4 = mup X3 0 2 (qTxt (M 6) (M 0 9)).1 := by rw [e4]; show mup X3 0 2 (X3 38 6) = _; rw [w3]
  have fr4 : ∀ r, r ≠ 0 → (r < 38 ∨ 43 < r) → (r < q2 ∨ q2 + 4 < r) → S4 r = X r := fun r h0 h1 h2 => by rw [eS4, mup_ne _ _ _ h0, pf3 r (by omega) h2]; exact f1 r h0 h1
  have x30 : X3 0 = X1 0 := pf3 0 (by decide) (by omega)
  have fr40 : ∀ i, i ≠ 1 → i ≠ 2 → S4 0 i = X 0 i := fun i h1 h2 => by rw [eS4, mup_i _ _ _ h2, x30]; exact g1 i h1
  have z41 : S4 0 1 = 0 := by rw [eS4, mup_i _ _ _ (by decide), x30]; exact z1
  have z42 : S4 0 2 = (qTxt (M 6) (M 0 9)).1 := by rw [eS4, mup_same]
  have ok4 : okS S4 := by rw [eS4]; exact okS_up ok3 (by rw [← w3]; exact ok3 _ _)
  rw [z42]
  refine ⟨fun hq => ?_, fun hq => ⟨rfl, ?_⟩⟩
  · intro q5 e5 q6 e6 S7 e7 S8 e8 S9 e9 q10 e10 S10 e10'
    have eq5 : q5 = lw := by rw [fr40 5 (by decide) (by decide), k3] at e5; omega
    have eq6 : q6 = q2 := by rw [fr40 6 (by decide) (by decide), k4] at e6; omega
    subst q5 q6
    have x9 : ∀ r, r ≠ 0 → r ≠ 44 → S9 r = S4 r := fun r h0 h44 => by
      have e9' : S9 = mup S8 44 2 0 := e9
      rw [e9', mup_ne _ _ _ h44, e8, mup_ne _ _ _ h0, e7, mup_ne _ _ _ h0]
    have x90 : ∀ i, i ≠ 5 → i ≠ 6 → S9 0 i = S4 0 i := fun i h5 h6 => by
      have e9' : S9 = mup S8 44 2 0 := e9
      rw [e9', mup_ne _ _ _ (by decide), e8, mup_i _ _ _ h6, e7, mup_i _ _ _ h5]
    have x95 : S9 0 5 = q2 := by
      have e9' : S9 = mup S8 44 2 0 := e9
      rw [e9', mup_ne _ _ _ (by decide), e8, mup_i _ _ _ (by decide), e7, mup_same]
    have x96 : S9 0 6 = lw := by
      have e9' : S9 = mup S8 44 2 0 := e9
      rw [e9', mup_ne _ _ _ (by decide), e8, mup_same]
    have x442 : S9 44 2 = 0 := by
      have e9' : S9 = mup S8 44 2 0 := e9
      rw [e9', mup_same]
    have x441 : S9 44 1 = X 44 1 := by
      have e9' : S9 = mup S8 44 2 0 := e9
      rw [e9', mup_i _ _ _ (by decide), e8, mup_ne _ _ _ (by decide), e7, mup_ne _ _ _ (by decide), fr4 44 (by decide) (by decide) (by omega)]
    clear e7 e8 e9
    have eq10 : q10 = q2 := by rw [x95] at e10; omega
    subst eq10
    obtain ⟨le3, lt3⟩ := good3 hq
    rw [List.nil_append] at le3 lt3
    have S9q : ∀ r, r ≠ 0 → r ≠ 44 → S9 r = X3 r := fun r h0 h44 => by rw [x9 r h0 h44, eS4, mup_ne _ _ _ h0]
    have v0 : S9 q10 0 = (qTxt (M 6) (M 0 9)).2.length := by rw [S9q q10 (by omega) (by omega)]; exact lt3.1
    rw [v0] at e10'
    refine y_law hN okM ⟨t2, t3⟩ hb (fun _ M' okM' fm m0 m4 m7 m9 m13 mb meq m11 m12 mt => ⟨m0, fun _ => by rw [e10', mup_same], ?_⟩) (fun hc => absurd hq hc)
    obtain ⟨q12, qs, qa⟩ := qTxt_ok t2 hq
    have hPH : PH (((qTxt (M 6) (M 0 9)).2.length, S10 (q10 + 1), S10 (q10 + 2), S10 (q10 + 3), S10 (q10 + 4)) : mPrg) (qTxt (M 6) (M 0 9)).2 := by
      have g : ∀ j : Nat, 1 ≤ j → j ≤ 4 → S10 (q10 + j) = X3 (q10 + j) := fun j j1 j4 => by rw [e10', mup_ne _ _ _ (by omega), S9q _ (by omega) (by omega)]
      refine ⟨rfl, fun i hi => ?_, fun j hj => ?_⟩
      · show S10 (q10 + 1) i = _ ∧ S10 (q10 + 2) i = _ ∧ S10 (q10 + 3) i = _
        rw [g 1 (by decide) (by decide), g 2 (by decide) (by decide), g 3 (by decide) (by decide)]
        exact lt3.2 i hi
      · show S10 (q10 + 4) j = _
        rw [g 4 (by decide) (by decide)]
        exact le3.2 j hj
    refine I.newlaw (P' := ((qTxt (M 6) (M 0 9)).2.length, S10 (q10 + 1), S10 (q10 + 2), S10 (q10 + 3), S10 (q10 + 4))) (fun r h0 h44 h1 h2 h3 => ?_) ⟨?_, ?_, ?_, ?_⟩ ?_ ?_ ⟨?_, ?_⟩ ⟨meq, fm 2 (by decide) (by decide)⟩ ⟨m4, m7⟩ m9 mb ⟨hPH.pgk q12 (by omega) qa, ⟨?_, fun i _ _ => ⟨rfl, rfl, rfl⟩, fun j _ _ => rfl⟩, hPH.lmk hN hq t2 t3 m11 m12 mt, m11.symm⟩
    · rw [e10', mup_ne _ _ _ h3, x9 r h0 h44]; exact fr4 r h0 h2 (by omega)
    · rw [e10', mup_ne _ _ _ (by decide), x90 3 (by decide) (by decide)]; exact fr40 3 (by decide) (by decide)
    · rw [e10', mup_ne _ _ _ (by decide), x90 4 (by decide) (by decide)]; exact fr40 4 (by decide) (by decide)
    · rw [e10', mup_ne _ _ _ (by decide)]; exact x95
    · rw [e10', mup_ne _ _ _ (by decide)]; exact x96
    · rw [e10', mup_ne _ _ _ (by decide), x90 1 (by decide) (by decide)]; exact z41
    · rw [e10', mup_ne _ _ _ (by decide), x90 2 (by decide) (by decide), z42, m13]; exact hq
    · rw [e10', mup_ne _ _ _ (by decide)]; exact x442
    · rw [e10', mup_ne _ _ _ (by decide)]; exact x441
    · show S10 q10 0 = _
      rw [e10', mup_ne _ _ _ (by omega)]; exact v0
  · refine y_law hN okM ⟨t2, t3⟩ hb (fun hc => absurd hc hq) (fun _ M' okM' fm m0 m4 m7 m9 m13 mb => ⟨m0, fun hc => absurd hc (by decide), ?_⟩)
    exact I.txt (fun r h0 h1 h2 h3 => fr4 r h0 h3 (by omega)) fr40 z41 (z42.trans m13.symm) ⟨fm 1 (by decide), fm 2 (by decide), fm 5 (by decide)⟩ ⟨m4, m7⟩ m9 mb
end laws
