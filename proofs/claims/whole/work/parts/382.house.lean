set_option maxHeartbeats 400000
set_option maxRecDepth 20000
/-! ===== the pure part: a call of house ===== -/
section houses
variable {N n : Nat} {X X' M M' : mSt} {q q' lw lw' : Nat} {P P' : mPrg} {a1 a2 a3 a4 a5 T v : Int} {S : mSt} {r : Nat} {f g : mRow}
theorem RLd.texts (h : RLd S r g T) : RLd (mup S r 5 v) r (fup g 0 v) T := by
  obtain ⟨⟨h1, h1a, h1b, h1c, h1d, h1e⟩, ⟨h2, h2a, h2b⟩, h3, h4, ⟨h5, h5a, h5b⟩, h6⟩ := h
  have ne : ∀ k, k ≠ 0 → fup g 0 v k = g k := fun k hk => fup_ne _ _ hk
  have mn : ∀ k, k ≠ 5 → (mup S r 5 v) r k = S r k := fun k hk => mup_i _ _ _ hk
  have mr : ∀ r', r' ≠ r → (mup S r 5 v) r' = S r' := fun r' h => mup_ne _ _ _ h
  refine ⟨⟨(h1.of (fun r' a b => mr r' (by omega))).same (fun k hk => ne k (by omega)), by rw [mn 6 (by omega), ne 5 (by omega)]; exact h1a, by rw [mn 7 (by omega), ne 6 (by omega)]; exact h1b, by rw [mn 8 (by omega), ne 7 (by omega)]; exact h1c, by rw [mn 9 (by omega), ne 8 (by omega)]; exact h1d, by rw [mn 10 (by omega), ne 12 (by omega)]; exact h1e⟩, ⟨by rw [mup_same, fup_at], by rw [mn 2 (by omega), ne 3 (by omega)]; exact h2a, by rw [mn 4 (by omega), ne 4 (by omega)]; exact h2b⟩, fun i i0 i1 => ?_, fun i i0 i1 => ?_, ⟨by rw [mn 12 (by omega), ne 11 (by omega)]; exact h5, by rw [mn 12 (by omega)]; exact h5a, fun ago j b0 b1 j0 j1 => ?_⟩, by rw [mn 12 (by omega)]; exact h6⟩
  · rw [ne 3 (by omega)] at i1; rw [mr _ (by omega), ne _ (by omega)]; exact h3 i i0 i1
  · rw [ne 4 (by omega)] at i1; rw [mr _ (by omega), ne _ (by omega)]; exact h4 i i0 i1
  · rw [ne 11 (by omega)] at b1; rw [mn 12 (by omega), mr _ (by omega), ne _ (by omega)]; exact h5b ago j b0 b1 j0 j1
theorem RR.texts (h : RR g) (v0 : 0 ≤ v) (v1 : v ≤ 12) : RR (fup g 0 v) := by
  obtain ⟨⟨h1, h1a, h1b⟩, h2, h3, h4, h5, h6⟩ := h
  have ne : ∀ k, k ≠ 0 → fup g 0 v k = g k := fun k hk => fup_ne _ _ hk
  refine ⟨⟨h1.same (fun k hk => ne k (by omega)), by rw [ne 5 (by omega)]; exact h1a, by rw [ne 6 (by omega)]; exact h1b⟩, by rw [ne 3 (by omega)]; exact h2, by rw [ne 4 (by omega)]; exact h3, by rw [fup_at]; exact ⟨v0, v1⟩, fun s s0 s1 => ?_, h6.other (by omega)⟩
  rw [ne 3 (by omega)] at s1
  exact (h5 s s0 s1).other (by omega) s0 (by omega)
/-- a house that was taken -/
theorem IV.newhouse (I : IV N n X M q q' lw lw' P) (hX : ∀ r, r ≠ 0 → r ≠ 44 → (r < q' ∨ q' + 10 < r) → (r < 38 ∨ 43 < r) → r ≠ 250 → X' r = X r) (hX0 : X' 0 3 = q' ∧ X' 0 4 = q ∧ X' 0 5 = X 0 5 ∧ X' 0 6 = X 0 6) (h1 : X' 0 1 = 0) (h2 : X' 0 2 = M' 0 13) (h44 : X' 44 2 = 0 ∧ X' 44 1 = X 44 1) (hL' : RLd X' q' (M' 1) n) (hR' : RR (M' 1)) (hM : (∀ k, k = 1 ∨ k = 2 ∨ 350 ≤ k → M' 1 k = M 1 k) ∧ M' 2 = M 2) (hM0 : M' 0 4 = M 0 4 ∧ M' 0 7 = 0) (h9 : M' 0 9 = 0) (hb : BB M') : Inv N (n + 1) X' M' := by
  obtain ⟨hK, hT2, hf, hL, hR, ⟨p1, p2, p3, p4⟩, hP, hG⟩ := I
  obtain ⟨m1, m2⟩ := hM
  obtain ⟨k1, k2, k3, k4, k5, k6⟩ := hK
  refine ⟨q', q, lw, lw', P, ?_, ?_, ⟨h2, hb, ?_⟩, hL'.mono (by omega), hR', ⟨p1, ?_, p3.of (m1 1 (by omega)) (m1 2 (by omega)) (fun k a b => m1 k (by omega)), by rw [m1 1 (by omega)]; exact p4⟩, ?_, ?_⟩
  · obtain ⟨b1, b2, b3, b4⟩ := hX0
    exact ⟨b1, b2, b3.trans k3, b4.trans k4, k5.symm.imp (fun h => ⟨h.2, h.1⟩) (fun h => ⟨h.2, h.1⟩), k6⟩
  · exact ⟨h1.trans h9.symm, by omega, by omega, fun k k0 k1 => by omega⟩
  · rw [hX 215 (by decide) (by decide) (by omega) (by decide) (by decide)]; exact hf.2.2
  · exact p2.of p1.1 (by rw [hX lw (by omega) (by omega) (by omega) (by omega) (by omega)]) (fun j a b i _ _ => by rw [hX _ (by omega) (by omega) (by omega) (by omega) (by omega)]) (fun i _ _ => by rw [hX _ (by omega) (by omega) (by omega) (by omega) (by omega)])
  · refine ⟨by rw [hM0.2]; omega, by rw [h44.1, hM0.2], by rw [h44.2]; exact hP.2.2.1, fun i i0 i1 => ?_⟩
    rw [hM0.2] at i1; omega
  · exact hG.of (by omega) (fun r a b => hX r (by omega) (by omega) (by omega) (by omega) (by omega)) (hX 197 (by omega) (by omega) (by omega) (by omega) (by omega)) hM0.1 m2
theorem y_house {Q : mSt → Int → Prop} (hN : 5000 ≤ N) (okM : okS M) (hT : 0 ≤ M 0 9 ∧ M 0 9 ≤ 400) (hbt : ∀ k, 0 ≤ k → k < M 0 9 → 0 ≤ M 6 k ∧ M 6 k ≤ 255) (hR : RR (M 1)) (hb : BB M) (hQ1 : (hTxt (M 6) (M 0 9) (M 1)).1 = -1 → M 1 0 ≠ 12 → (∀ k, (k < 3 ∨ 350 ≤ k) → (hTxt (M 6) (M 0 9) (M 1)).2 k = M 1 k) → ∀ M', okS M' → (∀ r, r ≠ 0 → r ≠ 1 → r ≠ 4 → M' r = M r) → M' 0 0 = 0 → M' 0 4 = M 0 4 → M' 0 7 = 0 → M' 0 9 = 0 → M' 0 13 = -1 → BB M' → M' 1 = fup (hTxt (M 6) (M 0 9) (M 1)).2 0 (M 1 0 + 1) → Q M' (M 1 0 + 1)) (hQ0 : ∀ th : Int, (((hTxt (M 6) (M 0 9) (M 1)).1 ≠ -1 ∧ th = 1) ∨ ((hTxt (M 6) (M 0 9) (M 1)).1 = -1 ∧ M 1 0 = 12 ∧ th = 2)) → ∀ M', okS M' → (∀ r, r ≠ 0 → r ≠ 4 → M' r = M r) → M' 0 0 = th → M' 0 4 = M 0 4 → M' 0 7 = M 0 7 → M' 0 9 = 0 → M' 0 13 = (hTxt (M 6) (M 0 9) (M 1)).1 → BB M' → Q M' 0) : w_X12_house N 0 M Q := by
  refine a_aside hN ?_
  have w1 : (mck M 1 0 4 0 350) 1 = M 1 := mck_ne _ (by decide)
  have w0 : (mck M 1 0 4 0 350) 0 = M 0 := mck_ne _ (by decide)
  have w6 : (mck M 1 0 4 0 350) 6 = M 6 := mck_ne _ (by decide)
  have wr : ∀ r, r ≠ 4 → (mck M 1 0 4 0 350) r = M r := fun r hr => mck_ne _ hr
  have okW : okS (mck M 1 0 4 0 350) := okS_ck okM
  have hbW : BB (mck M 1 0 4 0 350) := hb.of (by rw [w0]) (by rw [w0])
  refine y_begins okW (by rw [w0]; exact hT) hbW (fun M1 ok1 fr1 z1 z9 z14 z13 R a10 => ?_)
  rw [w6, w0] at R
  have a1 : M1 1 = M 1 := (fr1 1 (by decide)).trans w1
  have hb1 : BB M1 := hbW.of (z1 16 (by decide) (by decide) (by decide) (by decide) (by decide) (by decide)) (z1 17 (by decide) (by decide) (by decide) (by decide) (by decide) (by decide))
  refine y_readHouse hN hbt ok1 a10 a1 hR R z13 (fun M2 v hr v4 ev => ?_)
  have fin : ∀ {w : Int}, MH M1 M2 → M2 0 13 = w → okS M2 ∧ (∀ r, r ≠ 0 → r ≠ 1 → r ≠ 4 → M2 r = M r) ∧ M2 4 = (mck M 1 0 4 0 350) 4 ∧ M2 0 4 = M 0 4 ∧ M2 0 7 = M 0 7 ∧ M2 0 9 = 0 ∧ BB M2 ∧ ∀ k, (k < 3 ∨ 350 ≤ k) → M2 1 k = M 1 k := by
    intro w ml _
    obtain ⟨o1, o2, o3, o4⟩ := ml
    refine ⟨o1, fun r h0 h1 h4 => by rw [o2 r h0 h1, fr1 r h0, wr r h4], by rw [o2 4 (by decide) (by decide), fr1 4 (by decide)], ?_, ?_, ?_, hb1.of (o3 16 (by decide) (by decide)) (o3 17 (by decide) (by decide)), fun k hk => by rw [o4 k hk, a1]⟩
    · rw [o3 4 (by decide) (by decide), z1 4 (by decide) (by decide) (by decide) (by decide) (by decide) (by decide), w0]
    · rw [o3 7 (by decide) (by decide), z1 7 (by decide) (by decide) (by decide) (by decide) (by decide) (by decide), w0]
    · rw [o3 9 (by decide) (by decide)]; exact z9
  -- a refused text
  have back : ∀ th : Int, 0 < th → th ≤ 2 → (((hTxt (M 6) (M 0 9) (M 1)).1 ≠ -1 ∧ th = 1) ∨ ((hTxt (M 6) (M 0 9) (M 1)).1 = -1 ∧ M 1 0 = 12 ∧ th = 2)) → MH M1 M2 → M2 0 13 = (hTxt (M 6) (M 0 9) (M 1)).1 → w_X12_house_43 N Q 0 th 0 M2 := by
    intro th t0 t2 ht ml f13 S7 e7
    obtain ⟨o1, o2, o44, o4, o7, o9, ob, ok⟩ := fin ml f13
    have s0 : S7 0 0 = th := by rw [e7, mup_same]
    have y : ∀ i, i ≠ 0 → S7 0 i = M2 0 i := fun i hi => by rw [e7, mup_i _ _ _ hi]
    have yr : ∀ r, r ≠ 0 → S7 r = M2 r := fun r hr => by rw [e7, mup_ne _ _ _ hr]
    rw [s0]
    refine ⟨fun hc => by omega, fun _ => a_back hN ?_⟩
    have b1 : (mck S7 4 0 1 0 350) 1 = M 1 := back_row (S0 := M) rfl (by rw [yr 4 (by decide)]; exact o44) (fun k hk => by rw [yr 1 (by decide)]; exact ok k (by omega))
    have br : ∀ r, r ≠ 1 → (mck S7 4 0 1 0 350) r = S7 r := fun r hr => mck_ne _ hr
    refine hQ0 th ht _ (okS_ck (by rw [e7]; exact okS_up o1 (by unfold okI; omega))) (fun r h0 h4 => ?_) (by rw [br 0 (by decide)]; exact s0) (by rw [br 0 (by decide), y 4 (by decide)]; exact o4) (by rw [br 0 (by decide), y 7 (by decide)]; exact o7) (by rw [br 0 (by decide), y 9 (by decide)]; exact o9) (by rw [br 0 (by decide), y 13 (by decide)]; exact f13) (ob.of (by rw [br 0 (by decide), y 16 (by decide)]) (by rw [br 0 (by decide), y 17 (by decide)]))
    by_cases hr : r = 1
    · rw [hr]; exact b1
    · rw [br r hr, yr r h0]; exact o2 r h0 hr h4
  rcases hr with ⟨q1, ml, f13, er⟩ | ⟨q1, ml, f13⟩
  · obtain ⟨o1, o2, o44, o4, o7, o9, ob, ok⟩ := fin ml f13
    have e10 : M2 1 0 = M 1 0 := ok 0 (by decide)
    refine ⟨fun _ => ?_, fun hc => absurd f13 hc⟩
    have e10' : M2 (0 + 1) 0 = M 1 0 := e10
    rw [e10']
    refine ⟨fun h12 => ?_, fun h12 => back 2 (by decide) (by decide) (Or.inr ⟨q1, h12, rfl⟩) ml (f13.trans q1.symm)⟩
    intro S7 e7
    have s0 : S7 0 0 = 0 := by rw [e7, mup_same]
    have s1 : S7 (0 + 1) = M2 1 := by rw [e7]; exact mup_ne _ _ _ (by decide)
    rw [s0, s1, e10, nm_of (by have := hR.2.2.2.1; omega) (by have := hR.2.2.2.1; omega)]
    refine ⟨fun _ S8 e8 S9 e9 => ?_, fun hc => absurd hc (by decide)⟩
    have a8 : S8 = mup S7 1 0 (M 1 0 + 1) := e8
    have g1 : S9 1 = fup (hTxt (M 6) (M 0 9) (M 1)).2 0 (M 1 0 + 1) := by
      rw [e9, mup_ne _ _ _ (by decide), a8, mup_1]
      have : S7 1 = M2 1 := s1
      rw [this, er]
    have g10 : S9 (0 + 1) 0 = M 1 0 + 1 := by
      have : S9 1 0 = M 1 0 + 1 := by rw [g1, fup_at]
      exact this
    rw [g10]
    have y : ∀ i, i ≠ 7 → i ≠ 0 → S9 0 i = M2 0 i := fun i h7 h0 => by rw [e9, mup_i _ _ _ h7, a8, mup_ne _ _ _ (by decide), e7, mup_i _ _ _ h0]
    refine hQ1 q1 h12 (fun k hk => by rw [← er]; exact ok k hk) S9 ?_ (fun r h0 h1 h4 => by rw [e9, mup_ne _ _ _ h0, a8, mup_ne _ _ _ h1, e7, mup_ne _ _ _ h0]; exact o2 r h0 h1 h4) (by rw [e9, mup_i _ _ _ (by decide), a8, mup_ne _ _ _ (by decide)]; exact s0) ((y 4 (by decide) (by decide)).trans o4) (by rw [e9, mup_same]) ((y 9 (by decide) (by decide)).trans o9) ((y 13 (by decide) (by decide)).trans f13) (ob.of (y 16 (by decide) (by decide)) (y 17 (by decide) (by decide))) g1
    rw [e9, a8, e7]
    exact okS_up (okS_up (okS_up o1 (by decide)) (by have := hR.2.2.2.1; unfold okI; omega)) (by decide)
  · exact ⟨fun hc => absurd (f13.symm.trans hc) q1, fun _ => back 1 (by decide) (by decide) (Or.inl ⟨q1, rfl⟩) ml f13⟩
theorem k_2 (hN : 5000 ≤ N) (I : IV N n X M q q' lw lw' P) (okX : okS X) (okM : okS M) : wl_2 N a1 a2 a3 a4 a5 X M (fun X1 M1 => Inv N (n + 1) X1 M1) := by
  obtain ⟨t1, t2, t3, t4⟩ := I.2.1
  obtain ⟨k1, k2, k3, k4, k5, k6⟩ := id I.1
  have hb := I.2.2.1.2.1
  have hL := I.2.2.2.1
  have hR := I.2.2.2.2.1
  have hq : q' = 2 ∨ q' = 13 := by omega
  have hbt : ∀ k, 0 ≤ k → k < M 0 9 → 0 ≤ M 6 k ∧ M 6 k ≤ 255 := fun k a b => (t4 k a b).2
  unfold wl_2 w_L_house w_X11_house
  refine x_cutTape (tx := M 6) hN okX t1 t2 t3 (fun k a b => (t4 k a b).1) (fun X1 n1 ok1 C1 f1 g1 z1 q2 e2 q3 e3 => ?_)
  have eq2 : q2 = q' := by rw [g1 4 (by decide), k2] at e2; omega
  have eq3 : q3 = q := by rw [g1 3 (by decide), k1] at e3; omega
  subst eq2; subst eq3
  refine s_become2 (by omega) ok1 (fun S4 ok4 cp4 fr4 q5 e5 => ?_)
  have x40 : S4 0 = X1 0 := fr4 0 (by omega)
  have eq5 : q5 = q2 := by rw [x40, g1 4 (by decide), k2] at e5; omega
  subst eq5
  have hL1 : RLd X1 q3 (M 1) n := hL.of (fun r a b => f1 r (by omega) (by omega))
  have hL4 : RLd S4 q5 (M 1) n := hL1.copy hR cp4
  have C4 : CC S4 (M 6) (M 0 9) n1 0 (-1) := C1.of (fun r a b => fr4 r (by omega))
  refine s_readHouse hN hq t2 t3 hbt ok4 C4 hL4 hR (fun X6 hT => ?_)
  obtain ⟨ok6, hf6, w6, good6⟩ := hT
  intro S7 e7
  have eS7 : S7 = mup X6 0 2 (hTxt (M 6) (M 0 9) (M 1)).1 := by rw [e7]; show mup X6 0 2 (X6 38 6) = _; rw [w6]
  have x60 : X6 0 = X1 0 := (hf6 0 (by decide) (by omega)).trans x40
  have fr7 : ∀ r, r ≠ 0 → (r < 38 ∨ 43 < r) → (r < q5 ∨ q5 + 10 < r) → S7 r = X r := fun r h0 h1 h2 => by rw [eS7, mup_ne _ _ _ h0, hf6 r (by omega) h2, fr4 r h2]; exact f1 r h0 h1
  have fr70 : ∀ i, i ≠ 1 → i ≠ 2 → S7 0 i = X 0 i := fun i h1 h2 => by rw [eS7, mup_i _ _ _ h2, x60]; exact g1 i h1
  have z71 : S7 0 1 = 0 := by rw [eS7, mup_i _ _ _ (by decide), x60]; exact z1
  have z72 : S7 0 2 = (hTxt (M 6) (M 0 9) (M 1)).1 := by rw [eS7, mup_same]
  have ok7 : okS S7 := by rw [eS7]; exact okS_up ok6 (by rw [← w6]; exact ok6 _ _)
  have e75 : S7 q3 5 = M 1 0 := by rw [fr7 q3 (by omega) (by omega) (by omega)]; exact hL.2.1.1
  -- a refused text
  have bad : ∀ th : Int, th ≠ 0 → (((hTxt (M 6) (M 0 9) (M 1)).1 ≠ -1 ∧ th = 1) ∨ ((hTxt (M 6) (M 0 9) (M 1)).1 = -1 ∧ 12 ≤ M 1 0 ∧ th = 2)) → w_X12_house N 0 M (fun (M2 : mSt) (v2 : Int) => w_X12_thrown N 0 M2 (fun (M3 : mSt) (v3 : Int) => v3 = th ∧ (th = 0 → (S7 250 0) = v2) ∧ Inv N (n + 1) S7 M3)) := by
    intro th th0 ht
    refine y_house hN okM ⟨t2, t3⟩ hbt hR hb (fun hq1 h12 => ?_) (fun th' ht' M' okM' fm m0 m4 m7 m9 m13 mb => ⟨?_, fun hc => absurd hc th0, ?_⟩)
    · exfalso
      have := hR.2.2.2.1
      rcases ht with ht | ht
      · exact ht.1 hq1
      · omega
    · rw [m0]
      rcases ht with ht | ht <;> rcases ht' with ht' | ht'
      · rw [ht.2, ht'.2]
      · exact absurd ht'.1 ht.1
      · exact absurd ht.1 ht'.1
      · rw [ht.2.2, ht'.2.2]
    · exact I.txt (fun r h0 h1 h2 h3 => fr7 r h0 h3 h1) fr70 z71 (z72.trans m13.symm) ⟨fm 1 (by decide) (by decide), fm 2 (by decide) (by decide), fm 5 (by decide) (by decide)⟩ ⟨m4, m7⟩ m9 mb
  rw [z72]
  refine ⟨fun hq1 q8 e8 => ?_, fun hq1 => Or.inl ⟨rfl, bad 1 (by decide) (Or.inl ⟨hq1, rfl⟩)⟩⟩
  have eq8 : q8 = q3 := by rw [fr70 3 (by decide) (by decide), k1] at e8; omega
  subst eq8
  rw [e75]
  refine ⟨fun h12 => ?_, fun h12 => Or.inr ⟨rfl, bad 2 (by decide) (Or.inr ⟨hq1, h12, rfl⟩)⟩⟩
  intro q9 e9 q10 e10 S11 e11 S12 e12 q13 e13 S14 e14 S15 e15 q16 e16 S17 e17
  have eq9 : q9 = q8 := by rw [fr70 3 (by decide) (by decide), k1] at e9; omega
  have eq10 : q10 = q5 := by rw [fr70 4 (by decide) (by decide), k2] at e10; omega
  subst q9 q10
  have x123 : S12 0 3 = q5 := by rw [e12, mup_i _ _ _ (by decide), e11, mup_same]
  have eq13 : q13 = q5 := by rw [x123] at e13; omega
  subst q13
  have x12r : ∀ r, r ≠ 0 → S12 r = S7 r := fun r h => by rw [e12, mup_ne _ _ _ h, e11, mup_ne _ _ _ h]
  obtain ⟨gl, gr⟩ := good6 hq1
  have s75 : ∀ r, r ≠ 0 → S7 r = X6 r := fun r h => by rw [eS7, mup_ne _ _ _ h]
  have a15 : S15 = mup S14 44 2 0 := e15
  refine y_house hN okM ⟨t2, t3⟩ hbt hR hb (fun _ hne hk M' okM' fm m0 m4 m7 m9 m13 mb m1 => ?_) (fun th ht => ?_)
  · have f0 := hR.2.2.2.1
    have e120 : S12 q5 5 = M 1 0 := by rw [x12r q5 (by omega), s75 q5 (by omega), gl.2.1.1]; exact hk 0 (by decide)
    rw [e120, nm_of (by omega) (by omega)] at e14
    have x15r : ∀ r, r ≠ 0 → r ≠ 44 → r ≠ q5 → S15 r = S7 r := fun r h0 h44 h => by rw [a15, mup_ne _ _ _ h44, e14, mup_ne _ _ _ h]; exact x12r r h0
    have x150 : ∀ i, S15 0 i = S12 0 i := fun i => by rw [a15, mup_ne _ _ _ (by decide), e14, mup_ne _ _ _ (by omega)]
    have eq16 : q16 = q5 := by rw [x150, x123] at e16; omega
    subst q16
    have x155 : S15 q5 5 = M 1 0 + 1 := by rw [a15, mup_ne _ _ _ (by omega), e14, mup_same]
    rw [x155] at e17
    refine ⟨m0, fun _ => by rw [e17, mup_same], ?_⟩
    refine I.newhouse (fun r h0 h44 h1 h2 h3 => ?_) ⟨?_, ?_, ?_, ?_⟩ ?_ ?_ ⟨?_, ?_⟩ ?_ ?_ ⟨fun k hk' => ?_, fm 2 (by decide) (by decide) (by decide)⟩ ⟨m4, m7⟩ m9 mb
    · rw [e17, mup_ne _ _ _ h3, x15r r h0 h44 (by omega)]; exact fr7 r h0 h2 h1
    · rw [e17, mup_ne _ _ _ (by decide), x150]; exact x123
    · rw [e17, mup_ne _ _ _ (by decide), x150, e12, mup_same]
    · rw [e17, mup_ne _ _ _ (by decide), x150, e12, mup_i _ _ _ (by decide), e11, mup_i _ _ _ (by decide)]; exact fr70 5 (by decide) (by decide)
    · rw [e17, mup_ne _ _ _ (by decide), x150, e12, mup_i _ _ _ (by decide), e11, mup_i _ _ _ (by decide)]; exact fr70 6 (by decide) (by decide)
    · rw [e17, mup_ne _ _ _ (by decide), x150, e12, mup_i _ _ _ (by decide), e11, mup_i _ _ _ (by decide)]; exact z71
    · rw [e17, mup_ne _ _ _ (by decide), x150, e12, mup_i _ _ _ (by decide), e11, mup_i _ _ _ (by decide), z72, m13]; exact hq1
    · rw [e17, mup_ne _ _ _ (by decide), a15, mup_same]
    · rw [e17, mup_ne _ _ _ (by decide), a15, mup_i _ _ _ (by decide), e14, mup_ne _ _ _ (by omega), x12r 44 (by decide), fr7 44 (by decide) (by decide) (by omega)]
    · have hl7 : RLd S12 q5 (hTxt (M 6) (M 0 9) (M 1)).2 n := gl.of (fun r a b => by rw [x12r r (by omega), s75 r (by omega)])
      have hl14 : RLd S14 q5 (M' 1) n := by rw [e14, m1]; exact hl7.texts
      exact hl14.of (fun r a b => by rw [e17, mup_ne _ _ _ (by omega), a15, mup_ne _ _ _ (by omega)])
    · rw [m1]; exact gr.texts (by omega) (by omega)
    · rw [m1, fup_ne _ _ (by omega)]; exact hk k (by omega)
  · exfalso
    rcases ht with ht | ht
    · exact ht.1 hq1
    · omega
end houses
