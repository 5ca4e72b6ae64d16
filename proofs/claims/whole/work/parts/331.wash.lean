set_option maxHeartbeats 400000
set_option maxRecDepth 20000
/-! ===== the pure part: washing, going back, the tape ===== -/
section wash
variable {N n : Nat} {X X' M M' : mSt} {q q' lw lw' : Nat} {f g : mRow} {A : mLaw} {P : mPrg} {a1 a2 a3 a4 a5 : Int} {T : Int} {p s : Int}
/-- the log shifted by one, from entry K on -/
def fShift (f : mRow) (K : Int) : mRow := fun k => if 110 + K ≤ k ∧ k < 350 then f (k - 4) else f k
theorem a_shift {Q : mSt → Int → Prop} {Q' : Nat → Int → Int → Int → mSt → Prop} {S : mSt} {x1 x2 x3 : Int} (hN : 5000 ≤ N) (hok : okS S) (h : ∀ S', okS S' → S' 1 = fShift (S 1) 4 → (∀ r, r ≠ 1 → S' r = S r) → Q' 0 x1 x2 x3 S') : w_X12_wash_111 N Q Q' N 0 x1 x2 x3 239 S := by
  have loop : ∀ (d m : Nat) (S' : mSt), d ≤ 236 → d < m → okS S' → S' 1 = fShift (S 1) (4 + d) → (∀ r, r ≠ 1 → S' r = S r) → w_X12_wash_111 N Q Q' m 0 x1 x2 x3 (3 + d) S' := by
    intro d
    induction d with
    | zero =>
      intro m S' hd hm ok' e' k'
      obtain ⟨m, rfl⟩ : ∃ m', m = m' + 1 := ⟨m - 1, by omega⟩
      exact ⟨fun _ => h S' ok' e' k', fun hc => by omega⟩
    | succ d ih =>
      intro m S' hd hm ok' e' k'
      obtain ⟨m, rfl⟩ : ∃ m', m = m' + 1 := ⟨m - 1, by omega⟩
      refine ⟨fun hc => by omega, fun _ => ?_⟩
      rw [nm_of (x := 110 + _) (by omega) (by omega), nm_of (x := 110 + _ - 4) (by omega) (by omega)]
      refine ⟨by omega, by omega, by omega, by omega, fun S3 e3 v4 e4 => ?_⟩
      rw [nm_of (by omega) (by omega)] at e4
      rw [show v4 = 3 + (d : Int) by omega]
      refine ih m S3 (by omega) (by omega) (by rw [e3]; exact okS_up ok' (ok' _ _)) ?_ (fun r hr => by rw [e3, mup_ne _ _ _ hr]; exact k' r hr)
      rw [e3, Nat.zero_add, mup_1, e']
      funext k
      unfold fup fShift
      by_cases h1 : k = 110 + (3 + ((d + 1 : Nat) : Int))
      · rw [if_pos h1, if_neg (by omega), if_pos (by omega)]; congr 1; omega
      · rw [if_neg h1]
        by_cases h2 : 110 + (4 + (d : Int)) ≤ k ∧ k < 350
        · rw [if_pos (by omega), if_pos h2]
        · rw [if_neg (by omega), if_neg h2]
  have := loop 236 N S (by omega) (by omega) hok (by
    funext k
    unfold fShift
    rw [if_neg (by omega)]) (fun _ _ => rfl)
  exact this
def fLog (f : mRow) (p s out : Int) : mRow := fup (fup (fup (fup (fup (fShift f 4) 110 (f 9)) 111 p) 112 s) 113 out) 11 (min 60 (f 11 + 1))
theorem fLog_hi {out k : Int} (hk : (k < 110 ∧ k ≠ 11) ∨ 350 ≤ k) : fLog f p s out k = f k := by
  unfold fLog fShift
  rw [fup_ne _ _ (by omega), fup_ne _ _ (by omega), fup_ne _ _ (by omega), fup_ne _ _ (by omega), fup_ne _ _ (by omega), if_neg (by omega)]
theorem s_addLog {S : mSt} {r : Nat} {out : Int} {Q : mSt → Prop} (hok : okS S) (h : RLd S r f T) (hT : S r 12 ≤ 511) (h11 : f 3 ≤ 6 ∧ f 4 ≤ 8) (op : okI p) (os : okI s) (oo : okI out) (hQ : ∀ S', okS S' → RLd S' r (fLog f p s out) (T + 1) → (∀ r', r' ≠ r → r' ≠ r + 10 → S' r' = S r') → Q S') : w_X2_addLog N r p s out S Q := by
  obtain ⟨h1, ⟨h2, h2a, h2b⟩, h3, h4, ⟨h5, h5a, h5b⟩, h6⟩ := id h
  intro v1 e1
  rw [iRem_nn (by unfold okI; omega) (by decide) (by omega) (by decide), nm_of (by omega) (by omega)] at e1
  rw [nm_of (x := v1 + 1) (by omega) (by omega), nm_of (x := v1 + 2) (by omega) (by omega), nm_of (x := v1 + 3) (by omega) (by omega), h1.1.2.1]
  refine ⟨by omega, by omega, fun S3 e3 => ⟨by omega, by omega, fun S5 e5 => ⟨by omega, by omega, fun S7 e7 => ⟨by omega, by omega, fun S9 e9 S10 e10 => ?_⟩⟩⟩⟩
  have k9 : ∀ r', r' ≠ r + 10 → S9 r' = S r' := fun r' hr => by rw [e9, mup_ne _ _ _ hr, e7, mup_ne _ _ _ hr, e5, mup_ne _ _ _ hr, e3, mup_ne _ _ _ hr]
  rw [k9 r (by omega), nm_of (by omega) (by omega)] at e10
  have k10 : ∀ r', r' ≠ r → r' ≠ r + 10 → S10 r' = S r' := fun r' a b => by rw [e10, mup_ne _ _ _ a]; exact k9 r' b
  have kr : ∀ i, i ≠ 12 → S10 r i = S r i := fun i hi => by rw [e10, mup_i _ _ _ hi, k9 r (by omega)]
  have k12 : S10 r 12 = S r 12 + 1 := by rw [e10, mup_same]
  have kl : ∀ i, S10 (r + 10) i = if i = v1 + 3 then out else if i = v1 + 2 then s else if i = v1 + 1 then p else if i = v1 then f 9 else S (r + 10) i := fun i => by
    rw [e10, mup_ne _ _ _ (by omega), e9, e7, e5, e3, mup_at, mup_at, mup_at, mup_at]
  have hh := fun k hk => fLog_hi (f := f) (p := p) (s := s) (out := out) (k := k) hk
  have ok10 : okS S10 := by
    rw [e10, e9, e7, e5, e3]
    exact okS_up (okS_up (okS_up (okS_up (okS_up hok (by rw [← h1.1.2.1]; exact hok _ _)) op) os) oo) (by unfold okI; omega)
  refine hQ S10 ok10 ⟨⟨?_, ?_, ?_, ?_, ?_, ?_⟩, ⟨?_, ?_, ?_⟩, fun i i0 i1 => ?_, fun i i0 i1 => ?_, ⟨?_, ?_, fun ago j b0 b1 j0 j1 => ?_⟩, ?_⟩ k10
  · have hm : RM S10 (r + 1) f := h1.1.of (fun r' a b => k10 r' (by omega) (by omega))
    obtain ⟨m1, m2, m3, m4⟩ := hm
    refine ⟨fun p p0 p1 => ?_, by rw [hh 9 (by omega)]; exact m2, by rw [hh 10 (by omega)]; exact m3, m4⟩
    rw [hh _ (by omega), hh _ (by omega), hh _ (by omega), hh _ (by omega), hh _ (by omega), hh _ (by omega), hh _ (by omega)]
    exact m1 p p0 p1
  · rw [kr 6 (by decide), hh 5 (by omega)]; exact h1.2.1
  · rw [kr 7 (by decide), hh 6 (by omega)]; exact h1.2.2.1
  · rw [kr 8 (by decide), hh 7 (by omega)]; exact h1.2.2.2.1
  · rw [kr 9 (by decide), hh 8 (by omega)]; exact h1.2.2.2.2.1
  · rw [kr 10 (by decide), hh 12 (by omega)]; exact h1.2.2.2.2.2
  · rw [kr 5 (by decide), hh 0 (by omega)]; exact h2
  · rw [kr 2 (by decide), hh 3 (by omega)]; exact h2a
  · rw [kr 4 (by decide), hh 4 (by omega)]; exact h2b
  · rw [hh 3 (by omega)] at i1
    rw [k10 _ (by omega) (by omega)]
    rw [hh _ (by omega)]; exact h3 i i0 i1
  · rw [hh 4 (by omega)] at i1
    rw [k10 _ (by omega) (by omega)]
    rw [hh _ (by omega)]; exact h4 i i0 i1
  · unfold fLog
    rw [fup_at, k12]; omega
  · rw [k12]; omega
  · have e11 : fLog f p s out 11 = min 60 (f 11 + 1) := by unfold fLog; exact fup_at _ _ _
    rw [e11] at b1
    rw [k12, kl]
    by_cases ha : ago = 0
    · subst ha
      have hj : j = 0 ∨ j = 1 ∨ j = 2 ∨ j = 3 := by omega
      rw [show S r 12 + 1 - 1 - 0 = S r 12 by omega]
      rcases hj with rfl | rfl | rfl | rfl
      · rw [if_neg (by omega), if_neg (by omega), if_neg (by omega), if_pos (by omega)]
        unfold fLog; simp [fup]
      · rw [if_neg (by omega), if_neg (by omega), if_pos (by omega)]
        unfold fLog; simp [fup]
      · rw [if_neg (by omega), if_pos (by omega)]
        unfold fLog; simp [fup]
      · rw [if_pos (by omega)]
        unfold fLog; simp [fup]
    · rw [show S r 12 + 1 - 1 - ago = S r 12 - 1 - (ago - 1) by omega]
      rw [if_neg (by omega), if_neg (by omega), if_neg (by omega), if_neg (by omega), h5b (ago - 1) j (by omega) (by omega) j0 j1]
      unfold fLog fShift
      rw [fup_ne _ _ (by omega), fup_ne _ _ (by omega), fup_ne _ _ (by omega), fup_ne _ _ (by omega), fup_ne _ _ (by omega), if_pos (by omega)]
      congr 1; omega
  · rw [k12]; omega
theorem RR.low (h : RR f) (e : ∀ k, 0 ≤ k → k < 94 → k ≠ 11 → g k = f k) : RR g := by
  obtain ⟨⟨⟨h1, o2, o3⟩, h1a, h1b⟩, h2, h3, h4, h5, h6⟩ := h
  refine ⟨⟨⟨fun p p0 p1 => ?_, by rw [e 10 (by decide) (by decide) (by decide)]; exact o2, by rw [e 9 (by decide) (by decide) (by decide)]; exact o3⟩, by rw [e 5 (by decide) (by decide) (by decide)]; exact h1a, by rw [e 6 (by decide) (by decide) (by decide)]; exact h1b⟩, by rw [e 3 (by decide) (by decide) (by decide)]; exact h2, by rw [e 4 (by decide) (by decide) (by decide)]; exact h3, by rw [e 0 (by decide) (by decide) (by decide)]; exact h4, fun s s0 s1 => ?_, h6.pegs (fun p p0 p1 => e _ (by omega) (by omega) (by omega))⟩
  · unfold RP
    rw [e (14 + 6 * p) (by omega) (by omega) (by omega), e (14 + 6 * p + 1) (by omega) (by omega) (by omega), e (14 + 6 * p + 2) (by omega) (by omega) (by omega), e (14 + 6 * p + 3) (by omega) (by omega) (by omega), e (14 + 6 * p + 4) (by omega) (by omega) (by omega), e (14 + 6 * p + 5) (by omega) (by omega) (by omega), e (62 + p) (by omega) (by omega) (by omega)]
    exact h1 p p0 p1
  · rw [e 3 (by decide) (by decide) (by decide)] at s1
    unfold RS
    rw [e (70 + 4 * s) (by omega) (by omega) (by omega), e (70 + 4 * s + 1) (by omega) (by omega) (by omega), e (70 + 4 * s + 2) (by omega) (by omega) (by omega), e (70 + 4 * s + 3) (by omega) (by omega) (by omega)]
    exact h5 s s0 s1
theorem fScrub_hi {k : Int} (p0 : 0 ≤ p) (p1 : p < 8) (hk : k < 14 ∨ 62 ≤ k) : fScrub f p s k = f k := by
  unfold fScrub
  rw [fup_ne _ _ (by omega), fup_ne _ _ (by omega), fClean_hi f p0 p1 hk]
theorem fScrub_peg {k : Int} : fScrub f p s (14 + 6 * k + 5) = f (14 + 6 * k + 5) := by
  unfold fScrub fClean
  rw [fup_ne _ _ (by omega), fup_ne _ _ (by omega), fup_ne _ _ (by omega), fup_ne _ _ (by omega), fup_ne _ _ (by omega)]
theorem k_9 (hN : 5000 ≤ N) (hn : n < 512) (I : IV N n X M q q' lw lw' P) (okX : okS X) (okM : okS M) (ok1 : okI a1) (ok2 : okI a2) : wl_9 N a1 a2 a3 a4 a5 X M (fun X1 M1 => Inv N (n + 1) X1 M1) := by
  obtain ⟨⟨hq, -, hlw, -, k5, k6⟩, -, -, hL, hR, ⟨pg, plw, -, -⟩, -⟩ := id I
  have h3 := hR.2.1
  have h4 := hR.2.2.1
  have h5 := hR.1.2.1
  have C := I.CQ (by omega) okX
  have hB := C.2.2.2.2.1
  unfold wl_9 w_L_wash w_X11_wash w_X12_wash
  refine s_ckPart (fun p0 p1 => s_ckSoap hq hL.2.1.2.1 (fun s0 s1 q3 e3 q4 e4 => ?_) (fun hb => Or.inl ⟨rfl, ?_⟩)) (fun hb => Or.inl ⟨rfl, ?_⟩)
  · have := qe e3 hq
    have := qe e4 hq
    subst q3 q4
    have hRS := hR.2.2.2.2.1 a2 s0 s1
    obtain ⟨r1, r2, r3, r4⟩ := id hRS
    refine x_price C s0 s1 ?_
    rw [hL.1.2.1]
    refine ⟨fun hw q6 e6 => ?_, fun hw => Or.inr ⟨rfl, ?_⟩⟩
    · have := qe e6 hq
      subst q6
      refine x_keep I okX (fun X2 okX2 kq q8 e8 q9 e9 => ?_)
      have x02 : X2 0 = X 0 := kq.2.2.2 0 (by omega) (by omega)
      have hq2 : X2 0 3 = q := by rw [x02]; exact hq
      have := qe e8 hq2
      have := qe e9 hq2
      subst q8 q9
      have hL2 : RLd X2 q (M 1) n := hL.of (fun r a b => kq.2.2.2 r (by omega) (by omega))
      have lwr2 : LWR X2 lw P := plw.of pg.1 (by rw [kq.2.2.2 lw (by omega) (by omega)]) (fun j a b i _ _ => by rw [kq.2.2.2 _ (by omega) (by omega)]) (fun i _ _ => by rw [kq.2.2.2 _ (by omega) (by omega)])
      have C2 : CQ N X2 q q' lw lw' (M 1) (AP P) n := ⟨okX2, I.1.of x02, hL2, hR, hB, lwr2.LX (by omega) pg⟩
      refine x_price C2 s0 s1 (fun X11 e11 => ?_)
      rw [hL2.1.2.1, nm_of (by omega) (by omega)] at e11
      have hL11 : RLd X11 q (fup (M 1) 5 (M 1 5 - M 1 (70 + 4 * a2 + 1))) n := by rw [e11]; exact hL2.water
      have hR11 : RR (fup (M 1) 5 (M 1 5 - M 1 (70 + 4 * a2 + 1))) := hR.water (by omega) (by omega)
      have k11 : ∀ r, r ≠ q → X11 r = X2 r := fun r hr => by rw [e11, mup_ne _ _ _ hr]
      have ok11 : okS X11 := by rw [e11]; exact okS_up okX2 (by unfold okI; omega)
      have C11 : CQ N X11 q q' lw lw' (fup (M 1) 5 (M 1 5 - M 1 (70 + 4 * a2 + 1))) (AP P) n := ⟨ok11, C2.2.1.of (k11 0 (by omega)), hL11, hR11, hB, C2.2.2.2.2.2.of (fun j hj => k11 _ (by omega))⟩
      clear e11
      have eS : ∀ k, k ≠ 5 → fup (M 1) 5 (M 1 5 - M 1 (70 + 4 * a2 + 1)) k = M 1 k := fun k hk => fup_ne _ _ hk
      have s1' : a2 < fup (M 1) 5 (M 1 5 - M 1 (70 + 4 * a2 + 1)) 3 := by rw [eS 3 (by decide)]; exact s1
      generalize hf1 : fup (M 1) 5 (M 1 5 - M 1 (70 + 4 * a2 + 1)) = f1 at hL11 hR11 C11 eS s1'
      have hq11 := C11.2.1.1
      intro q12 e12 q13 e13
      have := qe e12 hq11
      have := qe e13 hq11
      subst q12 q13
      refine x_strength C11 s0 s1' (fun q15 e15 => ?_)
      have := qe e15 hq11
      subst q15
      refine x_rough C11 s0 s1' (fun q17 e17 => ?_)
      have := qe e17 hq11
      subst q17
      have hRS1 := hR11.2.2.2.2.1 a2 s0 s1'
      refine x_takes C11 s0 s1' (s_scrub ok11 hL11.1.1 hR11.1.1 hRS1 p0 p1 (fun X19 ok19 m19 k19 k19q v20 e20 q21 e21 => ?_))
      have hg := fun k hk => fScrub_hi (f := f1) (s := a2) (k := k) p0 p1 hk
      have hL19 : RLd X19 q (fScrub f1 a1 a2) n := hL11.moonly m19 (fun r' hr => k19 r' (by omega)) (fun k hk => hg k (by omega))
      have x019 : X19 0 3 = q := by rw [k19 0 (by omega)]; exact hq11
      have := qe e21 x019
      subst q21
      have oo : okI v20 := by rw [e20]; exact bAnd_ok _ _
      have hT19 : X19 q 12 ≤ 511 := by have := hL19.2.2.2.2.2; omega
      refine s_addLog ok19 hL19 hT19 ⟨by rw [hg 3 (by omega)]; exact hR11.2.1.2, by rw [hg 4 (by omega)]; exact hR11.2.2.1.2⟩ ok1 ok2 oo (fun X22 ok22 hL22 k22 S2 e2 => ?_)
      subst e2
      refine a_isPart (fun _ _ => ⟨fun hc => absurd hc (by decide), fun _ => a_isSoap rfl h3.1 h3.2 (fun _ _ => ⟨fun _ => a_ofSoap s0 (by omega) (by omega) (by omega) ⟨fun _ => thrO ?_, fun hc => by rw [Nat.zero_add] at hc; omega⟩, fun hc => absurd hc (by decide)⟩) (fun hc => by omega)⟩) (fun hc => by omega)
      refine y_rem hN I rfl (by decide) okM (fun M2 okM2 rq => ?_)
      have I2 := keep_IV I rfl kq rq
      have e1 : M2 1 = M 1 := by rw [rq.1 1 (by decide) (by decide), mup_ne _ _ _ (by decide)]
      have z0 : M2 0 0 = 0 := by rw [rq.2.1 0 (by decide), mup_same]
      refine a_of p0 p1 (by omega) (by omega) (a_ofSoap s0 (by omega) (by omega) (by omega) (fun v5 e5 => a_ofSoap s0 (by omega) (by omega) (by omega) (fun S7 e7 => ?_)))
      rw [e1] at e5
      rw [Nat.zero_add, e1, nm_of (by omega) (by omega)] at e7
      have e71 : S7 1 = f1 := by rw [e7, mup_1, e1]; exact hf1
      have ok7 : okS S7 := by rw [e7]; exact okS_up okM2 (by unfold okI; omega)
      refine a_cleans ok7 e71 hR11.1.1 hRS1 s0 (by omega) p0 p1 (fun S8 ok8 e81 k8 => a_has p0 p1 (by omega) (by omega) (a_has p0 p1 (by omega) (by omega) (fun v11 e11 => ?_)))
      subst e11
      have e10 : (mup (mup S8 1 (14 + 6 * a1 + 2) 9) 1 (14 + 6 * a1 + 4) 0) 1 = fScrub f1 a1 a2 := by rw [mup_1, mup_1, e81]; rfl
      have k10 : ∀ r, r ≠ 1 → (mup (mup S8 1 (14 + 6 * a1 + 2) 9) 1 (14 + 6 * a1 + 4) 0) r = M2 r := fun r hr => by rw [mup_ne _ _ _ hr, mup_ne _ _ _ hr, k8 r hr, e7, mup_ne _ _ _ hr]
      have ok10 : okS (mup (mup S8 1 (14 + 6 * a1 + 2) 9) 1 (14 + 6 * a1 + 4) 0) := okS_up (okS_up ok8 (by decide)) (by decide)
      generalize mup (mup S8 1 (14 + 6 * a1 + 2) 9) 1 (14 + 6 * a1 + 4) 0 = S10 at e10 k10 ok10
      refine a_shift hN ok10 (fun S12 ok12 e12 k12 S13 e13 S14 e14 S15 e15 S16 e16 => ?_)
      rw [e10] at e12
      have ev : v5 = v20 := by rw [e5, e20, eS _ (by omega), eS _ (by omega)]
      simp only [Nat.zero_add] at e13 e14 e15 e16
      have e9 : S12 1 9 = fScrub f1 a1 a2 9 := by rw [e12]; unfold fShift; rw [if_neg (by omega)]
      have e11 : S16 1 11 = fScrub f1 a1 a2 11 := by rw [e16, mup_i _ _ _ (by decide), e15, mup_i _ _ _ (by decide), e14, mup_i _ _ _ (by decide), e13, mup_i _ _ _ (by decide), e12]; unfold fShift; rw [if_neg (by omega)]
      have l11 : 0 ≤ fScrub f1 a1 a2 11 ∧ fScrub f1 a1 a2 11 ≤ 60 := by have := hL19.2.2.2.2.1; have := this.1; have := hL19.2.2.2.2.1.2.1; omega
      have e11' : S16 (0 + 1) 11 = fScrub f1 a1 a2 11 := e11
      rw [e11', nm_of (by omega) (by omega)]
      refine a_lesser (fun S18 e18 => ?_)
      have k18 : ∀ r, r ≠ 1 → S18 r = M2 r := fun r hr => by rw [e18, mup_ne _ _ _ hr, e16, mup_ne _ _ _ hr, e15, mup_ne _ _ _ hr, e14, mup_ne _ _ _ hr, e13, mup_ne _ _ _ hr, k12 r hr, k10 r hr]
      have e181 : S18 1 = fLog (fScrub f1 a1 a2) a1 a2 v20 := by
        rw [e18, mup_1, e16, mup_1, e15, mup_1, e14, mup_1, e13, mup_1, e9, e12, ev]
        rfl
      obtain ⟨c1, c2⟩ := act_M e181 k18
      have hlo := fun k hk => fLog_hi (f := fScrub f1 a1 a2) (p := a1) (s := a2) (out := v20) (k := k) hk
      rw [ev]
      refine thr_end (by rw [k18 0 (by decide)]; exact z0) (mup_same _ _ _ _) ⟨q, q', lw, lw', P, I2.act (Nat.le_succ n) (fun r hr hr2 => by rw [mup_ne _ _ _ (by omega), k22 r (by omega) (by omega), k19 r (by omega), k11 r (by omega)]) ?_ ?_ (fun k hk => by rw [e181, e1, hlo k (by omega), hg k (by omega), eS k (by omega)]) c1 c2⟩
      · rw [e181]
        exact (hL22.of (fun r' a b => mup_ne _ _ _ (by omega))).mono (by omega)
      · rw [e181]
        have hRs : RR (fScrub f1 a1 a2) := hR11.moonly (((hR11.1.1.clean p0 p1 hRS1).wet p0 p1 (by omega)).hung p0 p1 (Or.inl rfl)) (hR11.2.2.2.2.2.pegs (fun p _ _ => fScrub_peg)) (fun k hk => hg k (by omega))
        exact hRs.low (fun k k0 k1 k2 => hlo k (by omega))
    · exact a_isPart (fun _ _ => ⟨fun hc => absurd hc (by decide), fun _ => a_isSoap rfl h3.1 h3.2 (fun _ _ => ⟨fun _ => a_ofSoap s0 (by omega) (by omega) (by omega) ⟨fun hc => by rw [Nat.zero_add] at hc; omega, fun _ => thrX (by decide) (finE I (by decide) (XF.rf _ _ _) (MQu.rf _))⟩, fun hc => absurd hc (by decide)⟩) (fun hc => by omega)⟩) (fun hc => by omega)
  · exact a_isPart (fun _ _ => ⟨fun hc => absurd hc (by decide), fun _ => a_isSoap rfl h3.1 h3.2 (fun _ _ => by omega) (fun hc => ⟨fun hc => absurd rfl hc, fun _ => thrX (by decide) (finE I (by decide) (XF.rf _ _ _) (MQu.rf _))⟩)⟩) (fun hc => by omega)
  · exact a_isPart (fun _ _ => by omega) (fun hc => ⟨fun _ => thrX (by decide) (finE I (by decide) (XF.rf _ _ _) (MQu.rf _)), fun hc => absurd rfl hc⟩)
end wash
