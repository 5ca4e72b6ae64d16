set_option maxHeartbeats 400000
set_option maxRecDepth 20000
/-! ===== the pure part: acts ===== -/
section acts
variable {N n : Nat} {X X' M M' : mSt} {q q' lw lw' : Nat} {f g : mRow} {A : mLaw} {P : mPrg} {a1 a2 a3 a4 a5 : Int} {T : Int} {p s : Int}
theorem RM.water {S : mSt} {r : Nat} {v : Int} (h : RM S (r + 1) f) : RM (mup S r 6 v) (r + 1) f := h.of (fun r' a _ => mup_ne _ _ _ (by omega))
theorem RLd.water {S : mSt} {r : Nat} {v : Int} (h : RLd S r f T) : RLd (mup S r 6 v) r (fup f 5 v) T := by
  obtain ⟨h1, ⟨h2, h2a, h2b⟩, h3, h4, ⟨h5, h5a, h5b⟩, h6⟩ := h
  refine ⟨h1.water, ⟨?_, ?_, ?_⟩, fun i i0 i1 => ?_, fun i i0 i1 => ?_, ⟨?_, ?_, fun ago j b0 b1 j0 j1 => ?_⟩, ?_⟩
  · rw [mup_i _ _ _ (by decide), fup_ne _ _ (by decide)]; exact h2
  · rw [mup_i _ _ _ (by decide), fup_ne _ _ (by decide)]; exact h2a
  · rw [mup_i _ _ _ (by decide), fup_ne _ _ (by decide)]; exact h2b
  · rw [fup_ne _ _ (by decide)] at i1; rw [mup_ne _ _ _ (by omega), fup_ne _ _ (by omega)]; exact h3 i i0 i1
  · rw [fup_ne _ _ (by decide)] at i1; rw [mup_ne _ _ _ (by omega), fup_ne _ _ (by omega)]; exact h4 i i0 i1
  · rw [mup_i _ _ _ (by decide), fup_ne _ _ (by decide)]; exact h5
  · rw [mup_i _ _ _ (by decide)]; exact h5a
  · rw [fup_ne _ _ (by decide)] at b1; rw [mup_i _ _ _ (by decide), mup_ne _ _ _ (by omega), fup_ne _ _ (by omega)]; exact h5b ago j b0 b1 j0 j1
  · rw [mup_i _ _ _ (by decide)]; exact h6
theorem RR.water {v : Int} (h : RR f) (v0 : 0 ≤ v) (v1 : v ≤ 99) : RR (fup f 5 v) := by
  obtain ⟨⟨h1, h1a, h1b⟩, h2, h3, h4, h5, h6⟩ := h
  refine ⟨⟨h1.other (by decide) (by decide) (by decide), ?_, ?_⟩, ?_, ?_, ?_, fun s s0 s1 => ?_, h6.other (by omega)⟩
  · rw [fup_at]; omega
  · rw [fup_ne _ _ (by decide)]; exact h1b
  · rw [fup_ne _ _ (by decide)]; exact h2
  · rw [fup_ne _ _ (by decide)]; exact h3
  · rw [fup_ne _ _ (by decide)]; exact h4
  · rw [fup_ne _ _ (by decide)] at s1; exact (h5 s s0 s1).other (by omega) s0 (by omega)
theorem k_11 (hN : 5000 ≤ N) (I : IV N n X M q q' lw lw' P) (okX : okS X) (okM : okS M) : wl_11 N a1 a2 a3 a4 a5 X M (fun X1 M1 => Inv N (n + 1) X1 M1) := by
  obtain ⟨⟨hq, -, -, -, k5, -⟩, -, -, hL, hR, -⟩ := id I
  have h5 := hR.1.2.1
  unfold wl_11 w_L_darn w_X11_darn w_X12_darn
  refine s_ckPart (fun p0 p1 q2 e2 => ?_) (fun hb => Or.inl ⟨rfl, ?_⟩)
  · have := qe e2 hq
    subst q2
    have e5 : X q 6 = M 1 5 := hL.1.2.1
    obtain ⟨g1, g2, g3, g4, g5, g6, g7⟩ := hR.1.1.at p0 p1
    rw [e5]
    refine ⟨fun hw q3 e3 => ?_, fun hw => Or.inr ⟨rfl, ?_⟩⟩
    · have := qe e3 hq
      subst q3
      refine x_keep I okX (fun X2 ok2 kq q5 e5 X6 e6 q7 e7 q8 e8 => ?_)
      have hq2 : X2 0 3 = q := by rw [kq.2.2.2 0 (by omega) (by omega)]; exact hq
      have := qe e5 hq2
      subst q5
      have hL2 : RLd X2 q (M 1) n := hL.of (fun r a b => kq.2.2.2 r (by omega) (by omega))
      rw [hL2.1.2.1, nm_of (by omega) (by omega)] at e6
      have hL6 : RLd X6 q (fup (M 1) 5 (M 1 5 - 2)) n := by rw [e6]; exact hL2.water
      have hq6 : X6 0 3 = q := by rw [e6, mup_ne _ _ _ (by omega)]; exact hq2
      have := qe e7 hq6
      have := qe e8 hq6
      subst q7 q8
      have et : X6 (q + 1 + 2) a1 = M 1 (14 + 6 * a1 + 1) := by rw [(hL6.1.1.1 a1 p0 p1).2.1, fup_ne _ _ (by omega)]
      rw [et, nm_of (by omega) (by omega), iMax_max]
      refine ⟨p0, p1, p0, p1, fun X11 e11 q12 e12 => ?_⟩
      have hq11 : X11 0 3 = q := by rw [e11, mup_ne _ _ _ (by omega)]; exact hq6
      have := qe e12 hq11
      subst q12
      have m11 : RM X11 (q + 1) (fup (fup (M 1) 5 (M 1 5 - 2)) (14 + 6 * a1 + 1) (max 0 (M 1 (14 + 6 * a1 + 1) - 3))) := by rw [e11]; exact hL6.1.1.thin p0 p1
      have v11 : X11 (q + 1 + 2) a1 = max 0 (M 1 (14 + 6 * a1 + 1) - 3) := by rw [e11, mup_same]
      rw [v11]
      refine ⟨p0, p1, fun S2 e2 => ?_⟩
      subst e2
      refine a_isPart (fun _ _ => ⟨fun _ => ⟨fun _ => thrO ?_, fun hc => by rw [Nat.zero_add] at hc; omega⟩, fun hc => absurd hc (by decide)⟩) (fun hc => by omega)
      refine y_rem hN I rfl (by decide) okM (fun M2 okM2 rq S3 e3 => a_of p0 p1 (by omega) (by omega) (a_greater (a_has p0 p1 (by omega) (by omega) (a_of p0 p1 (by omega) (by omega) ?_))))
      have I2 := keep_IV I rfl kq rq
      have e1 : M2 1 = M 1 := by rw [rq.1 1 (by decide) (by decide), mup_ne _ _ _ (by decide)]
      have z0 : M2 0 0 = 0 := by rw [rq.2.1 0 (by decide), mup_same]
      rw [Nat.zero_add, e1, nm_of (by omega) (by omega)] at e3
      have e31 : S3 1 = fup (M 1) 5 (M 1 5 - 2) := by rw [e3, mup_1, e1]
      have et3 : S3 1 (14 + 6 * a1 + 1) = M 1 (14 + 6 * a1 + 1) := by rw [e31, fup_ne _ _ (by omega)]
      rw [et3, nm_of (by omega) (by omega), mup_same S3]
      have e4 : (mup S3 1 (14 + 6 * a1 + 1) (max 0 (M 1 (14 + 6 * a1 + 1) - 3))) 1 = fup (fup (M 1) 5 (M 1 5 - 2)) (14 + 6 * a1 + 1) (max 0 (M 1 (14 + 6 * a1 + 1) - 3)) := by rw [mup_1, e31]
      have r4 : ∀ r, r ≠ 1 → (mup S3 1 (14 + 6 * a1 + 1) (max 0 (M 1 (14 + 6 * a1 + 1) - 3))) r = M2 r := fun r hr => by rw [mup_ne _ _ _ hr, e3, mup_ne _ _ _ hr]
      have hg : ∀ k, (k < 9 ∨ k = 11 ∨ k = 12 ∨ 70 ≤ k) → (fup (fup (M 1) 5 (M 1 5 - 2)) (14 + 6 * a1 + 1) (max 0 (M 1 (14 + 6 * a1 + 1) - 3))) k = (fup (M 1) 5 (M 1 5 - 2)) k := fun k hk => fup_ne _ _ (by omega)
      obtain ⟨c1, c2⟩ := act_M e4 r4
      have kX : ∀ r, (r < q ∨ q + 10 < r) → (r < 198 ∨ r = 215) → (mup X11 250 0 (max 0 (M 1 (14 + 6 * a1 + 1) - 3))) r = X2 r := fun r hr hr2 => by rw [mup_ne _ _ _ (by omega), e11, mup_ne _ _ _ (by omega), e6, mup_ne _ _ _ (by omega)]
      refine thr_end (by rw [r4 0 (by decide)]; exact z0) (mup_same _ _ _ _) ⟨q, q', lw, lw', P, I2.act (Nat.le_succ n) kX ?_ ?_ (fun k hk => by rw [e4, e1, fup_ne _ _ (by omega), fup_ne _ _ (by omega)]) c1 c2⟩
      · rw [e4]
        exact ((hL6.moonly m11 (fun r' hr => by rw [e11, mup_ne _ _ _ (by omega)]) hg).of (fun r' a b => mup_ne _ _ _ (by omega))).mono (by omega)
      · rw [e4]
        have hR5 := hR.water (v := M 1 5 - 2) (by omega) (by omega)
        exact hR5.moonly (hR5.1.1.thin p0 p1 (by omega)) (hR5.2.2.2.2.2.pegs (fun p x y => fup_ne _ _ (by omega))) hg
    · exact a_isPart (fun _ _ => ⟨fun _ => ⟨fun hc => by rw [Nat.zero_add] at hc; omega, fun _ => thrX (by decide) (finE I (by decide) (XF.rf _ _ _) (MQu.rf _))⟩, fun hc => absurd hc (by decide)⟩) (fun hc => by omega)
  · exact a_isPart (fun _ _ => by omega) (fun hc => ⟨fun hc => absurd rfl hc, fun _ => thrX (by decide) (finE I (by decide) (XF.rf _ _ _) (MQu.rf _))⟩)
theorem PS.swap {o p g : Int} (h : PS f) (ho : onP f g o) (p0 : 0 ≤ p) (p1 : p < 8) (g0 : 0 ≤ g) (g1 : g < 8) : PS (fup (fup f (14 + 6 * o + 5) (f (14 + 6 * p + 5))) (14 + 6 * p + 5) g) := by
  obtain ⟨o0, o1, o2, o3⟩ := ho
  intro x x0 x1
  by_cases hx : x = g
  · exact ⟨p, p0, p1, by rw [fup_at, hx]⟩
  · obtain ⟨k, k0, k1, e⟩ := h x x0 x1
    by_cases hk : k = p
    · by_cases ho : o = p
      · exfalso; apply hx; rw [← e, hk, ← ho]; exact o2
      · exact ⟨o, o0, o1, by rw [fup_ne _ _ (by omega), fup_at, ← hk]; exact e⟩
    · have : k ≠ o := fun hko => hx (by rw [← e, hko]; exact o2)
      exact ⟨k, k0, k1, by rw [fup_ne _ _ (by omega), fup_ne _ _ (by omega)]; exact e⟩
theorem k_12 (hN : 5000 ≤ N) (I : IV N n X M q q' lw lw' P) (okX : okS X) (okM : okS M) : wl_12 N a1 a2 a3 a4 a5 X M (fun X1 M1 => Inv N (n + 1) X1 M1) := by
  obtain ⟨⟨hq, -, -, -, k5, -⟩, -, -, hL, hR, -⟩ := id I
  unfold wl_12 w_L_move w_X11_move w_X12_move
  refine s_ckPart (fun p0 p1 => s_ckPart (fun g0 g1 q3 e3 => ?_) (fun hb => ⟨rfl, ?_⟩)) (fun hb => ⟨rfl, ?_⟩)
  · have := qe e3 hq
    subst q3
    obtain ⟨g1', g2, g3, g4, g5, g6, g7⟩ := hR.1.1.at p0 p1
    refine x_keep I okX (fun X2 ok2 kq q5 e5 => ?_)
    have hq2 : X2 0 3 = q := by rw [kq.2.2.2 0 (by omega) (by omega)]; exact hq
    have := qe e5 hq2
    subst q5
    have hL2 : RLd X2 q (M 1) n := hL.of (fun r a b => kq.2.2.2 r (by omega) (by omega))
    obtain ⟨o, ho⟩ := onP_ex hR.2.2.2.2.2 g0 g1
    have ho' := ho
    obtain ⟨o0, o1, o2, o3⟩ := ho'
    refine s_partAt hN hL2.1.1 ho (fun v7 e7 q8 e8 q9 e9 => ?_)
    have := qe e8 hq2
    have := qe e9 hq2
    subst q8 q9
    subst e7
    have ep : X2 (q + 1 + 5) a1 = M 1 (14 + 6 * a1 + 5) := (hL2.1.1.1 a1 p0 p1).2.2.2.2.2.1
    rw [ep]
    refine ⟨p0, p1, o0, o1, fun X12 e12 q13 e13 => ?_⟩
    have hq12 : X12 0 3 = q := by rw [e12, mup_ne _ _ _ (by omega)]; exact hq2
    have := qe e13 hq12
    subst q13
    refine ⟨p0, p1, fun X15 e15 S2 e2 => ?_⟩
    have m15 : RM X15 (q + 1) (fup (fup (M 1) (14 + 6 * v7 + 5) (M 1 (14 + 6 * a1 + 5))) (14 + 6 * a1 + 5) a2) := by rw [e15, e12]; exact (hL2.1.1.peg o0 o1).peg p0 p1
    subst e2
    refine a_isPart (fun _ _ => ⟨fun hc => absurd hc (by decide), fun _ => a_isPart (fun _ _ => ⟨fun _ => thrO ?_, fun hc => absurd hc (by decide)⟩) (fun hc => by omega)⟩) (fun hc => by omega)
    refine y_rem hN I rfl (by decide) okM (fun M2 okM2 rq => ?_)
    have I2 := keep_IV I rfl kq rq
    have e1 : M2 1 = M 1 := by rw [rq.1 1 (by decide) (by decide), mup_ne _ _ _ (by decide)]
    have z0 : M2 0 0 = 0 := by rw [rq.2.1 0 (by decide), mup_same]
    refine a_partOn hN e1 ho (fun v4 e4 => ?_)
    subst e4
    refine a_of p0 p1 (by omega) (by omega) (a_has o0 o1 (by omega) (by omega) (a_has p0 p1 (by omega) (by omega) ?_))
    rw [e1]
    have e4 : (mup (mup M2 1 (14 + 6 * v4 + 5) (M 1 (14 + 6 * a1 + 5))) 1 (14 + 6 * a1 + 5) a2) 1 = fup (fup (M 1) (14 + 6 * v4 + 5) (M 1 (14 + 6 * a1 + 5))) (14 + 6 * a1 + 5) a2 := by rw [mup_1, mup_1, e1]
    have r4 : ∀ r, r ≠ 1 → (mup (mup M2 1 (14 + 6 * v4 + 5) (M 1 (14 + 6 * a1 + 5))) 1 (14 + 6 * a1 + 5) a2) r = M2 r := fun r hr => by rw [mup_ne _ _ _ hr, mup_ne _ _ _ hr]
    have hg : ∀ k, (k < 9 ∨ k = 11 ∨ k = 12 ∨ 70 ≤ k) → (fup (fup (M 1) (14 + 6 * v4 + 5) (M 1 (14 + 6 * a1 + 5))) (14 + 6 * a1 + 5) a2) k = M 1 k := fun k hk => by rw [fup_ne _ _ (by omega), fup_ne _ _ (by omega)]
    obtain ⟨c1, c2⟩ := act_M e4 r4
    refine thr_end (by rw [r4 0 (by decide)]; exact z0) (mup_same _ _ _ _) ⟨q, q', lw, lw', P, I2.act (Nat.le_succ n) (fun r hr hr2 => by rw [mup_ne _ _ _ (by omega), e15, mup_ne _ _ _ (by omega), e12, mup_ne _ _ _ (by omega)]) ?_ ?_ (fun k hk => by rw [e4, e1, fup_ne _ _ (by omega), fup_ne _ _ (by omega)]) c1 c2⟩
    · rw [e4]
      exact ((hL2.moonly m15 (fun r' hr => by rw [e15, mup_ne _ _ _ (by omega), e12, mup_ne _ _ _ (by omega)]) hg).of (fun r' a b => mup_ne _ _ _ (by omega))).mono (by omega)
    · rw [e4]
      exact hR.moonly ((hR.1.1.peg o0 o1 g6).peg p0 p1 ⟨g0, g1⟩) (hR.2.2.2.2.2.swap ho p0 p1 g0 g1) hg
  · exact a_isPart (fun _ _ => ⟨fun hc => absurd hc (by decide), fun _ => a_isPart (fun _ _ => by omega) (fun hc => ⟨fun hc => absurd rfl hc, fun _ => thrX (by decide) (finE I (by decide) (XF.rf _ _ _) (MQu.rf _))⟩)⟩) (fun hc => by omega)
  · exact a_isPart (fun _ _ => by omega) (fun hc => ⟨fun _ => thrX (by decide) (finE I (by decide) (XF.rf _ _ _) (MQu.rf _)), fun hc => absurd rfl hc⟩)
-- drop
theorem s_remove {Q : mSt → Prop} {S : mSt} {r : Nat} (hN : 5000 ≤ N) (s0 : 0 ≤ s) (s1 : s < 6) (hc : 0 ≤ S r 2 ∧ S r 2 ≤ 6) (h : Q (mup (mck S (r + 8) (4 * s + 4) (r + 8) (4 * s) (20 - 4 * s)) r 2 (S r 2 - 1))) : w_X2_removeSoap N r s S Q := by
  intro v1 e1
  rw [nm_of (by omega) (by omega)] at e1
  have e1' : v1 = 4 * s + ((0 : Nat) : Int) := by omega
  rw [e1']
  refine lpUp (K := (20 - 4 * s).toNat) (W := fun n k T => w_X2_removeSoap_4 N Q (fun (r0_2 : Nat) (S_2 : mSt) => ∀ S3 : mSt, S3 = mup S_2 r0_2 2 (nm ((S_2 r0_2 2) - 1)) → Q S3) n r (4 * s + k) T) (I := fun k T => T = mck S (r + 8) (4 * s + 4) (r + 8) (4 * s) k) (fun n T hI => ?_) (fun n k T hk hI ih => ?_) (by omega) (mck_0 _ _ _ _ _).symm
  · refine ⟨fun _ S3 e3 => ?_, fun hc => by rw [nm_of (by omega) (by omega)] at hc; omega⟩
    have e2 : T r 2 = S r 2 := by rw [hI, mck_ne _ (by omega)]
    rw [e2, nm_of (by omega) (by omega), hI, show (((20 - 4 * s).toNat : Nat) : Int) = 20 - 4 * s by omega] at e3
    rw [e3]; exact h
  · rw [show 4 * s + (k : Int) = 4 * s + k from rfl]
    refine ⟨fun hc => by rw [nm_of (by omega) (by omega)] at hc; omega, fun _ => ?_⟩
    rw [nm_of (x := 4 * s + k + 4) (by omega) (by omega)]
    refine ⟨by omega, by omega, by omega, by omega, fun S3 e3 v4 e4 => ?_⟩
    rw [nm_of (by omega) (by omega)] at e4
    rw [show v4 = 4 * s + ((k + 1 : Nat) : Int) by omega]
    refine ih S3 ?_
    have := mck_step S (r1 := r + 8) (r2 := r + 8) (o1 := 4 * s + 4) (o2 := 4 * s) (n := k) (by omega) (by omega)
    rw [← hI] at this
    rw [e3, show 4 * s + (k : Int) + 4 = 4 * s + 4 + k by omega]; exact this
theorem a_drop {Q : mSt → Int → Prop} {Q' : Nat → mSt → Prop} {S : mSt} (hN : 5000 ≤ N) {c : Int} (s0 : 0 ≤ s) (s1 : s ≤ c) (c6 : c ≤ 5) (hc : S 1 3 = c) (h : Q' 0 (mck S 1 (70 + 4 * s + 4) 1 (70 + 4 * s) (4 * c - 4 * s))) : w_X12_drop_47 N Q Q' N 0 (70 + 4 * s) S := by
  have e0 : 70 + 4 * s = 70 + 4 * s + ((0 : Nat) : Int) := by omega
  rw [e0]
  refine lpUp (K := (4 * c - 4 * s).toNat) (W := fun n k T => w_X12_drop_47 N Q Q' n 0 (70 + 4 * s + k) T) (I := fun k T => T = mck S 1 (70 + 4 * s + 4) 1 (70 + 4 * s) k) (fun n T hI => ?_) (fun n k T hk hI ih => ?_) (by omega) (mck_0 _ _ _ _ _).symm
  · have e3 : T (0 + 1) 3 = c := by rw [Nat.zero_add, hI, mck_out _ (by omega)]; exact hc
    refine ⟨fun _ => ?_, fun hc => by rw [e3, nm_of (x := 4 * c) (by omega) (by omega), nm_of (by omega) (by omega)] at hc; omega⟩
    rw [show (((4 * c - 4 * s).toNat : Nat) : Int) = 4 * c - 4 * s by omega] at hI
    rw [hI]; exact h
  · have e3 : T (0 + 1) 3 = c := by rw [Nat.zero_add, hI, mck_out _ (by omega)]; exact hc
    refine ⟨fun hc => by rw [e3, nm_of (x := 4 * c) (by omega) (by omega), nm_of (by omega) (by omega)] at hc; omega, fun _ => ?_⟩
    rw [nm_of (x := 70 + 4 * s + k + 4) (by omega) (by omega)]
    refine ⟨by omega, by omega, by omega, by omega, fun S3 e3 v4 e4 => ?_⟩
    rw [nm_of (by omega) (by omega)] at e4
    rw [show v4 = 70 + 4 * s + ((k + 1 : Nat) : Int) by omega]
    refine ih S3 ?_
    have := mck_step S (r1 := 1) (r2 := 1) (o1 := 70 + 4 * s + 4) (o2 := 70 + 4 * s) (n := k) (by omega) (by omega)
    rw [← hI] at this
    rw [e3, Nat.zero_add, show 70 + 4 * s + (k : Int) + 4 = 70 + 4 * s + 4 + k by omega]; exact this
def fDrop (f : mRow) (s : Int) : mRow := fun k => if k = 3 then f 3 - 1 else if 70 + 4 * s ≤ k ∧ k < 70 + 4 * (f 3 - 1) then f (k + 4) else f k
theorem fDrop_hi {k : Int} (hk : (k < 70 ∧ k ≠ 3) ∨ 94 ≤ k) (s0 : 0 ≤ s) (h6 : f 3 ≤ 6) : fDrop f s k = f k := by
  unfold fDrop
  rw [if_neg (by omega), if_neg (by omega)]
theorem k_13 (hN : 5000 ≤ N) (I : IV N n X M q q' lw lw' P) (okX : okS X) (okM : okS M) : wl_13 N a1 a2 a3 a4 a5 X M (fun X1 M1 => Inv N (n + 1) X1 M1) := by
  obtain ⟨⟨hq, -, -, -, k5, -⟩, -, -, hL, hR, -⟩ := id I
  have h3 := hR.2.1
  unfold wl_13 w_L_drop w_X11_drop w_X12_drop
  refine s_ckSoap hq hL.2.1.2.1 (fun s0 s1 q2 e2 => ?_) (fun hb => ⟨rfl, ?_⟩)
  · have := qe e2 hq
    subst q2
    refine x_keep I okX (fun X2 ok2 kq q4 e4 => ?_)
    have hq2 : X2 0 3 = q := by rw [kq.2.2.2 0 (by omega) (by omega)]; exact hq
    have := qe e4 hq2
    subst q4
    have hL2 : RLd X2 q (M 1) n := hL.of (fun r a b => kq.2.2.2 r (by omega) (by omega))
    have ec := hL2.2.1.2.1
    refine s_remove hN s0 (by omega) (by omega) (fun q6 e6 => ?_)
    rw [ec] at e6 ⊢
    have X3k : ∀ r, r ≠ q → r ≠ q + 8 → (mup (mck X2 (q + 8) (4 * a1 + 4) (q + 8) (4 * a1) (20 - 4 * a1)) q 2 (M 1 3 - 1)) r = X2 r := fun r a b => by rw [mup_ne _ _ _ a, mck_ne _ b]
    have X3q : ∀ i, i ≠ 2 → (mup (mck X2 (q + 8) (4 * a1 + 4) (q + 8) (4 * a1) (20 - 4 * a1)) q 2 (M 1 3 - 1)) q i = X2 q i := fun i a => by rw [mup_i _ _ _ a, mck_ne _ (by omega)]
    have X3c : (mup (mck X2 (q + 8) (4 * a1 + 4) (q + 8) (4 * a1) (20 - 4 * a1)) q 2 (M 1 3 - 1)) q 2 = M 1 3 - 1 := mup_same _ _ _ _
    have X3s : ∀ i, 0 ≤ i → i < 4 * (M 1 3 - 1) → (mup (mck X2 (q + 8) (4 * a1 + 4) (q + 8) (4 * a1) (20 - 4 * a1)) q 2 (M 1 3 - 1)) (q + 8) i = if 4 * a1 ≤ i then X2 (q + 8) (i + 4) else X2 (q + 8) i := fun i a b => by
      rw [mup_ne _ _ _ (by omega)]
      split
      · rw [mck_in _ (by omega) (by omega)]; congr 1; omega
      · rw [mck_out _ (by omega)]
    generalize mup (mck X2 (q + 8) (4 * a1 + 4) (q + 8) (4 * a1) (20 - 4 * a1)) q 2 (M 1 3 - 1) = X3 at e6 X3k X3q X3c X3s
    have hq3 : X3 0 3 = q := by rw [X3k 0 (by omega) (by omega)]; exact hq2
    have := qe e6 hq3
    subst q6
    rw [X3c]
    intro S2 e2
    subst e2
    refine a_isSoap rfl h3.1 h3.2 (fun _ _ => ⟨fun _ => thrO ?_, fun hc => absurd hc (by decide)⟩) (fun hc => by omega)
    refine y_rem hN I rfl (by decide) okM (fun M2 okM2 rq S3 e3 v4 e4 => ?_)
    have I2 := keep_IV I rfl kq rq
    have e1 : M2 1 = M 1 := by rw [rq.1 1 (by decide) (by decide), mup_ne _ _ _ (by decide)]
    have z0 : M2 0 0 = 0 := by rw [rq.2.1 0 (by decide), mup_same]
    rw [Nat.zero_add, e1, nm_of (by omega) (by omega)] at e3
    rw [nm_of (x := 4 * a1) (by omega) (by omega), nm_of (by omega) (by omega)] at e4
    subst e4
    have e31 : S3 1 = fup (M 1) 3 (M 1 3 - 1) := by rw [e3, mup_1, e1]
    refine a_drop hN (c := M 1 3 - 1) s0 (by omega) (by omega) (by rw [e31, fup_at]) ?_
    have r4 : ∀ r, r ≠ 1 → (mck S3 1 (70 + 4 * a1 + 4) 1 (70 + 4 * a1) (4 * (M 1 3 - 1) - 4 * a1)) r = M2 r := fun r hr => by rw [mck_ne _ hr, e3, mup_ne _ _ _ hr]
    have e4 : (mck S3 1 (70 + 4 * a1 + 4) 1 (70 + 4 * a1) (4 * (M 1 3 - 1) - 4 * a1)) 1 = fDrop (M 1) a1 := by
      funext k
      unfold fDrop
      by_cases hk3 : k = 3
      · rw [if_pos hk3, hk3, mck_out _ (by omega), e31, fup_at]
      · rw [if_neg hk3]
        by_cases hk : 70 + 4 * a1 ≤ k ∧ k < 70 + 4 * (M 1 3 - 1)
        · rw [if_pos hk, mck_in _ (by omega) (by omega), e31, fup_ne _ _ (by omega)]; congr 1; omega
        · rw [if_neg hk, mck_out _ (by omega), e31, fup_ne _ _ hk3]
    generalize mck S3 1 (70 + 4 * a1 + 4) 1 (70 + 4 * a1) (4 * (M 1 3 - 1) - 4 * a1) = M4 at r4 e4
    have hd := fun k hk => fDrop_hi (f := M 1) (s := a1) (k := k) hk s0 h3.2
    have hd3 : fDrop (M 1) a1 3 = M 1 3 - 1 := rfl
    obtain ⟨c1, c2⟩ := act_M e4 r4
    rw [Nat.zero_add, e4, hd3]
    refine thr_end (by rw [r4 0 (by decide)]; exact z0) (mup_same _ _ _ _) ⟨q, q', lw, lw', P, I2.act (Nat.le_succ n) (fun r hr hr2 => by rw [mup_ne _ _ _ (by omega), X3k r (by omega) (by omega)]) ?_ ?_ (fun k hk => by rw [e4, e1]; exact hd k (by omega)) c1 c2⟩
    · rw [e4]
      refine RLd.of (S := X3) ?_ (fun r' a b => mup_ne _ _ _ (by omega))
      obtain ⟨⟨h1, h1a, h1b, h1c, h1d, h1e⟩, ⟨h2, h2a, h2b⟩, h3', h4', ⟨h5, h5a, h5b⟩, h6⟩ := hL2
      refine ⟨⟨?_, ?_, ?_, ?_, ?_, ?_⟩, ⟨?_, ?_, ?_⟩, fun i i0 i1 => ?_, fun i i0 i1 => ?_, ⟨?_, ?_, fun ago j b0 b1 j0 j1 => ?_⟩, ?_⟩
      · have h1' : RM X3 (q + 1) (M 1) := h1.of (fun r' a b => X3k r' (by omega) (by omega))
        obtain ⟨m1, m2, m3, m4⟩ := h1'
        refine ⟨fun p p0 p1 => ?_, by rw [hd 9 (by omega)]; exact m2, by rw [hd 10 (by omega)]; exact m3, m4⟩
        rw [hd _ (by omega), hd _ (by omega), hd _ (by omega), hd _ (by omega), hd _ (by omega), hd _ (by omega), hd _ (by omega)]
        exact m1 p p0 p1
      · rw [X3q 6 (by decide), hd 5 (by omega)]; exact h1a
      · rw [X3q 7 (by decide), hd 6 (by omega)]; exact h1b
      · rw [X3q 8 (by decide), hd 7 (by omega)]; exact h1c
      · rw [X3q 9 (by decide), hd 8 (by omega)]; exact h1d
      · rw [X3q 10 (by decide), hd 12 (by omega)]; exact h1e
      · rw [X3q 5 (by decide), hd 0 (by omega)]; exact h2
      · rw [X3c, hd3]
      · rw [X3q 4 (by decide), hd 4 (by omega)]; exact h2b
      · rw [hd3] at i1
        have eD : fDrop (M 1) a1 (70 + i) = if 70 + 4 * a1 ≤ 70 + i ∧ 70 + i < 70 + 4 * (M 1 3 - 1) then M 1 (70 + i + 4) else M 1 (70 + i) := by
          unfold fDrop
          rw [if_neg (by omega)]
        rw [X3s i i0 i1, eD]
        by_cases h4a : 4 * a1 ≤ i
        · rw [if_pos h4a, if_pos (by omega), h3' _ (by omega) (by omega)]; congr 1; omega
        · rw [if_neg h4a, if_neg (by omega), h3' _ (by omega) (by omega)]
      · rw [hd 4 (by omega)] at i1
        rw [X3k _ (by omega) (by omega), hd _ (by omega)]
        exact h4' i i0 i1
      · rw [X3q 12 (by decide), hd 11 (by omega)]; exact h5
      · rw [X3q 12 (by decide)]; exact h5a
      · rw [hd 11 (by omega)] at b1
        rw [X3q 12 (by decide), X3k _ (by omega) (by omega), hd _ (by omega)]
        exact h5b ago j b0 b1 j0 j1
      · rw [X3q 12 (by decide)]; omega
    · rw [e4]
      obtain ⟨⟨h1, h1a, h1b⟩, h2, h3', h4, h5, h6⟩ := hR
      refine ⟨⟨?_, by rw [hd 5 (by omega)]; exact h1a, by rw [hd 6 (by omega)]; exact h1b⟩, by rw [hd3]; omega, by rw [hd 4 (by omega)]; exact h3', by rw [hd 0 (by omega)]; exact h4, fun s s0' s1' => ?_, h6.pegs (fun p a b => hd _ (by omega))⟩
      · obtain ⟨o1, o2, o3⟩ := h1
        refine ⟨fun p p0 p1 => ?_, by rw [hd 10 (by omega)]; exact o2, by rw [hd 9 (by omega)]; exact o3⟩
        unfold RP
        rw [hd _ (by omega), hd _ (by omega), hd _ (by omega), hd _ (by omega), hd _ (by omega), hd _ (by omega), hd _ (by omega)]
        exact o1 p p0 p1
      · rw [hd3] at s1'
        unfold RS fDrop
        by_cases hs : a1 ≤ s
        · have := h5 (s + 1) (by omega) (by omega)
          unfold RS at this
          rw [if_neg (by omega), if_pos (by omega), if_neg (by omega), if_pos (by omega), if_neg (by omega), if_pos (by omega), if_neg (by omega), if_pos (by omega), show 70 + 4 * s + 4 = 70 + 4 * (s + 1) by omega, show 70 + 4 * s + 1 + 4 = 70 + 4 * (s + 1) + 1 by omega, show 70 + 4 * s + 2 + 4 = 70 + 4 * (s + 1) + 2 by omega, show 70 + 4 * s + 3 + 4 = 70 + 4 * (s + 1) + 3 by omega]
          exact this
        · have := h5 s s0' (by omega)
          unfold RS at this
          rw [if_neg (by omega), if_neg (by omega), if_neg (by omega), if_neg (by omega), if_neg (by omega), if_neg (by omega), if_neg (by omega), if_neg (by omega)]
          exact this
  · exact a_isSoap rfl h3.1 h3.2 (fun _ _ => by omega) (fun hc => ⟨fun hc => absurd rfl hc, fun _ => thrX (by decide) (finE I (by decide) (XF.rf _ _ _) (MQu.rf _))⟩)
-- nights
def fNs (A : mLaw) (f : mRow) : Nat → mRow
  | 0 => f
  | k + 1 => fNight A (fNs A f k)
def fNc (A : mLaw) (f : mRow) : Nat → Int
  | 0 => 0
  | k + 1 => fNc A f k + fNightN A (fNs A f k)
theorem fAir1_peg (A : mLaw) (f : mRow) {p k : Int} : fAir1 A f p (14 + 6 * k + 5) = f (14 + 6 * k + 5) := by
  unfold fAir1
  split
  · rfl
  · split <;> exact fup_ne _ _ (by omega)
theorem fAirs_peg (A : mLaw) (f : mRow) {k : Int} : ∀ n : Nat, fAirs A f n (14 + 6 * k + 5) = f (14 + 6 * k + 5)
  | 0 => rfl
  | n + 1 => (fAir1_peg A _).trans (fAirs_peg A f n)
theorem fPass_peg (f : mRow) {k : Int} (k0 : 0 ≤ k) : fPass f (14 + 6 * k + 5) = f (14 + 6 * k + 5) := by
  unfold fPass
  rw [fup_ne _ _ (by omega), fup_ne _ _ (by omega)]
theorem fSteal_peg (f : mRow) {p k : Int} : fSteal f p (14 + 6 * k + 5) = f (14 + 6 * k + 5) := by
  unfold fSteal
  split
  · rw [fup_ne _ _ (by omega), fup_ne _ _ (by omega)]
  · rfl
theorem fBite_peg (f : mRow) {p s k : Int} : fBite f p s (14 + 6 * k + 5) = f (14 + 6 * k + 5) := by
  unfold fBite
  split
  · rw [fup_ne _ _ (by omega)]
  · rfl
theorem fNight_peg (A : mLaw) (f : mRow) {k : Int} (k0 : 0 ≤ k) : fNight A f (14 + 6 * k + 5) = f (14 + 6 * k + 5) := by
  have hd : ∀ g : mRow, drw g (14 + 6 * k + 5) = g (14 + 6 * k + 5) := fun g => drw_hi g (by omega)
  have ht : ∀ g : mRow, fThief g (14 + 6 * k + 5) = g (14 + 6 * k + 5) := fun g => by
    unfold fThief
    rw [fPass_peg _ k0]
    split
    · rw [fSteal_peg, hd, hd]
    · rw [hd]
  have hw : ∀ g : mRow, fWolf g (14 + 6 * k + 5) = g (14 + 6 * k + 5) := fun g => by
    unfold fWolf
    rw [ht]
    split
    · rw [fBite_peg, hd, hd, hd]
    · rw [hd]
  unfold fNight
  rw [hw, fAirs_peg]
  unfold fDay
  rw [fup_ne _ _ (by omega), hd]
theorem fNs_peg (A : mLaw) (f : mRow) {k : Int} (k0 : 0 ≤ k) : ∀ n : Nat, fNs A f n (14 + 6 * k + 5) = f (14 + 6 * k + 5)
  | 0 => rfl
  | n + 1 => (fNight_peg A _ k0).trans (fNs_peg A f k0 n)
theorem fNs_PS {A : mLaw} {f : mRow} (h : PS f) (n : Nat) : PS (fNs A f n) := h.pegs (fun p p0 _ => fNs_peg A f p0 n)
theorem fNs_RN (hB : LB A) (h : RN f) : ∀ k : Nat, RN (fNs A f k)
  | 0 => h
  | k + 1 => (fNs_RN hB h k).night hB
theorem fNs_hi {j : Int} (hj : j < 14 ∨ 62 ≤ j) (h5 : j ≠ 5) (h9 : j ≠ 9) (h10 : j ≠ 10) (h12 : j ≠ 12) : ∀ k : Nat, fNs A f k j = f j
  | 0 => rfl
  | k + 1 => (fNight_hi A _ hj h5 h9 h10 h12).trans (fNs_hi hj h5 h9 h10 h12 k)
theorem fNc_ok : ∀ k : Nat, 0 ≤ fNc A f k ∧ fNc A f k ≤ 8 * k
  | 0 => by unfold fNc; omega
  | k + 1 => by
    have := fNc_ok k
    have := fGots_ok A (fDay (fNs A f k)) 8
    unfold fNc fNightN
    omega
theorem fNs_LM (hL : LM N f A) (k : Nat) : LM N (fNs A f k) A := hL.of (fNs_hi (by omega) (by omega) (by omega) (by omega) (by omega) k) (fNs_hi (by omega) (by omega) (by omega) (by omega) (by omega) k) (fun j hj _ => fNs_hi (by omega) (by omega) (by omega) (by omega) (by omega) k)
theorem y_goes {Q : mSt → Int → Prop} {S : mSt} {m : Nat} (hN : 5000 ≤ N) (hm : m ≤ 60) (hL : LM N (S 1) A) (hB : LB A) (hok : okS S) (hR : RN (S 1)) (h : ∀ S', okS S' → S' 1 = fNs A (S 1) m → MG S S' → Q S' (fNc A (S 1) m)) : w_X12_goes N 0 m S Q := by
  intro v1 e1 v2 e2
  subst e1; subst e2
  refine lpUp (K := m) (W := fun n k T => w_X12_goes_4 N Q (fun (x2_3 : Int) (S_3 : mSt) => Q S_3 x2_3) n 0 m (fNc A (S 1) k) k T) (I := fun k T => okS T ∧ T 1 = fNs A (S 1) k ∧ MG S T) (fun n T hI => ?_) (fun n k T hk hI ih => ?_) (by omega) ⟨hok, rfl, MG.rf S⟩
  · exact ⟨fun _ => h T hI.1 hI.2.1 hI.2.2, fun hc => by omega⟩
  · obtain ⟨i1, i2, i3⟩ := hI
    have hc := fNc_ok (A := A) (f := S 1) k
    have hg := fGots_ok A (fDay (fNs A (S 1) k)) 8
    refine ⟨fun hc => by omega, fun _ => a_night (by omega) (by rw [i2]; exact fNs_LM hL k) hB i1 (by rw [i2]; exact fNs_RN hB hR k) (fun T2 ok2 h2 k2 v2 e2 v3 e3 => ?_)⟩
    rw [nx8 (by omega)] at e3
    rw [i2] at e2 h2
    have hs : v2 = fNc A (S 1) (k + 1) := by
      rw [e2]
      show nm (fNc A (S 1) k + fNightN A (fNs A (S 1) k)) = fNc A (S 1) k + fNightN A (fNs A (S 1) k)
      unfold fNightN
      exact nm_of (by omega) (by omega)
    subst e3
    rw [hs]
    exact ih T2 ⟨ok2, h2, i3.tr k2⟩
theorem x_goes {Q : mSt → Int → Prop} {E : String → mSt → Prop} {m : Nat} (hN : 5000 ≤ N) (hm : m ≤ 60) (hq : X 0 3 = q) (hlw : X 0 5 = lw) (k5 : q = 2 ∨ q = 13) (k6 : lw = 24 ∨ lw = 31) (hP : PG P) (hL : LWR X lw P) (hok : okS X) (hY : RY X q f) (hR : RN f) (h : ∀ T, okS T → RY T q (fNs (AP P) f m) → NF q lw X T → Q T (fNc (AP P) f m)) : w_X11_nights_22 N Q E (fun (x2_6 : Int) (S_6 : mSt) => Q S_6 x2_6) N 0 m 0 0 X := by
  have hB := AP_LB hP
  refine lpUp (K := m) (W := fun n' k T => w_X11_nights_22 N Q E (fun (x2_6 : Int) (S_6 : mSt) => Q S_6 x2_6) n' 0 m (fNc (AP P) f k) k T) (I := fun k T => okS T ∧ RY T q (fNs (AP P) f k) ∧ NF q lw X T) (fun n' T hI => ?_) (fun n' k T hk hI ih => ?_) (by omega) ⟨hok, hY, NF.rf _ _ _⟩
  · exact ⟨fun _ => h T hI.1 hI.2.1 hI.2.2, fun hc => by omega⟩
  · obtain ⟨i1, i2, i3⟩ := hI
    have hc := fNc_ok (A := AP P) (f := f) k
    have hg := fGots_ok (AP P) (fDay (fNs (AP P) f k)) 8
    have T0 : T 0 = X 0 := i3.1 0 (by omega) (by omega) (by omega)
    refine ⟨fun hc => by omega, fun _ q1 e1 q2 e2 => ?_⟩
    have := qe e1 (by rw [T0]; exact hq)
    have := qe e2 (by rw [T0]; exact hlw)
    subst q1 q2
    have lwT : LWR T lw P := hL.of hP.1 (by rw [i3.1 lw (by omega) (by omega) (by omega)]) (fun j a b i _ _ => by rw [i3.1 _ (by omega) (by omega) (by omega)]) (fun i _ _ => by rw [i3.1 _ (by omega) (by omega) (by omega)])
    refine s_night (by omega) (lwT.LX (by omega) hP) hB i1 i2 (fNs_RN hB hR k) (by omega) (fun T2 ok2 h2 k2 v4 e4 v5 e5 => ?_)
    rw [nx8 (by omega)] at e5
    have hs : v4 = fNc (AP P) f (k + 1) := by
      rw [e4]
      show nm (fNc (AP P) f k + fNightN (AP P) (fNs (AP P) f k)) = fNc (AP P) f k + fNightN (AP P) (fNs (AP P) f k)
      unfold fNightN
      exact nm_of (by omega) (by omega)
    subst e5
    rw [hs]
    exact ih T2 ⟨ok2, h2, i3.tr k2⟩
theorem k_14 (hN : 5000 ≤ N) (I : IV N n X M q q' lw lw' P) (okX : okS X) (okM : okS M) : wl_14 N a1 a2 a3 a4 a5 X M (fun X1 M1 => Inv N (n + 1) X1 M1) := by
  obtain ⟨⟨hq, -, hlw, -, k5, k6⟩, -, -, hL, hR, ⟨pg, plw, plm, -⟩, -⟩ := id I
  have hB := AP_LB pg
  unfold wl_14 w_L_nights w_X11_nights w_X12_nights
  refine s_ckNum (fun p0 p1 q2 e2 => ?_) (fun hb => ⟨rfl, ?_⟩)
  · have := qe e2 hq
    subst q2
    obtain ⟨m, rfl⟩ : ∃ m : Nat, a1 = m := ⟨a1.toNat, by omega⟩
    refine x_keep I okX (fun X2 ok2 kq v4 e4 v5 e5 => ?_)
    subst e4; subst e5
    have hL2 : RLd X2 q (M 1) n := hL.of (fun r a b => kq.2.2.2 r (by omega) (by omega))
    have x02 : X2 0 = X 0 := kq.2.2.2 0 (by omega) (by omega)
    have lwr2 : LWR X2 lw P := plw.of pg.1 (by rw [kq.2.2.2 lw (by omega) (by omega)]) (fun j a b i _ _ => by rw [kq.2.2.2 _ (by omega) (by omega)]) (fun i _ _ => by rw [kq.2.2.2 _ (by omega) (by omega)])
    refine x_goes hN (by omega) (by rw [x02]; exact hq) (by rw [x02]; exact hlw) (by omega) (by omega) pg lwr2 ok2 hL2.1 hR.1 (fun T i1 i2 i3 => ?_)
    · intro S2 e2
      subst e2
      refine a_isIn (fun _ _ => ⟨fun _ => thrO ?_, fun hc => absurd hc (by decide)⟩) (fun hc => by omega)
      refine y_rem hN I rfl (by decide) okM (fun M2 okM2 rq => ?_)
      have I2 := keep_IV I rfl kq rq
      have e1 : M2 1 = M 1 := by rw [rq.1 1 (by decide) (by decide), mup_ne _ _ _ (by decide)]
      have z0 : M2 0 0 = 0 := by rw [rq.2.1 0 (by decide), mup_same]
      refine y_goes (A := AP P) hN (by omega) (by rw [e1]; exact plm) hB okM2 (by rw [e1]; exact hR.1) (fun M3 okM3 h3 k3 => ?_)
      rw [e1] at h3 ⊢
      have hi := fun j hj h5 h9 h10 h12 => fNs_hi (A := AP P) (f := M 1) (j := j) hj h5 h9 h10 h12 m
      refine thr_end (by rw [k3.2.1]; exact z0) (mup_same _ _ _ _) ⟨q, q', lw, lw', P, ?_⟩
      have IA : IV N (n + 1 : Nat) T M3 q q' lw lw' P := by
        obtain ⟨j1, j2, j3, -, -, ⟨j4, j5, j6, j7⟩, j8, j9⟩ := I2
        have kT : ∀ r, (r < q ∨ q + 7 < r) → r ≠ lw + 5 → r ≠ lw + 6 → T r = X2 r := i3.1
        have T0 : T 0 = X2 0 := kT 0 (by omega) (by omega) (by omega)
        refine ⟨j1.of T0, ?_, ?_, ?_, ?_, ⟨j4, ?_, ?_, ?_⟩, ?_, ?_⟩
        · unfold TP
          rw [T0, k3.2.2.2.2.1, k3.1 6 (by decide) (by decide) (by decide), kT 1 (by omega) (by omega) (by omega)]
          exact j2
        · exact j3.of (by rw [T0]) k3.2.2.2.2.2.1 k3.2.2.2.2.2.2 (by rw [kT 215 (by omega) (by omega) (by omega)])
        · rw [h3]
          obtain ⟨-, ⟨h2, h2a, h2b⟩, h3', h4', ⟨h5, h5a, h5b⟩, h6⟩ := hL2
          have tq : ∀ i, i ≠ 6 → i ≠ 10 → T q i = X2 q i := i3.2
          refine ⟨i2, ⟨?_, ?_, ?_⟩, fun i i0 i1 => ?_, fun i i0 i1 => ?_, ⟨?_, ?_, fun ago j b0 b1 j0 j1 => ?_⟩, ?_⟩
          · rw [tq 5 (by decide) (by decide), hi 0 (by omega) (by omega) (by omega) (by omega) (by omega)]; exact h2
          · rw [tq 2 (by decide) (by decide), hi 3 (by omega) (by omega) (by omega) (by omega) (by omega)]; exact h2a
          · rw [tq 4 (by decide) (by decide), hi 4 (by omega) (by omega) (by omega) (by omega) (by omega)]; exact h2b
          · rw [hi 3 (by omega) (by omega) (by omega) (by omega) (by omega)] at i1
            rw [kT (q + 8) (by omega) (by omega) (by omega), hi _ (by omega) (by omega) (by omega) (by omega) (by omega)]; exact h3' i i0 i1
          · rw [hi 4 (by omega) (by omega) (by omega) (by omega) (by omega)] at i1
            rw [kT (q + 9) (by omega) (by omega) (by omega), hi _ (by omega) (by omega) (by omega) (by omega) (by omega)]; exact h4' i i0 i1
          · rw [tq 12 (by decide) (by decide), hi 11 (by omega) (by omega) (by omega) (by omega) (by omega)]; exact h5
          · rw [tq 12 (by decide) (by decide)]; exact h5a
          · rw [hi 11 (by omega) (by omega) (by omega) (by omega) (by omega)] at b1
            rw [tq 12 (by decide) (by decide), kT (q + 10) (by omega) (by omega) (by omega), hi _ (by omega) (by omega) (by omega) (by omega) (by omega)]; exact h5b ago j b0 b1 j0 j1
          · rw [tq 12 (by decide) (by decide)]; omega
        · rw [h3]
          obtain ⟨r1, r2, r3, r4, r5, r6⟩ := hR
          refine ⟨fNs_RN hB r1 _, by rw [hi 3 (by omega) (by omega) (by omega) (by omega) (by omega)]; exact r2, by rw [hi 4 (by omega) (by omega) (by omega) (by omega) (by omega)]; exact r3, by rw [hi 0 (by omega) (by omega) (by omega) (by omega) (by omega)]; exact r4, fun s s0 s1 => ?_, ?_⟩
          · rw [hi 3 (by omega) (by omega) (by omega) (by omega) (by omega)] at s1
            exact (r5 s s0 s1).same s0 (fun k hk => hi k (by omega) (by omega) (by omega) (by omega) (by omega))
          · exact fNs_PS r6 _
        · exact j5.of j4.1 (by rw [kT lw (by omega) (by omega) (by omega)]) (fun j a b i _ _ => by rw [kT _ (by omega) (by omega) (by omega)]) (fun i _ _ => by rw [kT _ (by omega) (by omega) (by omega)])
        · rw [h3]; exact fNs_LM plm _
        · rw [h3, hi 1 (by omega) (by omega) (by omega) (by omega) (by omega), ← e1]; exact j7
        · exact j8.of (by omega) (kT 44 (by omega) (by omega) (by omega)) (fun r a b => kT r (by omega) (by omega) (by omega)) k3.2.2.2.1 (k3.1 5 (by decide) (by decide) (by decide)) ⟨by rw [h3, e1, hi 1 (by omega) (by omega) (by omega) (by omega) (by omega)], by rw [h3, e1, hi 2 (by omega) (by omega) (by omega) (by omega) (by omega)]⟩
        · exact j9.of (by omega) (fun r a b => kT r (by omega) (by omega) (by omega)) (kT 197 (by omega) (by omega) (by omega)) k3.2.2.1 (k3.1 2 (by decide) (by decide) (by decide))
      exact IA.query (v := M3 0 0) (Int.le_refl _) (XF.up (by decide)) (by
        have e : mup M3 0 0 (M3 0 0) = M3 := by
          funext r i; unfold mup; split
          · next h => rw [h.1, h.2]
          · rfl
        rw [e]; exact MQu.rf _)
  · exact a_isIn (fun _ _ => by omega) (fun hc => ⟨fun hc => absurd rfl hc, fun _ => thrX (by decide) (finE I (by decide) (XF.rf _ _ _) (MQu.rf _))⟩)
end acts
