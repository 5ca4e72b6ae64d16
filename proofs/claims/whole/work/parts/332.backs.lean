set_option maxHeartbeats 400000
set_option maxRecDepth 20000
/-! ===== the pure part: undoing, the image, the tape ===== -/
section backs
variable {N n : Nat} {X X' M M' : mSt} {q q' lw lw' : Nat} {f g : mRow} {A : mLaw} {P : mPrg} {a1 a2 a3 a4 a5 : Int} {T : Int} {p s : Int}
theorem env_congr (hR : RO f) (e : EQ f g) (p0 : 0 ≤ p) (p1 : p < 8) : env g p = env f p := by
  obtain ⟨g1, g2, g3, g4, g5, g6, g7⟩ := hR.at p0 p1
  funext k
  unfold env
  rw [e (14 + 6 * p) (by omega) (by omega), e (14 + 6 * p + 1) (by omega) (by omega), e (14 + 6 * p + 2) (by omega) (by omega), e (14 + 6 * p + 3) (by omega) (by omega), e (14 + 6 * p + 4) (by omega) (by omega), e (14 + 6 * p + 5) (by omega) (by omega), e (62 + f (14 + 6 * p + 5)) (by omega) (by omega), e 10 (by omega) (by omega), e 9 (by omega) (by omega)]
theorem fLight_congr (hR : RO f) (e : EQ f g) (p0 : 0 ≤ p) (p1 : p < 8) : fLight A g p = fLight A f p := by
  unfold fLight fWhite
  rw [env_congr hR e p0 p1, e (14 + 6 * p) (by omega) (by omega), e (14 + 6 * p + 2) (by omega) (by omega), e (14 + 6 * p + 3) (by omega) (by omega), e (14 + 6 * p + 4) (by omega) (by omega)]
theorem k_41 (hN : 5000 ≤ N) (I : IV N n X M q q' lw lw' P) (okX : okS X) (okM : okS M) : wl_41 N a1 a2 a3 a4 a5 X M (fun X1 M1 => Inv N (n + 1) X1 M1) := by
  obtain ⟨hK, hT2, hf, hL, hR, ⟨p1, p2, p3, p4⟩, ⟨b1, b2, b3, b4⟩, hG⟩ := id I
  obtain ⟨hq, -, hlw, -, k5, k6⟩ := id hK
  unfold wl_41 w_X11_undo
  intro q1 e1
  have := qe e1 hq
  subst q1
  refine ⟨fun hc S1 e1 S2 e2 => ?_, fun hc => ⟨Or.inl rfl, fun S1 e1 => ?_⟩⟩
  · rw [b2] at hc
    rw [b2, nm_of (by omega) (by omega)] at e1
    have e11 : S1 44 1 = X 44 1 := by rw [e1, mup_i _ _ _ (by decide)]
    rw [e11, nm_of (x := X 44 1 + 12) (by omega) (by omega), nm_of (by omega) (by omega), iRem_nn (by unfold okI; omega) (by decide) (by omega) (by decide)] at e2
    have e21 : S2 44 1 = (X 44 1 + 12 - 1) % 12 := by rw [e2, mup_same]
    have e22 : S2 44 2 = M 0 7 - 1 := by rw [e2, mup_i _ _ _ (by decide), e1, mup_same]
    have k2 : ∀ r, r ≠ 44 → S2 r = X r := fun r hr => by rw [e2, mup_ne _ _ _ hr, e1, mup_ne _ _ _ hr]
    have ok2 : okS S2 := by rw [e2, e1]; exact okS_up (okS_up okX (by unfold okI; omega)) (by unfold okI; omega)
    rw [e21]
    refine ⟨by omega, by omega, ?_⟩
    show w_X2_become N q (46 + 11 * ((X 44 1 + 12 - 1) % 12).toNat) S2 _
    refine s_become2 (by omega) ok2 (fun X4 ok4 c4 k4 => ⟨Or.inr rfl, fun M1 m1 => ?_⟩)
    have z7 : M1 0 7 = M 0 7 := by rw [m1, mup_i _ _ _ (by decide)]
    rw [z7]
    refine ⟨fun _ M2 m2 v3 e3 => ?_, fun hc2 => absurd hc2 hc⟩
    subst e3
    rw [nm_of (by omega) (by omega)] at m2
    refine a_undo1 hN (a := M 0 7 - 1) (by rw [m2, mup_same]) (by omega) (by omega) ⟨rfl, ?_⟩
    have km : ∀ r, r ≠ 0 → r ≠ 1 → (mck M2 5 (350 * (M 0 7 - 1)) 1 0 350) r = M r := fun r a b => by rw [mck_ne _ b, m2, mup_ne _ _ _ a, m1, mup_ne _ _ _ a]
    have k0 : ∀ i, i ≠ 0 → i ≠ 7 → (mck M2 5 (350 * (M 0 7 - 1)) 1 0 350) 0 i = M 0 i := fun i a b => by rw [mck_ne _ (by decide), m2, mup_i _ _ _ b, m1, mup_i _ _ _ a]
    have k07 : (mck M2 5 (350 * (M 0 7 - 1)) 1 0 350) 0 7 = M 0 7 - 1 := by rw [mck_ne _ (by decide), m2, mup_same]
    have kin : ∀ k, 0 ≤ k → k < 350 → (mck M2 5 (350 * (M 0 7 - 1)) 1 0 350) 1 k = aRow M (M 0 7 - 1) k := fun k a b => by
      rw [mck_in _ (by omega) (by omega), m2, mup_ne _ _ _ (by decide), m1, mup_ne _ _ _ (by decide)]
      unfold aRow; congr 1; omega
    have kout : ∀ k, 350 ≤ k → (mck M2 5 (350 * (M 0 7 - 1)) 1 0 350) 1 k = M 1 k := fun k a => by
      rw [mck_out _ (by omega), m2, mup_ne _ _ _ (by decide), m1, mup_ne _ _ _ (by decide)]
    generalize mck M2 5 (350 * (M 0 7 - 1)) 1 0 350 = M3 at km k0 k07 kin kout
    obtain ⟨g1, g2, g3, g4⟩ := b4 (M 0 7 - 1) (by omega) (by omega)
    have es : pSlot (X 44 1) (M 0 7) (M 0 7 - 1) = 46 + 11 * ((X 44 1 + 12 - 1) % 12).toNat := by unfold pSlot; omega
    rw [es] at g1
    have g1' : RLd S2 (46 + 11 * ((X 44 1 + 12 - 1) % 12).toNat) (aRow M (M 0 7 - 1)) n := g1.of (fun r' a b => k2 r' (by omega))
    have eq : EQ (aRow M (M 0 7 - 1)) (M3 1) := fun k a b => kin k a b
    have kx : ∀ r, r ≠ 44 → (r < q ∨ q + 10 < r) → X4 r = X r := fun r a b => (k4 r b).trans (k2 r a)
    have x0 : X4 0 = X 0 := kx 0 (by omega) (by omega)
    have x44 : X4 44 = S2 44 := k4 44 (by omega)
    refine ⟨q, q', lw, lw', P, hK.of x0, ?_, ?_, ?_, g2.congr eq, ⟨p1, ?_, ?_, ?_⟩, ⟨?_, ?_, ?_, fun i i0 i1 => ?_⟩, ?_⟩
    · unfold TP
      rw [x0, k0 9 (by decide) (by decide), km 6 (by decide) (by decide), kx 1 (by omega) (by omega)]
      exact hT2
    · exact hf.of (by rw [x0]) (k0 13 (by decide) (by decide)) (fun b => b.of (k0 16 (by decide) (by decide)) (k0 17 (by decide) (by decide))) (by rw [kx 215 (by omega) (by omega)])
    · exact ((g1'.copy g2 c4).congr g2 eq).mono (by omega)
    · exact p2.of p1.1 (by rw [kx lw (by omega) (by omega)]) (fun j a b i _ _ => by rw [kx _ (by omega) (by omega)]) (fun i _ _ => by rw [kx _ (by omega) (by omega)])
    · exact p3.of (by rw [kin 1 (by decide) (by decide)]; exact g3) (by rw [kin 2 (by decide) (by decide)]; exact g4) (fun k a _ => kout k a)
    · rw [kin 1 (by decide) (by decide), g3]; exact p4
    · rw [k07]; omega
    · rw [x44, e22, k07]
    · rw [x44, e21]; omega
    · rw [k07] at i1
      obtain ⟨h1, h2, h3, h4⟩ := b4 i i0 (by omega)
      have ea : aRow M3 i = aRow M i := by unfold aRow; rw [km 5 (by decide) (by decide)]
      have es2 : pSlot (X4 44 1) (M3 0 7) i = pSlot (X 44 1) (M 0 7) i := by rw [x44, e21, k07]; unfold pSlot; omega
      rw [ea, es2]
      refine ⟨(h1.of (fun r' a b => ?_)).mono (by omega), h2, ?_, ?_⟩
      · unfold pSlot at a b
        exact kx r' (by omega) (by omega)
      · rw [h3, kin 1 (by decide) (by decide), g3]
      · rw [h4, kin 2 (by decide) (by decide), g4]
    · exact hG.of (by omega) (fun r a b => kx r (by omega) (by omega)) (kx 197 (by omega) (by omega)) (k0 4 (by decide) (by decide)) (km 2 (by decide) (by decide))
  · rw [b2] at hc
    have z7 : S1 0 7 = M 0 7 := by rw [e1, mup_i _ _ _ (by decide)]
    rw [z7]
    exact ⟨fun hc2 => absurd hc hc2, fun _ => ⟨rfl, I.next (XF.rf _ _ _) (w := 0) (by rw [e1]; exact MQu.rf _)⟩⟩
theorem s_become3 {S : mSt} {r0 r1 : Nat} {Q : mSt → Prop} (ap : r0 + 4 < r1 ∨ r1 + 4 < r0) (hok : okS S) (hP : P.1 ≤ 12) (hL : LWR S r1 P) (h : ∀ S', okS S' → LWR S' r0 P → (∀ r, (r < r0 ∨ r0 + 4 < r) → S' r = S r) → Q S') : w_X3_become N r0 r1 S Q := by
  intro S1 e1 S2 e2 S3 e3 S4 e4 S5 e5 S6 e6
  have ok1 : okS S1 := by rw [e1]; exact okS_up hok (hok _ _)
  have ok2 : okS S2 := by rw [e2]; exact okS_up ok1 (ok1 _ _)
  have ok6 : okS S6 := by rw [e6, e5, e4, e3]; exact okS_cp (okS_cp (okS_cp (okS_cp ok2)))
  have kk : ∀ r, (r < r0 ∨ r0 + 4 < r) → S6 r = S r := fun r hr => by
    rw [e6, mcp_ne _ _ (by omega), e5, mcp_ne _ _ (by omega), e4, mcp_ne _ _ (by omega), e3, mcp_ne _ _ (by omega), e2, mup_ne _ _ _ (by omega), e1, mup_ne _ _ _ (by omega)]
  have k2 : ∀ r, r ≠ r0 → S2 r = S r := fun r hr => by rw [e2, mup_ne _ _ _ hr, e1, mup_ne _ _ _ hr]
  refine h S6 ok6 (hL.of hP ?_ (fun j j1 j3 i i0 i12 => ?_) (fun i i0 i1 => ?_)) kk
  · rw [e6, mcp_ne _ _ (by omega), e5, mcp_ne _ _ (by omega), e4, mcp_ne _ _ (by omega), e3, mcp_ne _ _ (by omega), e2, mup_i _ _ _ (by decide), e1, mup_same]
  · have hj : j = 1 ∨ j = 2 ∨ j = 3 := by omega
    rcases hj with rfl | rfl | rfl
    · rw [e6, mcp_ne _ _ (by omega), e5, mcp_ne _ _ (by omega), e4, mcp_ne _ _ (by omega), e3, mcp_in _ _ _ i0 i12, k2 _ (by omega)]
    · rw [e6, mcp_ne _ _ (by omega), e5, mcp_ne _ _ (by omega), e4, mcp_in _ _ _ i0 i12, e3, mcp_ne _ _ (by omega), k2 _ (by omega)]
    · rw [e6, mcp_ne _ _ (by omega), e5, mcp_in _ _ _ i0 i12, e4, mcp_ne _ _ (by omega), e3, mcp_ne _ _ (by omega), k2 _ (by omega)]
  · rw [e6, mcp_in _ _ _ i0 i1, e5, mcp_ne _ _ (by omega), e4, mcp_ne _ _ (by omega), e3, mcp_ne _ _ (by omega), k2 _ (by omega)]
theorem k_42 (hN : 5000 ≤ N) (I : IV N n X M q q' lw lw' P) (okX : okS X) (okM : okS M) : wl_42 N a1 a2 a3 a4 a5 X M (fun X1 M1 => Inv N (n + 1) X1 M1) := by
  obtain ⟨hK, hT2, hf, hL, hR, ⟨p1, p2, p3, p4⟩, hP, hG⟩ := id I
  obtain ⟨hq, -, hlw, -, k5, k6⟩ := id hK
  have hB := AP_LB p1
  unfold wl_42 w_X11_image
  intro q1 e1 q2 e2
  have := qe e1 hq
  have := qe e2 hlw
  subst q1 q2
  unfold w_X1_keep
  refine s_become2 (by omega) okX (fun X1 ok1 c1 k1 => ?_)
  have lw1 : LWR X1 lw P := p2.of p1.1 (by rw [k1 lw (by omega)]) (fun j a b i _ _ => by rw [k1 _ (by omega)]) (fun i _ _ => by rw [k1 _ (by omega)])
  refine s_become3 (by omega) ok1 p1.1 lw1 (fun X2 ok2 l2 k2 v3 e3 => ?_)
  subst e3
  have kk2 : ∀ r, (r < 179 ∨ 194 < r) → X2 r = X r := fun r hr => (k2 r (by omega)).trans (k1 r (by omega))
  have lwA : LWR X2 lw P := p2.of p1.1 (by rw [kk2 lw (by omega)]) (fun j a b i _ _ => by rw [kk2 _ (by omega)]) (fun i _ _ => by rw [kk2 _ (by omega)])
  have hL2 : RLd X2 q (M 1) n := hL.of (fun r a b => kk2 r (by omega))
  have hI2 : RLd X2 179 (M 1) n := ((hL.copy hR c1)).of (fun r a b => k2 r (by omega))
  have hLX : LX N X2 lw (AP P) := lwA.LX (by omega) p1
  refine lpUp (K := 8) (W := fun n' k T => w_X1_keep_18 N (fun (S3 : mSt) => w_X12_image N 0 M (fun (M2 : mSt) => Inv N (n + 1) S3 M2)) (fun (r0_4 : Nat) (S_4 : mSt) => ∀ S5 : mSt, S5 = mup S_4 r0_4 3 1 → w_X12_image N 0 M (fun (M2 : mSt) => Inv N (n + 1) S5 M2)) n' 178 q lw k T) (I := fun k T => okS T ∧ (∀ r, r ≠ lw + 5 → r ≠ lw + 6 → r ≠ 197 → T r = X2 r) ∧ ∀ p, 0 ≤ p → p < (k : Int) → T 197 p = fLight (AP P) (M 1) p) (fun n' T hI => ?_) (fun n' k T hk hI ih => ?_) (by omega) ⟨ok2, fun r _ _ _ => rfl, fun p a b => by omega⟩
  · obtain ⟨i1, i2, i3⟩ := hI
    refine ⟨fun _ X5 e5 M1 m1 v2 e2 => ?_, fun hc => by omega⟩
    subst e2
    refine a_image hN (fun M4 m4 => ?_)
    have kT : ∀ r, r ≠ lw + 5 → r ≠ lw + 6 → r ≠ 197 → r ≠ 178 → X5 r = X2 r := fun r a b c d => by rw [e5, mup_ne _ _ _ d]; exact i2 r a b c
    have kX : ∀ r, r ≠ lw + 5 → r ≠ lw + 6 → r < 178 → X5 r = X r := fun r a b c => (kT r a b (by omega) (by omega)).trans (kk2 r (by omega))
    have km : ∀ r, r ≠ 0 → r ≠ 2 → M4 r = M r := fun r a b => by rw [m4, mup_ne _ _ _ a, mck_ne _ b, m1, mup_ne _ _ _ a]
    have k0 : ∀ i, i ≠ 0 → i ≠ 4 → M4 0 i = M 0 i := fun i a b => by rw [m4, mup_i _ _ _ b, mck_ne _ (by decide), m1, mup_i _ _ _ a]
    have k04 : M4 0 4 = 1 := by rw [m4, mup_same]
    have k2in : ∀ k, 0 ≤ k → k < 750 → M4 2 k = M 1 k := fun k a b => by
      rw [m4, mup_ne _ _ _ (by decide), mck_in _ (by omega) (by omega), m1, mup_ne _ _ _ (by decide)]; congr 1; omega
    have eq : EQ (M 1) (M4 2) := fun k a b => k2in k a (by omega)
    have e1 : M4 1 = M 1 := km 1 (by decide) (by decide)
    have x0 : X5 0 = X 0 := kX 0 (by omega) (by omega) (by omega)
    refine ⟨q, q', lw, lw', P, hK.of x0, ?_, ?_, ?_, by rw [e1]; exact hR, ⟨p1, ?_, by rw [e1]; exact p3, by rw [e1]; exact p4⟩, ?_, Or.inr ⟨k04, ?_, ?_, hR.congr eq, P, p1, ?_, ?_, ?_, fun p a b => ?_⟩⟩
    · unfold TP
      rw [x0, k0 9 (by decide) (by decide), km 6 (by decide) (by decide), kX 1 (by omega) (by omega) (by omega)]
      exact hT2
    · exact hf.of (by rw [x0]) (k0 13 (by decide) (by decide)) (fun b => b.of (k0 16 (by decide) (by decide)) (k0 17 (by decide) (by decide))) (by rw [kT 215 (by omega) (by omega) (by decide) (by decide), kk2 215 (by omega)])
    · rw [e1]; exact (hL.of (fun r a b => kX r (by omega) (by omega) (by omega))).mono (by omega)
    · exact p2.of p1.1 (by rw [kX lw (by omega) (by omega) (by omega)]) (fun j a b i _ _ => by rw [kX _ (by omega) (by omega) (by omega)]) (fun i _ _ => by rw [kX _ (by omega) (by omega) (by omega)])
    · exact hP.of (by omega) (kX 44 (by omega) (by omega) (by omega)) (fun r a b => kX r (by omega) (by omega) (by omega)) (k0 7 (by decide) (by decide)) (km 5 (by decide) (by decide)) ⟨by rw [e1], by rw [e1]⟩
    · rw [e5, mup_same]
    · exact ((hI2.of (fun r a b => kT r (by omega) (by omega) (by omega) (by omega))).congr hR eq).mono (by omega)
    · exact l2.of p1.1 (by rw [kT _ (by omega) (by omega) (by omega) (by omega)]) (fun j a b i _ _ => by rw [kT _ (by omega) (by omega) (by omega) (by omega)]) (fun i _ _ => by rw [kT _ (by omega) (by omega) (by omega) (by omega)])
    · exact p3.of (k2in 1 (by decide) (by decide)) (k2in 2 (by decide) (by decide)) (fun k a b => k2in k (by omega) b)
    · rw [k2in 1 (by decide) (by decide)]; exact p4
    · rw [e5, mup_ne _ _ _ (by decide), fLight_congr hR.1.1 eq a b]
      exact i3 p a b
  · obtain ⟨i1, i2, i3⟩ := hI
    refine ⟨fun hc => by omega, fun _ => ?_⟩
    refine s_light (hLX.of (fun j hj => i2 _ (by omega) (by omega) (by omega))) hB i1 (hL2.1.1.of (fun r a b => i2 r (by omega) (by omega) (by omega))) hR.1.1 (by omega) (by omega) (by omega) (fun T2 okT2 kT2 => ⟨by omega, by omega, fun S3 e3 v4 e4 => ?_⟩)
    rw [nx8 (by omega)] at e4
    subst e4
    have hl := fLight_ok (AP P) (M 1) k
    refine ih S3 ⟨by rw [e3]; exact okS_up okT2 (by unfold okI; omega), fun r a b c => by rw [e3, mup_ne _ _ _ (by omega), kT2 r a b]; exact i2 r a b c, fun p a b => ?_⟩
    rw [e3]
    show mup T2 197 _ _ 197 p = _
    by_cases hp : p = k
    · rw [hp, mup_same]
    · rw [mup_i _ _ _ hp, kT2 197 (by omega) (by omega)]; exact i3 p a (by omega)
theorem k_43 (hN : 5000 ≤ N) (I : IV N n X M q q' lw lw' P) (okX : okS X) (okM : okS M) : wl_43 N a1 a2 a3 a4 a5 X M (fun X1 M1 => Inv N (n + 1) X1 M1) := by
  obtain ⟨hK, hT2, hf, hL, hR, ⟨p1, p2, p3, p4⟩, hP, hG⟩ := id I
  obtain ⟨hq, -, hlw, -, k5, k6⟩ := id hK
  unfold wl_43 w_X11_back
  rcases hG with ⟨g1, g2⟩ | ⟨g1, g2, g3, g4, B, g5, g6, g7, g8, g9⟩
  · refine ⟨fun hc => absurd g2 hc, fun _ S1 e1 => ?_⟩
    have z4 : S1 0 4 = 0 := by rw [e1, mup_i _ _ _ (by decide)]; exact g1
    rw [z4]
    exact ⟨fun hc => absurd rfl hc, fun _ => ⟨rfl, I.next (XF.rf _ _ _) (w := 0) (by rw [e1]; exact MQu.rf _)⟩⟩
  · refine ⟨fun _ q1 e1 => ?_, fun hc => absurd (g2.symm.trans hc) (by decide)⟩
    have := qe e1 hq
    subst q1
    refine s_become2 (by omega) okX (fun X1 ok1 c1 k1 q3 e3 => ?_)
    have := qe e3 (by rw [k1 0 (by omega)]; exact hlw)
    subst q3
    have l1 : LWR X1 190 B := g6.of g5.1 (by rw [k1 _ (by omega)]) (fun j a b i _ _ => by rw [k1 _ (by omega)]) (fun i _ _ => by rw [k1 _ (by omega)])
    refine s_become3 (by omega) ok1 g5.1 l1 (fun X2 ok2 l2 k2 X3 e3 M1 m1 => ?_)
    have z4 : M1 0 4 = 1 := by rw [m1, mup_i _ _ _ (by decide)]; exact g1
    rw [z4]
    refine ⟨fun _ v2 e2 => ?_, fun hc => by omega⟩
    subst e2
    refine a_goback hN (fun M4 m4 => ⟨rfl, ?_⟩)
    have kx : ∀ r, r ≠ 44 → (r < q ∨ q + 10 < r) → (r < lw ∨ lw + 4 < r) → X3 r = X r := fun r a b c => by rw [e3, mup_ne _ _ _ a]; exact (k2 r c).trans (k1 r b)
    have km : ∀ r, r ≠ 0 → r ≠ 1 → M4 r = M r := fun r a b => by rw [m4, mup_ne _ _ _ a, mck_ne _ b, m1, mup_ne _ _ _ a]
    have k0 : ∀ i, i ≠ 0 → i ≠ 7 → M4 0 i = M 0 i := fun i a b => by rw [m4, mup_i _ _ _ b, mck_ne _ (by decide), m1, mup_i _ _ _ a]
    have k07 : M4 0 7 = 0 := by rw [m4, mup_same]
    have kin : ∀ k, 0 ≤ k → k < 750 → M4 1 k = M 2 k := fun k a b => by
      rw [m4, mup_ne _ _ _ (by decide), mck_in _ (by omega) (by omega), m1, mup_ne _ _ _ (by decide)]; congr 1; omega
    have eq : EQ (M 2) (M4 1) := fun k a b => kin k a (by omega)
    have x0 : X3 0 = X 0 := kx 0 (by omega) (by omega) (by omega)
    have hI3 : RLd X3 q (M 2) n := (g3.copy g4 c1).of (fun r a b => by rw [e3, mup_ne _ _ _ (by omega)]; exact k2 r (by omega))
    refine ⟨q, q', lw, lw', B, hK.of x0, ?_, ?_, (hI3.congr g4 eq).mono (by omega), g4.congr eq, ⟨g5, ?_, ?_, ?_⟩, ⟨?_, ?_, ?_, fun i i0 i1 => ?_⟩, ?_⟩
    · unfold TP
      rw [x0, k0 9 (by decide) (by decide), km 6 (by decide) (by decide), kx 1 (by omega) (by omega) (by omega)]
      exact hT2
    · exact hf.of (by rw [x0]) (k0 13 (by decide) (by decide)) (fun b => b.of (k0 16 (by decide) (by decide)) (k0 17 (by decide) (by decide))) (by rw [kx 215 (by omega) (by omega) (by omega)])
    · exact l2.of g5.1 (by rw [e3, mup_ne _ _ _ (by omega)]) (fun j a b i _ _ => by rw [e3, mup_ne _ _ _ (by omega)]) (fun i _ _ => by rw [e3, mup_ne _ _ _ (by omega)])
    · exact g7.of (kin 1 (by decide) (by decide)) (kin 2 (by decide) (by decide)) (fun k a b => kin k (by omega) b)
    · rw [kin 1 (by decide) (by decide)]; exact g8
    · rw [k07]; omega
    · rw [e3, mup_same, k07]
    · rw [e3, mup_i _ _ _ (by decide), k2 44 (by omega), k1 44 (by omega)]; exact hP.2.2.1
    · rw [k07] at i1; omega
    · have hG : GX N X M n := Or.inr ⟨g1, g2, g3, g4, B, g5, g6, g7, g8, g9⟩
      exact hG.of (by omega) (fun r a b => kx r (by omega) (by omega) (by omega)) (kx 197 (by omega) (by omega) (by omega)) (k0 4 (by decide) (by decide)) (km 2 (by decide) (by decide))
end backs
