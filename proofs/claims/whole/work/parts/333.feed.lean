set_option maxHeartbeats 400000
set_option maxRecDepth 20000
/-! ===== the pure part: the tape is fed ===== -/
theorem m255 (i : Nat) (hi : i < 32) : (255#32)[i] = decide (i < 8) := by
  revert hi; revert i
  have : ∀ i : Nat, ∀ hi : i < 32, (255#32)[i] = decide (i < 8) := by decide
  exact this
theorem sh_a (x : BitVec 32) (s : Nat) (hs : s ≤ 24) : x.sshiftRight s &&& 255#32 = x >>> s &&& 255#32 := by
  ext i hi
  rw [BitVec.getElem_and, BitVec.getElem_and, m255 i hi, BitVec.getElem_sshiftRight, BitVec.getElem_ushiftRight]
  by_cases h8 : i < 8
  · rw [dif_pos (by omega), BitVec.getLsbD_eq_getElem (by omega)]
  · simp [h8]
theorem sh_b (x : Int) : ∀ s : Int, (s = 0 ∨ s = 8 ∨ s = 16 ∨ s = 24) → bAnd (bShr x s) 255 = bAnd (bUsh x s) 255 := by
  intro s hs
  unfold bAnd bShr bUsh
  simp only [mI_of]
  congr 1
  apply Int32.toBitVec_inj.mp
  rcases hs with rfl | rfl | rfl | rfl
  · exact sh_a (mI x).toBitVec 0 (by omega)
  · exact sh_a (mI x).toBitVec 8 (by omega)
  · exact sh_a (mI x).toBitVec 16 (by omega)
  · exact sh_a (mI x).toBitVec 24 (by omega)
def byt (v s : Int) : Int := bAnd (bUsh v s) 255
theorem byt_ok (v s : Int) : 0 ≤ byt v s ∧ byt v s ≤ 255 := bAnd_le _ (by decide) (by decide)
def FB (X X' : mSt) (t v : Int) : Prop := (∀ r, r ≠ 0 → r ≠ 1 → X' r = X r) ∧ (∀ i, i ≠ 1 → X' 0 i = X 0 i) ∧ X' 0 1 = t + 4 ∧ (∀ k, k < t → X' 1 k = X 1 k) ∧ X' 1 t = byt v 24 ∧ X' 1 (t + 1) = byt v 16 ∧ X' 1 (t + 2) = byt v 8 ∧ X' 1 (t + 3) = byt v 0
section feed
variable {N n : Nat} {X X' M M' : mSt} {q q' lw lw' : Nat} {P : mPrg} {a1 a2 a3 a4 a5 : Int}
theorem s_fbyte {Q : mSt → Prop} {ko3 : Nat → Int → Int → mSt → Prop} {ko49 : mSt → Prop} {v s t : Int} (hok : okS X) (hs : s = 0 ∨ s = 8 ∨ s = 16 ∨ s = 24) (ht : X 0 1 = t) (t0 : 0 ≤ t) (t1 : t < 400) (h : ∀ X', okS X' → X' = mup (mup X 1 t (byt v s)) 0 1 (t + 1) → ko3 0 v (s - 8) X') : w_X11_feedNumber_3b N Q ko3 ko49 0 v s X := by
  refine ⟨fun hc => by omega, fun _ => ⟨fun hc => by omega, fun _ => ?_⟩⟩
  rw [ht]
  refine ⟨t0, t1, fun S2 e2 S3 e3 v1 e1 => ?_⟩
  have e21 : S2 0 1 = t := by rw [e2, mup_ne _ _ _ (by decide)]; exact ht
  rw [e21, nm_of (by omega) (by omega)] at e3
  rw [sh_b v s hs] at e2
  rw [nm_of (by omega) (by omega), show s + -8 = s - 8 by omega] at e1
  subst e1
  have hb := byt_ok v s
  refine h S3 (by rw [e3, e2]; exact okS_up (okS_up hok (bAnd_ok _ _)) (by unfold okI; omega)) (by rw [e3, e2]; rfl)
theorem s_feedN {Q : mSt → Prop} {v t : Int} (hN : 5000 ≤ N) (hok : okS X) (ht : X 0 1 = t) (t0 : 0 ≤ t) (t1 : t ≤ 396) (h : ∀ X', okS X' → FB X X' t v → Q X') : w_X11_feedNumber N 0 v X Q := by
  obtain ⟨m, rfl⟩ : ∃ m, N = m + 5 := ⟨N - 5, by omega⟩
  intro v1 e1
  subst e1
  refine s_fbyte hok (by omega) ht t0 (by omega) (fun X1 ok1 x1 => ?_)
  have t1' : X1 0 1 = t + 1 := by rw [x1, mup_same]
  refine s_fbyte ok1 (by omega) t1' (by omega) (by omega) (fun X2 ok2 x2 => ?_)
  have t2' : X2 0 1 = t + 1 + 1 := by rw [x2, mup_same]
  refine s_fbyte ok2 (by omega) t2' (by omega) (by omega) (fun X3 ok3 x3 => ?_)
  have t3' : X3 0 1 = t + 1 + 1 + 1 := by rw [x3, mup_same]
  refine s_fbyte ok3 (by omega) t3' (by omega) (by omega) (fun X4 ok4 x4 => ⟨fun _ => h X4 ok4 ?_, fun hc => by omega⟩)
  refine ⟨fun r h0 h1 => ?_, fun i hi => ?_, ?_, fun k hk => ?_, ?_, ?_, ?_, ?_⟩
  · rw [x4, mup_ne _ _ _ h0, mup_ne _ _ _ h1, x3, mup_ne _ _ _ h0, mup_ne _ _ _ h1, x2, mup_ne _ _ _ h0, mup_ne _ _ _ h1, x1, mup_ne _ _ _ h0, mup_ne _ _ _ h1]
  · rw [x4, mup_i _ _ _ hi, mup_ne _ _ _ (by decide), x3, mup_i _ _ _ hi, mup_ne _ _ _ (by decide), x2, mup_i _ _ _ hi, mup_ne _ _ _ (by decide), x1, mup_i _ _ _ hi, mup_ne _ _ _ (by decide)]
  · rw [x4, mup_same]; omega
  · rw [x4, mup_ne _ _ _ (by decide), mup_i _ _ _ (by omega), x3, mup_ne _ _ _ (by decide), mup_i _ _ _ (by omega), x2, mup_ne _ _ _ (by decide), mup_i _ _ _ (by omega), x1, mup_ne _ _ _ (by decide), mup_i _ _ _ (by omega)]
  · rw [x4, mup_ne _ _ _ (by decide), mup_i _ _ _ (by omega), x3, mup_ne _ _ _ (by decide), mup_i _ _ _ (by omega), x2, mup_ne _ _ _ (by decide), mup_i _ _ _ (by omega), x1, mup_ne _ _ _ (by decide), mup_same]
  · rw [x4, mup_ne _ _ _ (by decide), mup_i _ _ _ (by omega), x3, mup_ne _ _ _ (by decide), mup_i _ _ _ (by omega), x2, mup_ne _ _ _ (by decide), mup_same]; rfl
  · rw [x4, mup_ne _ _ _ (by decide), mup_i _ _ _ (by omega), x3, mup_ne _ _ _ (by decide), show t + 2 = t + 1 + 1 by omega, mup_same]; rfl
  · rw [x4, mup_ne _ _ _ (by decide), show t + 3 = t + 1 + 1 + 1 by omega, mup_same]; rfl
def fdN (a b c d e : Int) (k : Int) : Int := if k < 4 then a else if k < 8 then b else if k < 12 then c else if k < 16 then d else e
def fdB (a b c d e : Int) (k : Int) : Int := byt (fdN a b c d e k) (24 - 8 * (k % 4))
theorem y_feed {Q : mSt → Int → Prop} {t : Int} {S : mSt} (hN : 5000 ≤ N) (hok : okS S) (ht : S 0 9 = t) (t0 : 0 ≤ t) (t1 : t ≤ 380) (h : ∀ S', okS S' → (∀ r, r ≠ 0 → r ≠ 6 → S' r = S r) → (∀ i, i ≠ 9 → S' 0 i = S 0 i) → S' 0 9 = t + 20 → (∀ k, k < t → S' 6 k = S 6 k) → (∀ k, 0 ≤ k → k < 20 → S' 6 (t + k) = fdB a1 a2 a3 a4 a5 k) → Q S' (t + 20)) : w_X12_feed_23 N Q (fun (r0_3 : Nat) (S_3 : mSt) => Q S_3 (S_3 r0_3 9)) N 0 a1 a2 a3 a4 a5 0 S := by
  refine lpUp (K := 20) (W := fun n k T => w_X12_feed_23 N Q (fun (r0_3 : Nat) (S_3 : mSt) => Q S_3 (S_3 r0_3 9)) n 0 a1 a2 a3 a4 a5 k T) (I := fun k S' => okS S' ∧ (∀ r, r ≠ 0 → r ≠ 6 → S' r = S r) ∧ (∀ i, i ≠ 9 → S' 0 i = S 0 i) ∧ S' 0 9 = t + k ∧ (∀ k, k < t → S' 6 k = S 6 k) ∧ ∀ j, 0 ≤ j → j < (k : Int) → S' 6 (t + j) = fdB a1 a2 a3 a4 a5 j) (fun n S' hI => ?_) (fun n k S' hk hI ih => ?_) (by omega) ⟨hok, fun _ _ _ => rfl, fun _ _ => rfl, by rw [ht]; simp, fun _ _ => rfl, fun j a b => by omega⟩
  · obtain ⟨i1, i2, i3, i4, i5, i6⟩ := hI
    refine ⟨fun _ => ?_, fun hc => by omega⟩
    show Q S' (S' 0 9)
    rw [i4]
    exact h S' i1 i2 i3 i4 i5 i6
  · obtain ⟨i1, i2, i3, i4, i5, i6⟩ := hI
    have step : ∀ v, v = fdN a1 a2 a3 a4 a5 k → w_X12_feed_76 N Q (w_X12_feed_23 N Q (fun (r0_3 : Nat) (S_3 : mSt) => Q S_3 (S_3 r0_3 9)) n) 0 a1 a2 a3 a4 a5 k v S' := by
      intro v ev v1 e1
      rw [i4]
      refine ⟨by omega, by omega, fun S3 e3 S4 e4 v5 e5 => ?_⟩
      rw [nx8 (by omega)] at e5
      have ei : nm (24 - nm (8 * iRem (k : Int) 4)) = 24 - 8 * ((k : Int) % 4) := by
        rw [iRem_nn (by unfold okI; omega) (by decide) (by omega) (by omega), nm_of (x := 8 * _) (by omega) (by omega), nm_of (by omega) (by omega)]
      rw [ei, e1, ev] at e3
      have hb := byt_ok (fdN a1 a2 a3 a4 a5 k) (24 - 8 * ((k : Int) % 4))
      have e39 : S3 0 9 = t + k := by rw [e3, mup_ne _ _ _ (by decide)]; exact i4
      rw [e39, nm_of (by omega) (by omega)] at e4
      subst e5
      refine ih S4 ⟨?_, fun r a b => ?_, fun i a => ?_, ?_, fun j a => ?_, fun j a b => ?_⟩
      · rw [e4, e3]; exact okS_up (okS_up i1 (bAnd_ok _ _)) (by unfold okI; omega)
      · rw [e4, mup_ne _ _ _ a, e3, mup_ne _ _ _ b]; exact i2 r a b
      · rw [e4, mup_i _ _ _ a, e3, mup_ne _ _ _ (by decide)]; exact i3 i a
      · rw [e4, mup_same]; omega
      · rw [e4, mup_ne _ _ _ (by decide), e3, mup_i _ _ _ (by omega)]; exact i5 j a
      · rw [e4, mup_ne _ _ _ (by decide), e3]
        by_cases hj : j = k
        · rw [hj, mup_same]; rfl
        · rw [mup_i _ _ _ (by omega)]; exact i6 j a (by omega)
    refine ⟨fun hc => by omega, fun _ => ⟨fun h4 => ⟨fun h8 => ⟨fun h12 => ⟨fun h16 => step _ ?_, fun h16 => step _ ?_⟩, fun h12 => step _ ?_⟩, fun h8 => step _ ?_⟩, fun h4 => step _ ?_⟩⟩
    · unfold fdN; rw [if_neg (by omega), if_neg (by omega), if_neg (by omega), if_neg (by omega)]
    · unfold fdN; rw [if_neg (by omega), if_neg (by omega), if_neg (by omega), if_pos (by omega)]
    · unfold fdN; rw [if_neg (by omega), if_neg (by omega), if_pos (by omega)]
    · unfold fdN; rw [if_neg (by omega), if_pos (by omega)]
    · unfold fdN; rw [if_pos (by omega)]
theorem k_0 (hN : 5000 ≤ N) (I : IV N n X M q q' lw lw' P) (okX : okS X) (okM : okS M) : wl_0 N a1 a2 a3 a4 a5 X M (fun X1 M1 => Inv N (n + 1) X1 M1) := by
  obtain ⟨hK, ⟨t1, t2, t3, t4⟩, hf, hL, hR, ⟨p1, p2, p3, p4⟩, hP, hG⟩ := id I
  obtain ⟨hq, -, hlw, -, k5, k6⟩ := id hK
  unfold wl_0 w_X11_feed
  refine ⟨fun ht => ?_, fun ht M1 m1 => ?_⟩
  · refine s_feedN hN okX t1 t2 (by omega) (fun X1 o1 f1 => ?_)
    refine s_feedN hN o1 f1.2.2.1 (by omega) (by omega) (fun X2 o2 f2 => ?_)
    refine s_feedN hN o2 f2.2.2.1 (by omega) (by omega) (fun X3 o3 f3 => ?_)
    refine s_feedN hN o3 f3.2.2.1 (by omega) (by omega) (fun X4 o4 f4 => ?_)
    refine s_feedN hN o4 f4.2.2.1 (by omega) (by omega) (fun X5 o5 f5 M1 m1 => ?_)
    have m19 : M1 0 9 = M 0 9 := by rw [m1, mup_i _ _ _ (by decide)]
    rw [m19, nm_of (by omega) (by omega)]
    refine ⟨fun _ v2 e2 => ?_, fun hc => by omega⟩
    subst e2
    refine y_feed hN (by rw [m1]; exact okS_up okM (by decide)) m19 t2 (by omega) (fun M2 okM2 c1 c2 c3 c4 c5 => ?_)
    obtain ⟨x1a, x1b, x1c, x1d, x1e⟩ := f1
    obtain ⟨x2a, x2b, x2c, x2d, x2e⟩ := f2
    obtain ⟨x3a, x3b, x3c, x3d, x3e⟩ := f3
    obtain ⟨x4a, x4b, x4c, x4d, x4e⟩ := f4
    obtain ⟨x5a, x5b, x5c, x5d, x5e⟩ := f5
    have kx : ∀ r, r ≠ 0 → r ≠ 1 → X5 r = X r := fun r a b => by rw [x5a r a b, x4a r a b, x3a r a b, x2a r a b, x1a r a b]
    have k0 : ∀ i, i ≠ 1 → X5 0 i = X 0 i := fun i a => by rw [x5b i a, x4b i a, x3b i a, x2b i a, x1b i a]
    have km : ∀ r, r ≠ 0 → r ≠ 6 → M2 r = M r := fun r a b => by rw [c1 r a b, m1, mup_ne _ _ _ a]
    have km0 : ∀ i, i ≠ 0 → i ≠ 9 → M2 0 i = M 0 i := fun i a b => by rw [c2 i b, m1, mup_i _ _ _ a]
    have m16 : M1 6 = M 6 := by rw [m1, mup_ne _ _ _ (by decide)]
    refine ⟨by rw [x5c]; omega, q, q', lw, lw', P, ?_, ⟨by rw [x5c, c3]; omega, by rw [c3]; omega, by rw [c3]; omega, fun k a b => ?_⟩, ?_, ?_, ?_, ⟨p1, ?_, ?_, ?_⟩, ?_, ?_⟩
    · unfold KP; rw [k0 3 (by decide), k0 4 (by decide), k0 5 (by decide), k0 6 (by decide)]; exact hK
    · rw [c3] at b
      by_cases hk : k < M 0 9
      · rw [c4 k hk, m16, x5d k (by omega), x4d k (by omega), x3d k (by omega), x2d k (by omega), x1d k hk]
        exact t4 k a hk
      · obtain ⟨j, rfl⟩ : ∃ j, k = M 0 9 + j := ⟨k - M 0 9, by omega⟩
        rw [c5 j (by omega) (by omega)]
        have hj : j = 0 ∨ j = 1 ∨ j = 2 ∨ j = 3 ∨ j = 4 ∨ j = 5 ∨ j = 6 ∨ j = 7 ∨ j = 8 ∨ j = 9 ∨ j = 10 ∨ j = 11 ∨ j = 12 ∨ j = 13 ∨ j = 14 ∨ j = 15 ∨ j = 16 ∨ j = 17 ∨ j = 18 ∨ j = 19 := by omega
        refine ⟨?_, byt_ok _ _⟩
        rcases hj with rfl | rfl | rfl | rfl | rfl | rfl | rfl | rfl | rfl | rfl | rfl | rfl | rfl | rfl | rfl | rfl | rfl | rfl | rfl | rfl
        · rw [x5d _ (by omega), x4d _ (by omega), x3d _ (by omega), x2d _ (by omega), Int.add_zero]; exact x1e.1
        · rw [x5d _ (by omega), x4d _ (by omega), x3d _ (by omega), x2d _ (by omega)]; exact x1e.2.1
        · rw [x5d _ (by omega), x4d _ (by omega), x3d _ (by omega), x2d _ (by omega)]; exact x1e.2.2.1
        · rw [x5d _ (by omega), x4d _ (by omega), x3d _ (by omega), x2d _ (by omega)]; exact x1e.2.2.2
        · rw [x5d _ (by omega), x4d _ (by omega), x3d _ (by omega)]; exact x2e.1
        · rw [x5d _ (by omega), x4d _ (by omega), x3d _ (by omega), show M 0 9 + 5 = M 0 9 + 4 + 1 by omega]; exact x2e.2.1
        · rw [x5d _ (by omega), x4d _ (by omega), x3d _ (by omega), show M 0 9 + 6 = M 0 9 + 4 + 2 by omega]; exact x2e.2.2.1
        · rw [x5d _ (by omega), x4d _ (by omega), x3d _ (by omega), show M 0 9 + 7 = M 0 9 + 4 + 3 by omega]; exact x2e.2.2.2
        · rw [x5d _ (by omega), x4d _ (by omega), show M 0 9 + 8 = M 0 9 + 4 + 4 by omega]; exact x3e.1
        · rw [x5d _ (by omega), x4d _ (by omega), show M 0 9 + 9 = M 0 9 + 4 + 4 + 1 by omega]; exact x3e.2.1
        · rw [x5d _ (by omega), x4d _ (by omega), show M 0 9 + 10 = M 0 9 + 4 + 4 + 2 by omega]; exact x3e.2.2.1
        · rw [x5d _ (by omega), x4d _ (by omega), show M 0 9 + 11 = M 0 9 + 4 + 4 + 3 by omega]; exact x3e.2.2.2
        · rw [x5d _ (by omega), show M 0 9 + 12 = M 0 9 + 4 + 4 + 4 by omega]; exact x4e.1
        · rw [x5d _ (by omega), show M 0 9 + 13 = M 0 9 + 4 + 4 + 4 + 1 by omega]; exact x4e.2.1
        · rw [x5d _ (by omega), show M 0 9 + 14 = M 0 9 + 4 + 4 + 4 + 2 by omega]; exact x4e.2.2.1
        · rw [x5d _ (by omega), show M 0 9 + 15 = M 0 9 + 4 + 4 + 4 + 3 by omega]; exact x4e.2.2.2
        · rw [show M 0 9 + 16 = M 0 9 + 4 + 4 + 4 + 4 by omega]; exact x5e.1
        · rw [show M 0 9 + 17 = M 0 9 + 4 + 4 + 4 + 4 + 1 by omega]; exact x5e.2.1
        · rw [show M 0 9 + 18 = M 0 9 + 4 + 4 + 4 + 4 + 2 by omega]; exact x5e.2.2.1
        · rw [show M 0 9 + 19 = M 0 9 + 4 + 4 + 4 + 4 + 3 by omega]; exact x5e.2.2.2
    · exact hf.of (k0 2 (by decide)) (km0 13 (by decide) (by decide)) (fun b => b.of (km0 16 (by decide) (by decide)) (km0 17 (by decide) (by decide))) (by rw [kx 215 (by omega) (by omega)])
    · rw [km 1 (by decide) (by decide)]; exact (hL.of (fun r a b => kx r (by omega) (by omega))).mono (by omega)
    · rw [km 1 (by decide) (by decide)]; exact hR
    · exact p2.of p1.1 (by rw [kx lw (by omega) (by omega)]) (fun j a b i _ _ => by rw [kx _ (by omega) (by omega)]) (fun i _ _ => by rw [kx _ (by omega) (by omega)])
    · rw [km 1 (by decide) (by decide)]; exact p3
    · rw [km 1 (by decide) (by decide)]; exact p4
    · exact hP.of (by omega) (kx 44 (by decide) (by decide)) (fun r a b => kx r (by omega) (by omega)) (km0 7 (by decide) (by decide)) (km 5 (by decide) (by decide)) ⟨by rw [km 1 (by decide) (by decide)], by rw [km 1 (by decide) (by decide)]⟩
    · exact hG.of (by omega) (fun r a b => kx r (by omega) (by omega)) (kx 197 (by decide) (by decide)) (km0 4 (by decide) (by decide)) (km 2 (by decide) (by decide))
  · have m19 : M1 0 9 = M 0 9 := by rw [m1, mup_i _ _ _ (by decide)]
    rw [m19, nm_of (by omega) (by omega)]
    exact ⟨fun hc => by omega, fun _ => ⟨rfl, I.next (XF.rf _ _ _) (w := 0) (by rw [m1]; exact MQu.rf _)⟩⟩
end feed
