set_option maxHeartbeats 400000
set_option maxRecDepth 20000
theorem thrX {M : mSt} {Aq Bq : mSt → Prop} {k : Int} (hk : 0 < k) (h : Bq (mup M 0 0 k)) : ∀ S1 : mSt, S1 = mup M 0 0 k → ((S1 0 0 ≤ 0 → Aq S1) ∧ (0 < S1 0 0 → Bq S1)) := fun S1 e1 => ⟨fun hc => by rw [e1, mup_same] at hc; omega, fun _ => by rw [e1]; exact h⟩
theorem thrO {M : mSt} {Aq Bq : mSt → Prop} (h : Aq (mup M 0 0 0)) : ∀ S1 : mSt, S1 = mup M 0 0 0 → ((S1 0 0 ≤ 0 → Aq S1) ∧ (0 < S1 0 0 → Bq S1)) := fun S1 e1 => ⟨fun _ => by rw [e1]; exact h, fun hc => by rw [e1, mup_same] at hc; omega⟩
section would
variable {N n : Nat} {X M : mSt} {q q' lw lw' : Nat} {f : mRow} {A : mLaw} {P : mPrg} {a1 a2 a3 a4 a5 : Int} {T : Int} {Q : mSt → Int → Prop} {p s : Int}
theorem a_cleans {S : mSt} {Q : mSt → Prop} (hok : okS S) (h1 : S 1 = f) (hR : RO f) (hs : RS f s) (s0 : 0 ≤ s) (s1 : s < 6) (p0 : 0 ≤ p) (p1 : p < 8) (h : ∀ S', okS S' → S' 1 = fClean f p s → (∀ r, r ≠ 1 → S' r = S r) → Q S') : w_X12_cleans N 0 p s S Q := by
  obtain ⟨g1, g2, g3, g4, g5, g6, g7⟩ := hR.at p0 p1
  obtain ⟨r1, r2, r3, r4⟩ := hs
  unfold w_X12_cleans
  refine a_of p0 p1 (by omega) (by omega) (a_ofSoap s0 s1 (by omega) (by omega) ?_)
  rw [h1]
  simp only [Int.add_zero]
  refine a_greater (a_has p0 p1 (by omega) (by omega) (a_of p0 p1 (by omega) (by omega) (a_ofSoap s0 s1 (by omega) (by omega) ?_)))
  rw [nm_of (by omega) (by omega), mup_1, h1]
  simp only [Int.add_zero]
  rw [fup_ne _ _ (show 14 + 6 * p + 3 ≠ 14 + 6 * p by omega), fup_ne _ _ (show 70 + 4 * s + 3 ≠ 14 + 6 * p by omega)]
  refine a_has p0 p1 (by omega) (by omega) (a_of p0 p1 (by omega) (by omega) (a_ofSoap s0 s1 (by omega) (by omega) ?_))
  rw [mup_1, mup_1, h1, fup_ne _ _ (show 14 + 6 * p + 1 ≠ 14 + 6 * p + 3 by omega), fup_ne _ _ (show 14 + 6 * p + 1 ≠ 14 + 6 * p by omega), fup_ne _ _ (show 70 + 4 * s + 2 ≠ 14 + 6 * p + 3 by omega), fup_ne _ _ (show 70 + 4 * s + 2 ≠ 14 + 6 * p by omega)]
  refine a_lesser (a_has p0 p1 (by omega) (by omega) ?_)
  rw [nm_of (x := f (14 + 6 * p + 1) + 1) (by omega) (by omega), nm_of (by omega) (by omega)]
  refine h _ (okS_up (okS_up (okS_up hok (by unfold okI; omega)) (bAnd_ok _ _)) (by unfold okI; omega)) (by rw [mup_1, mup_1, mup_1, h1]; rfl) (fun r hr => by rw [mup_ne _ _ _ hr, mup_ne _ _ _ hr, mup_ne _ _ _ hr])
theorem y_would (hN : 5000 ≤ N) (C : MC N M f A) (p0 : 0 ≤ p) (p1 : p < 8) (hs : s = -1 ∨ (0 ≤ s ∧ s < f 3)) (h : ∀ M', MC N M' f A → MQu M M' → Q M' (fWhite A (fWould f p s) p)) : w_X12_wouldBe N 0 p s M Q := by
  obtain ⟨ok, h1, hR, hB, hL⟩ := id C
  have hRS : s = -1 ∨ RS f s := hs.imp id (fun ⟨a, b⟩ => hR.2.2.2.2.1 s a b)
  have h6 := hR.2.1
  -- the last part
  have fin : ∀ (M2 : mSt) (g : mRow), okS M2 → M2 1 = g → MPu M M2 → (∀ j, 0 ≤ j → j < 6 → M2 3 j = f (14 + 6 * p + j)) → fup (fup g (14 + 6 * p + 2) 0) (14 + 6 * p + 4) 1 = fWould f p s → w_X12_wouldBe_37 N Q 0 p M2 := by
    intro M2 g ok2 e2 k2 s2 eg
    unfold w_X12_wouldBe_37
    refine a_has p0 p1 (by omega) (by omega) (a_has p0 p1 (by omega) (by omega) ?_)
    have e4 : (mup (mup M2 1 (14 + 6 * p + 2) 0) 1 (14 + 6 * p + 4) 1) 1 = fWould f p s := by rw [mup_1, mup_1, e2]; exact eg
    have ok4 : okS (mup (mup M2 1 (14 + 6 * p + 2) 0) 1 (14 + 6 * p + 4) 1) := okS_up (okS_up ok2 (by decide)) (by decide)
    have k4 : MPu M (mup (mup M2 1 (14 + 6 * p + 2) 0) 1 (14 + 6 * p + 4) 1) := (k2.tr (MPu.up (by omega))).tr (MPu.up (by omega))
    have s4 : ∀ j, 0 ≤ j → j < 6 → (mup (mup M2 1 (14 + 6 * p + 2) 0) 1 (14 + 6 * p + 4) 1) 3 j = f (14 + 6 * p + j) := fun j a b => by rw [mup_ne _ _ _ (by decide), mup_ne _ _ _ (by decide)]; exact s2 j a b
    generalize mup (mup M2 1 (14 + 6 * p + 2) 0) 1 (14 + 6 * p + 4) 1 = M4 at e4 ok4 k4 s4
    have hw := fun k hk => fWould_hi f (s := s) p0 p1 (k := k) hk
    refine a_white (A := A) (by omega) (by rw [e4]; exact hL.of (hw _ (by omega)) (hw _ (by omega)) (fun k hk _ => hw _ (by omega))) hB ok4 (by rw [e4]; exact hR.1.1.would p0 p1 hRS) p0 p1 (fun M5 ok5 k5 v4 ev v5 ev5 => ?_)
    rw [e4] at ev
    subst ev; subst ev5
    refine lpUp (K := 6) (W := fun n k T => w_X12_wouldBe_60 N Q (fun (x3_6 : Int) (S_6 : mSt) => Q S_6 x3_6) n 0 p (fWhite A (fWould f p s) p) k T) (I := fun k T => okS T ∧ MPu M T ∧ (∀ j, 0 ≤ j → j < 6 → T 3 j = f (14 + 6 * p + j)) ∧ ∀ i, (i < 14 + 6 * p + k ∨ 14 + 6 * p + 6 ≤ i) → T 1 i = f i) (fun n T hI => ?_) (fun n k T hk hI ih => ?_) (by omega) ⟨ok5, k4.tr k5.p, fun j a b => by rw [k5.1 3 (by decide) (by decide)]; exact s4 j a b, fun i hi => by rw [k5.m, e4]; exact hw i (by omega)⟩
    · obtain ⟨i1, i2, i3, i4⟩ := hI
      have e : T 1 = f := funext fun i => i4 i (by omega)
      exact ⟨fun _ => h T (C.of i1 (e.trans h1.symm)) (i2.q (e.trans h1.symm)), fun hc => by omega⟩
    · obtain ⟨i1, i2, i3, i4⟩ := hI
      refine ⟨fun hc => by omega, fun _ => ⟨by omega, by omega, a_has p0 p1 (by omega) (by omega) (fun v3 e3 => ?_)⟩⟩
      rw [nx8 (by omega)] at e3
      subst e3
      rw [Nat.zero_add, i3 k (by omega) (by omega)]
      have of : okI (f (14 + 6 * p + k)) := by rw [← h1]; exact ok _ _
      refine ih _ ⟨okS_up i1 of, i2.tr (MPu.up (by omega)), fun j a b => by rw [mup_ne _ _ _ (by decide)]; exact i3 j a b, fun i hi => ?_⟩
      rw [mup_1]
      by_cases he : i = 14 + 6 * p + k
      · rw [he, fup_at]
      · rw [fup_ne _ _ he]; exact i4 i (by omega)
  intro v1 e1
  subst e1
  refine lpUp (K := 6) (W := fun n k T => w_X12_wouldBe_2 N Q (fun (r0_2 : Nat) (x1_2 : Int) (x2_2 : Int) (S_2 : mSt) => ((x2_2 = (-1) → w_X12_wouldBe_37 N Q r0_2 x1_2 S_2) ∧ (x2_2 ≠ (-1) → w_X12_cleans N r0_2 x1_2 x2_2 S_2 (fun (S3 : mSt) => w_X12_wouldBe_37 N Q r0_2 x1_2 S3)))) n 0 p s k T) (I := fun k T => okS T ∧ MPu M T ∧ T 1 = f ∧ ∀ j, 0 ≤ j → j < (k : Int) → T 3 j = f (14 + 6 * p + j)) (fun n T hI => ?_) (fun n k T hk hI ih => ?_) (by omega) ⟨ok, MPu.rf _, h1, fun j a b => by omega⟩
  · obtain ⟨i1, i2, i3, i4⟩ := hI
    refine ⟨fun _ => ⟨fun hn => fin T f i1 i3 i2 i4 ?_, fun hn => ?_⟩, fun hc => by omega⟩
    · unfold fWould; rw [if_pos hn]
    · have hs2 := hs.resolve_left hn
      refine a_cleans i1 i3 hR.1.1 (hRS.resolve_left hn) hs2.1 (by omega) p0 p1 (fun M3 ok3 e3 k3 => ?_)
      refine fin M3 _ ok3 e3 (i2.tr ⟨⟨k3 _ (by decide), k3 _ (by decide), k3 _ (by decide), fun r x y => k3 r (by omega)⟩, by rw [k3 0 (by decide)], by rw [k3 0 (by decide)], by rw [k3 0 (by decide)], by rw [k3 0 (by decide)], by rw [k3 0 (by decide)], fun b => b.of (by rw [k3 0 (by decide)]) (by rw [k3 0 (by decide)])⟩) (fun j a b => by rw [k3 3 (by decide)]; exact i4 j a b) ?_
      unfold fWould; rw [if_neg hn]
  · obtain ⟨i1, i2, i3, i4⟩ := hI
    refine ⟨fun hc => by omega, fun _ => a_of p0 p1 (by omega) (by omega) ⟨by omega, by omega, fun S3 e3 v4 e4 => ?_⟩⟩
    rw [nx8 (by omega)] at e4
    subst e4
    rw [i3, Nat.zero_add] at e3
    have of : okI (f (14 + 6 * p + k)) := by rw [← h1]; exact ok _ _
    refine ih S3 ⟨by rw [e3]; exact okS_up i1 of, by rw [e3]; exact i2.tr (MPu.up (by omega)), by rw [e3, mup_ne _ _ _ (by decide)]; exact i3, fun j a b => ?_⟩
    rw [e3]
    by_cases he : j = k
    · rw [he, mup_same]
    · rw [mup_i _ _ _ he]; exact i4 j a (by omega)
theorem k_17 (hN : 5000 ≤ N) (I : IV N n X M q q' lw lw' P) (okX : okS X) (okM : okS M) : wl_17 N a1 a2 a3 a4 a5 X M (fun X1 M1 => Inv N (n + 1) X1 M1) := by
  obtain ⟨⟨hq, -⟩, -, -, hL, hR, -⟩ := id I
  have h3 := hR.2.1
  unfold wl_17 w_L_would w_X11_would w_X12_would
  refine s_ckPart (fun p0 p1 => s_ckSoap hq hL.2.1.2.1 (fun s0 s1 => ?_) (fun hb => ⟨rfl, ?_⟩)) (fun hb => ⟨rfl, ?_⟩)
  · refine x_would (I.CQ (by omega) okX) p0 p1 (Or.inr ⟨s0, s1⟩) (fun X' C' F' S2 e2 => ?_)
    subst e2
    refine a_isPart (fun _ _ => ⟨fun hc => absurd hc (by decide), fun _ => a_isSoap rfl h3.1 h3.2 (fun _ _ => ⟨fun _ => thrO ?_, fun hc => absurd hc (by decide)⟩) (fun hc => by omega)⟩) (fun hc => by omega)
    exact y_would hN ((I.MC okM).thr (by decide)) p0 p1 (Or.inr ⟨s0, s1⟩) (fun M' D' G' => fin0 I F' G')
  · exact a_isPart (fun _ _ => ⟨fun hc => absurd hc (by decide), fun _ => a_isSoap rfl h3.1 h3.2 (fun _ _ => by omega) (fun hc => ⟨fun hc => absurd rfl hc, fun _ => thrX (by decide) (finE I (by decide) (XF.rf _ _ _) (MQu.rf _))⟩)⟩) (fun hc => by omega)
  · exact a_isPart (fun _ _ => by omega) (fun hc => ⟨fun _ => thrX (by decide) (finE I (by decide) (XF.rf _ _ _) (MQu.rf _)), fun hc => absurd rfl hc⟩)
-- best
def bsL (W pr : Int → Int) : Nat → Int
  | 0 => -1
  | k + 1 => if bsL W pr k = -1 ∨ W (bsL W pr k) < W k ∨ (W k = W (bsL W pr k) ∧ pr k < pr (bsL W pr k)) then k else bsL W pr k
theorem bsL_ok (W pr : Int → Int) : ∀ k : Nat, bsL W pr k = -1 ∨ (0 ≤ bsL W pr k ∧ bsL W pr k < k)
  | 0 => Or.inl rfl
  | k + 1 => by
    have := bsL_ok W pr k
    unfold bsL
    split
    · exact Or.inr ⟨by omega, by omega⟩
    · omega
theorem x_best (hN : 5000 ≤ N) (C : CQ N X q q' lw lw' f A T) (p0 : 0 ≤ p) (p1 : p < 8) {E : String → mSt → Prop} (h : ∀ X', CQ N X' q q' lw lw' f A T → XF q' lw X X' → Q X' (bsL (fun s => fWhite A (fWould f p s) p) (fun s => f (70 + 4 * s + 1)) (f 3).toNat)) : w_X11_best_14 N Q E (fun (x2_6 : Int) (S_6 : mSt) => Q S_6 x2_6) N 0 p (-1) 0 0 0 X := by
  obtain ⟨-, -, hL, hR, -⟩ := id C
  have h3 := hR.2.1
  let W := fun s => fWhite A (fWould f p s) p
  let pr := fun s => f (70 + 4 * s + 1)
  refine lpUp (K := (f 3).toNat) (W := fun n k T => w_X11_best_14 N Q E (fun (x2_6 : Int) (S_6 : mSt) => Q S_6 x2_6) n 0 p (bsL W pr k) (if bsL W pr k = -1 then 0 else W (bsL W pr k)) (if bsL W pr k = -1 then 0 else pr (bsL W pr k)) k T) (I := fun k X' => CQ N X' q q' lw lw' f A T ∧ XF q' lw X X') (fun n X' hI => ?_) (fun n k X' hk hI ih => ?_) (by omega) ⟨C, XF.rf _ _ _⟩
  · obtain ⟨C', F'⟩ := hI
    obtain ⟨-, ⟨k1, -⟩, hL', -⟩ := id C'
    intro q1 e1
    have : q1 = q := by omega
    subst q1
    rw [hL'.2.1.2.1]
    exact ⟨fun _ => h X' C' F', fun hc => by omega⟩
  · obtain ⟨C', F'⟩ := hI
    obtain ⟨-, ⟨k1, -⟩, hL', -⟩ := id C'
    intro q1 e1
    have : q1 = q := by omega
    subst q1
    rw [hL'.2.1.2.1]
    refine ⟨fun hc => by omega, fun _ => x_would C' p0 p1 (Or.inr ⟨by omega, by omega⟩) (fun X2 C2 F2 v3 e3 => ?_)⟩
    have e3' : v3 = W k := e3
    have hw := fWhite_ok A (fWould f p k) p
    have hb := bsL_ok W pr k
    have w0 : 0 ≤ W k := hw.1
    obtain ⟨-, ⟨j1, -⟩, -⟩ := id C2
    -- taken
    have take : ∀ X3, CQ N X3 q q' lw lw' f A T → XF q' lw X2 X3 → (bsL W pr k = -1 ∨ W (bsL W pr k) < W k ∨ (W k = W (bsL W pr k) ∧ pr k < pr (bsL W pr k))) → w_X11_best_78 N Q E (w_X11_best_14 N Q E (fun (x2_6 : Int) (S_6 : mSt) => Q S_6 x2_6) n) 0 p k v3 X3 := by
      intro X3 C3 F3 hb v1 e1 v2 e2 q3 e3
      obtain ⟨-, ⟨j1, -⟩, -⟩ := id C3
      have : q3 = q := by omega
      subst q3
      refine x_price C3 (by omega) (by omega) (fun v5 e5 v6 e6 => ?_)
      rw [nx8 (by omega)] at e6
      subst e6
      have := ih X3 ⟨C3, (F'.tr F2).tr F3⟩
      have eb : bsL W pr (k + 1) = k := by
        show (if _ then _ else _) = _
        rw [if_pos hb]
      rw [eb, if_neg (by omega), if_neg (by omega)] at this
      rw [e1, e2, e5, e3']
      exact this
    -- passed over
    have pass : ∀ X3, CQ N X3 q q' lw lw' f A T → XF q' lw X2 X3 → ¬ (bsL W pr k = -1 ∨ W (bsL W pr k) < W k ∨ (W k = W (bsL W pr k) ∧ pr k < pr (bsL W pr k))) → w_X11_best_95 N Q E (w_X11_best_14 N Q E (fun (x2_6 : Int) (S_6 : mSt) => Q S_6 x2_6) n) 0 p (bsL W pr k) (if bsL W pr k = -1 then 0 else W (bsL W pr k)) (if bsL W pr k = -1 then 0 else pr (bsL W pr k)) k X3 := by
      intro X3 C3 F3 hb v1 e1
      rw [nx8 (by omega)] at e1
      subst e1
      have := ih X3 ⟨C3, (F'.tr F2).tr F3⟩
      have eb : bsL W pr (k + 1) = bsL W pr k := by
        show (if _ then _ else _) = _
        rw [if_neg hb]
      rw [eb] at this
      exact this
    have both : ∀ (b : Int) X3, (b = 0 ∨ b = 1) → CQ N X3 q q' lw lw' f A T → XF q' lw X2 X3 → (bsL W pr k ≠ -1 → (b = 1 ↔ (W (bsL W pr k) < W k ∨ (W k = W (bsL W pr k) ∧ pr k < pr (bsL W pr k))))) → w_X11_best_66 N Q E (w_X11_best_14 N Q E (fun (x2_6 : Int) (S_6 : mSt) => Q S_6 x2_6) n) 0 p (bsL W pr k) (if bsL W pr k = -1 then 0 else W (bsL W pr k)) (if bsL W pr k = -1 then 0 else pr (bsL W pr k)) k v3 b X3 := by
      intro b X3 hb01 C3 F3 hbe v1 e1
      refine ⟨fun hc => take X3 C3 F3 (Or.inl hc), fun hc => ⟨fun h0 => pass X3 C3 F3 (fun hor => ?_), fun h1 => take X3 C3 F3 (Or.inr ((hbe hc).mp (by omega)))⟩⟩
      have := (hbe hc).mpr (hor.resolve_left hc)
      omega
    have cs : bsL W pr k = -1 ∨ bsL W pr k ≠ -1 := by omega
    refine ⟨fun hc => both 1 X2 (Or.inr rfl) C2 (XF.rf _ _ _) (fun hn => ?_), fun hc => ⟨fun hc2 => both 0 X2 (Or.inl rfl) C2 (XF.rf _ _ _) (fun hn => ?_), fun hc2 q4 e4 => ?_⟩⟩
    · rw [if_neg hn] at hc
      exact ⟨fun _ => Or.inl (by omega), fun _ => rfl⟩
    · rw [if_neg hn] at hc hc2
      exact ⟨fun h => absurd h (by decide), fun h => by omega⟩
    · have : q4 = q := by omega
      subst q4
      refine x_price C2 (by omega) (by omega) ⟨fun hc3 => both 0 X2 (Or.inl rfl) C2 (XF.rf _ _ _) (fun hn => ?_), fun hc3 => both 1 X2 (Or.inr rfl) C2 (XF.rf _ _ _) (fun hn => ?_)⟩
      · rw [if_neg hn] at hc hc2 hc3
        have hc3' : pr (bsL W pr k) ≤ pr k := hc3
        exact ⟨fun h => absurd h (by decide), fun h => by omega⟩
      · rw [if_neg hn] at hc hc2 hc3
        have hc3' : pr k < pr (bsL W pr k) := hc3
        exact ⟨fun _ => Or.inr ⟨by omega, hc3'⟩, fun _ => rfl⟩
theorem y_best (hN : 5000 ≤ N) (C : MC N M f A) (p0 : 0 ≤ p) (p1 : p < 8) (h : ∀ M', MC N M' f A → MQu M M' → Q M' (bsL (fun s => fWhite A (fWould f p s) p) (fun s => f (70 + 4 * s + 1)) (f 3).toNat)) : w_X12_best_32 N Q (fun (x2_5 : Int) (S_5 : mSt) => Q S_5 x2_5) N 0 p (-1) (-1) 0 M := by
  obtain ⟨-, h1, hR, -⟩ := id C
  have h3 := hR.2.1
  let W := fun s => fWhite A (fWould f p s) p
  let pr := fun s => f (70 + 4 * s + 1)
  refine lpUp (K := (f 3).toNat) (W := fun n k T => w_X12_best_32 N Q (fun (x2_5 : Int) (S_5 : mSt) => Q S_5 x2_5) n 0 p (bsL W pr k) (if bsL W pr k = -1 then -1 else W (bsL W pr k)) k T) (I := fun k M' => MC N M' f A ∧ MQu M M') (fun n M' hI => ?_) (fun n k M' hk hI ih => ?_) (by omega) ⟨C, MQu.rf _⟩
  · obtain ⟨C', F'⟩ := hI
    have e1 : M' (0 + 1) 3 = f 3 := by rw [Nat.zero_add, C'.2.1]
    refine ⟨fun _ => h M' C' F', fun hc => by rw [e1] at hc; omega⟩
  · obtain ⟨C', F'⟩ := hI
    have e1 : M' (0 + 1) 3 = f 3 := by rw [Nat.zero_add, C'.2.1]
    refine ⟨fun hc => by rw [e1] at hc; omega, fun _ => y_would hN C' p0 p1 (Or.inr ⟨by omega, by omega⟩) (fun M2 C2 F2 v2 e2 => ?_)⟩
    have e2' : v2 = W k := e2
    have hw : 0 ≤ W k := (fWhite_ok A (fWould f p k) p).1
    have hb := bsL_ok W pr k
    have take : (bsL W pr k = -1 ∨ W (bsL W pr k) < W k ∨ (W k = W (bsL W pr k) ∧ pr k < pr (bsL W pr k))) → w_X12_best_83 N Q (w_X12_best_32 N Q (fun (x2_5 : Int) (S_5 : mSt) => Q S_5 x2_5) n) 0 p k v2 M2 := by
      intro hb v1 e1 v2' e2 v3 e3
      rw [nx8 (by omega)] at e3
      subst e3
      have := ih M2 ⟨C2, F'.tr F2⟩
      have eb : bsL W pr (k + 1) = k := by
        show (if _ then _ else _) = _
        rw [if_pos hb]
      rw [eb, if_neg (by omega)] at this
      rw [e1, e2, e2']
      exact this
    have pass : ¬ (bsL W pr k = -1 ∨ W (bsL W pr k) < W k ∨ (W k = W (bsL W pr k) ∧ pr k < pr (bsL W pr k))) → w_X12_best_89 N Q (w_X12_best_32 N Q (fun (x2_5 : Int) (S_5 : mSt) => Q S_5 x2_5) n) 0 p (bsL W pr k) (if bsL W pr k = -1 then -1 else W (bsL W pr k)) k M2 := by
      intro hb v1 e1
      rw [nx8 (by omega)] at e1
      subst e1
      have := ih M2 ⟨C2, F'.tr F2⟩
      have eb : bsL W pr (k + 1) = bsL W pr k := by
        show (if _ then _ else _) = _
        rw [if_neg hb]
      rw [eb] at this
      exact this
    refine ⟨fun hc => pass ?_, fun hc => ⟨fun hc2 => take ?_, fun hc2 => ?_⟩⟩
    · by_cases hn : bsL W pr k = -1
      · rw [if_pos hn] at hc; omega
      · rw [if_neg hn] at hc; intro h; omega
    · by_cases hn : bsL W pr k = -1
      · exact Or.inl hn
      · rw [if_neg hn] at hc hc2; exact Or.inr (Or.inl (by omega))
    · have hn : bsL W pr k ≠ -1 := by intro hn; rw [if_pos hn] at hc2; omega
      rw [if_neg hn] at hc2
      have hb2 := hb.resolve_left hn
      refine a_ofSoap (by omega) (by omega) (by omega) (by omega) (a_ofSoap hb2.1 (by omega) (by omega) (by omega) ?_)
      rw [C2.2.1]
      refine ⟨fun hc3 => take (Or.inr (Or.inr ⟨by omega, hc3⟩)), fun hc3 => pass (fun h => ?_)⟩
      have hc3' : pr (bsL W pr k) ≤ pr k := hc3
      omega
theorem k_18 (hN : 5000 ≤ N) (I : IV N n X M q q' lw lw' P) (okX : okS X) (okM : okS M) : wl_18 N a1 a2 a3 a4 a5 X M (fun X1 M1 => Inv N (n + 1) X1 M1) := by
  unfold wl_18 w_L_best w_X11_best w_X12_best
  refine s_ckPart (fun p0 p1 v2 e2 v3 e3 v4 e4 v5 e5 => ?_) (fun hb => ⟨rfl, ?_⟩)
  · subst e2; subst e3; subst e4; subst e5
    refine x_best hN (I.CQ (by omega) okX) p0 p1 (fun X' C' F' S2 e2 => ?_)
    subst e2
    refine a_isPart (fun _ _ => ⟨fun _ => thrO (fun v2 e2 v3 e3 v4 e4 => ?_), fun hc => absurd hc (by decide)⟩) (fun hc => by omega)
    subst e2; subst e3; subst e4
    exact y_best hN ((I.MC okM).thr (by decide)) p0 p1 (fun M' D' G' => fin0 I F' G')
  · exact a_isPart (fun _ _ => by omega) (fun hc => ⟨fun hc => absurd rfl hc, fun _ => thrX (by decide) (finE I (by decide) (XF.rf _ _ _) (MQu.rf _))⟩)
end would
