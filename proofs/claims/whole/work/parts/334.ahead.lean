set_option maxHeartbeats 400000
set_option maxRecDepth 20000
/-! ===== the pure part: nights ahead ===== -/
def fAhead (A : mLaw) (d : Int) (f : mRow) : mRow := fPass (fAirs A (fup f 10 d) 8)
def fAhs (A : mLaw) (d : Int) (f : mRow) : Nat → mRow
  | 0 => f
  | k + 1 => fAhead A d (fAhs A d f k)
theorem RN.damp {f : mRow} {d : Int} (h : RN f) (d0 : 0 ≤ d) (d1 : d ≤ 9) : RN (fup f 10 d) := ⟨h.1.damp ⟨d0, d1⟩, by rw [fup_ne _ _ (by decide)]; exact h.2.1, by rw [fup_ne _ _ (by decide)]; exact h.2.2⟩
theorem RN.ahead {A : mLaw} {f : mRow} {d : Int} (hB : LB A) (h : RN f) (d0 : 0 ≤ d) (d1 : d ≤ 9) : RN (fAhead A d f) := ((h.damp d0 d1).airs hB).pass
theorem fAhead_hi (A : mLaw) (f : mRow) {d k : Int} (hk : k < 14 ∨ 62 ≤ k) (h5 : k ≠ 5) (h9 : k ≠ 9) (h10 : k ≠ 10) : fAhead A d f k = f k := by
  unfold fAhead fPass
  rw [fup_ne _ _ h9, fup_ne _ _ h5, fAirs_hi A _ hk 8 (by omega), fup_ne _ _ h10]
theorem fAhs_RN {A : mLaw} {f : mRow} {d : Int} (hB : LB A) (h : RN f) (d0 : 0 ≤ d) (d1 : d ≤ 9) : ∀ k : Nat, RN (fAhs A d f k)
  | 0 => h
  | k + 1 => (fAhs_RN hB h d0 d1 k).ahead hB d0 d1
theorem fAhs_hi (A : mLaw) (f : mRow) {d j : Int} (hj : j < 14 ∨ 62 ≤ j) (h5 : j ≠ 5) (h9 : j ≠ 9) (h10 : j ≠ 10) : ∀ k : Nat, fAhs A d f k j = f j
  | 0 => rfl
  | k + 1 => (fAhead_hi A _ hj h5 h9 h10).trans (fAhs_hi A f hj h5 h9 h10 k)
theorem fAhs_LM {N : Nat} {A : mLaw} {f : mRow} {d : Int} (hL : LM N f A) (k : Nat) : LM N (fAhs A d f k) A := hL.of (fAhs_hi A f (by omega) (by omega) (by omega) (by omega) k) (fAhs_hi A f (by omega) (by omega) (by omega) (by omega) k) (fun j hj _ => fAhs_hi A f (by omega) (by omega) (by omega) (by omega) k)
section ahead
variable {N n : Nat} {X M : mSt} {q q' lw lw' : Nat} {f g : mRow} {A : mLaw} {P : mPrg} {a1 a2 a3 a4 a5 : Int} {T : Int} {p s d : Int}
theorem y_ahead {Q : mSt → Prop} {S : mSt} (hN : 5000 ≤ N) (h1 : S 1 = g) (hL : LM N g A) (hB : LB A) (hok : okS S) (hR : RN g) (d0 : 0 ≤ d) (d1 : d ≤ 9) (h : ∀ S', okS S' → S' 1 = fAhead A d g → MG S S' → Q S') : w_X12_ahead N 0 d S Q := by
  subst h1
  intro S1 e1
  have h1 : S1 1 = fup (S 1) 10 d := by rw [e1]; exact mup_1 _ _ _
  have ok1 : okS S1 := by rw [e1]; exact okS_up hok (by unfold okI; omega)
  have hR1 := hR.damp d0 d1
  refine a_air (A := A) (by omega) (by rw [h1]; exact hL.of (fup_ne _ _ (by decide)) (fup_ne _ _ (by decide)) (fun k hk _ => fup_ne _ _ (by omega))) hB ok1 (by rw [h1]; exact hR1.1) (fun S2 ok2 h2 k2 v3 _ => ?_)
  rw [h1] at h2
  refine a_pass ok2 (by rw [h2]; exact hR1.airs hB) (fun S3 ok3 h3 k3 => ?_)
  refine h S3 ok3 (by rw [h3, h2]; rfl) ?_
  have k1 : MG S S1 := by rw [e1]; exact MG.up _ _
  exact (k1.tr k2).tr k3
theorem s_ahead {Q : mSt → Prop} {S : mSt} {r : Nat} (hN : 5000 ≤ N) (hA : LX N S lw A) (hB : LB A) (hok : okS S) (hM : RM S r g) (hR : RN g) (ap : lw + 6 < r ∨ r + 6 < lw) (d0 : 0 ≤ d) (d1 : d ≤ 9) (h : ∀ S', okS S' → RM S' r (fAhead A d g) → (∀ r', (r' < r ∨ r + 6 < r') → r' ≠ lw + 5 → r' ≠ lw + 6 → S' r' = S r') → Q S') : w_X5_goAhead N r lw d S Q := by
  intro S1 e1
  have m1 : RM S1 r (fup g 10 d) := by rw [e1]; exact hM.damp
  have ok1 : okS S1 := by rw [e1]; exact okS_up hok (by unfold okI; omega)
  refine s_air (by omega) (hA.of (fun j hj => by rw [e1, mup_ne _ _ _ (by omega)])) hB ok1 m1 (hR.damp d0 d1).1 ap (fun S2 ok2 m2 k2 S3 e3 => ?_)
  have e9 : S2 r 7 = fAirs A (fup g 10 d) 8 9 := m2.2.1
  rw [e9] at e3
  refine h S3 (by rw [e3]; exact okS_up ok2 (nm_ok _)) ?_ (fun r' a b c => by rw [e3, mup_ne _ _ _ (by omega), k2 r' (by omega) b c, e1, mup_ne _ _ _ (by omega)])
  rw [e3]
  exact (m2.other (i := 5) (by decide) (by decide) (by decide)).night
/-- the class, with a guessed moon -/
def CG (N : Nat) (X0 X : mSt) (q q' lw lw' : Nat) (f g : mRow) (A : mLaw) (T : Int) : Prop := CQ N X q q' lw lw' f A T ∧ XF q' lw X0 X ∧ RM X 198 g ∧ RN g
theorem g_start {Q : mSt → Prop} (C : CQ N X q q' lw lw' f A T) (h : ∀ X', CG N X X' q q' lw lw' f f A T → Q X') : w_X5_become N 198 (q + 1) X Q := x_guess C (fun X' C' F' m' => h X' ⟨C', F', m', C.2.2.2.1.1⟩)
theorem g_ahead {Q : mSt → Prop} {X0 : mSt} (hN : 5000 ≤ N) (C : CG N X0 X q q' lw lw' f g A T) (d0 : 0 ≤ d) (d1 : d ≤ 9) (h : ∀ X', CG N X0 X' q q' lw lw' f (fAhead A d g) A T → Q X') : w_X5_goAhead N 198 lw d X Q := by
  obtain ⟨C1, F1, m1, r1⟩ := C
  have C1' := C1
  obtain ⟨ok, ⟨k1, k2, k3, k4, k5, k6⟩, hL, hR, hB, hX⟩ := C1'
  refine s_ahead hN hX hB ok m1 r1 (by omega) d0 d1 (fun S' ok' m' k' => ?_)
  have F' : XF q' lw X S' := fun r a b c e => k' r (by omega) a b
  exact h S' ⟨C1.of ok' F', F1.tr F', m', r1.ahead hB d0 d1⟩
theorem g_light {Q : mSt → Int → Prop} {X0 : mSt} (C : CG N X0 X q q' lw lw' f g A T) (p0 : 0 ≤ p) (p1 : p < 8) (h : ∀ X', CG N X0 X' q q' lw lw' f g A T → Q X' (fLight A g p)) : w_X3_lightOf N lw 198 p X Q := by
  obtain ⟨C1, F1, m1, r1⟩ := C
  have C1' := C1
  obtain ⟨ok, ⟨k1, k2, k3, k4, k5, k6⟩, hL, hR, hB, hX⟩ := C1'
  exact s_light hX hB ok m1 r1.1 (by omega) p0 p1 (fun S' ok' k' => h S' ⟨C1.of ok' (C1.fr k'), F1.tr (C1.fr k'), m1.of (fun r a b => k' r (by omega) (by omega)), r1⟩)
theorem g_all {Q : mSt → Int → Prop} {X0 : mSt} (hN : 5000 ≤ N) (C : CG N X0 X q q' lw lw' f g A T) (h : ∀ X', CG N X0 X' q q' lw lw' f g A T → Q X' (fAll A g)) : w_X3_allLight N lw 198 X Q := by
  obtain ⟨C1, F1, m1, r1⟩ := C
  have C1' := C1
  obtain ⟨ok, ⟨k1, k2, k3, k4, k5, k6⟩, hL, hR, hB, hX⟩ := C1'
  exact s_all (by omega) hX hB ok m1 r1.1 (by omega) (fun S' ok' k' => h S' ⟨C1.of ok' (C1.fr k'), F1.tr (C1.fr k'), m1.of (fun r a b => k' r (by omega) (by omega)), r1⟩)
/-- the reference, with a row ahead, f put aside -/
def MGd (N : Nat) (M0 M : mSt) (f g : mRow) (A : mLaw) : Prop := okS M ∧ M 1 = g ∧ RN g ∧ LB A ∧ LM N g A ∧ MPu M0 M ∧ (∀ k, 0 ≤ k → k < 350 → M 4 k = f k) ∧ ∀ k, (k < 0 ∨ 350 ≤ k) → g k = f k
theorem n_aside {Q : mSt → Prop} (hN : 5000 ≤ N) (C : MC N M f A) (h : ∀ M', MGd N M M' f f A → Q M') : w_X12_putsAside N 0 M Q := by
  obtain ⟨ok, h1, hR, hB, hL⟩ := C
  refine a_aside hN (h _ ⟨okS_ck ok, by rw [mck_ne _ (by decide)]; exact h1, hR.1, hB, hL, MPu.ck (by omega), fun k a b => ?_, fun _ _ => rfl⟩)
  rw [mck_in _ (by omega) (by omega), h1]; congr 1; omega
theorem n_back {Q : mSt → Prop} {M0 : mSt} (hN : 5000 ≤ N) (C0 : MC N M0 f A) (C : MGd N M0 M f g A) (h : ∀ M', MC N M' f A → MQu M0 M' → Q M') : w_X12_comesBack N 0 M Q := by
  obtain ⟨ok, h1, hR, hB, hL, hP, h4, hx⟩ := C
  refine a_back hN ?_
  have e : (mck M 4 0 1 0 350) 1 = f := by
    funext i
    by_cases hi : 0 ≤ i ∧ i < 350
    · rw [mck_in _ (by omega) (by omega), show i - 0 + 0 = i by omega]; exact h4 i hi.1 hi.2
    · rw [mck_out _ (by omega), h1]; exact hx i (by omega)
  have hP' : MPu M0 (mck M 4 0 1 0 350) := hP.tr (MPu.ck (by omega))
  exact h _ (C0.of (okS_ck ok) (e.trans C0.2.1.symm)) (hP'.q (e.trans C0.2.1.symm))
theorem n_ahead {Q : mSt → Prop} {M0 : mSt} (hN : 5000 ≤ N) (C : MGd N M0 M f g A) (d0 : 0 ≤ d) (d1 : d ≤ 9) (h : ∀ M', MGd N M0 M' f (fAhead A d g) A → Q M') : w_X12_ahead N 0 d M Q := by
  obtain ⟨ok, h1, hR, hB, hL, hP, h4, hx⟩ := C
  have hi := fun k a b c e => fAhead_hi A g (d := d) (k := k) a b c e
  refine y_ahead hN h1 hL hB ok hR d0 d1 (fun S' ok' e' k' => h S' ⟨ok', e', hR.ahead hB d0 d1, hB, hL.of (hi _ (by omega) (by omega) (by omega) (by omega)) (hi _ (by omega) (by omega) (by omega) (by omega)) (fun k hk _ => hi _ (by omega) (by omega) (by omega) (by omega)), hP.tr k'.p, fun k a b => by rw [k'.1 4 (by decide) (by decide) (by decide)]; exact h4 k a b, fun k hk => (hi _ (by omega) (by omega) (by omega) (by omega)).trans (hx k hk)⟩)
theorem n_frame {M0 M' : mSt} (C : MGd N M0 M f g A) (ok' : okS M') (k' : MF M M') : MGd N M0 M' f g A := by
  obtain ⟨ok, h1, hR, hB, hL, hP, h4, hx⟩ := C
  exact ⟨ok', k'.m.trans h1, hR, hB, hL, hP.tr k'.p, fun k a b => by rw [k'.1 4 (by decide) (by decide)]; exact h4 k a b, hx⟩
theorem n_light {Q : mSt → Int → Prop} {M0 : mSt} (hN : 5000 ≤ N) (C : MGd N M0 M f g A) (p0 : 0 ≤ p) (p1 : p < 8) (h : ∀ M', MGd N M0 M' f g A → Q M' (fLight A g p)) : w_X12_lightOf N 0 p M Q := by
  have C' := C
  obtain ⟨ok, rfl, hR, hB, hL, -⟩ := C'
  exact a_light (by omega) hL hB ok hR.1 p0 p1 (fun S' ok' k' => h S' (n_frame C ok' k'))
theorem n_all {Q : mSt → Int → Prop} {M0 : mSt} (hN : 5000 ≤ N) (C : MGd N M0 M f g A) (h : ∀ M', MGd N M0 M' f g A → Q M' (fAll A g)) : w_X12_lightOfAll N 0 M Q := by
  have C' := C
  obtain ⟨ok, rfl, hR, hB, hL, -⟩ := C'
  exact a_all (by omega) hL hB ok hR.1 (fun S' ok' k' => h S' (n_frame C ok' k'))
/-- what ahead asks for -/
def fAsk (A : mLaw) (g : mRow) (p w : Int) : Int := if w = 0 then g (14 + 6 * p + 2) else if w = 1 then g (14 + 6 * p) else fLight A g p
theorem x_ahead54 {Q : mSt → Int → Prop} {E : String → mSt → Prop} {ko : Nat → Int → Int → mSt → Prop} {m : Nat} {w : Int} (hN : 5000 ≤ N) (hm : m ≤ 40) (C : CQ N X q q' lw lw' f A T) {X0 : mSt} (G : CG N X0 X q q' lw lw' f f A T) (d0 : 0 ≤ d) (d1 : d ≤ 9) (h : ∀ X', CG N X0 X' q q' lw lw' f (fAhs A d f m) A T → ko 0 p w X') : w_X11_ahead_54 N Q E ko N 0 p m d w 0 X := by
  refine lpUp (K := m) (W := fun n' k T => w_X11_ahead_54 N Q E ko n' 0 p m d w k T) (I := fun k T' => CG N X0 T' q q' lw lw' f (fAhs A d f k) A T) (fun n' T' hI => ?_) (fun n' k T' hk hI ih => ?_) (by omega) G
  · exact ⟨fun _ => h T' hI, fun hc => by omega⟩
  · have k3 := hI.1.2.1.2.2.1
    refine ⟨fun hc => by omega, fun _ q1 e1 => ?_⟩
    have := qe e1 k3
    subst q1
    refine g_ahead hN hI d0 d1 (fun T2 h2 v3 e3 => ?_)
    rw [nx8 (by omega)] at e3
    subst e3
    exact ih T2 h2
theorem y_ahead70 {Q : mSt → Int → Prop} {ko : Nat → Int → Int → mSt → Prop} {m : Nat} {w : Int} {M0 : mSt} (hN : 5000 ≤ N) (hm : m ≤ 40) (G : MGd N M0 M f f A) (d0 : 0 ≤ d) (d1 : d ≤ 9) (h : ∀ M', MGd N M0 M' f (fAhs A d f m) A → ko 0 p w M') : w_X12_ahead__70 N Q ko N 0 p m d w 0 M := by
  refine lpUp (K := m) (W := fun n' k T => w_X12_ahead__70 N Q ko n' 0 p m d w k T) (I := fun k T' => MGd N M0 T' f (fAhs A d f k) A) (fun n' T' hI => ?_) (fun n' k T' hk hI ih => ?_) (by omega) G
  · exact ⟨fun _ => h T' hI, fun hc => by omega⟩
  · refine ⟨fun hc => by omega, fun _ => n_ahead hN hI d0 d1 (fun T2 h2 v3 e3 => ?_)⟩
    rw [nx8 (by omega)] at e3
    subst e3
    exact ih T2 h2
theorem y_aheadQ {Q : mSt → Int → Prop} {m : Nat} {w : Int} (hN : 5000 ≤ N) (C : MC N M f A) (p0 : 0 ≤ p) (p1 : p < 8) (hm : m ≤ 40) (d0 : 0 ≤ d) (d1 : d ≤ 9) (w0 : 0 ≤ w) (w1 : w ≤ 2) (h : ∀ M', MQu (mup M 0 0 0) M' → Q M' (fAsk A (fAhs A d f m) p w)) : w_X12_ahead_ N 0 p m d w M Q := by
  have D := C.thr (v := 0) (by decide)
  unfold w_X12_ahead_
  refine a_isPart (fun _ _ => ⟨fun _ => a_isIn (fun _ _ => ⟨fun hc => absurd hc (by decide), fun _ => a_isIn (fun _ _ => ⟨fun _ => a_isIn (fun _ _ => ⟨fun _ => thrO ?_, fun hc => absurd hc (by decide)⟩) (fun hc => by omega), fun hc => absurd hc (by decide)⟩) (fun hc => by omega)⟩) (fun hc => by omega), fun hc => absurd hc (by decide)⟩) (fun hc => by omega)
  refine n_aside hN D (fun M1 D1 v3 e3 => ?_)
  subst e3
  have fin : ∀ Mz w', MGd N (mup M 0 0 0) Mz f (fAhs A d f m) A → w' = fAsk A (fAhs A d f m) p w → w_X12_ahead__121 N Q 0 w' Mz := by
    intro Mz w' Dz ew v1 e1
    refine n_back hN D Dz (fun M' D' G' => ?_)
    rw [e1, ew]
    exact h M' G'
  refine y_ahead70 hN hm D1 d0 d1 (fun Mz Dz => ⟨fun hw => ⟨fun hw1 => n_light hN Dz p0 p1 (fun M2 D2 => fin M2 _ D2 ?_), fun hw1 => a_of p0 p1 (by omega) (by omega) (fin Mz _ Dz ?_)⟩, fun hw => a_of p0 p1 (by omega) (by omega) (fin Mz _ Dz ?_)⟩)
  · unfold fAsk; rw [if_neg hw, if_neg hw1]
  · rw [Dz.2.1]; unfold fAsk; rw [if_neg hw, if_pos hw1]; congr 1; omega
  · rw [Dz.2.1]; unfold fAsk; rw [if_pos hw]
theorem k_24 (hN : 5000 ≤ N) (I : IV N n X M q q' lw lw' P) (okX : okS X) (okM : okS M) : wl_24 N a1 a2 a3 a4 a5 X M (fun X1 M1 => Inv N (n + 1) X1 M1) := by
  obtain ⟨⟨hq, -, hlw, -⟩, -⟩ := id I
  have C := I.CQ (by omega) okX
  unfold wl_24 w_L_ahead w_X11_ahead
  refine s_ckPart (fun p0 p1 => s_ckNum (fun n0 n1 => s_ckNum (fun d0 d1 => ⟨fun w0 => Or.inr (Or.inr ⟨rfl, ?_⟩), fun w0 => ⟨fun w2 => ?_, fun w2 => Or.inr (Or.inr ⟨rfl, ?_⟩)⟩⟩) (fun hb => Or.inr (Or.inl ⟨rfl, ?_⟩))) (fun hb => Or.inr (Or.inl ⟨rfl, ?_⟩))) (fun hb => Or.inl ⟨rfl, ?_⟩)
  · exact a_isPart (fun _ _ => ⟨fun _ => a_isIn (fun _ _ => ⟨fun hc => absurd hc (by decide), fun _ => a_isIn (fun _ _ => ⟨fun _ => a_isIn (fun _ _ => by omega) (fun _ => ⟨fun hc => absurd rfl hc, fun _ => thrX (by decide) (finE I (by decide) (XF.rf _ _ _) (MQu.rf _))⟩), fun hc => absurd hc (by decide)⟩) (fun hc => by omega)⟩) (fun hc => by omega), fun hc => absurd hc (by decide)⟩) (fun hc => by omega)
  · intro q4 e4
    have := qe e4 hq
    subst q4
    obtain ⟨m, rfl⟩ : ∃ m : Nat, a2 = m := ⟨a2.toNat, by omega⟩
    refine g_start C (fun X1 G1 v6 e6 => ?_)
    subst e6
    refine x_ahead54 hN (by omega) G1.1 G1 d0 d1 (fun X2 G2 => ?_)
    have md : ∀ X', XF q' lw X X' → ∀ v, v = fAsk (AP P) (fAhs (AP P) a3 (M 1) m) a1 a4 → ∀ S2 : mSt, S2 = mup X' 250 0 v → w_X12_ahead_ N 0 a1 m a3 a4 M (fun (M2 : mSt) (v2 : Int) => w_X12_thrown N 0 M2 (fun (M3 : mSt) (v3 : Int) => v3 = 0 ∧ ((0 : Int) = 0 → (S2 250 0) = v2) ∧ Inv N (n + 1) S2 M3)) := by
      intro X' F' v ev S2 e2
      subst e2
      refine y_aheadQ hN (I.MC okM) p0 p1 (by omega) d0 d1 w0 w2 (fun M' G' => ?_)
      rw [← ev]
      exact fin0 I F' G'
    refine ⟨fun hw => ⟨fun hw1 q8 e8 => ?_, fun hw1 => ⟨p0, p1, md _ G2.2.1 _ ?_⟩⟩, fun hw => ⟨p0, p1, md _ G2.2.1 _ ?_⟩⟩
    · have := qe e8 G2.1.2.1.2.2.1
      subst q8
      refine g_light G2 p0 p1 (fun X3 G3 => md _ G3.2.1 _ ?_)
      unfold fAsk; rw [if_neg hw, if_neg hw1]
    · have := (G2.2.2.1.1 a1 p0 p1).1
      rw [show (0 + 198 + 1 : Nat) = 198 + 1 from rfl, this]
      unfold fAsk; rw [if_neg hw, if_pos hw1]
    · have := (G2.2.2.1.1 a1 p0 p1).2.2.1
      rw [show (0 + 198 + 3 : Nat) = 198 + 3 from rfl, this]
      unfold fAsk; rw [if_pos hw]
  · exact a_isPart (fun _ _ => ⟨fun _ => a_isIn (fun _ _ => ⟨fun hc => absurd hc (by decide), fun _ => a_isIn (fun _ _ => ⟨fun _ => a_isIn (fun _ _ => by omega) (fun _ => ⟨fun hc => absurd rfl hc, fun _ => thrX (by decide) (finE I (by decide) (XF.rf _ _ _) (MQu.rf _))⟩), fun hc => absurd hc (by decide)⟩) (fun hc => by omega)⟩) (fun hc => by omega), fun hc => absurd hc (by decide)⟩) (fun hc => by omega)
  · exact a_isPart (fun _ _ => ⟨fun _ => a_isIn (fun _ _ => ⟨fun hc => absurd hc (by decide), fun _ => a_isIn (fun _ _ => by omega) (fun _ => ⟨fun hc => absurd rfl hc, fun _ => thrX (by decide) (finE I (by decide) (XF.rf _ _ _) (MQu.rf _))⟩)⟩) (fun hc => by omega), fun hc => absurd hc (by decide)⟩) (fun hc => by omega)
  · exact a_isPart (fun _ _ => ⟨fun _ => a_isIn (fun _ _ => by omega) (fun _ => ⟨fun _ => thrX (by decide) (finE I (by decide) (XF.rf _ _ _) (MQu.rf _)), fun hc => absurd rfl hc⟩), fun hc => absurd hc (by decide)⟩) (fun hc => by omega)
  · exact a_isPart (fun _ _ => by omega) (fun hc => ⟨fun hc => absurd rfl hc, fun _ => thrX (by decide) (finE I (by decide) (XF.rf _ _ _) (MQu.rf _))⟩)
end ahead
