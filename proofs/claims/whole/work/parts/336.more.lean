set_option maxHeartbeats 400000
set_option maxRecDepth 20000
/-! ===== the pure part: span, dried, like, halves ===== -/
section more
variable {N n : Nat} {X M : mSt} {q q' lw lw' : Nat} {f g : mRow} {A : mLaw} {P : mPrg} {a1 a2 a3 a4 a5 : Int} {T : Int} {p s d x : Int}
/-- all light behind m nights from a seed -/
def spV (A : mLaw) (f : mRow) (m : Nat) (s : Int) : Int := fAll A (fNs A (fup f 12 s) m)
def spL (A : mLaw) (f : mRow) (m : Nat) (b : Int) : Nat → Int
  | 0 => if b = 0 then 160 else 0
  | k + 1 => if b = 0 then min (spL A f m b k) (spV A f m (k + 1 : Nat)) else max (spL A f m b k) (spV A f m (k + 1 : Nat))
theorem spV_ok (A : mLaw) (f : mRow) (m : Nat) (s : Int) : 0 ≤ spV A f m s ∧ spV A f m s ≤ 160 := fSum_ok A _ 8
theorem spL_ok (A : mLaw) (f : mRow) (m : Nat) (b : Int) : ∀ k : Nat, 0 ≤ spL A f m b k ∧ spL A f m b k ≤ 160
  | 0 => by unfold spL; split <;> omega
  | k + 1 => by
    have := spL_ok A f m b k
    have := spV_ok A f m (k + 1 : Nat)
    unfold spL
    split <;> omega
theorem x_span {Q : mSt → Int → Prop} {E : String → mSt → Prop} {m : Nat} {b : Int} (hN : 5000 ≤ N) (hm : m ≤ 40) (hP : PG P) (hlw : LWR X lw P) (C : CQ N X q q' lw lw' f (AP P) T) (h : ∀ X', XF q' lw X X' → Q X' (spL (AP P) f m b 6)) : w_X11_span_22 N Q E (fun (x3_3 : Int) (S_3 : mSt) => Q S_3 x3_3) N 0 m b (spL (AP P) f m b 0) 1 X := by
  refine lpUp (K := 6) (W := fun n' k T' => w_X11_span_22 N Q E (fun (x3_3 : Int) (S_3 : mSt) => Q S_3 x3_3) n' 0 m b (spL (AP P) f m b k) ((k + 1 : Nat)) T') (I := fun k T' => CQ N T' q q' lw lw' f (AP P) T ∧ XF q' lw X T' ∧ LWR T' lw P) (fun n' T' hI => ?_) (fun n' k T' hk hI ih => ?_) (by omega) ⟨C, XF.rf _ _ _, hlw⟩
  · exact ⟨fun _ => h T' hI.2.1, fun hc => by omega⟩
  · obtain ⟨C', F', lw'⟩ := hI
    refine ⟨fun hc => by omega, fun _ => x_try hN hm hP lw' C' (by unfold okI; omega) (fun X3 C3 F3 lw3 m3 q2 e2 q3 e3 => ?_)⟩
    have := qe e2 C3.2.1.2.2.1
    have := qe e3 C3.2.1.2.1
    subst q2 q3
    have hB := C.2.2.2.2.1
    have hR := C.2.2.2.1
    have hR' : RN (fup f 12 ((k + 1 : Nat) : Int)) := ⟨hR.1.1.other (by decide) (by decide) (by decide), by rw [fup_ne _ _ (by decide)]; exact hR.1.2.1, by rw [fup_ne _ _ (by decide)]; exact hR.1.2.2⟩
    have hRn := fNs_RN hB hR' m
    obtain ⟨-, ⟨-, -, -, -, k5, k6⟩, -⟩ := id C3
    refine s_all (by omega) C3.2.2.2.2.2 hB C3.1 m3 hRn.1 (by omega) (fun X4 ok4 k4 v5 e5 => ?_)
    have e5' : v5 = spV (AP P) f m (k + 1 : Nat) := e5
    have C4 := C3.of ok4 (C3.fr k4)
    have lw4 : LWR X4 lw P := lw3.of hP.1 (by rw [k4 lw (by omega) (by omega)]) (fun j a b i _ _ => by rw [k4 _ (by omega) (by omega)]) (fun i _ _ => by rw [k4 _ (by omega) (by omega)])
    refine ⟨fun hb v1 e1 v2 e2 => ?_, fun hb v1 e1 v2 e2 => ?_⟩
    · rw [nx8 (by omega)] at e2
      rw [iMin_min, e5'] at e1
      have e6 : v1 = spL (AP P) f m b (k + 1) := by
        rw [e1]
        show _ = if _ then _ else _
        rw [if_pos hb]
      subst e2
      rw [e6]
      exact ih X4 ⟨C4, (F'.tr F3).tr (C3.fr k4), lw4⟩
    · rw [nx8 (by omega)] at e2
      rw [iMax_max, e5'] at e1
      have e6 : v1 = spL (AP P) f m b (k + 1) := by
        rw [e1]
        show _ = if _ then _ else _
        rw [if_neg hb]
      subst e2
      rw [e6]
      exact ih X4 ⟨C4, (F'.tr F3).tr (C3.fr k4), lw4⟩
theorem n_backG {Q : mSt → Prop} {M0 : mSt} (hN : 5000 ≤ N) (C0 : MC N M0 f A) (C : MGd N M0 M f g A) (h : ∀ M', MGd N M0 M' f f A → Q M') : w_X12_comesBack N 0 M Q := by
  obtain ⟨ok, h1, hR, hB, hL, hP, h4, hx⟩ := C
  obtain ⟨-, -, hR0, -, hL0⟩ := C0
  refine a_back hN ?_
  have e : (mck M 4 0 1 0 350) 1 = f := by
    funext i
    by_cases hi : 0 ≤ i ∧ i < 350
    · rw [mck_in _ (by omega) (by omega), show i - 0 + 0 = i by omega]; exact h4 i hi.1 hi.2
    · rw [mck_out _ (by omega), h1]; exact hx i (by omega)
  exact h _ ⟨okS_ck ok, e, hR0.1, hB, hL0, hP.tr (MPu.ck (by omega)), fun k a b => by rw [mck_ne _ (by decide)]; exact h4 k a b, fun _ _ => rfl⟩
theorem y_spanQ {Q : mSt → Int → Prop} {m : Nat} {b : Int} (hN : 5000 ≤ N) (hm : m ≤ 40) (C : MC N M f A) (h : ∀ M', MQu (mup M 0 0 0) M' → Q M' (spL A f m b 6)) : w_X12_span N 0 m b M Q := by
  have D := C.thr (v := 0) (by decide)
  unfold w_X12_span
  refine a_isIn (fun _ _ => ⟨fun _ => thrO ?_, fun hc => absurd hc (by decide)⟩) (fun hc => by omega)
  refine n_aside hN D (fun M1 D1 v3 e3 v4 e4 => ?_)
  subst e3; subst e4
  refine lpUp (K := 6) (W := fun n' k T' => w_X12_span_37 N Q (fun (x3_5 : Int) (S_5 : mSt) => Q S_5 x3_5) n' 0 m b (if k = 0 then -1 else spL A f m b k) ((k + 1 : Nat)) T') (I := fun k T' => MGd N (mup M 0 0 0) T' f f A) (fun n' T' hI => ?_) (fun n' k T' hk hI ih => ?_) (by omega) D1
  · obtain ⟨ok, h1, -, -, -, hP, -⟩ := hI
    exact ⟨fun _ => h T' (hP.q (h1.trans D.2.1.symm)), fun hc => by omega⟩
  · refine ⟨fun hc => by omega, fun _ S1 e1 => ?_⟩
    refine n_goes hN hm hI (v := ((k + 1 : Nat) : Int)) (by unfold okI; omega) e1 (fun M2 c D2 v3 e3 => ?_)
    refine n_all hN D2 (fun M3 D3 v5 e5 => n_backG hN D D3 (fun M4 hI4 => ?_))
    have e5' : v5 = spV A f m (k + 1 : Nat) := e5
    have hv := spV_ok A f m (k + 1 : Nat)
    have hl := spL_ok A f m b k
    have nxt : ∀ w, w = spL A f m b (k + 1) → w_X12_span_99 N Q (w_X12_span_37 N Q (fun (x3_5 : Int) (S_5 : mSt) => Q S_5 x3_5) n') 0 m b ((k + 1 : Nat)) w M4 := by
      intro w ew v1 e1 v2 e2
      rw [nx8 (by omega)] at e2
      subst e2
      have := ih M4 hI4
      rw [if_neg (by omega)] at this
      rw [e1, ew]
      exact this
    refine ⟨fun hc => ⟨fun hb => a_lesser (nxt _ ?_), fun hb => a_greater (nxt _ ?_)⟩, fun hc => nxt _ ?_⟩
    · rw [if_neg (by intro z; rw [if_pos z] at hc; exact hc rfl), e5']
      show _ = if _ then _ else _
      rw [if_pos hb]
    · rw [if_neg (by intro z; rw [if_pos z] at hc; exact hc rfl), e5']
      show _ = if _ then _ else _
      rw [if_neg hb]
    · have hk0 : k = 0 := by
        by_cases z : k = 0
        · exact z
        · rw [if_neg z] at hc; omega
      subst hk0
      have hv' : 0 ≤ spV A f m ((0 + 1 : Nat) : Int) ∧ spV A f m ((0 + 1 : Nat) : Int) ≤ 160 := spV_ok A f m _
      rw [e5']
      show spV A f m ((0 + 1 : Nat) : Int) = (if b = 0 then min (if b = 0 then 160 else 0) (spV A f m ((0 + 1 : Nat) : Int)) else max (if b = 0 then 160 else 0) (spV A f m ((0 + 1 : Nat) : Int)))
      generalize spV A f m ((0 + 1 : Nat) : Int) = z at hv' ⊢
      clear hv hl
      by_cases hb : b = 0
      · rw [if_pos hb, if_pos hb]; omega
      · rw [if_neg hb, if_neg hb]; omega
theorem k_37 (hN : 5000 ≤ N) (I : IV N n X M q q' lw lw' P) (okX : okS X) (okM : okS M) : wl_37 N a1 a2 a3 a4 a5 X M (fun X1 M1 => Inv N (n + 1) X1 M1) := by
  obtain ⟨-, -, -, -, -, ⟨pg, plw, -, -⟩, -⟩ := id I
  have C := I.CQ (by omega) okX
  unfold wl_37 w_L_span w_X11_span
  generalize bI a2 = b2
  refine s_ckNum (fun n0 n1 => ?_) (fun hb => ⟨rfl, ?_⟩)
  · obtain ⟨m, rfl⟩ : ∃ m : Nat, a1 = m := ⟨a1.toNat, by omega⟩
    have go : ∀ v, v = spL (AP P) (M 1) m b2 0 → ∀ (Q : mSt → Int → Prop) (E : String → mSt → Prop), (∀ X', XF q' lw X X' → Q X' (spL (AP P) (M 1) m b2 6)) → w_X11_span_18 N Q E 0 m b2 v X := by
      intro v ev Q E hQ v1 e1 v2 e2
      subst e2
      rw [e1, ev]
      exact x_span hN (by omega) pg plw C hQ
    refine ⟨fun hb => go _ ?_ _ _ (fun X' F' S2 e2 => ?_), fun hb => go _ ?_ _ _ (fun X' F' S2 e2 => ?_)⟩
    · unfold spL; rw [if_pos hb]
    · subst e2
      exact y_spanQ hN (by omega) (I.MC okM) (fun M' G' => fin0 I F' G')
    · unfold spL; rw [if_neg hb]
    · subst e2
      exact y_spanQ hN (by omega) (I.MC okM) (fun M' G' => fin0 I F' G')
  · exact a_isIn (fun _ _ => by omega) (fun _ => ⟨fun hc => absurd rfl hc, fun _ => thrX (by decide) (finE I (by decide) (XF.rf _ _ _) (MQu.rf _))⟩)
-- like
theorem y_like1 {Q : mSt → Int → Prop} {ko : Nat → mSt → Prop} {S : mSt} (hN : 5000 ≤ N) (hok : okS S) (h : ∀ S', okS S' → (∀ r, r ≠ 1 → r ≠ 3 → S' r = S r) → (∀ k, S' 1 k = if 0 ≤ k ∧ k < 750 then S 2 k else S 1 k) → (∀ k, 0 ≤ k → k < 750 → S' 3 k = S 1 k) → ko 0 S') : w_X12_like_20 N Q ko N 0 0 S := by
  refine lpUp (K := 750) (W := fun n k T => w_X12_like_20 N Q ko n 0 k T) (I := fun k S' => okS S' ∧ (∀ r, r ≠ 1 → r ≠ 3 → S' r = S r) ∧ (∀ j : Int, S' 1 j = if 0 ≤ j ∧ j < (k : Int) then S 2 j else S 1 j) ∧ ∀ j : Int, 0 ≤ j → j < (k : Int) → S' 3 j = S 1 j) (fun n S' hI => ?_) (fun n k S' hk hI ih => ?_) (by omega) ⟨hok, fun _ _ _ => rfl, fun j => by rw [if_neg (by omega)], fun j a b => by omega⟩
  · exact ⟨fun _ => h S' hI.1 hI.2.1 hI.2.2.1 hI.2.2.2, fun hc => by omega⟩
  · obtain ⟨i1, i2, i3, i4⟩ := hI
    refine ⟨fun hc => by omega, fun _ => ⟨by omega, by omega, by omega, by omega, fun S3 e3 => ⟨by omega, by omega, by omega, by omega, fun S6 e6 v7 e7 => ?_⟩⟩⟩
    rw [nx8 (by omega)] at e7
    subst e7
    have ok3 : okS S3 := by rw [e3]; exact okS_up i1 (i1 _ _)
    refine ih S6 ⟨by rw [e6]; exact okS_up ok3 (ok3 _ _), fun r a b => ?_, fun j => ?_, fun j a b => ?_⟩
    · rw [e6, mup_ne _ _ _ a, e3, mup_ne _ _ _ b]; exact i2 r a b
    · rw [e6, Nat.zero_add, mup_at, e3, mup_ne _ _ _ (by decide), mup_ne _ _ _ (by decide)]
      by_cases hj : j = k
      · subst hj
        rw [if_pos rfl, if_pos (by omega), i2 2 (by decide) (by decide)]
      · rw [if_neg hj, i3 j]
        by_cases hb : 0 ≤ j ∧ j < (k : Int)
        · rw [if_pos hb, if_pos (by omega)]
        · rw [if_neg hb, if_neg (by omega)]
    · rw [e6, mup_ne _ _ _ (by decide), e3, Nat.zero_add]
      by_cases hj : j = k
      · subst hj
        rw [mup_same, Nat.zero_add, i3, if_neg (by omega)]
      · rw [mup_i _ _ _ hj]; exact i4 j a (by omega)
theorem y_like2 {Q : mSt → Int → Prop} {ko : Int → mSt → Prop} {S : mSt} {x1 : Int} (hN : 5000 ≤ N) (hok : okS S) (h : ko x1 (mck S 3 0 1 0 750)) : w_X12_like_97 N Q ko N 0 x1 0 S := by
  refine lpUp (K := 750) (W := fun n k T => w_X12_like_97 N Q ko n 0 x1 k T) (I := fun k T => T = mck S 3 0 1 0 k) (fun n T hI => ?_) (fun n k T hk hI ih => ?_) (by omega) (mck_0 _ _ _ _ _).symm
  · refine ⟨fun _ => ?_, fun hc => by omega⟩
    rw [hI]; exact h
  · refine ⟨fun hc => by omega, fun _ => ⟨by omega, by omega, by omega, by omega, fun S3 e3 v4 e4 => ?_⟩⟩
    rw [nm_of (by omega) (by omega)] at e4
    subst e4
    refine ih S3 ?_
    have := mck_step S (r1 := 3) (r2 := 1) (o1 := 0) (o2 := 0) (n := k) (by omega) (by omega)
    rw [Int.zero_add, ← hI] at this
    rw [e3]; exact this
def lkL (g h : Int → Int) : Nat → Int
  | 0 => 0
  | k + 1 => if g k = h k then lkL g h k + 1 else lkL g h k
theorem lkL_ok (g h : Int → Int) : ∀ k : Nat, 0 ≤ lkL g h k ∧ lkL g h k ≤ k
  | 0 => by unfold lkL; omega
  | k + 1 => by have := lkL_ok g h k; unfold lkL; split <;> omega
theorem lkL_sym (g h : Int → Int) : ∀ k : Nat, lkL g h k = lkL h g k
  | 0 => rfl
  | k + 1 => by
    unfold lkL
    rw [lkL_sym g h k]
    by_cases e : g k = h k
    · rw [if_pos e, if_pos e.symm]
    · rw [if_neg e, if_neg (Ne.symm e)]
theorem lkL_cong {g g' h h' : Int → Int} : ∀ k : Nat, (∀ j : Nat, j < k → g j = g' j ∧ h j = h' j) → lkL g h k = lkL g' h' k
  | 0, _ => rfl
  | k + 1, e => by
    unfold lkL
    rw [lkL_cong k (fun j hj => e j (by omega)), (e k (by omega)).1, (e k (by omega)).2]
theorem k_34 (hN : 5000 ≤ N) (I : IV N n X M q q' lw lw' P) (okX : okS X) (okM : okS M) : wl_34 N a1 a2 a3 a4 a5 X M (fun X1 M1 => Inv N (n + 1) X1 M1) := by
  obtain ⟨⟨hq, -, hlw, -, k5, k6⟩, -, -, -, hR, -, -, hG⟩ := id I
  have C := I.CQ (by omega) okX
  have D := (I.MC okM).thr (v := 0) (by decide)
  unfold wl_34 w_X11_like w_X12_like
  rcases hG with ⟨g1, g2⟩ | ⟨g1, g2, g3, g4, B, g5, g6, g7, g8, g9⟩
  · refine ⟨fun hc => absurd g2 hc, fun _ S1 e1 => ?_⟩
    subst e1
    have z4 : (mup M 0 0 0) 0 4 = 0 := by rw [mup_i _ _ _ (by decide)]; exact g1
    rw [z4]
    exact ⟨fun hc => absurd rfl hc, fun _ => ⟨rfl, I.next (XF.rf _ _ _) (MQu.rf _)⟩⟩
  · refine ⟨fun _ v1 e1 v2 e2 => ?_, fun hc => absurd (g2.symm.trans hc) (by decide)⟩
    subst e1; subst e2
    have model : ∀ X', XF q' lw X X' → ∀ S1 : mSt, S1 = mup M 0 0 0 → (((S1 0 4) ≠ 0 → w_X12_looks N 0 S1 (fun (S2 : mSt) => ∀ v3 : Int, v3 = 0 → w_X12_like_20 N (fun (M2 : mSt) (v2 : Int) => lkL (fLight (AP P) (M 1)) (X 197) 8 = v2 ∧ Inv N (n + 1) X' M2) (fun (r0_4 : Nat) (S_4 : mSt) => ∀ v5 : Int, v5 = 0 → ∀ v6 : Int, v6 = 0 → w_X12_like_61 N (fun (M2 : mSt) (v2 : Int) => lkL (fLight (AP P) (M 1)) (X 197) 8 = v2 ∧ Inv N (n + 1) X' M2) (fun (r0_7 : Nat) (x1_7 : Int) (S_7 : mSt) => ∀ v8 : Int, v8 = 0 → w_X12_like_97 N (fun (M2 : mSt) (v2 : Int) => lkL (fLight (AP P) (M 1)) (X 197) 8 = v2 ∧ Inv N (n + 1) X' M2) (fun (x1_9 : Int) (S_9 : mSt) => lkL (fLight (AP P) (M 1)) (X 197) 8 = x1_9 ∧ Inv N (n + 1) X' S_9) N r0_7 x1_7 v8 S_7) N r0_4 v5 v6 S_4) N 0 v3 S2)) ∧ ((S1 0 4) = 0 → (lkL (fLight (AP P) (M 1)) (X 197) 8 = (-1) ∧ Inv N (n + 1) X' S1))) := by
      intro X' F' S1 e1
      subst e1
      have z4 : (mup M 0 0 0) 0 4 = 1 := by rw [mup_i _ _ _ (by decide)]; exact g1
      rw [z4]
      refine ⟨fun _ => y_looks hN D (fun M2 D2 G2 L2 v3 e3 => ?_), fun hc => absurd hc (by decide)⟩
      subst e3
      have h21 : M2 1 = M 1 := D2.2.1
      have h22 : M2 2 = M 2 := by rw [G2.1.2.1, mup_ne _ _ _ (by decide)]
      refine y_like1 hN D2.1 (fun M4 ok4 c4 r4 s4 v5 e5 v6 e6 => ?_)
      subst e5; subst e6
      have eq4 : EQ (M 2) (M4 1) := fun k a b => by rw [r4 k, if_pos (by omega), h22]
      have hR4 : RR (M4 1) := g4.congr eq4
      have hB := AP_LB g5
      have lm4 : LM N (M4 1) (AP B) := g7.of (by rw [r4, if_pos (by decide), h22]) (by rw [r4, if_pos (by decide), h22]) (fun k a b => by rw [r4, if_pos (by omega), h22])
      have P4 : MPu M2 M4 := ⟨⟨c4 2 (by decide) (by decide), c4 5 (by decide) (by decide), c4 6 (by decide) (by decide), fun r x y => c4 r (by omega) (by omega)⟩, by rw [c4 0 (by decide) (by decide)], by rw [c4 0 (by decide) (by decide)], by rw [c4 0 (by decide) (by decide)], by rw [c4 0 (by decide) (by decide)], by rw [c4 0 (by decide) (by decide)], fun b => b.of (by rw [c4 0 (by decide) (by decide)]) (by rw [c4 0 (by decide) (by decide)])⟩
      refine lpUp (K := 8) (W := fun n' k T' => w_X12_like_61 N (fun (M2 : mSt) (v2 : Int) => lkL (fLight (AP P) (M 1)) (X 197) 8 = v2 ∧ Inv N (n + 1) X' M2) (fun (r0_7 : Nat) (x1_7 : Int) (S_7 : mSt) => ∀ v8 : Int, v8 = 0 → w_X12_like_97 N (fun (M2 : mSt) (v2 : Int) => lkL (fLight (AP P) (M 1)) (X 197) 8 = v2 ∧ Inv N (n + 1) X' M2) (fun (x1_9 : Int) (S_9 : mSt) => lkL (fLight (AP P) (M 1)) (X 197) 8 = x1_9 ∧ Inv N (n + 1) X' S_9) N r0_7 x1_7 v8 S_7) n' 0 (lkL (fLight (AP B) (M4 1)) (fLight (AP P) (M 1)) k) k T') (I := fun k T' => okS T' ∧ MF M4 T') (fun n' T' hI => ?_) (fun n' k T' hk hI ih => ?_) (by omega) ⟨ok4, MF.rf _⟩
      · obtain ⟨i1, i2⟩ := hI
        refine ⟨fun _ v8 e8 => ?_, fun hc => by omega⟩
        subst e8
        refine y_like2 hN i1 ⟨?_, ?_⟩
        · rw [lkL_sym]
          refine lkL_cong 8 (fun j hj => ⟨?_, rfl⟩)
          rw [g9 j (by omega) (by omega)]
          exact (fLight_congr g4.1.1 eq4 (by omega) (by omega)).symm
        · have e1 : (mck T' 3 0 1 0 750) 1 = M2 1 := by
            funext j
            by_cases hj : 0 ≤ j ∧ j < 750
            · rw [mck_in _ (by omega) (by omega), show j - 0 + 0 = j by omega, i2.1 3 (by decide) (by decide)]
              exact s4 j hj.1 hj.2
            · rw [mck_out _ (by omega), i2.m, r4 j, if_neg hj]
          exact I.next F' (G2.tr (((P4.tr i2.p).tr (MPu.ck (by omega))).q e1))
      · obtain ⟨i1, i2⟩ := hI
        have hl := lkL_ok (fLight (AP B) (M4 1)) (fLight (AP P) (M 1)) k
        refine ⟨fun hc => by omega, fun _ => ?_⟩
        refine a_light (A := AP B) (by omega) (by rw [i2.m]; exact lm4) hB i1 (by rw [i2.m]; exact hR4.1.1) (by omega) (by omega) (fun M5 ok5 k5 => ⟨by omega, by omega, ?_⟩)
        rw [i2.m]
        have e12 : M5 (0 + 12) k = fLight (AP P) (M 1) k := by
          rw [Nat.zero_add, k5.1 12 (by decide) (by decide), i2.1 12 (by decide) (by decide), c4 12 (by decide) (by decide)]
          exact L2 k (by omega) (by omega)
        rw [e12]
        refine ⟨fun hc v1 e1 v2 e2 => ?_, fun hc v1 e1 v2 e2 => ?_⟩
        · rw [nx8 (by omega)] at e2
          rw [nm_of (by omega) (by omega)] at e1
          have e5 : v1 = lkL (fLight (AP B) (M4 1)) (fLight (AP P) (M 1)) (k + 1) := by
            rw [e1, Int.add_zero]
            show _ = if _ then _ else _
            rw [if_neg hc]
          subst e2
          rw [e5]
          exact ih M5 ⟨ok5, i2.tr k5⟩
        · rw [nx8 (by omega)] at e2
          rw [nm_of (by omega) (by omega)] at e1
          have e5 : v1 = lkL (fLight (AP B) (M4 1)) (fLight (AP P) (M 1)) (k + 1) := by
            rw [e1]
            show _ = if _ then _ else _
            rw [if_pos hc]
          subst e2
          rw [e5]
          exact ih M5 ⟨ok5, i2.tr k5⟩
    refine lpUp (K := 8) (W := fun n' k T' => w_X11_like_16 N (fun (X1 : mSt) (v1 : Int) => ∀ S1 : mSt, S1 = mup M 0 0 0 → (((S1 0 4) ≠ 0 → w_X12_looks N 0 S1 (fun (S2 : mSt) => ∀ v3 : Int, v3 = 0 → w_X12_like_20 N (fun (M2 : mSt) (v2 : Int) => v1 = v2 ∧ Inv N (n + 1) X1 M2) (fun (r0_4 : Nat) (S_4 : mSt) => ∀ v5 : Int, v5 = 0 → ∀ v6 : Int, v6 = 0 → w_X12_like_61 N (fun (M2 : mSt) (v2 : Int) => v1 = v2 ∧ Inv N (n + 1) X1 M2) (fun (r0_7 : Nat) (x1_7 : Int) (S_7 : mSt) => ∀ v8 : Int, v8 = 0 → w_X12_like_97 N (fun (M2 : mSt) (v2 : Int) => v1 = v2 ∧ Inv N (n + 1) X1 M2) (fun (x1_9 : Int) (S_9 : mSt) => v1 = x1_9 ∧ Inv N (n + 1) X1 S_9) N r0_7 x1_7 v8 S_7) N r0_4 v5 v6 S_4) N 0 v3 S2)) ∧ ((S1 0 4) = 0 → (v1 = (-1) ∧ Inv N (n + 1) X1 S1)))) (fun (x1_3 : Int) (S_3 : mSt) => ∀ S1 : mSt, S1 = mup M 0 0 0 → (((S1 0 4) ≠ 0 → w_X12_looks N 0 S1 (fun (S2 : mSt) => ∀ v3 : Int, v3 = 0 → w_X12_like_20 N (fun (M2 : mSt) (v2 : Int) => x1_3 = v2 ∧ Inv N (n + 1) S_3 M2) (fun (r0_4 : Nat) (S_4 : mSt) => ∀ v5 : Int, v5 = 0 → ∀ v6 : Int, v6 = 0 → w_X12_like_61 N (fun (M2 : mSt) (v2 : Int) => x1_3 = v2 ∧ Inv N (n + 1) S_3 M2) (fun (r0_7 : Nat) (x1_7 : Int) (S_7 : mSt) => ∀ v8 : Int, v8 = 0 → w_X12_like_97 N (fun (M2 : mSt) (v2 : Int) => x1_3 = v2 ∧ Inv N (n + 1) S_3 M2) (fun (x1_9 : Int) (S_9 : mSt) => x1_3 = x1_9 ∧ Inv N (n + 1) S_3 S_9) N r0_7 x1_7 v8 S_7) N r0_4 v5 v6 S_4) N 0 v3 S2)) ∧ ((S1 0 4) = 0 → (x1_3 = (-1) ∧ Inv N (n + 1) S_3 S1)))) n' 0 (lkL (fLight (AP P) (M 1)) (X 197) k) k T') (I := fun k T' => CQ N T' q q' lw lw' (M 1) (AP P) n ∧ XF q' lw X T') (fun n' T' hI => ?_) (fun n' k T' hk hI ih => ?_) (by omega) ⟨C, XF.rf _ _ _⟩
    · exact ⟨fun _ => model T' hI.2, fun hc => by omega⟩
    · obtain ⟨C', F'⟩ := hI
      have hl := lkL_ok (fLight (AP P) (M 1)) (X 197) k
      refine ⟨fun hc => by omega, fun _ q1 e1 q2 e2 => ?_⟩
      have := qe e1 C'.2.1.2.2.1
      have := qe e2 C'.2.1.1
      subst q1 q2
      refine x_light C' (by omega) (by omega) (fun X2 C2 F2 => ⟨by omega, by omega, ?_⟩)
      have e197 : X2 (0 + 178 + 19) k = X 197 k := by
        show X2 197 k = X 197 k
        rw [(F'.tr F2) 197 (by omega) (by omega) (by omega) (by omega)]
      rw [e197]
      refine ⟨fun hc v1 e1 => ?_, fun hc v5 e5 v1 e1 => ?_⟩
      · rw [nx8 (by omega)] at e1
        subst e1
        have e5 : lkL (fLight (AP P) (M 1)) (X 197) k = lkL (fLight (AP P) (M 1)) (X 197) (k + 1) := by
          show _ = if _ then _ else _
          rw [if_neg hc]
        rw [e5]
        exact ih X2 ⟨C2, F'.tr F2⟩
      · rw [nx8 (by omega)] at e1
        rw [nm_of (by omega) (by omega)] at e5
        subst e1
        have e6 : v5 = lkL (fLight (AP P) (M 1)) (X 197) (k + 1) := by
          rw [e5]
          show _ = if _ then _ else _
          rw [if_pos hc]
        rw [e6]
        exact ih X2 ⟨C2, F'.tr F2⟩
end more
