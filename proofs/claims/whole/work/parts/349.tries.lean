set_option maxHeartbeats 400000
set_option maxRecDepth 20000
section triess
variable {N n : Nat} {X M : mSt} {q q' lw lw' : Nat} {f : mRow} {A : mLaw} {P : mPrg} {a1 a2 a3 a4 a5 : Int} {T : Int} {tp : Int → Int} {c : Int} {v : Int} {m : Nat}
def ltN (f : mRow) (tp : Int → Int) (m : Nat) (tk : Int) : Nat → Int
  | 0 => 0
  | w + 1 => ltN f tp m tk w + (if (fiB f tp m w && lfB tk w) = true then 1 else 0)
theorem ltN_ok (f : mRow) (tp : Int → Int) (m : Nat) (tk : Int) : ∀ w : Nat, 0 ≤ ltN f tp m tk w ∧ ltN f tp m tk w ≤ w
  | 0 => by unfold ltN; omega
  | w + 1 => by
    have := ltN_ok f tp m tk w
    unfold ltN
    split <;> omega
def trW (f : mRow) (tp : Int → Int) (m : Nat) (s : Int) : Int := max (ltN f tp m (f (70 + 4 * s + 3)) 32) (fiN f tp m 32 - ltN f tp m (f (70 + 4 * s + 3)) 32)
theorem trW_ok (f : mRow) (tp : Int → Int) (m : Nat) (s : Int) : 0 ≤ trW f tp m s ∧ trW f tp m s ≤ 32 := by
  have h1 := ltN_ok f tp m (f (70 + 4 * s + 3)) 32
  have h2 := fiN_ok f tp m 32
  unfold trW
  omega
def trL (f : mRow) (tp : Int → Int) (m : Nat) (b : Int) : Nat → Int × Int
  | 0 => (-1, b)
  | k + 1 => if trW f tp m k < (trL f tp m b k).2 then ((k : Int), trW f tp m k) else trL f tp m b k
theorem trL_two (f : mRow) (tp : Int → Int) (m : Nat) : ∀ k : Nat, (trL f tp m 33 k).1 = (trL f tp m 2000000000 k).1 ∧ (k ≠ 0 → trL f tp m 33 k = trL f tp m 2000000000 k)
  | 0 => ⟨rfl, fun h => absurd rfl h⟩
  | k + 1 => by
    have h := trL_two f tp m k
    have hw := trW_ok f tp m k
    have e1 : trL f tp m 33 (k + 1) = if trW f tp m k < (trL f tp m 33 k).2 then ((k : Int), trW f tp m k) else trL f tp m 33 k := rfl
    have e2 : trL f tp m 2000000000 (k + 1) = if trW f tp m k < (trL f tp m 2000000000 k).2 then ((k : Int), trW f tp m k) else trL f tp m 2000000000 k := rfl
    have : trL f tp m 33 (k + 1) = trL f tp m 2000000000 (k + 1) := by
      rw [e1, e2]
      by_cases hk : k = 0
      · subst hk
        rw [if_pos (show trW f tp m (0 : Nat) < (trL f tp m 33 0).2 by show _ < (33 : Int); omega), if_pos (show trW f tp m (0 : Nat) < (trL f tp m 2000000000 0).2 by show _ < (2000000000 : Int); omega)]
      · rw [h.2 hk]
    exact ⟨by rw [this], fun _ => this⟩
def trV (f : mRow) (tp : Int → Int) (m : Nat) : Int := if 2 ≤ fiN f tp m 32 then (trL f tp m 33 (f 3).toNat).1 else -1
theorem x_tries {Q : mSt → Int → Prop} {E : String → mSt → Prop} (hN : 5000 ≤ N) {X0 : mSt} (e0 : X0 = mup X 0 1 0) (C : CQ N X0 q q' lw lw' f A T) {n9 : Int} (h9 : X 0 1 = n9) (n0 : 0 ≤ n9) (n1 : n9 ≤ 400) (htp : ∀ k, 0 ≤ k → k < n9 → X 1 k = tp k ∧ 0 ≤ tp k) (hQ : ∀ m, Good tp (f 3) n9 m → Q X0 (trV f tp m)) (hE : Bad tp (f 3) n9 → E "java/lang/IllegalArgumentException" X0) : w_X11_tries N 0 X Q E := by
  obtain ⟨-, ⟨kq, -⟩, hL, hR, -⟩ := id C
  have h3 := hR.2.1
  refine x_fits hN e0 C h9 n0 n1 htp (fun m g1 g2 g3 v ov hv v2 e2 => ?_) (fun hc => hE (Or.inl hc)) (fun m a b c => hE (Or.inr ⟨m, a, b, c⟩))
  subst e2
  have hq := hQ m ⟨g1, g2, g3⟩
  have hp := pop_fits hv
  have hn := fiN_ok f tp m 32
  unfold trV at hq
  refine s_bitCount32 (fun v4 e4 => ?_)
  rw [hp] at e4
  subst e4
  refine ⟨fun h2 v5 e5 v6 e6 v7 e7 => ?_, fun h2 => ?_⟩
  · rw [if_pos h2] at hq
    subst e5; subst e6; subst e7
    refine lpUp (n := N) (T := X0) (K := (f 3).toNat) (W := fun n k T => w_X11_tries_26 N Q E (fun (x3_8 : Int) (S_8 : mSt) => Q S_8 x3_8) n 0 v2 (fiN f tp m 32) (trL f tp m 33 k).1 (trL f tp m 33 k).2 k T) (I := fun k T => T = X0) (fun n T hI => ?_) (fun n k T hk hI ih => ?_) (by omega) rfl
    · rw [hI]
      intro q1 e1
      have : q1 = q := by omega
      subst this
      rw [hL.2.1.2.1]
      exact ⟨fun _ => hq, fun hc => by omega⟩
    · rw [hI]
      have := ih X0 rfl
      intro q1 e1
      have e1' : q1 = q := by omega
      subst e1'
      rw [hL.2.1.2.1]
      refine ⟨fun hc => by omega, fun _ q2 e2 => ?_⟩
      have e2' : q2 = q1 := by omega
      subst e2'
      refine x_takes C (by omega) (by omega) (s_setsLeft hN (fun v4 ov4 hv4 => s_bitCount32 (fun v6 e6 v7 e7 => ?_)))
      have ec : pop32 (bAnd v2 v4) = ltN f tp m (f (70 + 4 * (k : Int) + 3)) 32 := pop_fi (g := fun w => fiB f tp m w && lfB (f (70 + 4 * (k : Int) + 3)) w) (h := ltN f tp m (f (70 + 4 * (k : Int) + 3))) rfl (fun _ => rfl) 32 (fun w hw => by rw [tb_and, hv w hw, hv4 w hw])
      have hl := ltN_ok f tp m (f (70 + 4 * (k : Int) + 3)) 32
      rw [ec] at e6
      rw [e6, nm_of (by omega) (by omega), iMax_max] at e7
      have e7' : v7 = trW f tp m k := e7
      have el : trL f tp m 33 (k + 1) = if trW f tp m k < (trL f tp m 33 k).2 then ((k : Int), trW f tp m k) else trL f tp m 33 k := rfl
      rw [el] at this
      refine ⟨fun hc va ea => ?_, fun hc v8 e8 v9 e9 va ea => ?_⟩
      · rw [nx8 (by omega)] at ea
        rw [if_neg (by omega)] at this
        rw [ea]; exact this
      · rw [nx8 (by omega)] at ea
        rw [if_pos (by omega)] at this
        rw [ea, e8, e9, e7']; exact this
  · rw [if_neg (by omega)] at hq; exact hq
theorem y_tries {Q : mSt → Int → Prop} (hN : 5000 ≤ N) (ok : okS M) (h1 : M 1 = f) (hR : RR f) {n9 : Int} (h9 : M 0 9 = n9) (n0 : 0 ≤ n9) (n1 : n9 ≤ 400) (htp : ∀ k, 0 ≤ k → k < n9 → M 6 k = tp k ∧ 0 ≤ tp k) (hQ : ∀ m, Good tp (f 3) n9 m → ∀ M', (∀ r, r ≠ 11 → M' r = (mup M 0 9 0) r) → Q (mup M' 0 0 0) (trV f tp m)) (hE : Bad tp (f 3) n9 → Q (mup (mup M 0 9 0) 0 0 1) 0) (hd : Bad tp (f 3) n9 ∨ ∃ m, Good tp (f 3) n9 m) : w_X12_tries N 0 M Q := by
  have h3 := hR.2.1
  rcases hd with hb | ⟨m, hg⟩
  · refine y_toldB hN ok h1 hR h9 n0 n1 htp hb (fun v2 e2 => ?_)
    subst e2
    refine ⟨fun hc => absurd rfl hc, fun _ S1 e1 => ?_⟩
    have e1' : S1 0 0 = 1 := by rw [e1, mup_same]
    rw [e1', e1]
    exact ⟨fun hc => by omega, fun _ => hE hb⟩
  · refine y_toldG hN ok h1 hR h9 n0 n1 htp hg (fun M' ok' k' f' v2 e2 => ?_)
    have hn := fiN_ok f tp m 32
    subst e2
    refine ⟨fun _ S1 e1 => ?_, fun hc => by omega⟩
    have hq := hQ m hg M' k'
    rw [← e1] at hq
    have f1 : S1 11 = M' 11 := by rw [e1, mup_ne _ _ _ (by decide)]
    have f2 : S1 1 = f := by rw [e1, mup_ne _ _ _ (by decide), k' 1 (by decide), mup_ne _ _ _ (by decide), h1]
    have e1' : S1 0 0 = 0 := by rw [e1, mup_same]
    have f3 : S1 (0 + 1) 3 = f 3 := by rw [Nat.zero_add, f2]
    rw [e1']
    refine ⟨fun _ va ea vb eb vc ec => ?_, fun hc => by omega⟩
    subst ea; subst eb; subst ec
    unfold trV at hq
    by_cases h2 : 2 ≤ fiN f tp m 32
    · rw [if_pos h2, (trL_two f tp m _).1] at hq
      refine lpUp (n := N) (T := S1) (K := (f 3).toNat) (W := fun n k T => w_X12_tries_37 N Q (fun (x2_5 : Int) (S_5 : mSt) => Q S_5 x2_5) n 0 (fiN f tp m 32) (trL f tp m 2000000000 k).1 (trL f tp m 2000000000 k).2 k T) (I := fun k T => T = S1) (fun n T hI => ?_) (fun n k T hk hI ih => ?_) (by omega) rfl
      · rw [hI]
        exact ⟨fun _ => hq, fun hc => by rw [f3] at hc; omega⟩
      · rw [hI]
        have := ih S1 rfl
        refine ⟨fun hc => by rw [f3] at hc; omega, fun _ => ⟨fun hc => by omega, fun _ va ea vb eb => ?_⟩⟩
        subst ea; subst eb
        have el : trL f tp m 2000000000 (k + 1) = if trW f tp m k < (trL f tp m 2000000000 k).2 then ((k : Int), trW f tp m k) else trL f tp m 2000000000 k := rfl
        rw [el] at this
        generalize trL f tp m 2000000000 k = pr at this
        have hl := ltN_ok f tp m (f (70 + 4 * (k : Int) + 3)) 32
        refine lpUp (n := N) (T := S1) (K := 32) (W := fun n' w T => w_X12_tries_59 N Q (fun (r0_3 : Nat) (x1_3 : Int) (x2_3 : Int) (x3_3 : Int) (x4_3 : Int) (x5_3 : Int) (S_3 : mSt) => w_X12_greater N x5_3 (nm (x1_3 - x5_3)) S_3 (fun (S4 : mSt) (v4 : Int) => ((v4 < x3_3 → w_X12_greater N x5_3 (nm (x1_3 - x5_3)) S4 (fun (S5 : mSt) (v5 : Int) => ∀ v6 : Int, v6 = v5 → ∀ v7 : Int, v7 = x4_3 → w_X12_tries_136 N Q (w_X12_tries_37 N Q (fun (x2_5 : Int) (S_5 : mSt) => Q S_5 x2_5) n) r0_3 x1_3 v7 v6 x4_3 S5)) ∧ (x3_3 ≤ v4 → w_X12_tries_136 N Q (w_X12_tries_37 N Q (fun (x2_5 : Int) (S_5 : mSt) => Q S_5 x2_5) n) r0_3 x1_3 x2_3 x3_3 x4_3 S4)))) n' 0 (fiN f tp m 32) pr.1 pr.2 k (ltN f tp m (f (70 + 4 * (k : Int) + 3)) w) w T) (I := fun w T => T = S1) (fun n' T hI => ?_) (fun n' w T hw hI jh => ?_) (by omega) rfl
        · rw [hI]
          refine ⟨fun _ => a_greater ?_, fun hc => by omega⟩
          rw [nm_of (by omega) (by omega)]
          have ew : max (ltN f tp m (f (70 + 4 * (k : Int) + 3)) 32) (fiN f tp m 32 - ltN f tp m (f (70 + 4 * (k : Int) + 3)) 32) = trW f tp m k := rfl
          rw [ew]
          refine ⟨fun hc => a_greater (fun v6 e6 v7 e7 va ea => ?_), fun hc va ea => ?_⟩
          · rw [nx8 (by omega)] at ea
            rw [ew] at e6
            rw [if_pos hc] at this
            rw [ea, e6, e7]; exact this
          · rw [nx8 (by omega)] at ea
            rw [if_neg (by omega)] at this
            rw [ea]; exact this
        · rw [hI]
          have hlw := ltN_ok f tp m (f (70 + 4 * (k : Int) + 3)) w
          have := jh S1 rfl
          have es : ltN f tp m (f (70 + 4 * (k : Int) + 3)) (w + 1) = ltN f tp m (f (70 + 4 * (k : Int) + 3)) w + (if (fiB f tp m w && lfB (f (70 + 4 * (k : Int) + 3)) w) = true then 1 else 0) := rfl
          rw [es] at this
          have e11 : S1 (0 + 11) w = if fiB f tp m w = true then 1 else 0 := by rw [Nat.zero_add, f1]; exact f' w hw
          refine ⟨fun hc => by omega, fun _ => ⟨by omega, by omega, ?_⟩⟩
          rw [e11]
          cases hb2 : fiB f tp m w
          · rw [hb2, Bool.false_and, if_neg (by decide)] at this
            refine ⟨fun _ va ea vb eb => ?_, fun hc => absurd rfl hc⟩
            rw [nx8 (by omega)] at eb
            rw [nm_of (by omega) (by omega)] at ea
            rw [ea, eb]; exact this
          · rw [hb2, Bool.true_and] at this
            refine ⟨fun hc => absurd hc (by decide), fun _ => a_ofSoap (by omega) (by omega) (by omega) (by omega) ?_⟩
            rw [f2]
            refine ⟨fun hz va ea vb eb => ?_, fun hz va ea vb eb => ?_⟩
            · have hl0 : lfB (f (70 + 4 * (k : Int) + 3)) w = false := by unfold lfB; rw [decide_eq_false_iff_not]; exact fun hc => hc hz
              rw [hl0, if_neg (by decide)] at this
              rw [nx8 (by omega)] at eb
              rw [nm_of (by omega) (by omega)] at ea
              rw [ea, eb]; exact this
            · have hl0 : lfB (f (70 + 4 * (k : Int) + 3)) w = true := by unfold lfB; rw [decide_eq_true_eq]; exact hz
              rw [hl0, if_pos rfl] at this
              rw [nx8 (by omega)] at eb
              rw [nm_of (by omega) (by omega)] at ea
              rw [ea, eb]; exact this
    · rw [if_neg h2] at hq
      obtain ⟨N', hN'⟩ : ∃ x, N = x + 1 := ⟨N - 1, by omega⟩
      have key : ∀ K, w_X12_tries_37 N Q (fun (x2_5 : Int) (S_5 : mSt) => Q S_5 x2_5) (K + 1) 0 (fiN f tp m 32) (-1) 2000000000 0 S1 := fun K => ⟨fun _ => hq, fun _ => ⟨fun _ => hq, fun hc => by omega⟩⟩
      have := key N'
      rw [← hN'] at this
      exact this
theorem k_26 (hN : 5000 ≤ N) (I : IV N n X M q q' lw lw' P) (okX : okS X) (okM : okS M) : wl_26 N a1 a2 a3 a4 a5 X M (fun X1 M1 => Inv N (n + 1) X1 M1) := by
  have I0 := I.tape0
  obtain ⟨t1, t2, t3, t4⟩ := I.2.1
  have hR := I.2.2.2.2.1
  have okX0 : okS (mup X 0 1 0) := okS_up okX (by decide)
  have e1 : (mup M 0 9 0) 1 = M 1 := mup_ne _ _ _ (by decide)
  have C := I0.CQ (by omega) okX0
  rw [e1] at C
  have htX : ∀ k, 0 ≤ k → k < M 0 9 → X 1 k = M 6 k ∧ 0 ≤ M 6 k := fun k a b => ⟨(t4 k a b).1, (t4 k a b).2.1⟩
  have htM : ∀ k, 0 ≤ k → k < M 0 9 → M 6 k = M 6 k ∧ 0 ≤ M 6 k := fun k a b => ⟨rfl, (t4 k a b).2.1⟩
  unfold wl_26 w_L_tries
  refine x_tries (tp := M 6) hN rfl C t1 t2 t3 htX (fun m hg S2 e2 => ?_) (fun hb => ⟨rfl, ?_⟩)
  · subst e2
    refine y_tries (tp := M 6) hN okM rfl hR rfl t2 t3 htM (fun m' hg' M' k' => ?_) (fun hb => absurd hb hg.not) (Or.inr ⟨m, hg⟩)
    have : m' = m := by have := hg.1; have := hg'.1; omega
    subst this
    exact fin0 I0 (XF.rf _ _ _) (MQ11 k' 0)
  · refine y_tries (tp := M 6) hN okM rfl hR rfl t2 t3 htM (fun m' hg' M' k' => absurd hb hg'.not) (fun _ => ?_) (Or.inl hb)
    exact finE I0 (by decide) (XF.rf _ _ _) (MQu.rf _)
end triess
