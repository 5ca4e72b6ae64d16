set_option maxHeartbeats 400000
set_option maxRecDepth 20000
section staineds
variable {N n : Nat} {X M : mSt} {q q' lw lw' : Nat} {f : mRow} {A : mLaw} {P : mPrg} {a1 a2 a3 a4 a5 : Int} {T : Int} {tp : Int → Int} {c : Int} {v : Int} {m : Nat}
theorem pop_fi {g : Nat → Bool} {h : Nat → Int} (h0 : h 0 = 0) (hs : ∀ w, h (w + 1) = h w + (if g w = true then 1 else 0)) : ∀ k : Nat, (∀ w : Nat, w < k → tb v w = g w) → (popN (un v) k : Int) = h k
  | 0, _ => by rw [h0]; rfl
  | k + 1, hv => by
    have := pop_fi h0 hs k (fun w hw => hv w (by omega))
    have e : popN (un v) (k + 1) = popN (un v) k + ((un v).testBit k).toNat := rfl
    rw [e, hs, ← this, ← un_tb, hv k (by omega)]
    cases g k <;> simp
theorem pop_fits (hv : ∀ w : Nat, w < 32 → tb v w = fiB f tp m w) : pop32 v = fiN f tp m 32 :=
  pop_fi (g := fun w => fiB f tp m w) (h := fiN f tp m) rfl (fun _ => rfl) 32 hv
theorem popN_zero {u : Nat} : ∀ {k : Nat}, popN u k = 0 → ∀ j, j < k → u.testBit j = false
  | 0, _, j, hj => by omega
  | k + 1, h, j, hj => by
    have e : popN u (k + 1) = popN u k + (u.testBit k).toNat := rfl
    rw [e] at h
    by_cases he : j = k
    · subst he
      cases hb : u.testBit j
      · rfl
      · rw [hb] at h
        have : Bool.toNat true = 1 := rfl
        omega
    · exact popN_zero (k := k) (by omega) j (by omega)
theorem pop32_zero (ov : okI v) (h : pop32 v = 0) : v = 0 := by
  have h1 : popN (un v) 32 = 0 := by unfold pop32 at h; omega
  have h2 : un v = 0 := by
    apply Nat.eq_of_testBit_eq
    intro j
    rw [Nat.zero_testBit]
    by_cases hj : j < 32
    · exact popN_zero h1 j hj
    · exact Nat.testBit_lt_two_pow (Nat.lt_of_lt_of_le (un_lt v) (Nat.pow_le_pow_right (by decide) (by omega) : 2 ^ 32 ≤ 2 ^ j))
  unfold un okI at *; omega
theorem ush_lit : ∀ k : Nat, k < 32 → ((mI k).toUInt32 &&& Int32.toUInt32 31).toNat % 32 = k := by decide
theorem ush_bt (v : Int) {w : Nat} (hw : w < 32) : bAnd (bUsh v w) 1 = if tb v w = true then 1 else 0 := by
  have h1 := un_ush1 v w _ rfl
  rw [ush_lit w hw] at h1
  have h2 : un (bAnd (bUsh v w) 1) = un v / 2 ^ w % 2 := by
    rw [un_and, h1, show un 1 = 1 by decide]; exact Nat.and_one_is_mod _
  have h3 := un_ok (bAnd_ok (bUsh v w) 1) (by rw [h2]; omega)
  rw [h3, h2, un_tb, Nat.testBit_eq_decide_div_mod_eq]
  by_cases hb : un v / 2 ^ w % 2 = 1
  · rw [if_pos (decide_eq_true hb), hb]; rfl
  · have : un v / 2 ^ w % 2 = 0 := by omega
    rw [if_neg (by rw [decide_eq_true_eq]; exact hb), this]; rfl
/-- what the tape says -/
def Good (tp : Int → Int) (c n9 : Int) (m : Nat) : Prop := n9 = 2 * m ∧ n9 ≤ 40 ∧ okT tp c m = true
def Bad (tp : Int → Int) (c n9 : Int) : Prop := (n9 % 2 ≠ 0 ∨ 40 < n9) ∨ ∃ m : Nat, n9 = 2 * m ∧ n9 ≤ 40 ∧ okT tp c m = false
theorem Good.not {n9 : Int} (h : Good tp c n9 m) : ¬ Bad tp c n9 := by
  obtain ⟨h1, h2, h3⟩ := h
  rintro (hb | ⟨m', b1, b2, b3⟩)
  · omega
  · have : m' = m := by omega
    subst this
    rw [h3] at b3; exact absurd b3 (by decide)
theorem y_toldB {Q : mSt → Int → Prop} (hN : 5000 ≤ N) (ok : okS M) (h1 : M 1 = f) (hR : RR f) {n9 : Int} (h9 : M 0 9 = n9) (n0 : 0 ≤ n9) (n1 : n9 ≤ 400) (htp : ∀ k, 0 ≤ k → k < n9 → M 6 k = tp k ∧ 0 ≤ tp k) (hb : Bad tp (f 3) n9) (h : Q (mup M 0 9 0) (-1)) : w_X12_told N 0 M Q :=
  y_told hN ok h1 hR h9 n0 n1 htp (fun m a b c => absurd hb (Good.not ⟨a, b, c⟩)) (fun _ => h) (fun _ _ _ _ => h)
theorem y_toldG {Q : mSt → Int → Prop} (hN : 5000 ≤ N) (ok : okS M) (h1 : M 1 = f) (hR : RR f) {n9 : Int} (h9 : M 0 9 = n9) (n0 : 0 ≤ n9) (n1 : n9 ≤ 400) (htp : ∀ k, 0 ≤ k → k < n9 → M 6 k = tp k ∧ 0 ≤ tp k) (hg : Good tp (f 3) n9 m) (h : ∀ M', okS M' → (∀ r, r ≠ 11 → M' r = (mup M 0 9 0) r) → (∀ w : Nat, w < 32 → M' 11 w = if fiB f tp m w = true then 1 else 0) → Q M' (fiN f tp m 32)) : w_X12_told N 0 M Q :=
  y_told hN ok h1 hR h9 n0 n1 htp (fun m' a b c => by
    have : m' = m := by have := hg.1; omega
    subst this; exact h) (fun hc => absurd (Or.inl hc) hg.not) (fun m' a b c => absurd (Or.inr ⟨m', a, b, c⟩) hg.not)
theorem MQ11 {M9 M' : mSt} (h : ∀ r, r ≠ 11 → M' r = M9 r) (k : Int) : MQu (mup M9 0 0 k) (mup M' 0 0 k) := by
  have e : ∀ r, r ≠ 11 → (mup M' 0 0 k) r = (mup M9 0 0 k) r := by
    intro r hr
    by_cases h0 : r = 0
    · subst h0
      funext i
      by_cases hi : i = 0
      · subst hi; rw [mup_same, mup_same]
      · rw [mup_i _ _ _ hi, mup_i _ _ _ hi, h 0 hr]
    · rw [mup_ne _ _ _ h0, mup_ne _ _ _ h0, h r hr]
  exact ⟨⟨e 1 (by decide), e 2 (by decide), e 5 (by decide), e 6 (by decide), fun r _ _ => e r (by omega)⟩, by rw [e 0 (by decide)], by rw [e 0 (by decide)], by rw [e 0 (by decide)], by rw [e 0 (by decide)], by rw [e 0 (by decide)], fun b => b.of (by rw [e 0 (by decide)]) (by rw [e 0 (by decide)])⟩
def anN (f : mRow) (tp : Int → Int) (m : Nat) (s : Int) : Nat → Int
  | 0 => s
  | w + 1 => if fiB f tp m w = true then bAnd (anN f tp m s w) w else anN f tp m s w
theorem anN_none (h : ∀ w : Nat, w < 32 → fiB f tp m w = false) (s : Int) : ∀ k : Nat, k ≤ 32 → anN f tp m s k = s
  | 0, _ => rfl
  | k + 1, hk => by
    unfold anN
    rw [h k (by omega), if_neg (by decide)]
    exact anN_none h s k (by omega)
def stV (f : mRow) (tp : Int → Int) (m : Nat) (b : Int) : Int := if b = 0 then fiN f tp m 32 else if fiN f tp m 32 = 0 then 0 else anN f tp m 31 32
theorem x_stained {Q : mSt → Int → Prop} {E : String → mSt → Prop} {b : Int} (hN : 5000 ≤ N) {X0 : mSt} (e0 : X0 = mup X 0 1 0) (C : CQ N X0 q q' lw lw' f A T) {n9 : Int} (h9 : X 0 1 = n9) (n0 : 0 ≤ n9) (n1 : n9 ≤ 400) (htp : ∀ k, 0 ≤ k → k < n9 → X 1 k = tp k ∧ 0 ≤ tp k) (hQ : ∀ m, Good tp (f 3) n9 m → Q X0 (stV f tp m b)) (hE : Bad tp (f 3) n9 → E "java/lang/IllegalArgumentException" X0) : w_X11_stained N 0 b X Q E := by
  refine x_fits hN e0 C h9 n0 n1 htp (fun m g1 g2 g3 v ov hv v2 e2 => ?_) (fun hc => hE (Or.inl hc)) (fun m a b c => hE (Or.inr ⟨m, a, b, c⟩))
  subst e2
  have hq := hQ m ⟨g1, g2, g3⟩
  have hp := pop_fits hv
  unfold stV at hq
  refine ⟨fun hb => ⟨fun hv0 v3 e3 v4 e4 => ?_, fun hv0 => ?_⟩, fun hb => s_bitCount32 ?_⟩
  · subst e3; subst e4
    rw [if_neg hb, if_neg (fun hc => hv0 (pop32_zero ov (hp.trans hc)))] at hq
    refine lpUp (n := N) (T := X0) (K := 32) (W := fun n w T => w_X11_stained_26 N Q E (fun (x3_5 : Int) (S_5 : mSt) => Q S_5 x3_5) n v2 (anN f tp m 31 w) w T) (I := fun w T => T = X0) (fun n T hI => ?_) (fun n w T hw hI ih => ?_) (by omega) rfl
    · rw [hI]; exact ⟨fun _ => hq, fun hc => by omega⟩
    · rw [hI]
      have ea : anN f tp m 31 (w + 1) = if fiB f tp m w = true then bAnd (anN f tp m 31 w) w else anN f tp m 31 w := rfl
      have := ih X0 rfl
      rw [ea, ← hv w hw] at this
      refine ⟨fun hc => by omega, fun _ => ?_⟩
      rw [ush_bt _ hw]
      cases hb2 : tb v2 w
      · rw [hb2, if_neg (by decide)] at this
        refine ⟨fun _ v1 e1 => ?_, fun hc => absurd hc (by decide)⟩
        rw [nx8 (by omega)] at e1
        subst e1; exact this
      · rw [hb2, if_pos rfl] at this
        refine ⟨fun hc => absurd rfl hc, fun _ v3 e3 v1 e1 => ?_⟩
        rw [nx8 (by omega)] at e1
        subst e1; subst e3; exact this
  · rw [if_neg hb, if_pos (by rw [← hp, hv0]; decide)] at hq; exact hq
  · rw [if_pos hb, ← hp] at hq; exact hq
theorem y_stained {Q : mSt → Int → Prop} {b : Int} (hN : 5000 ≤ N) (ok : okS M) (h1 : M 1 = f) (hR : RR f) {n9 : Int} (h9 : M 0 9 = n9) (n0 : 0 ≤ n9) (n1 : n9 ≤ 400) (htp : ∀ k, 0 ≤ k → k < n9 → M 6 k = tp k ∧ 0 ≤ tp k) (hQ : ∀ m, Good tp (f 3) n9 m → ∀ M', (∀ r, r ≠ 11 → M' r = (mup M 0 9 0) r) → Q (mup M' 0 0 0) (stV f tp m b)) (hE : Bad tp (f 3) n9 → Q (mup (mup M 0 9 0) 0 0 1) 0) (hd : Bad tp (f 3) n9 ∨ ∃ m, Good tp (f 3) n9 m) : w_X12_stained N 0 b M Q := by
  rcases hd with hb | ⟨m, hg⟩
  · refine y_toldB hN ok h1 hR h9 n0 n1 htp hb (fun v2 e2 => ?_)
    subst e2
    refine ⟨fun hc => absurd rfl hc, fun _ S1 e1 => ?_⟩
    have e1' : S1 0 0 = 1 := by rw [e1, mup_same]
    rw [e1']
    refine ⟨fun _ => ?_, fun hc => by omega⟩
    unfold w_X12_stained_30
    rw [e1', e1]
    exact ⟨fun hc => by omega, fun _ => hE hb⟩
  · refine y_toldG hN ok h1 hR h9 n0 n1 htp hg (fun M' ok' k' f' v2 e2 => ?_)
    have hn := fiN_ok f tp m 32
    subst e2
    refine ⟨fun _ S1 e1 => ?_, fun hc => by omega⟩
    have hq := hQ m hg M' k'
    rw [← e1] at hq
    have f1 : S1 11 = M' 11 := by rw [e1, mup_ne _ _ _ (by decide)]
    have e1' : S1 0 0 = 0 := by rw [e1, mup_same]
    unfold w_X12_stained_30
    rw [e1']
    unfold stV at hq
    refine ⟨fun hc => by omega, fun _ => ⟨fun hb => ?_, fun hb => ⟨fun _ => by rw [if_pos hb] at hq; exact hq, fun hc => by omega⟩⟩⟩
    rw [if_neg hb] at hq
    have loop : ∀ s : Int, Q S1 (anN f tp m s 32) → w_X12_stained_53 N Q 0 s S1 := by
      intro s hs va ea vb eb
      subst ea; subst eb
      refine lpUp (n := N) (T := S1) (K := 32) (W := fun n w T => w_X12_stained_57 N Q (fun (x3_3 : Int) (S_3 : mSt) => Q S_3 x3_3) n 0 (anN f tp m va w) w T) (I := fun w T => T = S1) (fun n T hI => ?_) (fun n w T hw hI ih => ?_) (by omega) rfl
      · rw [hI]; exact ⟨fun _ => hs, fun hc => by omega⟩
      · rw [hI]
        have ea : anN f tp m va (w + 1) = if fiB f tp m w = true then bAnd (anN f tp m va w) w else anN f tp m va w := rfl
        have := ih S1 rfl
        rw [ea] at this
        have e11 : S1 (0 + 11) w = if fiB f tp m w = true then 1 else 0 := by rw [Nat.zero_add, f1]; exact f' w hw
        refine ⟨fun hc => by omega, fun _ => ⟨by omega, by omega, ?_⟩⟩
        rw [e11]
        cases hb2 : fiB f tp m w
        · rw [hb2, if_neg (by decide)] at this
          refine ⟨fun _ v1 e1 => ?_, fun hc => absurd rfl hc⟩
          rw [nx8 (by omega)] at e1
          subst e1; exact this
        · rw [hb2, if_pos rfl] at this
          refine ⟨fun hc => absurd hc (by decide), fun _ v3 e3 v1 e1 => ?_⟩
          rw [nx8 (by omega)] at e1
          subst e1; subst e3; exact this
    refine ⟨fun hz => loop 31 ?_, fun hz => loop 0 ?_⟩
    · rw [if_neg hz] at hq; exact hq
    · rw [if_pos hz] at hq
      rw [anN_none (fun w hw => ?_) 0 32 (Nat.le_refl _)]; exact hq
      have hmono : ∀ k : Nat, w < k → k ≤ 32 → fiB f tp m w = true → 0 < fiN f tp m k := by
        intro k
        induction k with
        | zero => intro h; omega
        | succ k ih =>
          intro hk hk2 ht
          have es : fiN f tp m (k + 1) = fiN f tp m k + (if fiB f tp m k = true then 1 else 0) := rfl
          have := fiN_ok f tp m k
          rw [es]
          by_cases he : w = k
          · subst he; rw [if_pos ht]; omega
          · have := ih (by omega) (by omega) ht
            split <;> omega
      cases hh : fiB f tp m w
      · rfl
      · have := hmono 32 hw (Nat.le_refl _) hh
        omega
theorem good_or_bad (tp : Int → Int) (c n9 : Int) (n0 : 0 ≤ n9) : Bad tp c n9 ∨ ∃ m, Good tp c n9 m := by
  by_cases h1 : n9 % 2 ≠ 0 ∨ 40 < n9
  · exact Or.inl (Or.inl h1)
  · have e : n9 = 2 * ((n9 / 2).toNat : Int) := by omega
    cases h2 : okT tp c (n9 / 2).toNat
    · exact Or.inl (Or.inr ⟨_, e, by omega, h2⟩)
    · exact Or.inr ⟨_, e, by omega, h2⟩
theorem IV.tape0 (I : IV N n X M q q' lw lw' P) : IV N n (mup X 0 1 0) (mup M 0 9 0) q q' lw lw' P := by
  have := I.tape (v := M 0 0) (a := 0) (Int.le_refl _) I.2.1.2.1
  rw [mup_self] at this
  exact this
theorem k_25 (hN : 5000 ≤ N) (I : IV N n X M q q' lw lw' P) (okX : okS X) (okM : okS M) : wl_25 N a1 a2 a3 a4 a5 X M (fun X1 M1 => Inv N (n + 1) X1 M1) := by
  have I0 := I.tape0
  obtain ⟨t1, t2, t3, t4⟩ := I.2.1
  have hR := I.2.2.2.2.1
  have okX0 : okS (mup X 0 1 0) := okS_up okX (by decide)
  have e1 : (mup M 0 9 0) 1 = M 1 := mup_ne _ _ _ (by decide)
  have C := I0.CQ (by omega) okX0
  rw [e1] at C
  have htX : ∀ k, 0 ≤ k → k < M 0 9 → X 1 k = M 6 k ∧ 0 ≤ M 6 k := fun k a b => ⟨(t4 k a b).1, (t4 k a b).2.1⟩
  have htM : ∀ k, 0 ≤ k → k < M 0 9 → M 6 k = M 6 k ∧ 0 ≤ M 6 k := fun k a b => ⟨rfl, (t4 k a b).2.1⟩
  unfold wl_25 w_L_stained
  refine x_stained (tp := M 6) hN rfl C t1 t2 t3 htX (fun m hg S2 e2 => ?_) (fun hb => ⟨rfl, ?_⟩)
  · subst e2
    refine y_stained (tp := M 6) hN okM rfl hR rfl t2 t3 htM (fun m' hg' M' k' => ?_) (fun hb => absurd hb hg.not) (Or.inr ⟨m, hg⟩)
    have : m' = m := by have := hg.1; have := hg'.1; omega
    subst this
    exact fin0 I0 (XF.rf _ _ _) (MQ11 k' 0)
  · refine y_stained (tp := M 6) hN okM rfl hR rfl t2 t3 htM (fun m' hg' M' k' => absurd hb hg'.not) (fun _ => ?_) (Or.inl hb)
    exact finE I0 (by decide) (XF.rf _ _ _) (MQu.rf _)
end staineds
