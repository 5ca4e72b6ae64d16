set_option maxHeartbeats 400000
set_option maxRecDepth 20000
/-! ===== the pure part: the reference reads sums ===== -/
/-- what reading conditions may change of the reference -/
def MS (M M' : mSt) : Prop := okS M' ∧ (∀ r, r ≠ 0 → M' r = M r) ∧ ∀ i, i ≠ 12 → i ≠ 13 → M' 0 i = M 0 i
/-- live at a; dead with the fault w -/
def LR (M0 M : mSt) (tx : Int → Int) (L a : Int) : Prop := MS M0 M ∧ RD M tx L a ∧ M 0 13 = -1
def DR (M0 M : mSt) (w B : Int) : Prop := MS M0 M ∧ M 0 13 = w ∧ w ≠ -1 ∧ 0 ≤ M 0 12 ∧ M 0 12 ≤ B
/-- the steps T push x -/
def RVT (e : Int → Int) (T : List Int) (x : Int) (k : Nat) : Prop := ∀ s : List Int, s.length + k ≤ 32 → T.foldl (exec1 e) s = x :: s
/-- the reading q, with the value v -/
def PV (M0 M : mSt) (tx : Int → Int) (L : Int) (e : Int → Int) (q : PR) (v : Int) (k : Nat) (B : Int) : Prop := (q.1 = -1 ∧ ∃ p, LR M0 M tx L p ∧ ns tx L p = q.2.1 ∧ RVT e q.2.2 v k) ∨ (q.1 ≠ -1 ∧ DR M0 M q.1 B)
/-- the facts -/
def EV (M : mSt) (e : Int → Int) : Prop := (∀ k, 0 ≤ k → k < 8 → M 7 k = e k) ∧ M 0 16 = e 8 ∧ M 0 17 = e 9 ∧ (e 8 = 0 ∨ e 8 = 1) ∧ (e 9 = 0 ∨ e 9 = 1)
/-- behind a thing that was read: more, or not -/
def jRest (F : Int → PR) (sp : Int → Bool) (nx : Int → Int) (v : Int) (d : Nat) (p : Int) (T : List Int) : PR := if sp p = true then ((qJn F sp nx v d false (nx p)).1, (qJn F sp nx v d false (nx p)).2.1, T ++ (qJn F sp nx v d false (nx p)).2.2) else (-1, p, T)
section rests
variable {F : Int → PR} {sp : Int → Bool} {nx : Int → Int} {v b p : Int} {d : Nat} {fst : Bool} {T U : List Int}
theorem qJn_rest (h1 : (F b).1 = -1) : qJn F sp nx v (d + 1) fst b = jRest F sp nx v d (F b).2.1 ((F b).2.2 ++ jst fst v) := by
  unfold jRest
  cases h2 : sp (F b).2.1
  · rw [qJn_stop h1 h2, if_neg (by decide)]
  · rw [qJn_more h1 h2, if_pos rfl]
theorem jRest_app : jRest F sp nx v d p (T ++ U) = ((jRest F sp nx v d p U).1, (jRest F sp nx v d p U).2.1, T ++ (jRest F sp nx v d p U).2.2) := by
  unfold jRest
  split
  · rw [List.append_assoc]
  · rfl
theorem jRest_next (hs : sp p = true) (h1 : (F (nx p)).1 = -1) : jRest F sp nx v (d + 1) p T = jRest F sp nx v d (F (nx p)).2.1 (T ++ ((F (nx p)).2.2 ++ [v])) := by
  rw [jRest_app]
  have e : jRest F sp nx v (d + 1) p T = ((qJn F sp nx v (d + 1) false (nx p)).1, (qJn F sp nx v (d + 1) false (nx p)).2.1, T ++ (qJn F sp nx v (d + 1) false (nx p)).2.2) := if_pos hs
  rw [e, qJn_rest h1]
  rfl
theorem jRest_stop (hs : sp p = false) : jRest F sp nx v d p T = (-1, p, T) := if_neg (by rw [hs]; decide)
theorem jRest_bad (hs : sp p = true) (h1 : (F (nx p)).1 ≠ -1) : (jRest F sp nx v (d + 1) p T).1 = (F (nx p)).1 := by
  have e : jRest F sp nx v (d + 1) p T = ((qJn F sp nx v (d + 1) false (nx p)).1, (qJn F sp nx v (d + 1) false (nx p)).2.1, T ++ (qJn F sp nx v (d + 1) false (nx p)).2.2) := if_pos hs
  rw [e, qJn_bad h1]
end rests
section refs
variable {N : Nat} {M0 M : mSt} {tx e : Int → Int} {L a : Int} {t j : Nat}
theorem MS.rf (ok : okS M) : MS M M := ⟨ok, fun _ _ => rfl, fun _ _ _ => rfl⟩
theorem LR.go {p : Int} (h : LR M0 M tx L a) (R : RD (mup M 0 12 p) tx L p) : LR M0 (mup M 0 12 p) tx L p :=
  ⟨⟨okS_up h.1.1 (by have := R.2.2; unfold okI; omega), fun r hr => (mup_ne _ _ _ hr).trans (h.1.2.1 r hr), fun i h12 h13 => by rw [mup_i _ _ _ h12]; exact h.1.2.2 i h12 h13⟩, R, by rw [mup_i _ _ _ (by decide)]; exact h.2.2⟩
theorem LR.die {p w : Int} (h : LR M0 M tx L a) (p0 : 0 ≤ p) (p1 : p ≤ L) (ow : okI w) (hw : w ≠ -1) : DR M0 (mup (mup M 0 12 p) 0 13 w) w 400 := by
  have hL := h.2.1.2.2.2.2.1
  refine ⟨⟨okS_up (okS_up h.1.1 (by unfold okI; omega)) ow, fun r hr => by rw [mup_ne _ _ _ hr, mup_ne _ _ _ hr]; exact h.1.2.1 r hr, fun i h12 h13 => by rw [mup_i _ _ _ h13, mup_i _ _ _ h12]; exact h.1.2.2 i h12 h13⟩, mup_same _ _ _ _, hw, ?_, ?_⟩ <;> rw [mup_i _ _ _ (by decide), mup_same]
  · exact p0
  · omega
theorem LR.at0 (h : LR M0 M tx L a) : 0 ≤ a ∧ a ≤ L ∧ L ≤ 400 := ⟨h.2.1.2.2.1, h.2.1.2.2.2.1, h.2.1.2.2.2.2.1⟩
theorem LR.ns0 (h : LR M0 M tx L a) : 0 ≤ ns tx L a ∧ ns tx L a ≤ L := by
  have := h.at0
  have := ns_ge tx L a
  omega
theorem LR.skip {Q : mSt → Prop} (hN : 5000 ≤ N) (h : LR M0 M tx L a) (hQ : ∀ M', LR M0 M' tx L (ns tx L a) → Q M') : w_X12_skip N 0 M Q :=
  y_skip hN h.2.1 (fun R => hQ _ (h.go R))
theorem LR.place {Q : mSt → Int → Prop} (hN : 5000 ≤ N) (h : LR M0 M tx L a) (hQ : ∀ M', LR M0 M' tx L (ns tx L a) → Q M' (ns tx L a)) : w_X12_place N 0 M Q :=
  y_place hN h.2.1 (fun R => hQ _ (h.go R))
theorem word_tok (hb : a ≤ L) (h7 : 7 ≤ j) (hj : j < 34) : word tx L j a = tok tx L (j + 2) a := by
  by_cases h : a < L
  · have m := meet_word (tx := tx) h (show j + 2 < 36 by omega) (by omega)
    rw [Nat.add_sub_cancel] at m
    unfold tok
    cases hw : word tx L j a
    · rw [hw] at m
      symm
      rw [decide_eq_false_iff_not]
      intro hh; exact absurd (m.mp hh.2) (by decide)
    · rw [hw] at m
      symm
      rw [decide_eq_true_eq]
      exact ⟨h, m.mpr rfl⟩
  · have e : L = a := by omega
    have e2 := end_word (tx := tx) (L := a) (t := j + 2) (by omega) (by omega)
    rw [Nat.add_sub_cancel] at e2
    rw [e, e2]
    symm
    unfold tok
    rw [decide_eq_false_iff_not]
    intro hh; omega
theorem word_nx (h7 : 7 ≤ j) (hj : j < 34) (h : tok tx L (j + 2) a = true) : ns tx L (le' tx L a) = nx tx L a := by
  have hlt := tok_lt h
  have hw := (meet_word hlt (show j + 2 < 36 by omega) (by omega)).mp (of_decide_eq_true h).2
  unfold nx
  rw [word_en hlt (show j + 2 < 36 by omega) (by omega) hw]
theorem LR.has {Q : mSt → Int → Prop} (hN : 5000 ≤ N) (ht : t = j + 2) (h7 : 7 ≤ j) (hj : j < 34) (h : LR M0 M tx L a) (h1 : tok tx L t (ns tx L a) = true → ∀ M' p, LR M0 M' tx L p → ns tx L p = nx tx L (ns tx L a) → Q M' 1) (h0 : tok tx L t (ns tx L a) = false → ∀ M', LR M0 M' tx L (ns tx L a) → Q M' 0) : w_X12_has_ N 0 j M Q := by
  subst ht
  have hw := word_tok (tx := tx) (j := j) h.ns0.2 h7 hj
  refine y_has hN h.2.1 (fun w R => ?_) (fun w R => ?_)
  · rw [hw] at w
    exact h1 w _ _ (h.go R) (word_nx h7 hj w)
  · rw [hw] at w
    exact h0 w _ (h.go R)
theorem sign_tok (h3 : 3 ≤ t) (h9 : t < 9) : (a < L ∧ tx a = sgc t) ↔ tok tx L t a = true := by
  unfold tok
  rw [decide_eq_true_eq]
  constructor
  · intro h; exact ⟨h.1, (meet_sign h.1 h9 h3).mpr h.2⟩
  · intro h; exact ⟨h.1, (meet_sign h.1 h9 h3).mp h.2⟩
theorem sign_nx (h3 : 3 ≤ t) (h9 : t < 9) (h : tok tx L t a = true) : nx tx L a = ns tx L (a + 1) := by
  unfold nx
  rw [sign_en h9 h3 ((sign_tok h3 h9).mpr h).2]
theorem LR.isSign {Q : mSt → Int → Prop} {c : Int} (hN : 5000 ≤ N) (hc : sgc t = c) (h3 : 3 ≤ t) (h9 : t < 9) (h : LR M0 M tx L a) (h1 : tok tx L t (ns tx L a) = true → ∀ M', LR M0 M' tx L (ns tx L a) → Q M' 1) (h0 : tok tx L t (ns tx L a) = false → ∀ M', LR M0 M' tx L (ns tx L a) → Q M' 0) : w_X12_isSign N 0 c M Q := by
  subst hc
  have hs := sign_tok (tx := tx) (L := L) (a := ns tx L a) h3 h9
  refine y_isSign hN h.2.1 (fun R => ?_)
  by_cases hh : ns tx L a < L ∧ tx (ns tx L a) = sgc t
  · rw [if_pos hh]; exact h1 (hs.mp hh) _ (h.go R)
  · rw [if_neg hh]
    refine h0 ?_ _ (h.go R)
    cases hk : tok tx L t (ns tx L a)
    · rfl
    · exact absurd (hs.mpr hk) hh
/-- at++ behind a sign -/
theorem LR.inc {M2 : mSt} (h3 : 3 ≤ t) (h9 : t < 9) (h : LR M0 M tx L a) (ht : tok tx L t a = true) (e2 : M2 = mup M 0 12 (nm (M 0 12 + 1))) : LR M0 M2 tx L (a + 1) ∧ ns tx L (a + 1) = nx tx L a := by
  have hlt := tok_lt ht
  have h0 := h.at0
  have e12 : M 0 12 = a := h.2.1.2.1
  rw [e12, nm_of (by omega) (by omega)] at e2
  subst e2
  exact ⟨h.go (h.2.1.to (by omega) (by omega)), (sign_nx h3 h9 ht).symm⟩
theorem LR.wrong {Q : mSt → Prop} {w : Int} (h : LR M0 M tx L a) (w0 : 0 ≤ w) (w1 : w ≤ L) (hQ : ∀ M', DR M0 M' w 400 → Q M') : w_X12_wrong N 0 w M Q := by
  have h0 := h.at0
  refine ⟨fun hc => absurd h.2.2 hc, fun _ S1 e1 => hQ S1 ?_⟩
  have := h.die (p := a) (w := w) h0.1 h0.2.1 (by unfold okI; omega) (by omega)
  have e12 : mup M 0 12 a = M := h.2.1.at0
  rw [e12] at this
  rw [e1]; exact this
theorem LR.part {Q : mSt → Int → Prop} (hN : 5000 ≤ N) (hE : EV M0 e) (h : LR M0 M tx L a) (hQ : ∀ M' v, PV M0 M' tx L e (qTm tx L (ns tx L a)) v 1 400 → Q M' v) : w_X12_part N 0 M Q := by
  have h0 := h.ns0
  have hL := h.at0.2.2
  refine y_part hN h.2.1 h.2.2 (fun hlt hne R => hQ _ _ (Or.inl ?_)) (fun hno p v _ _ R => hQ _ _ (Or.inr ?_))
  · have eq : qTm tx L (ns tx L a) = (-1, nx tx L (ns tx L a), [tkW tx L (ns tx L a)]) := if_pos ⟨hlt, hne⟩
    rw [eq]
    refine ⟨rfl, _, h.go R, rfl, fun s hs => ?_⟩
    have hr := tkW_rng hlt hne
    show exec1 e s (tkW tx L (ns tx L a)) = _
    unfold exec1
    rw [if_pos (by omega), if_pos (by omega)]
    by_cases hv : tkW tx L (ns tx L a) < 1000
    · rw [if_pos hv, if_pos hv]
    · rw [if_neg hv, if_neg hv, ← hE.1 _ (by omega) (by omega), h.1.2.1 7 (by decide)]
  · have eq : qTm tx L (ns tx L a) = (ns tx L a, ns tx L a, []) := if_neg (fun hh => hh.2 (hno hh.1))
    rw [eq]
    refine ⟨by show ns tx L a ≠ -1; omega, h.die R.2.2.1 R.2.2.2.1 (by show okI (ns tx L a); unfold okI; omega) (by show ns tx L a ≠ -1; omega)⟩
theorem RVT.join {T U : List Int} {x y v : Int} {k K : Nat} (h1 : RVT e T x K) (h2 : RVT e U y k) (hk : k + 1 ≤ K) (hv : 1010 < v) : RVT e (T ++ (U ++ [v])) (jn v x y) K := by
  intro s hs
  rw [List.foldl_append, List.foldl_append, h1 s hs, h2 (x :: s) (by rw [List.length_cons]; omega)]
  show exec1 e (y :: x :: s) v = _
  unfold exec1
  rw [if_neg (by omega), if_neg (by omega)]
/-- the rest of a sum -/
theorem LR.sumL {Q : mSt → Int → Prop} {ko42 : Int → mSt → Prop} (hN : 5000 ≤ N) (hE : EV M0 e) : ∀ (d fu : Nat) (M : mSt) (a p x1 : Int) (T : List Int), L - p ≤ d → d < fu → LR M0 M tx L a → ns tx L a = p → RVT e T x1 2 → (∀ M' v, PV M0 M' tx L e (jRest (qTm tx L) (tok tx L 6) (nx tx L) 1011 d p T) v 2 400 → ko42 v M') → w_X12_sum_5 N Q ko42 fu 0 x1 M := by
  intro d
  induction d with
  | zero =>
    intro fu M a p x1 T hd hf h hp hT hQ
    obtain ⟨fu, rfl⟩ : ∃ m, fu = m + 1 := ⟨fu - 1, by omega⟩
    have hs : tok tx L 6 p = false := by
      cases hk : tok tx L 6 p
      · rfl
      · have := tok_lt hk; omega
    rw [jRest_stop hs] at hQ
    refine ⟨fun hc => absurd h.2.2 hc, fun _ => h.isSign hN (show sgc 6 = 43 from rfl) (by decide) (by decide) (fun ht => ?_) (fun ht M' h' => ⟨fun _ => hQ M' x1 (Or.inl ⟨rfl, _, h', by rw [ns_idem]; exact hp, hT⟩), fun hc => absurd rfl hc⟩)⟩
    rw [hp, hs] at ht; exact absurd ht (by decide)
  | succ d ih =>
    intro fu M a p x1 T hd hf h hp hT hQ
    obtain ⟨fu, rfl⟩ : ∃ m, fu = m + 1 := ⟨fu - 1, by omega⟩
    refine ⟨fun hc => absurd h.2.2 hc, fun _ => h.isSign hN (show sgc 6 = 43 from rfl) (by decide) (by decide) (fun ht M' h' => ⟨fun hc => absurd hc (by decide), fun _ S2 e2 => ?_⟩) (fun ht M' h' => ⟨fun _ => hQ M' x1 ?_, fun hc => absurd rfl hc⟩)⟩
    · obtain ⟨h2, n2⟩ := h'.inc (by decide) (by decide) ht e2
      rw [hp] at ht n2
      have hlt := tok_lt ht
      have hn := nx_ge (tx := tx) hlt
      rw [hp] at h2
      refine h2.part hN hE (fun M3 v3 hv v4 e4 => ?_)
      rw [n2] at hv
      subst e4
      rcases hv with ⟨q1, p3, h3, e3, r3⟩ | ⟨q1, h3⟩
      · have h0 := h2.at0
        have hg := qTm_GR tx (L := L) (nx tx L p) (by omega) hn.2 q1
        refine ih fu M3 p3 _ _ _ ?_ (by omega) h3 e3 (by have hj := hT.join r3 (K := 2) (v := 1011) (by decide) (by decide); rw [show jn 1011 x1 v3 = nm (x1 + v3) from if_pos rfl] at hj; exact hj) (fun M' v hv => hQ M' v ?_)
        · omega
        · rw [jRest_next ht q1]; exact hv
      · obtain ⟨fu, rfl⟩ : ∃ m, fu = m + 1 := ⟨fu - 1, by omega⟩
        have hb := jRest_bad (v := 1011) (d := d) (T := T) ht q1
        refine ⟨fun _ => hQ M3 _ (Or.inr ⟨by rw [hb]; exact q1, by rw [hb]; exact h3⟩), fun hc => ?_⟩
        rw [h3.2.1] at hc
        exact absurd hc q1
    · rw [hp] at ht
      rw [jRest_stop ht]
      exact Or.inl ⟨rfl, _, h', by rw [ns_idem]; exact hp, hT⟩
theorem LR.sum {Q : mSt → Int → Prop} (hN : 5000 ≤ N) (hE : EV M0 e) (h : LR M0 M tx L a) (hQ : ∀ M' v, PV M0 M' tx L e (qSum tx L (ns tx L a)) v 2 400 → Q M' v) : w_X12_sum N 0 M Q := by
  have h0 := h.ns0
  have hL := h.at0.2.2
  unfold qSum qJ at hQ
  refine h.part hN hE (fun M1 v1 hv v2 e2 => ?_)
  subst e2
  rcases hv with ⟨q1, p3, h3, e3, r3⟩ | ⟨q1, h3⟩
  · have hg := qTm_GR tx (L := L) (ns tx L a) h0.1 h0.2 q1
    rw [qJn_rest q1] at hQ
    refine LR.sumL hN hE (L - ns tx L a).toNat N M1 p3 _ _ _ (by omega) (by omega) h3 e3 ?_ hQ
    intro s hs
    show ((qTm tx L (ns tx L a)).2.2 ++ []).foldl (exec1 e) s = _
    rw [List.append_nil]
    exact r3 s (by omega)
  · rw [qJn_bad q1] at hQ
    obtain ⟨fu, rfl⟩ : ∃ m, N = m + 1 := ⟨N - 1, by omega⟩
    refine ⟨fun _ => hQ M1 _ (Or.inr ⟨q1, h3⟩), fun hc => ?_⟩
    rw [h3.2.1] at hc
    exact absurd hc q1
end refs
