set_option maxHeartbeats 400000
set_option maxRecDepth 20000
/-! ===== the pure part: lines of a law, the class ===== -/
/-- a line: kind, amount, steps -/
abbrev Lne : Type := Int × Int × List Int
def stp : List Lne → List Int
  | [] => []
  | l :: r => l.2.2 ++ stp r
theorem stp_app : ∀ (a b : List Lne), stp (a ++ b) = stp a ++ stp b
  | [], _ => rfl
  | l :: r, b => by show l.2.2 ++ stp (r ++ b) = (l.2.2 ++ stp r) ++ stp b; rw [stp_app r b, List.append_assoc]
theorem stp_one (a : List Lne) (l : Lne) : stp (a ++ [l]) = stp a ++ l.2.2 := by rw [stp_app]; show stp a ++ (l.2.2 ++ []) = _; rw [List.append_nil]
def qKind (tx : Int → Int) (L b : Int) : Int := if tok tx L 27 b = true then 1 else if tok tx L 28 b = true then 2 else if tok tx L 29 b = true then 3 else if tok tx L 26 b = true then 0 else -1
abbrev PL : Type := Int × Int × Lne
/-- a line behind its kind -/
def qAmt (tx : Int → Int) (L k b : Int) : PL :=
  if fg tx L 0 20 b = true then
    (if tok tx L 30 (nx tx L b) = true then ((qCond (qAt tx L 6) tx L (nx tx L (nx tx L b))).1, (qCond (qAt tx L 6) tx L (nx tx L (nx tx L b))).2.1, k, vl tx L b, (qCond (qAt tx L 6) tx L (nx tx L (nx tx L b))).2.2)
    else (-1, nx tx L b, k, vl tx L b, []))
  else (b, b, 0, 0, [])
def qLine (tx : Int → Int) (L b : Int) : PL := if qKind tx L b = -1 then (b, b, 0, 0, []) else qAmt tx L (qKind tx L b) (nx tx L b)
def qLaw (tx : Int → Int) (L : Int) : Nat → Int → Int × List Lne
  | 0 => fun b => (b, [])
  | k + 1 => fun b =>
    if (qLine tx L b).1 = -1 then
      (if (qLine tx L b).2.1 = L then (-1, [(qLine tx L b).2.2])
      else if tok tx L 3 (qLine tx L b).2.1 = true then ((qLaw tx L k (nx tx L (qLine tx L b).2.1)).1, (qLine tx L b).2.2 :: (qLaw tx L k (nx tx L (qLine tx L b).2.1)).2)
      else ((qLine tx L b).2.1, []))
    else ((qLine tx L b).1, [])
def qTxt (tx : Int → Int) (L : Int) : Int × List Lne := if ns tx L 0 = L then (-1, []) else qLaw tx L 12 (ns tx L 0)
theorem fg_lt {tx : Int → Int} {L lo hi b : Int} (hb : b ≤ L) (h : fg tx L lo hi b = true) : b < L := by
  apply Decidable.byContradiction
  intro hc
  have e : b = L := by omega
  rw [e, end_num] at h
  exact absurd h (by decide)
/-- what a line's reading gives -/
def GL (L b : Int) (q : PL) : Prop := q.1 = -1 → b < q.2.1 ∧ q.2.1 ≤ L ∧ (q.2.2.2.2.length : Int) ≤ q.2.1 - b ∧ 0 ≤ q.2.2.2.1 ∧ q.2.2.2.1 ≤ 20 ∧ 0 ≤ q.2.2.1 ∧ q.2.2.1 < 4
theorem fg_rng {tx : Int → Int} {L lo hi b : Int} (h : fg tx L lo hi b = true) : lo ≤ vl tx L b ∧ vl tx L b ≤ hi := by
  unfold fg at h
  rw [decide_eq_true_eq] at h
  exact h.2.2
theorem qAmt_GL {tx : Int → Int} {L k b : Int} (b0 : 0 ≤ b) (b1 : b ≤ L) (k0 : 0 ≤ k) (k1 : k < 4) : GL L b (qAmt tx L k b) := by
  unfold qAmt
  by_cases h : fg tx L 0 20 b = true
  · rw [if_pos h]
    have hn := nx_ge (tx := tx) (fg_lt b1 h)
    have hr := fg_rng h
    by_cases h2 : tok tx L 30 (nx tx L b) = true
    · rw [if_pos h2]
      have hn2 := nx_ge (tx := tx) (tok_lt h2)
      intro he
      obtain ⟨g1, g2, g3⟩ := qCond_GR (tx := tx) (F := qAt tx L 6) (fun b b0 b1 => qAt_GR 6 b b0 b1) (nx tx L (nx tx L b)) (by omega) hn2.2 he
      refine ⟨?_, g2, ?_, hr.1, hr.2, k0, k1⟩
      · show b < (qCond (qAt tx L 6) tx L (nx tx L (nx tx L b))).2.1
        omega
      · show ((qCond (qAt tx L 6) tx L (nx tx L (nx tx L b))).2.2.length : Int) ≤ (qCond (qAt tx L 6) tx L (nx tx L (nx tx L b))).2.1 - b
        omega
    · rw [if_neg h2]
      intro _
      refine ⟨hn.1, hn.2, ?_, hr.1, hr.2, k0, k1⟩
      show ((0 : Nat) : Int) ≤ nx tx L b - b
      omega
  · rw [if_neg h]
    intro he
    have : b = -1 := he
    omega
theorem qKind_lt {tx : Int → Int} {L b : Int} (h : qKind tx L b ≠ -1) : b < L ∧ 0 ≤ qKind tx L b ∧ qKind tx L b < 4 := by
  unfold qKind at h ⊢
  by_cases h1 : tok tx L 27 b = true
  · rw [if_pos h1]; exact ⟨tok_lt h1, by decide, by decide⟩
  · rw [if_neg h1] at h ⊢
    by_cases h2 : tok tx L 28 b = true
    · rw [if_pos h2]; exact ⟨tok_lt h2, by decide, by decide⟩
    · rw [if_neg h2] at h ⊢
      by_cases h3 : tok tx L 29 b = true
      · rw [if_pos h3]; exact ⟨tok_lt h3, by decide, by decide⟩
      · rw [if_neg h3] at h ⊢
        by_cases h4 : tok tx L 26 b = true
        · rw [if_pos h4]; exact ⟨tok_lt h4, by decide, by decide⟩
        · rw [if_neg h4] at h; exact absurd rfl h
theorem qLine_GL {tx : Int → Int} {L b : Int} (b0 : 0 ≤ b) (b1 : b ≤ L) : GL L b (qLine tx L b) := by
  unfold qLine
  by_cases h : qKind tx L b = -1
  · rw [if_pos h]
    intro he
    have : b = -1 := he
    omega
  · rw [if_neg h]
    obtain ⟨h1, h2, h3⟩ := qKind_lt h
    have hn := nx_ge (tx := tx) h1
    intro he
    obtain ⟨g1, g2, g3, g4⟩ := qAmt_GL (tx := tx) (by omega) hn.2 h2 h3 he
    exact ⟨by omega, g2, by omega, g4⟩
section linec
variable {N : Nat} {X X0 : mSt} {tx : Int → Int} {L w lo hi : Int} {n c lw : Nat} {S : List Int}
theorem LV.needNumber {Q : mSt → Int → Prop} (hl : lw = 24 ∨ lw = 31) (L0 : 0 ≤ L) (hlo : 0 ≤ lo) (h : LV X0 X tx L n c lw S) (h1 : fg tx L lo hi (tkp tx L c) = true → LV X0 (mup X 38 5 ((c + 1 : Nat) : Int)) tx L n (c + 1) lw S → tkp tx L (c + 1) = nx tx L (tkp tx L c) → Q (mup X 38 5 ((c + 1 : Nat) : Int)) (vl tx L (tkp tx L c))) (h0 : fg tx L lo hi (tkp tx L c) = false → DV X0 (mup X 38 6 (tkp tx L c)) tx L n lw (tkp tx L c) → Q (mup X 38 6 (tkp tx L c)) lo) : w_X10_needNumber N 38 lo hi X Q := by
  refine s_needNumber hlo h.2.1 (fun _ hcn hf => ?_) (fun _ hf hc => h0 ?_ (h.dead hl L0 hc)) (fun hc => absurd rfl hc)
  · obtain ⟨a, b, _⟩ := h.next hl hcn
    exact h1 hf a b
  · by_cases hcn : c < n
    · exact hf hcn
    · have e : c = n := by have := h.2.1.2.2.1; omega
      have e2 : tkp tx L c = L := by rw [e]; exact h.2.1.1.2.2.1
      rw [e2]; exact end_num
theorem DV.needNumber {Q : mSt → Int → Prop} (hlo : 0 ≤ lo) (h : DV X0 X tx L n lw w) (hQ : Q X lo) : w_X10_needNumber N 38 lo hi X Q := by
  obtain ⟨c, h1, h2, hw, h3, h4⟩ := h
  exact s_needNumber hlo h2 (fun a => absurd a hw) (fun a => absurd a hw) (fun _ => hQ)
/-- the tables of the lines so far -/
def LT (X : mSt) (lw : Nat) (lns : List Lne) : Prop := X lw 0 = lns.length ∧ ∀ i : Nat, i < lns.length → X (lw + 1) i = (lns.getD i (0, 0, [])).1 ∧ X (lw + 2) i = (lns.getD i (0, 0, [])).2.1 ∧ X (lw + 3) i = ((stp (lns.take (i + 1))).length : Nat)
theorem s_addLine {Q : mSt → Prop} {x1 x2 : Int} {k : Nat} (ok : okS X) (hk : X lw 0 = k) (k12 : k < 12) (o1 : okI x1) (o2 : okI x2) (hQ : ∀ X', okS X' → (∀ r, (r < lw ∨ lw + 3 < r) → X' r = X r) → (∀ i, i ≠ 0 → X' lw i = X lw i) → X' lw 0 = ((k + 1 : Nat) : Int) → X' (lw + 1) k = x1 → X' (lw + 2) k = x2 → X' (lw + 3) k = X lw 5 → (∀ r (i : Int), r ≠ lw → i ≠ k → X' r i = X r i) → Q X') : w_X3_addLine N lw x1 x2 X Q := by
  unfold w_X3_addLine
  rw [hk]
  refine ⟨fun hc => by omega, fun _ => ⟨fun hc => by omega, fun _ => ⟨by omega, by omega, fun S2 e2 => ?_⟩⟩⟩
  have k2 : S2 lw 0 = k := by rw [e2, mup_ne _ _ _ (by omega)]; exact hk
  rw [k2]
  refine ⟨by omega, by omega, fun S4 e4 => ?_⟩
  have k4 : S4 lw 0 = k := by rw [e4, mup_ne _ _ _ (by omega)]; exact k2
  rw [k4]
  have k45 : S4 lw 5 = X lw 5 := by rw [e4, mup_ne _ _ _ (by omega), e2, mup_ne _ _ _ (by omega)]
  rw [k45]
  refine ⟨by omega, by omega, fun S6 e6 S7 e7 => ?_⟩
  have k6 : S6 lw 0 = k := by rw [e6, mup_ne _ _ _ (by omega)]; exact k4
  rw [k6, nx8 (by omega)] at e7
  refine hQ S7 ?_ (fun r hr => ?_) (fun i hi => ?_) ?_ ?_ ?_ ?_ (fun r i hr hi => ?_)
  · rw [e7, e6, e4, e2]
    exact okS_up (okS_up (okS_up (okS_up ok o1) o2) (ok _ _)) (by unfold okI; omega)
  · rw [e7, mup_ne _ _ _ (by omega), e6, mup_ne _ _ _ (by omega), e4, mup_ne _ _ _ (by omega), e2, mup_ne _ _ _ (by omega)]
  · rw [e7, mup_i _ _ _ hi, e6, mup_ne _ _ _ (by omega), e4, mup_ne _ _ _ (by omega), e2, mup_ne _ _ _ (by omega)]
  · rw [e7, mup_same]
  · rw [e7, mup_ne _ _ _ (by omega), e6, mup_ne _ _ _ (by omega), e4, mup_ne _ _ _ (by omega), e2, mup_same]
  · rw [e7, mup_ne _ _ _ (by omega), e6, mup_ne _ _ _ (by omega), e4, mup_same]
  · rw [e7, mup_ne _ _ _ (by omega), e6, mup_same]
  · have one : ∀ (T : mSt) (j : Nat) (v : Int), mup T j k v r i = T r i := fun T j v => by
      by_cases hj : r = j
      · subst hj; exact mup_i _ _ _ hi
      · rw [mup_ne _ _ _ hj]
    rw [e7, mup_ne _ _ _ hr, e6, one, e4, one, e2, one]
/-- line by line: live; dead -/
def LI (X0 X : mSt) (tx : Int → Int) (L : Int) (n c lw : Nat) (lns : List Lne) : Prop := okS X ∧ CC X tx L n c (-1) ∧ LE X lw (stp lns) ∧ LT X lw lns ∧ PF X0 X lw
def DI (X0 X : mSt) (tx : Int → Int) (L : Int) (n lw : Nat) (w : Int) : Prop := ∃ c, okS X ∧ CC X tx L n c w ∧ w ≠ -1 ∧ PF X0 X lw
theorem LI.lv {lns : List Lne} (h : LI X0 X tx L n c lw lns) : LV X X tx L n c lw (stp lns) := ⟨h.1, h.2.1, h.2.2.1, SF.rf _ _⟩
theorem SF.pf {X' : mSt} (h : SF X X' lw) : PF X X' lw := fun r a b => h.1 r a (by omega) (by omega)
/-- a line's end -/
theorem LI.line {Q : mSt → Prop} {X1 : mSt} {c' : Nat} {lns : List Lne} {l : Lne} (hl : lw = 24 ∨ lw = 31) (h : LI X0 X tx L n c lw lns) (h12 : lns.length < 12) (h1 : LV X X1 tx L n c' lw (stp lns ++ l.2.2)) (o1 : okI l.1) (o2 : okI l.2.1) (hQ : ∀ X', LI X0 X' tx L n c' lw (lns ++ [l]) → Q X') : w_X4_readLine_78 N Q lw l.1 l.2.1 X1 := by
  obtain ⟨a1, a2, a3, a4, a5⟩ := h
  obtain ⟨b1, b2, b3, b4⟩ := h1
  have e0 : X1 lw 0 = (lns.length : Nat) := by rw [b4.2 0 (by decide)]; exact a4.1
  refine s_addLine b1 e0 h12 o1 o2 (fun X2 ok2 f2 g2 z0 z1 z2 z3 z4 => hQ X2 ⟨ok2, b2.of (fun r x y => f2 r (by omega)), ?_, ⟨by rw [z0, List.length_append]; rfl, fun i hi => ?_⟩, fun r x y => by rw [f2 r (by omega)]; exact (b4.pf r x y).trans (a5 r x y)⟩)
  · rw [stp_one]
    refine ⟨by rw [g2 5 (by decide)]; exact b3.1, fun i hi => by rw [f2 (lw + 4) (by omega)]; exact b3.2 i hi⟩
  · rw [List.length_append] at hi
    by_cases he : i = lns.length
    · subst he
      have eg : (lns ++ [l]).getD lns.length (0, 0, []) = l := by simp [List.getD]
      have et : (lns ++ [l]).take (lns.length + 1) = lns ++ [l] := List.take_of_length_le (by rw [List.length_append]; exact Nat.le_refl _)
      rw [eg, et, stp_one, z1, z2, z3, b3.1]
      exact ⟨rfl, rfl, rfl⟩
    · have hi2 : i < lns.length := by simp at hi; omega
      obtain ⟨p1, p2, p3⟩ := a4.2 i hi2
      have eg : (lns ++ [l]).getD i (0, 0, []) = lns.getD i (0, 0, []) := by simp [List.getD, List.getElem?_append_left hi2]
      have et : (lns ++ [l]).take (i + 1) = lns.take (i + 1) := List.take_append_of_le_length (by omega)
      rw [eg, et, z4 _ _ (by omega) (by omega), z4 _ _ (by omega) (by omega), z4 _ _ (by omega) (by omega), b4.1 _ (by omega) (by omega) (by omega), b4.1 _ (by omega) (by omega) (by omega), b4.1 _ (by omega) (by omega) (by omega)]
      exact ⟨p1, p2, p3⟩
theorem DV.line {Q : mSt → Prop} {X1 : mSt} {lns : List Lne} {x1 x2 : Int} (hl : lw = 24 ∨ lw = 31) (h : LI X0 X tx L n c lw lns) (h12 : lns.length < 12) (h1 : DV X X1 tx L n lw w) (o1 : okI x1) (o2 : okI x2) (hQ : ∀ X', DI X0 X' tx L n lw w → Q X') : w_X4_readLine_78 N Q lw x1 x2 X1 := by
  obtain ⟨a1, a2, a3, a4, a5⟩ := h
  obtain ⟨c1, b1, b2, bw, b3, b4⟩ := h1
  have e0 : X1 lw 0 = (lns.length : Nat) := by rw [b4.2 0 (by decide)]; exact a4.1
  refine s_addLine b1 e0 h12 o1 o2 (fun X2 ok2 f2 g2 z0 z1 z2 z3 z4 => hQ X2 ⟨c1, ok2, b2.of (fun r x y => f2 r (by omega)), bw, fun r x y => by rw [f2 r (by omega)]; exact (b4.pf r x y).trans (a5 r x y)⟩)
/-- a line's result -/
def LO (X0 X : mSt) (tx : Int → Int) (L : Int) (n lw : Nat) (lns : List Lne) (q : PL) : Prop := (q.1 = -1 ∧ ∃ c, LI X0 X tx L n c lw (lns ++ [q.2.2]) ∧ tkp tx L c = q.2.1) ∨ (q.1 ≠ -1 ∧ DI X0 X tx L n lw q.1)
theorem LI.amt {Q : mSt → Prop} {X1 : mSt} {c' : Nat} {lns : List Lne} {k : Int} (hN : 5000 ≤ N) (hl : lw = 24 ∨ lw = 31) (L0 : 0 ≤ L) (hL : L ≤ 400) (h : LI X0 X tx L n c lw lns) (hS : ((stp lns).length : Int) ≤ tkp tx L c) (h12 : lns.length < 12) (hc : tkp tx L c ≤ tkp tx L c') (h1 : LV X X1 tx L n c' lw (stp lns)) (k0 : 0 ≤ k) (k1 : k < 4) (hQ : ∀ X', LO X0 X' tx L n lw lns (qAmt tx L k (tkp tx L c')) → Q X') : w_X4_readLine_54 N Q 38 lw k X1 := by
  have ok : okI k := by unfold okI; omega
  have hb := tkp_in tx L0 c'
  unfold qAmt at hQ
  refine h1.needNumber hl L0 (by decide) (fun hf h2 e2 v2 ev => ?_) (fun hf hd v2 ev => ?_)
  · subst ev
    rw [if_pos hf] at hQ
    have hn := nx_ge (tx := tx) (fg_lt hb.2 hf)
    have hr := fg_rng hf
    have ov : okI (vl tx L (tkp tx L c')) := by unfold okI; omega
    refine h2.takes hl (by decide) (fun ht h3 e3 => ⟨fun hc => absurd hc (by decide), fun _ => ?_⟩) (fun ht => ⟨fun _ => ?_, fun hc => absurd rfl hc⟩)
    · rw [e2] at ht e3
      rw [if_pos ht] at hQ
      have hn2 := nx_ge (tx := tx) (tok_lt ht)
      refine LV.cond hN hl L0 hL (LV.atom hN hl L0 hL 6 12 0 (by decide) (by decide) (by decide)) (fun b b0 b1 => qAt_GR 6 b b0 b1) h3 (by rw [e3]; omega) (fun X4 hp => ?_)
      rw [e3] at hp
      rcases hp with ⟨q1, c4, h4, e4⟩ | ⟨q1, h4⟩
      · exact LI.line (l := (k, vl tx L (tkp tx L c'), (qCond (qAt tx L 6) tx L (nx tx L (nx tx L (tkp tx L c')))).2.2)) hl h h12 h4 ok ov (fun X' h' => hQ X' (Or.inl ⟨q1, c4, h', e4⟩))
      · exact DV.line hl h h12 h4 ok ov (fun X' h' => hQ X' (Or.inr ⟨q1, h'⟩))
    · rw [e2] at ht
      rw [if_neg (by rw [ht]; decide)] at hQ
      refine LI.line (l := (k, vl tx L (tkp tx L c'), [])) hl h h12 (by rw [List.append_nil]; exact h2) ok ov (fun X' h' => hQ X' (Or.inl ⟨rfl, c' + 1, h', e2⟩))
  · subst ev
    rw [if_neg (by rw [hf]; decide)] at hQ
    refine hd.takes (by decide) ⟨fun _ => DV.line hl h h12 hd ok (by decide) (fun X' h' => hQ X' (Or.inr ⟨?_, h'⟩)), fun hc => absurd rfl hc⟩
    show tkp tx L c' ≠ -1
    omega
theorem LI.readLine {Q : mSt → Prop} {lns : List Lne} (hN : 5000 ≤ N) (hl : lw = 24 ∨ lw = 31) (L0 : 0 ≤ L) (hL : L ≤ 400) (h : LI X0 X tx L n c lw lns) (hS : ((stp lns).length : Int) ≤ tkp tx L c) (h12 : lns.length < 12) (hQ : ∀ X', LO X0 X' tx L n lw lns (qLine tx L (tkp tx L c)) → Q X') : w_X4_readLine N 38 lw X Q := by
  have hb := tkp_in tx L0 c
  have hv := h.lv
  -- behind the word
  have amt : ∀ (k : Int) (X1 : mSt), qKind tx L (tkp tx L c) = k → 0 ≤ k → k < 4 → tkp tx L c < L → LV X X1 tx L n (c + 1) lw (stp lns) → tkp tx L (c + 1) = nx tx L (tkp tx L c) → w_X4_readLine_54 N Q 38 lw k X1 := by
    intro k X1 ek k0 k1 hlt h1 e1
    have hn := nx_ge (tx := tx) hlt
    refine LI.amt hN hl L0 hL h hS h12 (by omega) h1 k0 k1 (fun X' hp => hQ X' ?_)
    have eq : qLine tx L (tkp tx L c) = qAmt tx L k (nx tx L (tkp tx L c)) := by unfold qLine; rw [ek, if_neg (by omega)]
    rw [eq, ← e1]; exact hp
  intro v1 ev1
  subst ev1
  unfold qKind at amt
  refine hv.takes hl (by decide) (fun t27 h1 e1 => ⟨fun hc => absurd hc (by decide), fun _ v8 e8 => by subst e8; exact amt 1 _ (if_pos t27) (by decide) (by decide) (tok_lt t27) h1 e1⟩) (fun t27 => ⟨fun _ => ?_, fun hc => absurd rfl hc⟩)
  have n27 : ¬ tok tx L 27 (tkp tx L c) = true := by rw [t27]; decide
  rw [if_neg n27] at amt
  refine hv.takes hl (by decide) (fun t28 h1 e1 => ⟨fun hc => absurd hc (by decide), fun _ v8 e8 => by subst e8; exact amt 2 _ (if_pos t28) (by decide) (by decide) (tok_lt t28) h1 e1⟩) (fun t28 => ⟨fun _ => ?_, fun hc => absurd rfl hc⟩)
  have n28 : ¬ tok tx L 28 (tkp tx L c) = true := by rw [t28]; decide
  rw [if_neg n28] at amt
  refine hv.takes hl (by decide) (fun t29 h1 e1 => ⟨fun hc => absurd hc (by decide), fun _ v8 e8 => by subst e8; exact amt 3 _ (if_pos t29) (by decide) (by decide) (tok_lt t29) h1 e1⟩) (fun t29 => ⟨fun _ => ?_, fun hc => absurd rfl hc⟩)
  have n29 : ¬ tok tx L 29 (tkp tx L c) = true := by rw [t29]; decide
  rw [if_neg n29] at amt
  refine hv.need hl L0 (by decide) (fun t26 h1 e1 => amt 0 _ (if_pos t26) (by decide) (by decide) (tok_lt t26) h1 e1) (fun t26 hd => ?_)
  have eq : qLine tx L (tkp tx L c) = (tkp tx L c, tkp tx L c, 0, 0, []) := by
    have ek : qKind tx L (tkp tx L c) = -1 := by
      unfold qKind
      have n26 : ¬ tok tx L 26 (tkp tx L c) = true := by rw [t26]; decide
      rw [if_neg n27, if_neg n28, if_neg n29, if_neg n26]
    unfold qLine
    rw [ek, if_pos rfl]
  rw [eq] at hQ
  refine hd.needNumber (by decide) (fun v2 ev => ?_)
  subst ev
  refine hd.takes (by decide) ⟨fun _ => DV.line hl h h12 hd (by decide) (by decide) (fun X' h' => hQ X' (Or.inr ⟨?_, h'⟩)), fun hc => absurd rfl hc⟩
  show tkp tx L c ≠ -1
  omega
/-- the text's result -/
def TO (X0 X : mSt) (lw : Nat) (lns : List Lne) (q : Int × List Lne) : Prop := okS X ∧ PF X0 X lw ∧ X 38 6 = q.1 ∧ (q.1 = -1 → LE X lw (stp (lns ++ q.2)) ∧ LT X lw (lns ++ q.2))
theorem DI.to {lns : List Lne} {q : Int × List Lne} (h : DI X0 X tx L n lw w) (hq : q.1 = w) : TO X0 X lw lns q := by
  obtain ⟨c, h1, h2, h3, h4⟩ := h
  exact ⟨h1, h4, by rw [hq]; exact h2.2.2.2, fun hc => absurd (hq.symm.trans hc) h3⟩
theorem LI.to {lns : List Lne} {q : Int × List Lne} (h : LI X0 X tx L n c lw (lns ++ q.2)) (hq : q.1 = -1) : TO X0 X lw lns q :=
  ⟨h.1, h.2.2.2.2, by rw [hq]; exact h.2.1.2.2.2, fun _ => ⟨h.2.2.1, h.2.2.2.1⟩⟩
theorem DI.takes {Q : mSt → Int → Prop} {t : Nat} (t0 : t ≠ 0) (h : DI X0 X tx L n lw w) (hQ : Q X 0) : w_X10_takes N 38 t X Q := by
  obtain ⟨c, h1, h2, hw, h4⟩ := h
  exact s_takes t0 h2 (fun a => absurd a hw) (fun _ => hQ)
theorem LI.loop {Q : mSt → Prop} (hN : 5000 ≤ N) (hl : lw = 24 ∨ lw = 31) (L0 : 0 ≤ L) (hL : L ≤ 400) : ∀ (k fu c : Nat) (X : mSt) (lns : List Lne), lns.length + k = 12 → k < fu → LI X0 X tx L n c lw lns → ((stp lns).length : Int) ≤ tkp tx L c → (∀ X', TO X0 X' lw lns (qLaw tx L k (tkp tx L c)) → Q X') → w_X4_read_17 N Q (fun (r0_4 : Nat) (S_4 : mSt) => w_X10_refuse N r0_4 S_4 (fun (S5 : mSt) => Q S5)) fu 38 lw (lns.length : Nat) X := by
  intro k
  induction k with
  | zero =>
    intro fu c X lns hk hf h hS hQ
    obtain ⟨fu, rfl⟩ : ∃ m, fu = m + 1 := ⟨fu - 1, by omega⟩
    refine ⟨fun _ => h.lv.refuse hl L0 (fun hd => hQ _ ?_), fun hc => by omega⟩
    obtain ⟨c1, b1, b2, bw, b3, b4⟩ := hd
    exact DI.to (w := tkp tx L c) ⟨c1, b1, b2, bw, (h.2.2.2.2).tr b4.pf⟩ rfl
  | succ k ih =>
    intro fu c X lns hk hf h hS hQ
    obtain ⟨fu, rfl⟩ : ∃ m, fu = m + 1 := ⟨fu - 1, by omega⟩
    have hb := tkp_in tx L0 c
    refine ⟨fun hc => by omega, fun _ => h.readLine hN hl L0 hL hS (by omega) (fun X1 hp => ?_)⟩
    have hg := qLine_GL (tx := tx) hb.1 hb.2
    unfold qLaw at hQ
    rcases hp with ⟨q1, c1, h1, e1⟩ | ⟨q1, h1⟩
    · rw [if_pos q1] at hQ
      obtain ⟨g1, g2, g3, -⟩ := hg q1
      have hlen : (((stp (lns ++ [(qLine tx L (tkp tx L c)).2.2])).length : Nat) : Int) = (stp lns).length + (qLine tx L (tkp tx L c)).2.2.2.2.length := by rw [stp_one, List.length_append, Int.natCast_add]
      refine h1.lv.takes hl (by decide) (fun ht h2 e2 => ⟨fun _ v3 e3 => ?_, fun hc => absurd hc (by decide)⟩) (fun ht => ⟨fun hc => absurd rfl hc, fun _ => ?_⟩)
      · rw [e1] at ht e2
        have hlt := tok_lt ht
        have hn := nx_ge (tx := tx) hlt
        rw [if_neg (by omega), if_pos ht] at hQ
        have ea : (((lns ++ [(qLine tx L (tkp tx L c)).2.2]).length : Nat) : Int) = (lns.length : Int) + 1 := by rw [List.length_append]; rfl
        rw [nm_of (by omega) (by omega), ← ea] at e3
        subst e3
        refine ih fu (c1 + 1) _ (lns ++ [(qLine tx L (tkp tx L c)).2.2]) (by rw [List.length_append, List.length_singleton]; omega) (by omega) ⟨h2.1, h2.2.1, h2.2.2.1, ?_, (h1.2.2.2.2).tr h2.2.2.2.pf⟩ (by rw [e2, hlen]; omega) (fun X' hp => hQ X' ?_)
        · obtain ⟨m1, m2⟩ := h2.2.2.2
          refine ⟨by rw [m2 0 (by decide)]; exact h1.2.2.2.1.1, fun i hi => ?_⟩
          rw [m1 _ (by omega) (by omega) (by omega), m1 _ (by omega) (by omega) (by omega), m1 _ (by omega) (by omega) (by omega)]
          exact h1.2.2.2.1.2 i hi
        · rw [e2] at hp
          obtain ⟨p1, p2, p3, p4⟩ := hp
          refine ⟨p1, p2, p3, fun hq => ?_⟩
          have := p4 hq
          rw [List.append_assoc] at this
          exact this
      · rw [e1] at ht
        have hk0 : tkA tx L n c1 = 0 ↔ tkp tx L c1 = L := by
          unfold tkA
          by_cases hcn : c1 < n
          · have hlt := (h1.2.1.1.1 c1 hcn).2.2.2.2
            rw [if_pos hcn]
            have hge : tkT' tx L (tkp tx L c1) ≠ 0 := by
              unfold tkT'
              split
              · decide
              · have := wr_ge (tx := tx) (b := tkp tx L c1) (z := en tx L (tkp tx L c1) - tkp tx L c1) (by have := en_ge (tx := tx) hlt; omega)
                omega
            exact ⟨fun hh => absurd hh hge, fun hh => by omega⟩
          · have e : c1 = n := by have := h1.2.1.2.2.1; omega
            rw [if_neg hcn]
            exact ⟨fun _ => by rw [e]; exact h1.2.1.1.2.2.1, fun _ => rfl⟩
        refine s_needEnd h1.2.1 (fun he => hQ X1 ?_) (fun _ hne hc => hQ _ ?_) (fun hc => absurd rfl hc)
        · have eL := hk0.mp he
          rw [if_pos (by rw [← e1]; exact eL)]
          exact LI.to h1 rfl
        · have neL : ¬ (qLine tx L (tkp tx L c)).2.1 = L := fun hh => hne (hk0.mpr (by rw [e1]; exact hh))
          rw [if_neg neL, if_neg (by rw [ht]; decide)]
          have hd := h1.lv.dead hl L0 hc
          obtain ⟨c2, b1, b2, bw, b3, b4⟩ := hd
          exact DI.to (w := tkp tx L c1) ⟨c2, b1, b2, bw, (h1.2.2.2.2).tr b4.pf⟩ e1.symm
    · rw [if_neg q1] at hQ
      refine h1.takes (by decide) ⟨fun hc => absurd rfl hc, fun _ => ?_⟩
      obtain ⟨c2, b1, b2, bw, b4⟩ := h1
      have hd : DI X0 X1 tx L n lw (qLine tx L (tkp tx L c)).1 := ⟨c2, b1, b2, bw, b4⟩
      exact s_needEnd b2 (fun _ => hQ X1 (hd.to rfl)) (fun hw => absurd hw bw) (fun _ => hQ X1 (hd.to rfl))
/-- a law's text -/
theorem s_readLaw {Q : mSt → Prop} (hN : 5000 ≤ N) (hl : lw = 24 ∨ lw = 31) (L0 : 0 ≤ L) (hL : L ≤ 400) (ok : okS X) (hC : CC X tx L n 0 (-1)) (hQ : ∀ X', TO X X' lw [] (qTxt tx L) → Q X') : w_X4_read N 38 lw X Q := by
  intro S1 e1 S2 e2
  have f : ∀ r, r ≠ lw → S2 r = X r := fun r hr => by rw [e2, mup_ne _ _ _ hr, e1, mup_ne _ _ _ hr]
  have h : LI X S2 tx L n 0 lw [] := by
    refine ⟨by rw [e2, e1]; exact okS_up (okS_up ok (by decide)) (by decide), hC.of (fun r a b => f r (by omega)), ⟨by rw [e2, mup_same]; rfl, fun i hi => absurd hi (Nat.not_lt_zero i)⟩, ⟨by rw [e2, mup_i _ _ _ (by decide), e1, mup_same]; rfl, fun i hi => absurd hi (Nat.not_lt_zero i)⟩, fun r a b => f r (by omega)⟩
  unfold qTxt at hQ
  have hb := tkp_in tx L0 0
  have hk0 : tkA tx L n 0 = 0 ↔ ns tx L 0 = L := by
    unfold tkA
    by_cases hcn : 0 < n
    · have hlt : tkp tx L 0 < L := (hC.1.1 0 hcn).2.2.2.2
      rw [if_pos hcn]
      have hge : tkT' tx L (tkp tx L 0) ≠ 0 := by
        unfold tkT'
        split
        · decide
        · have := wr_ge (tx := tx) (b := tkp tx L 0) (z := en tx L (tkp tx L 0) - tkp tx L 0) (by have := en_ge (tx := tx) hlt; omega)
          omega
      have e : tkp tx L 0 = ns tx L 0 := rfl
      exact ⟨fun hh => absurd hh hge, fun hh => by omega⟩
    · have e : n = 0 := by omega
      rw [if_neg hcn]
      have := hC.1.2.2.1
      rw [e] at this
      exact ⟨fun _ => this, fun _ => rfl⟩
  refine s_sees h.2.1 (fun _ ht => ⟨fun hc => absurd hc (by decide), fun _ => hQ S2 ?_⟩) (fun hno => ⟨fun _ v3 e3 => ?_, fun hc => absurd rfl hc⟩)
  · rw [if_pos (hk0.mp ht)]
    exact LI.to h rfl
  · subst e3
    rw [if_neg (fun hh => hno ⟨rfl, hk0.mpr hh⟩)] at hQ
    exact LI.loop hN hl L0 hL 12 N 0 S2 [] rfl (by omega) h (by show ((0 : Nat) : Int) ≤ _; omega) hQ
end linec
