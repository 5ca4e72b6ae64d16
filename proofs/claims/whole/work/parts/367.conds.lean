set_option maxHeartbeats 400000
set_option maxRecDepth 20000
/-! ===== the pure part: conditions, the class ===== -/
def qAll (F : Int → PR) (tx : Int → Int) (L b : Int) : PR := qJ F tx L 32 1014 b
def qCond (F : Int → PR) (tx : Int → Int) (L b : Int) : PR := qJ (qAll F tx L) tx L 31 1015 b
/-- two sums, compared -/
def qCmp (tx : Int → Int) (L b : Int) : PR :=
  if (qSum tx L b).1 = -1 then
    (if tok tx L 7 (qSum tx L b).2.1 = true ∨ tok tx L 8 (qSum tx L b).2.1 = true then
      ((qSum tx L (nx tx L (qSum tx L b).2.1)).1, (qSum tx L (nx tx L (qSum tx L b).2.1)).2.1, ((qSum tx L b).2.2 ++ (qSum tx L (nx tx L (qSum tx L b).2.1)).2.2) ++ [if tok tx L 7 (qSum tx L b).2.1 = true then 1012 else 1013])
    else ((qSum tx L b).2.1, b, []))
  else ((qSum tx L b).1, b, [])
def qPl (tx : Int → Int) (L b : Int) : PR := if tok tx L 34 b = true then (-1, nx tx L b, [1008]) else if tok tx L 35 b = true then (-1, nx tx L b, [1009]) else qCmp tx L b
/-- a condition in brackets, behind the ( -/
def qBr (F : Int → PR) (tx : Int → Int) (L b : Int) : PR :=
  if (qCond F tx L b).1 = -1 then
    (if tok tx L 5 (qCond F tx L b).2.1 = true then (-1, nx tx L (qCond F tx L b).2.1, (qCond F tx L b).2.2) else ((qCond F tx L b).2.1, b, []))
  else ((qCond F tx L b).1, b, [])
/-- an atom, d levels left -/
def qAt (tx : Int → Int) (L : Int) : Nat → Int → PR
  | 0 => fun b => if tok tx L 33 b = true ∨ tok tx L 4 b = true then (b, b, []) else qPl tx L b
  | d + 1 => fun b =>
    if tok tx L 33 b = true then ((qAt tx L d (nx tx L b)).1, (qAt tx L d (nx tx L b)).2.1, (qAt tx L d (nx tx L b)).2.2 ++ [1010])
    else if tok tx L 4 b = true then qBr (qAt tx L d) tx L (nx tx L b) else qPl tx L b
section condp
variable {F : Int → PR} {tx : Int → Int} {L b : Int}
theorem qAll_GR (hF : ∀ b, 0 ≤ b → b ≤ L → GR L b 0 (F b)) (b : Int) (b0 : 0 ≤ b) (b1 : b ≤ L) : GR L b 0 (qAll F tx L b) := qJ_GR hF b b0 b1
theorem qCond_GR (hF : ∀ b, 0 ≤ b → b ≤ L → GR L b 0 (F b)) (b : Int) (b0 : 0 ≤ b) (b1 : b ≤ L) : GR L b 0 (qCond F tx L b) := qJ_GR (fun b b0 b1 => qAll_GR hF b b0 b1) b b0 b1
theorem qCmp_GR (b : Int) (b0 : 0 ≤ b) (b1 : b ≤ L) : GR L b 0 (qCmp tx L b) := by
  unfold qCmp
  have hg := qSum_GR tx b b0 b1
  by_cases h1 : (qSum tx L b).1 = -1
  · rw [if_pos h1]
    obtain ⟨g1, g2, g3⟩ := hg h1
    by_cases h2 : tok tx L 7 (qSum tx L b).2.1 = true ∨ tok tx L 8 (qSum tx L b).2.1 = true
    · rw [if_pos h2]
      have hlt : (qSum tx L b).2.1 < L := by rcases h2 with h | h <;> exact tok_lt h
      have hn := nx_ge (tx := tx) hlt
      intro he
      obtain ⟨k1, k2, k3⟩ := qSum_GR tx (nx tx L (qSum tx L b).2.1) (by omega) hn.2 he
      refine ⟨?_, k2, ?_⟩
      · show b < (qSum tx L (nx tx L (qSum tx L b).2.1)).2.1
        omega
      · show ((((qSum tx L b).2.2 ++ (qSum tx L (nx tx L (qSum tx L b).2.1)).2.2) ++ [if tok tx L 7 (qSum tx L b).2.1 = true then (1012 : Int) else 1013]).length : Int) ≤ (qSum tx L (nx tx L (qSum tx L b).2.1)).2.1 - b + 0
        rw [List.length_append, List.length_append, Int.natCast_add, Int.natCast_add, List.length_singleton]
        omega
    · rw [if_neg h2]
      intro he
      have : (qSum tx L b).2.1 = -1 := he
      omega
  · rw [if_neg h1]
    intro he; exact absurd he h1
theorem one_GR {v : Int} (h : b < L) : GR L b 0 (-1, nx tx L b, [v]) := by
  have := nx_ge (tx := tx) h
  intro _
  refine ⟨this.1, this.2, ?_⟩
  show ((1 : Nat) : Int) ≤ nx tx L b - b + 0
  omega
theorem qPl_GR (b : Int) (b0 : 0 ≤ b) (b1 : b ≤ L) : GR L b 0 (qPl tx L b) := by
  unfold qPl
  split
  · next h => exact one_GR (tok_lt h)
  · split
    · next h => exact one_GR (tok_lt h)
    · exact qCmp_GR b b0 b1
theorem qBr_GR (hF : ∀ b, 0 ≤ b → b ≤ L → GR L b 0 (F b)) (b : Int) (b0 : 0 ≤ b) (b1 : b ≤ L) : GR L b 0 (qBr F tx L b) := by
  unfold qBr
  have hg := qCond_GR (tx := tx) hF b b0 b1
  by_cases h1 : (qCond F tx L b).1 = -1
  · rw [if_pos h1]
    obtain ⟨g1, g2, g3⟩ := hg h1
    by_cases h2 : tok tx L 5 (qCond F tx L b).2.1 = true
    · rw [if_pos h2]
      have hn := nx_ge (tx := tx) (tok_lt h2)
      intro _
      refine ⟨?_, hn.2, ?_⟩
      · show b < nx tx L (qCond F tx L b).2.1
        omega
      · show ((qCond F tx L b).2.2.length : Int) ≤ nx tx L (qCond F tx L b).2.1 - b + 0
        omega
    · rw [if_neg h2]
      intro he
      have : (qCond F tx L b).2.1 = -1 := he
      omega
  · rw [if_neg h1]
    intro he; exact absurd he h1
theorem qAt_GR : ∀ (d : Nat) (b : Int), 0 ≤ b → b ≤ L → GR L b 0 (qAt tx L d b)
  | 0, b, b0, b1 => by
    unfold qAt
    split
    · intro he
      have : b = -1 := he
      omega
    · exact qPl_GR b b0 b1
  | d + 1, b, b0, b1 => by
    unfold qAt
    split
    · next h =>
      have hn := nx_ge (tx := tx) (tok_lt h)
      intro he
      obtain ⟨k1, k2, k3⟩ := qAt_GR d (nx tx L b) (by omega) hn.2 he
      refine ⟨?_, k2, ?_⟩
      · show b < (qAt tx L d (nx tx L b)).2.1
        omega
      · show (((qAt tx L d (nx tx L b)).2.2 ++ [1010]).length : Int) ≤ (qAt tx L d (nx tx L b)).2.1 - b + 0
        rw [List.length_append, Int.natCast_add, List.length_singleton]
        omega
    · split
      · next h =>
        have hn := nx_ge (tx := tx) (tok_lt h)
        intro he
        obtain ⟨k1, k2, k3⟩ := qBr_GR (tx := tx) (fun b b0 b1 => qAt_GR d b b0 b1) (nx tx L b) (by omega) hn.2 he
        exact ⟨by omega, k2, by omega⟩
      · exact qPl_GR b b0 b1
end condp
section condc
variable {N : Nat} {X0 : mSt} {tx : Int → Int} {L : Int} {n lw : Nat} {G : Int → PR} {F : Nat → Nat → Int → mSt → (mSt → Prop) → Prop} {x2 : Int}
/-- F reads what G tells, at the depth x2 -/
def CA (F : Nat → Nat → Int → mSt → (mSt → Prop) → Prop) (G : Int → PR) (x2 : Int) (X0 : mSt) (tx : Int → Int) (L : Int) (n lw : Nat) : Prop := ∀ (c : Nat) (X : mSt) (S : List Int) (Q : mSt → Prop), LV X0 X tx L n c lw S → (S.length : Int) ≤ tkp tx L c → (∀ X', PO X0 X' tx L n lw S (G (tkp tx L c)) → Q X') → F 38 lw x2 X Q
theorem LV.allL {Q : mSt → Prop} {ko69 : Nat → Nat → Int → Int → mSt → Prop} {x4 : Int} (hl : lw = 24 ∨ lw = 31) (L0 : 0 ≤ L) (hL : L ≤ 400) (hF : CA F G x2 X0 tx L n lw) (hG : ∀ b, 0 ≤ b → b ≤ L → GR L b 0 (G b)) : ∀ (d fu x6 c : Nat) (X : mSt) (S : List Int), L - tkp tx L c < d → d + 1 < fu → 2 * (x6 : Int) ≤ tkp tx L c → (S.length : Int) + (if decide (x6 = 0) = true then 0 else 1) ≤ tkp tx L c → LV X0 X tx L n c lw S → (∀ X', PO X0 X' tx L n lw S (qJn G (tok tx L 32) (nx tx L) 1014 d (decide (x6 = 0)) (tkp tx L c)) → ko69 38 lw x2 x4 X') → w_X4_readCondition_23 N F Q ko69 fu 38 lw x2 x4 1 x6 X := by
  intro d
  induction d with
  | zero => intro fu x6 c X S hd; have := tkp_in tx L0 c; omega
  | succ d ih =>
    intro fu x6 c X S hd hf hx hS h hQ
    obtain ⟨fu, rfl⟩ : ∃ m, fu = m + 2 := ⟨fu - 2, by omega⟩
    have hb := tkp_in tx L0 c
    have hS0 : (S.length : Int) ≤ tkp tx L c := by split at hS <;> omega
    have hg := hG _ hb.1 hb.2
    have hj := jst_len (decide (x6 = 0)) 1014
    have x64 : x6 < 400 := by omega
    refine ⟨fun hc => absurd hc (by decide), fun _ => ⟨fun hc => by omega, fun _ => hF c X S _ h hS0 (fun X1 hp => ?_)⟩⟩
    rcases hp with ⟨q1, c1, h1, e1⟩ | ⟨q1, h1⟩
    · obtain ⟨g1, g2, g3⟩ := hg q1
      have fin : ∀ X3, LV X0 X3 tx L n c1 lw (S ++ ((G (tkp tx L c)).2.2 ++ jst (decide (x6 = 0)) 1014)) → w_X4_readCondition_54 N F Q (w_X4_readCondition_23 N F Q ko69 (fu + 1)) 38 lw x2 x4 x6 X3 := by
        intro X3 h3
        refine h3.takes hl (by decide) (fun ht h4 e4 v2 e2 v3 e3 => ?_) (fun ht v2 e2 v3 e3 => ?_)
        · rw [nx8 (by omega)] at e3
          subst e2; subst e3
          rw [e1] at ht e4
          have hn2 := nx_ge (tx := tx) (tok_lt ht)
          have hlen : (((S ++ ((G (tkp tx L c)).2.2 ++ jst (decide (x6 = 0)) 1014)).length : Nat) : Int) = S.length + ((G (tkp tx L c)).2.2.length + if decide (x6 = 0) = true then 0 else 1) := by
            rw [List.length_append, List.length_append, Int.natCast_add, Int.natCast_add, hj]
          refine ih (fu + 1) (x6 + 1) (c1 + 1) _ _ (by omega) (by omega) (by omega) ?_ h4 (fun X' hp => hQ X' ?_)
          · rw [show (if decide (x6 + 1 = 0) = true then (0 : Int) else 1) = 1 from by rw [decide_eq_false (Nat.succ_ne_zero x6)]; rfl, hlen]; omega
          · rw [decide_eq_false (Nat.succ_ne_zero x6), e4] at hp
            rw [qJn_more q1 ht]
            exact hp.app
        · rw [e1] at ht
          subst e2
          refine ⟨fun _ => hQ X3 ?_, fun hc => absurd rfl hc⟩
          rw [qJn_stop q1 ht]
          exact Or.inl ⟨rfl, c1, h3, e1⟩
      refine ⟨fun hx0 => fin X1 ?_, fun hx0 => h1.step hl ?_ (by decide) (fun X3 h3 => fin X3 ?_)⟩
      · rw [decide_eq_true (show x6 = 0 by omega)]
        show LV X0 X1 tx L n c1 lw (S ++ ((G (tkp tx L c)).2.2 ++ []))
        rw [List.append_nil]; exact h1
      · rw [decide_eq_false (show ¬ x6 = 0 by omega), if_neg (by decide)] at hS
        rw [List.length_append]
        omega
      · rw [decide_eq_false (show ¬ x6 = 0 by omega)]
        rw [List.append_assoc] at h3; exact h3
    · have hQ' : ∀ X', DV X0 X' tx L n lw (G (tkp tx L c)).1 → w_X4_readCondition_54 N F Q (w_X4_readCondition_23 N F Q ko69 (fu + 1)) 38 lw x2 x4 x6 X' := fun X' hd => hd.takes (by decide) (fun v2 e2 v3 e3 => by
        subst e2
        exact ⟨fun _ => hQ X' (by rw [qJn_bad q1]; exact Or.inr ⟨q1, hd⟩), fun hc => absurd rfl hc⟩)
      exact ⟨fun _ => hQ' X1 h1, fun _ => h1.step hl (by decide) hQ'⟩
theorem LV.someL {Q : mSt → Prop} {ko95 : mSt → Prop} (hN : 5000 ≤ N) (hl : lw = 24 ∨ lw = 31) (L0 : 0 ≤ L) (hL : L ≤ 400) (hF : CA F G x2 X0 tx L n lw) (hG : ∀ b, 0 ≤ b → b ≤ L → GR L b 0 (G b)) : ∀ (d fu x4 c : Nat) (X : mSt) (S : List Int), L - tkp tx L c < d → d + 1 < fu → 2 * (x4 : Int) ≤ tkp tx L c → (S.length : Int) + (if decide (x4 = 0) = true then 0 else 1) ≤ tkp tx L c → LV X0 X tx L n c lw S → (∀ X', PO X0 X' tx L n lw S (qJn (qAll G tx L) (tok tx L 31) (nx tx L) 1015 d (decide (x4 = 0)) (tkp tx L c)) → ko95 X') → w_X4_readCondition_5 N F Q ko95 fu 38 lw x2 1 x4 X := by
  intro d
  induction d with
  | zero => intro fu x4 c X S hd; have := tkp_in tx L0 c; omega
  | succ d ih =>
    intro fu x4 c X S hd hf hx hS h hQ
    obtain ⟨fu, rfl⟩ : ∃ m, fu = m + 2 := ⟨fu - 2, by omega⟩
    have hb := tkp_in tx L0 c
    have hS0 : (S.length : Int) ≤ tkp tx L c := by split at hS <;> omega
    have hg := qAll_GR (tx := tx) hG _ hb.1 hb.2
    have hj := jst_len (decide (x4 = 0)) 1015
    have x44 : x4 < 400 := by omega
    refine ⟨fun hc => absurd hc (by decide), fun _ => ⟨fun hc => by omega, fun _ v1 ev1 v2 ev2 => ?_⟩⟩
    subst ev1; subst ev2
    refine LV.allL hl L0 hL hF hG ((L - tkp tx L c).toNat + 1) N 0 c X S (by omega) (by omega) (by omega) (by rw [decide_eq_true rfl, if_pos rfl]; omega) h (fun X1 hp => ?_)
    have hp : PO X0 X1 tx L n lw S (qAll G tx L (tkp tx L c)) := hp
    rcases hp with ⟨q1, c1, h1, e1⟩ | ⟨q1, h1⟩
    · obtain ⟨g1, g2, g3⟩ := hg q1
      have fin : ∀ X3, LV X0 X3 tx L n c1 lw (S ++ ((qAll G tx L (tkp tx L c)).2.2 ++ jst (decide (x4 = 0)) 1015)) → w_X4_readCondition_81 N F Q (w_X4_readCondition_5 N F Q ko95 (fu + 1)) 38 lw x2 x4 X3 := by
        intro X3 h3
        refine h3.takes hl (by decide) (fun ht h4 e4 v2 e2 v3 e3 => ?_) (fun ht v2 e2 v3 e3 => ?_)
        · rw [nx8 (by omega)] at e3
          subst e2; subst e3
          rw [e1] at ht e4
          have hn2 := nx_ge (tx := tx) (tok_lt ht)
          have hlen : (((S ++ ((qAll G tx L (tkp tx L c)).2.2 ++ jst (decide (x4 = 0)) 1015)).length : Nat) : Int) = S.length + ((qAll G tx L (tkp tx L c)).2.2.length + if decide (x4 = 0) = true then 0 else 1) := by
            rw [List.length_append, List.length_append, Int.natCast_add, Int.natCast_add, hj]
          refine ih (fu + 1) (x4 + 1) (c1 + 1) _ _ (by omega) (by omega) (by omega) ?_ h4 (fun X' hp => hQ X' ?_)
          · rw [show (if decide (x4 + 1 = 0) = true then (0 : Int) else 1) = 1 from by rw [decide_eq_false (Nat.succ_ne_zero x4)]; rfl, hlen]; omega
          · rw [decide_eq_false (Nat.succ_ne_zero x4), e4] at hp
            rw [qJn_more q1 ht]
            exact hp.app
        · rw [e1] at ht
          subst e2
          refine ⟨fun _ => hQ X3 ?_, fun hc => absurd rfl hc⟩
          rw [qJn_stop q1 ht]
          exact Or.inl ⟨rfl, c1, h3, e1⟩
      refine ⟨fun hx0 => fin X1 ?_, fun hx0 => h1.step hl ?_ (by decide) (fun X3 h3 => fin X3 ?_)⟩
      · rw [decide_eq_true (show x4 = 0 by omega)]
        show LV X0 X1 tx L n c1 lw (S ++ ((qAll G tx L (tkp tx L c)).2.2 ++ []))
        rw [List.append_nil]; exact h1
      · rw [decide_eq_false (show ¬ x4 = 0 by omega), if_neg (by decide)] at hS
        rw [List.length_append]
        omega
      · rw [decide_eq_false (show ¬ x4 = 0 by omega)]
        rw [List.append_assoc] at h3; exact h3
    · have hQ' : ∀ X', DV X0 X' tx L n lw (qAll G tx L (tkp tx L c)).1 → w_X4_readCondition_81 N F Q (w_X4_readCondition_5 N F Q ko95 (fu + 1)) 38 lw x2 x4 X' := fun X' hd => hd.takes (by decide) (fun v2 e2 v3 e3 => by
        subst e2
        exact ⟨fun _ => hQ X' (by rw [qJn_bad q1]; exact Or.inr ⟨q1, hd⟩), fun hc => absurd rfl hc⟩)
      exact ⟨fun _ => hQ' X1 h1, fun _ => h1.step hl (by decide) hQ'⟩
theorem LV.cond {Q : mSt → Prop} {X : mSt} {c : Nat} {S : List Int} (hN : 5000 ≤ N) (hl : lw = 24 ∨ lw = 31) (L0 : 0 ≤ L) (hL : L ≤ 400) (hF : CA F G x2 X0 tx L n lw) (hG : ∀ b, 0 ≤ b → b ≤ L → GR L b 0 (G b)) (h : LV X0 X tx L n c lw S) (hS : (S.length : Int) ≤ tkp tx L c) (hQ : ∀ X', PO X0 X' tx L n lw S (qCond G tx L (tkp tx L c)) → Q X') : w_X4_readCondition N F 38 lw x2 X Q := by
  intro v1 e1 v2 e2
  subst e1; subst e2
  have hb := tkp_in tx L0 c
  exact LV.someL hN hl L0 hL hF hG ((L - tkp tx L c).toNat + 1) N 0 c X S (by omega) (by omega) (by omega) (by rw [decide_eq_true rfl, if_pos rfl]; omega) h hQ
end condc
