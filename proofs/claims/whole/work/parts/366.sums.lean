set_option maxHeartbeats 400000
set_option maxRecDepth 20000
/-! ===== the pure part: sums ===== -/
def nx (tx : Int → Int) (L b : Int) : Int := ns tx L (en tx L b)
theorem nx_ge {tx : Int → Int} {L b : Int} (h : b < L) : b < nx tx L b ∧ nx tx L b ≤ L := by
  have h1 := en_ge (tx := tx) h
  have h2 := ns_ge tx L (en tx L b)
  unfold nx; omega
/-- what reading gives: the fault's place or -1, the next place, the steps -/
abbrev PR : Type := Int × Int × List Int
def qSm (tx : Int → Int) (L : Int) : Nat → Bool → Int → PR
  | 0 => fun _ b => (b, b, [])
  | d + 1 => fun fst b =>
    if b < L ∧ tkW tx L b ≠ -1 then
      (if nx tx L b < L ∧ tx (nx tx L b) = 43 then
        ((qSm tx L d false (nx tx L (nx tx L b))).1, (qSm tx L d false (nx tx L (nx tx L b))).2.1, (if fst = true then [tkW tx L b] else [tkW tx L b, 1011]) ++ (qSm tx L d false (nx tx L (nx tx L b))).2.2)
      else (-1, nx tx L b, if fst = true then [tkW tx L b] else [tkW tx L b, 1011]))
    else (b, b, [])
def qSum (tx : Int → Int) (L b : Int) : PR := qSm tx L ((L - b).toNat + 1) true b
/-- what reading sums and conditions may change of the class -/
def PS (X X' : mSt) (lw : Nat) : Prop := (∀ r, r ≠ 38 → r ≠ lw → r ≠ lw + 4 → X' r = X r) ∧ ∀ i, i ≠ 5 → X' lw i = X lw i
theorem PS.rf (X : mSt) (lw : Nat) : PS X X lw := ⟨fun _ _ _ _ => rfl, fun _ _ => rfl⟩
theorem PS.tr {X X1 X2 : mSt} {lw : Nat} (h : PS X X1 lw) (h' : PS X1 X2 lw) : PS X X2 lw := ⟨fun r a b c => (h'.1 r a b c).trans (h.1 r a b c), fun i hi => (h'.2 i hi).trans (h.2 i hi)⟩
theorem PS.cur {X : mSt} {lw : Nat} {i v : Int} (hl : lw = 24 ∨ lw = 31) : PS X (mup X 38 i v) lw := ⟨fun r a _ _ => mup_ne _ _ _ a, fun i _ => by rw [mup_ne _ _ _ (by omega)]⟩
/-- live: at token c, the steps S written; dead: fault w -/
def LV (X0 X : mSt) (tx : Int → Int) (L : Int) (n c lw : Nat) (S : List Int) : Prop := okS X ∧ CC X tx L n c (-1) ∧ LE X lw S ∧ PS X0 X lw
def DV (X0 X : mSt) (tx : Int → Int) (L : Int) (n lw : Nat) (w : Int) : Prop := ∃ c, okS X ∧ CC X tx L n c w ∧ w ≠ -1 ∧ 0 ≤ X lw 5 ∧ PS X0 X lw
section sums
variable {N : Nat} {X X0 : mSt} {tx : Int → Int} {L w : Int} {n c lw t : Nat} {S : List Int}
theorem LV.dead (hl : lw = 24 ∨ lw = 31) (L0 : 0 ≤ L) (h : LV X0 X tx L n c lw S) (hc : CC (mup X 38 6 (tkp tx L c)) tx L n c (tkp tx L c)) : DV X0 (mup X 38 6 (tkp tx L c)) tx L n lw (tkp tx L c) := by
  obtain ⟨h1, h2, h3, h4⟩ := h
  have ht := tkp_in tx L0 c
  have hL : L ≤ 400 ∨ True := Or.inr trivial
  refine ⟨c, okS_up h1 ?_, hc, by omega, by rw [mup_ne _ _ _ (by omega), h3.1]; omega, h4.tr (PS.cur hl)⟩
  have := h2.tok.2.1
  rw [← this]; exact h1 _ _
theorem LV.next (hl : lw = 24 ∨ lw = 31) (h : LV X0 X tx L n c lw S) (hc : c < n) : LV X0 (mup X 38 5 ((c + 1 : Nat) : Int)) tx L n (c + 1) lw S ∧ tkp tx L (c + 1) = nx tx L (tkp tx L c) ∧ tkp tx L c < L := by
  obtain ⟨h1, h2, h3, h4⟩ := h
  have hlt := (h2.tok.2.2 hc).2
  have hn := h2.1.2.1
  refine ⟨⟨okS_up h1 (by unfold okI; omega), h2.next hc, h3.of (mup_ne _ _ _ (by omega)) (mup_ne _ _ _ (by omega)), h4.tr (PS.cur hl)⟩, ?_, hlt⟩
  show (if tkp tx L c < L then ns tx L (en tx L (tkp tx L c)) else L) = _
  rw [if_pos hlt]; rfl
theorem LV.step {Q : mSt → Prop} {v : Int} (hl : lw = 24 ∨ lw = 31) (h : LV X0 X tx L n c lw S) (hS : S.length < 400) (ov : okI v) (hQ : ∀ X', LV X0 X' tx L n c lw (S ++ [v]) → Q X') : w_X3_addStep N lw v X Q := by
  obtain ⟨h1, h2, h3, h4⟩ := h
  exact s_addStep h1 h3 hS ov (fun X' ok' p' e38 l' f' i' => hQ X' ⟨ok', h2.of (fun r a b => f' r (by omega) (by omega)), l', h4.tr ⟨fun r _ b c => f' r b c, i'⟩⟩) hl
theorem DV.step {Q : mSt → Prop} {v : Int} (hl : lw = 24 ∨ lw = 31) (h : DV X0 X tx L n lw w) (ov : okI v) (hQ : ∀ X', DV X0 X' tx L n lw w → Q X') : w_X3_addStep N lw v X Q := by
  obtain ⟨c, h1, h2, hw, h3, h4⟩ := h
  exact s_addStepD h1 h3 ov (fun X' ok' p' e38 l' f' i' => hQ X' ⟨c, ok', h2.of (fun r a b => f' r (by omega) (by omega)), hw, l', h4.tr ⟨fun r _ b c => f' r b c, i'⟩⟩) hl
theorem DV.takes {Q : mSt → Int → Prop} (t0 : t ≠ 0) (h : DV X0 X tx L n lw w) (hQ : Q X 0) : w_X10_takes N 38 t X Q := by
  obtain ⟨c, h1, h2, hw, h3, h4⟩ := h
  exact s_takes t0 h2 (fun a => absurd a hw) (fun _ => hQ)
theorem DV.sees {Q : mSt → Int → Prop} (h : DV X0 X tx L n lw w) (hQ : Q X 0) : w_X10_sees N 38 t X Q := by
  obtain ⟨c, h1, h2, hw, h3, h4⟩ := h
  exact s_sees h2 (fun a => absurd a hw) (fun _ => hQ)
theorem DV.need {Q : mSt → Prop} (t0 : t ≠ 0) (h : DV X0 X tx L n lw w) (hQ : Q X) : w_X10_need N 38 t X Q := by
  obtain ⟨c, h1, h2, hw, h3, h4⟩ := h
  exact s_need t0 h2 (fun a => absurd a hw) (fun a => absurd a hw) (fun _ => hQ)
theorem DV.refuse {Q : mSt → Prop} (h : DV X0 X tx L n lw w) (hQ : Q X) : w_X10_refuse N 38 X Q := by
  obtain ⟨c, h1, h2, hw, h3, h4⟩ := h
  exact s_refuse h2 (fun _ => hQ) (fun a => absurd a hw)
theorem DV.needTerm {Q : mSt → Int → Prop} (h : DV X0 X tx L n lw w) (hQ : Q X 0) : w_X10_needTerm N 38 X Q := by
  obtain ⟨c, h1, h2, hw, h3, h4⟩ := h
  exact s_needTerm h2 (fun a => absurd a hw) (fun a => absurd a hw) (fun _ => hQ)
/-- the rest of a sum's turn, dead -/
theorem DV.sum34 {Q : mSt → Prop} {x3 : Int} {m : Nat} (hl : lw = 24 ∨ lw = 31) (x0 : 0 ≤ x3) (x1 : x3 < 400) (h : DV X0 X tx L n lw w) (hQ : ∀ X', DV X0 X' tx L n lw w → Q X') : w_X4_readSum_34 N Q (w_X4_readSum_4 N Q (fun (S_3 : mSt) => Q S_3) (m + 1)) 38 lw x3 X := by
  refine h.takes (by decide) (fun v2 e2 v3 e3 => ?_)
  subst e2
  exact ⟨fun _ => hQ X h, fun hc => absurd rfl hc⟩
theorem DV.readSum {Q : mSt → Prop} (hN : 5000 ≤ N) (hl : lw = 24 ∨ lw = 31) (h : DV X0 X tx L n lw w) (hQ : ∀ X', DV X0 X' tx L n lw w → Q X') : w_X4_readSum N 38 lw X Q := by
  intro v1 e1 v2 e2
  subst e1; subst e2
  obtain ⟨m, rfl⟩ : ∃ m, N = m + 2 := ⟨N - 2, by omega⟩
  refine ⟨fun hc => absurd hc (by decide), fun _ => ⟨fun hc => absurd hc (by decide), fun _ => h.needTerm (h.step hl (by decide) (fun X' h' => ⟨fun _ => h'.sum34 hl (by decide) (by decide) hQ, fun hc => absurd hc (by decide)⟩))⟩⟩
end sums
