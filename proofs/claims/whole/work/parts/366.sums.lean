set_option maxHeartbeats 400000
set_option maxRecDepth 20000
/-! ===== the pure part: sums ===== -/
def nx (tx : Int → Int) (L b : Int) : Int := ns tx L (en tx L b)
theorem nx_ge {tx : Int → Int} {L b : Int} (h : b < L) : b < nx tx L b ∧ nx tx L b ≤ L := by
  have h1 := en_ge (tx := tx) h
  have h2 := ns_ge tx L (en tx L b)
  unfold nx; omega
/-- what reading gives: the fault's place or -1, the next place, the steps -/
abbrev PR : Type := Int × Int × List Int
def jst (fst : Bool) (v : Int) : List Int := if fst = true then [] else [v]
/-- things joined by a token, a step behind each but the first -/
def qJn (F : Int → PR) (sp : Int → Bool) (nx : Int → Int) (v : Int) : Nat → Bool → Int → PR
  | 0 => fun _ b => (b, b, [])
  | d + 1 => fun fst b =>
    if (F b).1 = -1 then
      (if sp (F b).2.1 = true then
        ((qJn F sp nx v d false (nx (F b).2.1)).1, (qJn F sp nx v d false (nx (F b).2.1)).2.1, ((F b).2.2 ++ jst fst v) ++ (qJn F sp nx v d false (nx (F b).2.1)).2.2)
      else (-1, (F b).2.1, (F b).2.2 ++ jst fst v))
    else F b
section joins
variable {F : Int → PR} {sp : Int → Bool} {nx : Int → Int} {v b L : Int} {d : Nat} {fst : Bool}
theorem qJn_more (h1 : (F b).1 = -1) (h2 : sp (F b).2.1 = true) : qJn F sp nx v (d + 1) fst b = ((qJn F sp nx v d false (nx (F b).2.1)).1, (qJn F sp nx v d false (nx (F b).2.1)).2.1, ((F b).2.2 ++ jst fst v) ++ (qJn F sp nx v d false (nx (F b).2.1)).2.2) := by
  show (if (F b).1 = -1 then (if sp (F b).2.1 = true then _ else _) else _) = _
  rw [if_pos h1, if_pos h2]
theorem qJn_stop (h1 : (F b).1 = -1) (h2 : sp (F b).2.1 = false) : qJn F sp nx v (d + 1) fst b = (-1, (F b).2.1, (F b).2.2 ++ jst fst v) := by
  show (if (F b).1 = -1 then (if sp (F b).2.1 = true then _ else _) else _) = _
  rw [if_pos h1, if_neg (by rw [h2]; decide)]
theorem qJn_bad (h1 : (F b).1 ≠ -1) : qJn F sp nx v (d + 1) fst b = F b := by
  show (if (F b).1 = -1 then (if sp (F b).2.1 = true then _ else _) else _) = _
  rw [if_neg h1]
/-- where a good reading ends, and how many steps it gives -/
def GR (L b o : Int) (q : PR) : Prop := q.1 = -1 → b < q.2.1 ∧ q.2.1 ≤ L ∧ (q.2.2.length : Int) ≤ q.2.1 - b + o
theorem jst_len (fst : Bool) (v : Int) : ((jst fst v).length : Int) = if fst = true then 0 else 1 := by cases fst <;> rfl
theorem qJn_GR (hF : ∀ b, 0 ≤ b → b ≤ L → GR L b 0 (F b)) (hsp : ∀ p, sp p = true → p < L) (hnx : ∀ p, p < L → p < nx p ∧ nx p ≤ L) : ∀ (d : Nat) (fst : Bool) (b : Int), 0 ≤ b → b ≤ L → L - b < d → GR L b (if fst = true then 0 else 1) (qJn F sp nx v d fst b) := by
  intro d
  induction d with
  | zero => intro fst b b0 b1 hd; omega
  | succ d ih =>
    intro fst b b0 b1 hd
    have hj := jst_len fst v
    by_cases h1 : (F b).1 = -1
    · have hg := hF b b0 b1 h1
      cases h2 : sp (F b).2.1
      · rw [qJn_stop h1 h2]
        intro _
        refine ⟨hg.1, hg.2.1, ?_⟩
        show (((F b).2.2 ++ jst fst v).length : Int) ≤ _
        rw [List.length_append, Int.natCast_add, hj]
        show _ ≤ (F b).2.1 - b + _
        omega
      · rw [qJn_more h1 h2]
        have hn := hnx _ (hsp _ h2)
        have hi := ih false (nx (F b).2.1) (by omega) hn.2 (by omega)
        intro he
        obtain ⟨i1, i2, i3⟩ := hi he
        rw [if_neg (by decide)] at i3
        refine ⟨?_, i2, ?_⟩
        · show b < (qJn F sp nx v d false (nx (F b).2.1)).2.1
          omega
        · show ((((F b).2.2 ++ jst fst v) ++ (qJn F sp nx v d false (nx (F b).2.1)).2.2).length : Int) ≤ (qJn F sp nx v d false (nx (F b).2.1)).2.1 - b + _
          rw [List.length_append, List.length_append, Int.natCast_add, Int.natCast_add, hj]
          omega
    · rw [qJn_bad h1]
      intro he; exact absurd he h1
end joins
/-- the token t stands at p -/
def tok (tx : Int → Int) (L : Int) (t : Nat) (p : Int) : Bool := decide (p < L ∧ tkT' tx L p = t)
theorem tok_lt {tx : Int → Int} {L p : Int} {t : Nat} (h : tok tx L t p = true) : p < L := (of_decide_eq_true h).1
def qJ (F : Int → PR) (tx : Int → Int) (L : Int) (t : Nat) (v b : Int) : PR := qJn F (tok tx L t) (nx tx L) v ((L - b).toNat + 1) true b
theorem qJ_GR {F : Int → PR} {tx : Int → Int} {L : Int} {t : Nat} {v : Int} (hF : ∀ b, 0 ≤ b → b ≤ L → GR L b 0 (F b)) (b : Int) (b0 : 0 ≤ b) (b1 : b ≤ L) : GR L b 0 (qJ F tx L t v b) := by
  have := qJn_GR (v := v) hF (fun p h => tok_lt (tx := tx) (t := t) h) (fun p h => nx_ge (tx := tx) h) ((L - b).toNat + 1) true b b0 b1 (by omega)
  rw [if_pos rfl] at this; exact this
/-- a term -/
def qTm (tx : Int → Int) (L b : Int) : PR := if b < L ∧ tkW tx L b ≠ -1 then (-1, nx tx L b, [tkW tx L b]) else (b, b, [])
theorem qTm_GR (tx : Int → Int) {L : Int} (b : Int) (b0 : 0 ≤ b) (b1 : b ≤ L) : GR L b 0 (qTm tx L b) := by
  unfold qTm
  split
  · next h =>
    have := nx_ge (tx := tx) h.1
    intro _
    refine ⟨this.1, this.2, ?_⟩
    show ((1 : Nat) : Int) ≤ nx tx L b - b + 0
    omega
  · intro he
    have : b = -1 := he
    omega
def qSum (tx : Int → Int) (L b : Int) : PR := qJ (qTm tx L) tx L 6 1011 b
theorem qSum_GR (tx : Int → Int) {L : Int} (b : Int) (b0 : 0 ≤ b) (b1 : b ≤ L) : GR L b 0 (qSum tx L b) := qJ_GR (qTm_GR tx) b b0 b1
theorem tkV_rng : ∀ t : Nat, t < 36 → tkV t = -1 ∨ (1000 ≤ tkV t ∧ tkV t ≤ 1007) := by decide +kernel
theorem tkW_rng {tx : Int → Int} {L b : Int} (hb : b < L) (h : tkW tx L b ≠ -1) : 0 ≤ tkW tx L b ∧ tkW tx L b ≤ 1007 ∧ (tkW tx L b < 1000 ∨ 1000 ≤ tkW tx L b) := by
  have hg := en_ge (tx := tx) hb
  unfold tkW at h ⊢
  by_cases h1 : ty (tx b) = 1
  · rw [if_pos h1] at h ⊢
    by_cases h3 : en tx L b - b ≤ 3
    · rw [if_pos h3] at h ⊢
      have hp := vlF_ok (tx := tx) (b := b) (k := (en tx L b - b).toNat) (fun i hi => en_fig (L := L) h1 i (by omega))
      have hk : (en tx L b - b).toNat = 1 ∨ (en tx L b - b).toNat = 2 ∨ (en tx L b - b).toNat = 3 := by omega
      rcases hk with hk | hk | hk <;> rw [hk] at hp ⊢ <;> omega
    · rw [if_neg h3] at h; exact absurd rfl h
  · rw [if_neg h1] at h ⊢
    have ht : tkT' tx L b < 36 := by unfold tkT'; rw [if_neg h1]; exact wr_lt _ _ _
    have := (tkV_rng _ ht).resolve_left h
    omega
/-- what reading sums and conditions may change of the class -/
def SF (X X' : mSt) (lw : Nat) : Prop := (∀ r, r ≠ 38 → r ≠ lw → r ≠ lw + 4 → X' r = X r) ∧ ∀ i, i ≠ 5 → X' lw i = X lw i
theorem SF.rf (X : mSt) (lw : Nat) : SF X X lw := ⟨fun _ _ _ _ => rfl, fun _ _ => rfl⟩
theorem SF.tr {X X1 X2 : mSt} {lw : Nat} (h : SF X X1 lw) (h' : SF X1 X2 lw) : SF X X2 lw := ⟨fun r a b c => (h'.1 r a b c).trans (h.1 r a b c), fun i hi => (h'.2 i hi).trans (h.2 i hi)⟩
theorem SF.cur {X : mSt} {lw : Nat} {i v : Int} (hl : lw = 24 ∨ lw = 31) : SF X (mup X 38 i v) lw := ⟨fun r a _ _ => mup_ne _ _ _ a, fun i _ => by rw [mup_ne _ _ _ (by omega)]⟩
/-- live: at token c, the steps S written; dead: fault w -/
def LV (X0 X : mSt) (tx : Int → Int) (L : Int) (n c lw : Nat) (S : List Int) : Prop := okS X ∧ CC X tx L n c (-1) ∧ LE X lw S ∧ SF X0 X lw
def DV (X0 X : mSt) (tx : Int → Int) (L : Int) (n lw : Nat) (w : Int) : Prop := ∃ c, okS X ∧ CC X tx L n c w ∧ w ≠ -1 ∧ 0 ≤ X lw 5 ∧ SF X0 X lw
/-- the reading q, begun behind the steps S -/
def PO (X0 X : mSt) (tx : Int → Int) (L : Int) (n lw : Nat) (S : List Int) (q : PR) : Prop := (q.1 = -1 ∧ ∃ c, LV X0 X tx L n c lw (S ++ q.2.2) ∧ tkp tx L c = q.2.1) ∨ (q.1 ≠ -1 ∧ DV X0 X tx L n lw q.1)
section sums
variable {N : Nat} {X X0 : mSt} {tx : Int → Int} {L w : Int} {n c lw t : Nat} {S : List Int}
theorem tkA_tok (hT : TK X tx L n) (hc : c ≤ n) (t0 : t ≠ 0) : tkA tx L n c = t ↔ tok tx L t (tkp tx L c) = true := by
  unfold tkA tok
  rw [decide_eq_true_eq]
  by_cases hcn : c < n
  · rw [if_pos hcn]
    have := (hT.1 c hcn).2.2.2.2
    exact ⟨fun h => ⟨this, h⟩, fun h => h.2⟩
  · have e : c = n := by omega
    have e2 : tkp tx L c = L := by rw [e]; exact hT.2.2.1
    rw [if_neg hcn, e2]
    exact ⟨fun h => absurd h.symm t0, fun h => absurd h.1 (Int.lt_irrefl _)⟩
theorem LV.dead (hl : lw = 24 ∨ lw = 31) (L0 : 0 ≤ L) (h : LV X0 X tx L n c lw S) (hc : CC (mup X 38 6 (tkp tx L c)) tx L n c (tkp tx L c)) : DV X0 (mup X 38 6 (tkp tx L c)) tx L n lw (tkp tx L c) := by
  obtain ⟨h1, h2, h3, h4⟩ := h
  have ht := tkp_in tx L0 c
  refine ⟨c, okS_up h1 ?_, hc, by omega, by rw [mup_ne _ _ _ (by omega), h3.1]; omega, h4.tr (SF.cur hl)⟩
  have := h2.tok.2.1
  rw [← this]; exact h1 _ _
theorem LV.next (hl : lw = 24 ∨ lw = 31) (h : LV X0 X tx L n c lw S) (hc : c < n) : LV X0 (mup X 38 5 ((c + 1 : Nat) : Int)) tx L n (c + 1) lw S ∧ tkp tx L (c + 1) = nx tx L (tkp tx L c) ∧ tkp tx L c < L := by
  obtain ⟨h1, h2, h3, h4⟩ := h
  have hlt := (h2.tok.2.2 hc).2
  have hn := h2.1.2.1
  refine ⟨⟨okS_up h1 (by unfold okI; omega), h2.next hc, h3.of (mup_ne _ _ _ (by omega)) (mup_ne _ _ _ (by omega)), h4.tr (SF.cur hl)⟩, ?_, hlt⟩
  show (if tkp tx L c < L then ns tx L (en tx L (tkp tx L c)) else L) = _
  rw [if_pos hlt]; rfl
theorem LV.step {Q : mSt → Prop} {v : Int} (hl : lw = 24 ∨ lw = 31) (h : LV X0 X tx L n c lw S) (hS : S.length < 400) (ov : okI v) (hQ : ∀ X', LV X0 X' tx L n c lw (S ++ [v]) → Q X') : w_X3_addStep N lw v X Q := by
  obtain ⟨h1, h2, h3, h4⟩ := h
  exact s_addStep h1 h3 hS ov (fun X' ok' p' e38 l' f' i' => hQ X' ⟨ok', h2.of (fun r a b => f' r (by omega) (by omega)), l', h4.tr ⟨fun r _ b c => f' r b c, i'⟩⟩) hl
theorem LV.takes {Q : mSt → Int → Prop} (hl : lw = 24 ∨ lw = 31) (t0 : t ≠ 0) (h : LV X0 X tx L n c lw S) (h1 : tok tx L t (tkp tx L c) = true → LV X0 (mup X 38 5 ((c + 1 : Nat) : Int)) tx L n (c + 1) lw S → tkp tx L (c + 1) = nx tx L (tkp tx L c) → Q (mup X 38 5 ((c + 1 : Nat) : Int)) 1) (h0 : tok tx L t (tkp tx L c) = false → Q X 0) : w_X10_takes N 38 t X Q := by
  have hk := tkA_tok (t := t) h.2.1.1 h.2.1.2.2.1 t0
  refine s_takes t0 h.2.1 (fun _ hcn ht => ?_) (fun hno => h0 ?_)
  · obtain ⟨a, b, d⟩ := h.next hl hcn
    exact h1 (hk.mp (by unfold tkA; rw [if_pos hcn]; exact ht)) a b
  · cases ht : tok tx L t (tkp tx L c)
    · rfl
    · exact absurd ⟨rfl, hk.mpr ht⟩ hno
theorem LV.sees {Q : mSt → Int → Prop} (t0 : t ≠ 0) (h : LV X0 X tx L n c lw S) (h1 : tok tx L t (tkp tx L c) = true → Q X 1) (h0 : tok tx L t (tkp tx L c) = false → Q X 0) : w_X10_sees N 38 t X Q := by
  have hk := tkA_tok (t := t) h.2.1.1 h.2.1.2.2.1 t0
  refine s_sees h.2.1 (fun _ ht => h1 (hk.mp ht)) (fun hno => h0 ?_)
  cases ht : tok tx L t (tkp tx L c)
  · rfl
  · exact absurd ⟨rfl, hk.mpr ht⟩ hno
theorem LV.refuse {Q : mSt → Prop} (hl : lw = 24 ∨ lw = 31) (L0 : 0 ≤ L) (h : LV X0 X tx L n c lw S) (h0 : DV X0 (mup X 38 6 (tkp tx L c)) tx L n lw (tkp tx L c) → Q (mup X 38 6 (tkp tx L c))) : w_X10_refuse N 38 X Q :=
  s_refuse h.2.1 (fun hc => absurd rfl hc) (fun _ hc => h0 (h.dead hl L0 hc))
theorem LV.need {Q : mSt → Prop} (hl : lw = 24 ∨ lw = 31) (L0 : 0 ≤ L) (t0 : t ≠ 0) (h : LV X0 X tx L n c lw S) (h1 : tok tx L t (tkp tx L c) = true → LV X0 (mup X 38 5 ((c + 1 : Nat) : Int)) tx L n (c + 1) lw S → tkp tx L (c + 1) = nx tx L (tkp tx L c) → Q (mup X 38 5 ((c + 1 : Nat) : Int))) (h0 : tok tx L t (tkp tx L c) = false → DV X0 (mup X 38 6 (tkp tx L c)) tx L n lw (tkp tx L c) → Q (mup X 38 6 (tkp tx L c))) : w_X10_need N 38 t X Q := by
  refine h.takes hl t0 (fun a b d => ⟨fun _ => h1 a b d, fun hc => absurd hc (by decide)⟩) (fun a => ⟨fun hc => absurd rfl hc, fun _ => h.refuse hl L0 (fun hd => h0 a hd)⟩)
theorem LV.needTerm {Q : mSt → Int → Prop} (hl : lw = 24 ∨ lw = 31) (L0 : 0 ≤ L) (h : LV X0 X tx L n c lw S) (h1 : qTm tx L (tkp tx L c) = (-1, nx tx L (tkp tx L c), [tkW tx L (tkp tx L c)]) → tkp tx L c < L → okI (tkW tx L (tkp tx L c)) → LV X0 (mup X 38 5 ((c + 1 : Nat) : Int)) tx L n (c + 1) lw S → tkp tx L (c + 1) = nx tx L (tkp tx L c) → Q (mup X 38 5 ((c + 1 : Nat) : Int)) (tkW tx L (tkp tx L c))) (h0 : qTm tx L (tkp tx L c) = (tkp tx L c, tkp tx L c, []) → DV X0 (mup X 38 6 (tkp tx L c)) tx L n lw (tkp tx L c) → Q (mup X 38 6 (tkp tx L c)) 0) : w_X10_needTerm N 38 X Q := by
  refine s_needTerm h.2.1 (fun _ hcn hne => ?_) (fun _ hno hc => ?_) (fun hc => absurd rfl hc)
  · obtain ⟨a, b, d⟩ := h.next hl hcn
    have hr := tkW_rng d hne
    exact h1 (if_pos ⟨d, hne⟩) d (by unfold okI; omega) a b
  · refine h0 (if_neg (fun hh => ?_)) (h.dead hl L0 hc)
    have hcn : c < n := by
      apply Decidable.byContradiction
      intro hcn
      have e : c = n := by have := h.2.1.2.2.1; omega
      have e2 : tkp tx L c = L := by rw [e]; exact h.2.1.1.2.2.1
      omega
    exact hh.2 (hno hcn)
theorem DV.step {Q : mSt → Prop} {v : Int} (hl : lw = 24 ∨ lw = 31) (h : DV X0 X tx L n lw w) (ov : okI v) (hQ : ∀ X', DV X0 X' tx L n lw w → Q X') : w_X3_addStep N lw v X Q := by
  obtain ⟨c, h1, h2, hw, h3, h4⟩ := h
  exact s_addStepD h1 h3 ov (fun X' ok' p' e38 l' f' i' => hQ X' ⟨c, ok', h2.of (fun r a b => f' r (by omega) (by omega)), hw, l', h4.tr ⟨fun r _ b c => f' r b c, i'⟩⟩) hl
theorem DV.takes {Q : mSt → Int → Prop} (t0 : t ≠ 0) (h : DV X0 X tx L n lw w) (hQ : Q X 0) : w_X10_takes N 38 t X Q := by
  obtain ⟨c, h1, h2, hw, h3, h4⟩ := h
  exact s_takes t0 h2 (fun a => absurd a hw) (fun _ => hQ)
theorem DV.need {Q : mSt → Prop} (t0 : t ≠ 0) (h : DV X0 X tx L n lw w) (hQ : Q X) : w_X10_need N 38 t X Q := by
  obtain ⟨c, h1, h2, hw, h3, h4⟩ := h
  exact s_need t0 h2 (fun a => absurd a hw) (fun a => absurd a hw) (fun _ => hQ)
theorem DV.refuse {Q : mSt → Prop} (h : DV X0 X tx L n lw w) (hQ : Q X) : w_X10_refuse N 38 X Q := by
  obtain ⟨c, h1, h2, hw, h3, h4⟩ := h
  exact s_refuse h2 (fun _ => hQ) (fun a => absurd a hw)
theorem DV.needTerm {Q : mSt → Int → Prop} (h : DV X0 X tx L n lw w) (hQ : Q X 0) : w_X10_needTerm N 38 X Q := by
  obtain ⟨c, h1, h2, hw, h3, h4⟩ := h
  exact s_needTerm h2 (fun a => absurd a hw) (fun a => absurd a hw) (fun _ => hQ)
/-- the rest of a sum's turn, dead -/
theorem DV.sum34 {Q : mSt → Prop} {x3 : Int} {m : Nat} (h : DV X0 X tx L n lw w) (hQ : ∀ X', DV X0 X' tx L n lw w → Q X') : w_X4_readSum_34 N Q (w_X4_readSum_4 N Q (fun (S_3 : mSt) => Q S_3) (m + 1)) 38 lw x3 X := by
  refine h.takes (by decide) (fun v2 e2 v3 e3 => ?_)
  subst e2
  exact ⟨fun _ => hQ X h, fun hc => absurd rfl hc⟩
theorem DV.readSum {Q : mSt → Prop} (hN : 5000 ≤ N) (hl : lw = 24 ∨ lw = 31) (h : DV X0 X tx L n lw w) (hQ : ∀ X', DV X0 X' tx L n lw w → Q X') : w_X4_readSum N 38 lw X Q := by
  intro v1 e1 v2 e2
  subst e1; subst e2
  obtain ⟨m, rfl⟩ : ∃ m, N = m + 2 := ⟨N - 2, by omega⟩
  refine ⟨fun hc => absurd hc (by decide), fun _ => ⟨fun hc => absurd hc (by decide), fun _ => h.needTerm (h.step hl (by decide) (fun X' h' => ⟨fun _ => h'.sum34 hQ, fun hc => absurd hc (by decide)⟩))⟩⟩
theorem PO.app {T : List Int} {q : PR} (h : PO X0 X tx L n lw (S ++ T) q) : PO X0 X tx L n lw S (q.1, q.2.1, T ++ q.2.2) := by
  rcases h with ⟨g, c, h1, h2⟩ | ⟨g, h1⟩
  · refine Or.inl ⟨g, c, ?_, h2⟩
    show LV X0 X tx L n c lw (S ++ (T ++ q.2.2))
    rw [← List.append_assoc]; exact h1
  · exact Or.inr ⟨g, h1⟩
theorem LV.sumL {Q : mSt → Prop} (hl : lw = 24 ∨ lw = 31) (L0 : 0 ≤ L) (hL : L ≤ 400) : ∀ (d fu x3 c : Nat) (X : mSt) (S : List Int), L - tkp tx L c < d → d + 1 < fu → 2 * (x3 : Int) ≤ tkp tx L c → (S.length : Int) + (if decide (x3 = 0) = true then 0 else 1) ≤ tkp tx L c → LV X0 X tx L n c lw S → (∀ X', PO X0 X' tx L n lw S (qJn (qTm tx L) (tok tx L 6) (nx tx L) 1011 d (decide (x3 = 0)) (tkp tx L c)) → Q X') → w_X4_readSum_4 N Q (fun (S_3 : mSt) => Q S_3) fu 38 lw 1 x3 X := by
  intro d
  induction d with
  | zero => intro fu x3 c X S hd; have := tkp_in tx L0 c; omega
  | succ d ih =>
    intro fu x3 c X S hd hf hx hS h hQ
    obtain ⟨fu, rfl⟩ : ∃ m, fu = m + 2 := ⟨fu - 2, by omega⟩
    have hb := tkp_in tx L0 c
    have hS0 : (S.length : Int) ≤ tkp tx L c := by split at hS <;> omega
    refine ⟨fun hc => absurd hc (by decide), fun _ => ⟨fun hc => by omega, fun _ => h.needTerm hl L0 (fun eq hlt ow h1 e1 => ?_) (fun eq h1 => ?_)⟩⟩
    · have q1 : (qTm tx L (tkp tx L c)).1 = -1 := by rw [eq]
      have q2 : (qTm tx L (tkp tx L c)).2.1 = nx tx L (tkp tx L c) := by rw [eq]
      have q3 : (qTm tx L (tkp tx L c)).2.2 = [tkW tx L (tkp tx L c)] := by rw [eq]
      have hn := nx_ge (tx := tx) hlt
      have hj := jst_len (decide (x3 = 0)) 1011
      have fin : ∀ X3, LV X0 X3 tx L n (c + 1) lw (S ++ ((qTm tx L (tkp tx L c)).2.2 ++ jst (decide (x3 = 0)) 1011)) → w_X4_readSum_34 N Q (w_X4_readSum_4 N Q (fun (S_3 : mSt) => Q S_3) (fu + 1)) 38 lw x3 X3 := by
        intro X3 h3
        refine h3.takes hl (by decide) (fun ht h4 e4 v2 e2 v3 e3 => ?_) (fun ht v2 e2 v3 e3 => ?_)
        · rw [nx8 (by omega)] at e3
          subst e2; subst e3
          rw [e1] at ht e4
          have hlt2 := tok_lt ht
          have hn2 := nx_ge (tx := tx) hlt2
          have hlen : (((S ++ ((qTm tx L (tkp tx L c)).2.2 ++ jst (decide (x3 = 0)) 1011)).length : Nat) : Int) = S.length + (1 + if decide (x3 = 0) = true then 0 else 1) := by
            rw [List.length_append, List.length_append, Int.natCast_add, Int.natCast_add, hj, q3]; rfl
          refine ih (fu + 1) (x3 + 1) (c + 1 + 1) _ _ (by omega) (by omega) (by omega) ?_ h4 (fun X' hp => hQ X' ?_)
          · rw [show (if decide (x3 + 1 = 0) = true then (0 : Int) else 1) = 1 from by rw [decide_eq_false (Nat.succ_ne_zero x3)]; rfl, hlen]; omega
          · rw [decide_eq_false (Nat.succ_ne_zero x3), e4, ← q2] at hp
            rw [qJn_more q1 (by rw [q2]; exact ht)]
            exact hp.app
        · rw [e1] at ht
          subst e2
          refine ⟨fun _ => hQ X3 ?_, fun hc => absurd rfl hc⟩
          rw [qJn_stop q1 (by rw [q2]; exact ht)]
          exact Or.inl ⟨rfl, c + 1, h3, by rw [e1, ← q2]⟩
      refine h1.step hl (by omega) ow (fun X2 h2 => ⟨fun hx0 => fin X2 ?_, fun hx0 => h2.step hl ?_ (by decide) (fun X3 h3 => fin X3 ?_)⟩)
      · rw [decide_eq_true (show x3 = 0 by omega), q3]; exact h2
      · rw [decide_eq_false (show ¬ x3 = 0 by omega), if_neg (by decide)] at hS
        rw [List.length_append]
        show S.length + 1 < 400
        omega
      · rw [decide_eq_false (show ¬ x3 = 0 by omega), q3]
        rw [List.append_assoc] at h3; exact h3
    · have q1 : (qTm tx L (tkp tx L c)).1 = tkp tx L c := by rw [eq]

      have hQ' : ∀ X', DV X0 X' tx L n lw (tkp tx L c) → Q X' := fun X' hd => hQ X' (by rw [qJn_bad (by rw [q1]; omega)]; exact Or.inr ⟨by rw [q1]; omega, by rw [q1]; exact hd⟩)
      exact h1.step hl (by decide) (fun X2 h2 => ⟨fun _ => h2.sum34 hQ', fun _ => h2.step hl (by decide) (fun X3 h3 => h3.sum34 hQ')⟩)
theorem LV.readSum {Q : mSt → Prop} (hN : 5000 ≤ N) (hl : lw = 24 ∨ lw = 31) (L0 : 0 ≤ L) (hL : L ≤ 400) (h : LV X0 X tx L n c lw S) (hS : (S.length : Int) ≤ tkp tx L c) (hQ : ∀ X', PO X0 X' tx L n lw S (qSum tx L (tkp tx L c)) → Q X') : w_X4_readSum N 38 lw X Q := by
  intro v1 e1 v2 e2
  subst e1; subst e2
  have hb := tkp_in tx L0 c
  exact LV.sumL hl L0 hL ((L - tkp tx L c).toNat + 1) N 0 c X S (by omega) (by omega) (by omega) (by rw [decide_eq_true rfl, if_pos rfl]; omega) h hQ
end sums
