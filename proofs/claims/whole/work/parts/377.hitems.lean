set_option maxHeartbeats 400000
set_option maxRecDepth 20000
/-! ===== the pure part: lines of the house, what they read ===== -/
/-- what reading a thing gives: the fault's place or -1, the next place, the value -/
abbrev PI : Type := Int × Int × Int
abbrev PW : Type := Int × Int × mRow
def rdN (tx : Int → Int) (L lo hi b : Int) : PI := if fg tx L lo hi b = true then (-1, nx tx L b, vl tx L b) else (b, b, 0)
def rdA (tx : Int → Int) (L : Int) (t : Nat) (lo hi b : Int) : PI := if tok tx L t b = true then rdN tx L lo hi (nx tx L b) else (b, b, 0)
def rdK (tx : Int → Int) (L : Int) (t : Nat) (b : Int) : PI := if tok tx L t b = true then (if kd tx L (nx tx L b) = -1 then (nx tx L b, b, 0) else (-1, nx tx L (nx tx L b), kd tx L (nx tx L b))) else (-1, b, 0)
def bnd (r : PI) (K : Int → Int → PW) : PW := if r.1 = -1 then K r.2.1 r.2.2 else (r.1, 0, fun _ => 0)
theorem bnd_good {r : PI} {K : Int → Int → PW} {b v : Int} (h : r = (-1, b, v)) : bnd r K = K b v := by rw [h]; exact if_pos rfl
theorem bnd_bad {r : PI} {K : Int → Int → PW} {w : Int} (h : r.1 = w) (hw : w ≠ -1) : (bnd r K).1 = w := by unfold bnd; rw [h, if_neg hw]
def hSoap (tx : Int → Int) (L : Int) (f : mRow) (b : Int) : PW := bnd (rdN tx L 0 9 b) (fun b1 s => bnd (rdA tx L 10 1 30 b1) (fun b2 w => bnd (rdA tx L 11 0 3 b2) (fun b3 u => bnd (rdK tx L 12 b3) (fun b4 t => (-1, b4, fSoap f s w u t)))))
def hDue (tx : Int → Int) (L : Int) (f : mRow) (b : Int) : PW := bnd (rdN tx L 0 999 b) (fun b1 m => bnd (rdA tx L 22 1 99 b1) (fun b2 l => (-1, b2, fDue f m l)))
def hPart (tx : Int → Int) (L : Int) (f : mRow) (b : Int) : PW := bnd (rdN tx L 0 7 b) (fun b1 p => bnd (rdA tx L 14 0 9 b1) (fun b2 g => bnd (rdA tx L 15 0 9 b2) (fun b3 t => bnd (rdK tx L 17 b3) (fun b4 s => (-1, b4, fPart f p g t s)))))
def hWind (tx : Int → Int) (L : Int) (f : mRow) (b : Int) : PW := bnd (rdN tx L 0 7 b) (fun b1 g => bnd (rdN tx L 0 9 b1) (fun b2 v => (-1, b2, fup f (62 + g) v)))
def hTell (tx : Int → Int) (L : Int) (f : mRow) (i hi b : Int) : PW := bnd (rdN tx L 0 hi b) (fun b1 v => (-1, b1, fup f i v))
def hLine (tx : Int → Int) (L : Int) (f : mRow) (b : Int) : PW :=
  if tok tx L 9 b = true then (if f 3 = 6 then (b, b, f) else hSoap tx L f (nx tx L b))
  else if tok tx L 21 b = true then (if f 4 = 8 then (b, b, f) else hDue tx L f (nx tx L b))
  else if tok tx L 13 b = true then hPart tx L f (nx tx L b)
  else if tok tx L 18 b = true then hWind tx L f (nx tx L b)
  else if tok tx L 23 b = true then hTell tx L f 6 20 (nx tx L b)
  else if tok tx L 10 b = true then hTell tx L f 5 99 (nx tx L b)
  else if tok tx L 24 b = true then hTell tx L f 7 100 (nx tx L b)
  else if tok tx L 25 b = true then hTell tx L f 8 100 (nx tx L b)
  else (b, b, f)
def hLoop (tx : Int → Int) (L : Int) : Nat → mRow → Int → Int × mRow
  | 0 => fun f b => (b, f)
  | k + 1 => fun f b =>
    if (hLine tx L f b).1 = -1 then
      (if (hLine tx L f b).2.1 = L then (-1, (hLine tx L f b).2.2)
      else if tok tx L 3 (hLine tx L f b).2.1 = true then hLoop tx L k (hLine tx L f b).2.2 (nx tx L (hLine tx L f b).2.1)
      else ((hLine tx L f b).2.1, f))
    else ((hLine tx L f b).1, f)
def hTxt (tx : Int → Int) (L : Int) (f : mRow) : Int × mRow := if ns tx L 0 = L then (-1, f) else hLoop tx L 14 f (ns tx L 0)
/-- what reading the house may change of the class -/
def HF (X0 X : mSt) (q' : Nat) : Prop := ∀ r, r ≠ 38 → (r < q' ∨ q' + 10 < r) → X r = X0 r
/-- live with the row f; dead -/
def HV (X0 X : mSt) (tx : Int → Int) (L : Int) (n c q' : Nat) (f : mRow) (T : Int) : Prop := okS X ∧ CC X tx L n c (-1) ∧ RLd X q' f T ∧ HF X0 X q' ∧ RR f
def HL (X0 X : mSt) (tx : Int → Int) (L : Int) (n q' : Nat) (w : Int) : Prop := ∃ c, okS X ∧ CC X tx L n c w ∧ w ≠ -1 ∧ (0 ≤ X q' 2 ∧ 0 ≤ X q' 4) ∧ HF X0 X q'
def HD (X0 X : mSt) (tx : Int → Int) (L : Int) (n q' : Nat) (w : Int) : Prop := ∃ c, okS X ∧ CC X tx L n c w ∧ w ≠ -1 ∧ HF X0 X q'
section hitems
variable {N : Nat} {X X0 : mSt} {tx : Int → Int} {L w lo hi T : Int} {n c q' t : Nat} {f : mRow}
theorem HF.rf (X : mSt) (q' : Nat) : HF X X q' := fun _ _ _ => rfl
theorem HF.tr {X1 X2 : mSt} (h : HF X X1 q') (h' : HF X1 X2 q') : HF X X2 q' := fun r a b => (h' r a b).trans (h r a b)
theorem HF.cur {i v : Int} : HF X (mup X 38 i v) q' := fun r a _ => mup_ne _ _ _ a
theorem HL.d (h : HL X0 X tx L n q' w) : HD X0 X tx L n q' w := by
  obtain ⟨c, a, b, d, _, e⟩ := h
  exact ⟨c, a, b, d, e⟩
theorem HL.ne (h : HL X0 X tx L n q' w) : w ≠ -1 := by obtain ⟨c, a, b, d, _, e⟩ := h; exact d
theorem HV.next (hq : q' = 2 ∨ q' = 13) (h : HV X0 X tx L n c q' f T) (hc : c < n) : HV X0 (mup X 38 5 ((c + 1 : Nat) : Int)) tx L n (c + 1) q' f T ∧ tkp tx L (c + 1) = nx tx L (tkp tx L c) ∧ tkp tx L c < L := by
  obtain ⟨h1, h2, h3, h4, h5⟩ := h
  have hlt := (h2.tok.2.2 hc).2
  have hn := h2.1.2.1
  refine ⟨⟨okS_up h1 (by unfold okI; omega), h2.next hc, h3.of (fun r a b => mup_ne _ _ _ (by omega)), h4.tr HF.cur, h5⟩, ?_, hlt⟩
  show (if tkp tx L c < L then ns tx L (en tx L (tkp tx L c)) else L) = _
  rw [if_pos hlt]; rfl
theorem HV.dead (hq : q' = 2 ∨ q' = 13) (L0 : 0 ≤ L) (h : HV X0 X tx L n c q' f T) (hc : CC (mup X 38 6 (tkp tx L c)) tx L n c (tkp tx L c)) : HL X0 (mup X 38 6 (tkp tx L c)) tx L n q' (tkp tx L c) := by
  obtain ⟨h1, h2, h3, h4, h5⟩ := h
  have ht := tkp_in tx L0 c
  have e2 : X q' 2 = f 3 := h3.2.1.2.1
  have e4 : X q' 4 = f 4 := h3.2.1.2.2
  refine ⟨c, okS_up h1 ?_, hc, by omega, ?_, h4.tr HF.cur⟩
  · have := h2.tok.2.1
    rw [← this]; exact h1 _ _
  · rw [mup_ne _ _ _ (by omega), e2, e4]
    exact ⟨h5.2.1.1, h5.2.2.1.1⟩
theorem HV.takes {Q : mSt → Int → Prop} (hq : q' = 2 ∨ q' = 13) (t0 : t ≠ 0) (h : HV X0 X tx L n c q' f T) (h1 : tok tx L t (tkp tx L c) = true → HV X0 (mup X 38 5 ((c + 1 : Nat) : Int)) tx L n (c + 1) q' f T → tkp tx L (c + 1) = nx tx L (tkp tx L c) → Q (mup X 38 5 ((c + 1 : Nat) : Int)) 1) (h0 : tok tx L t (tkp tx L c) = false → Q X 0) : w_X10_takes N 38 t X Q := by
  have hk := tkA_tok (t := t) h.2.1.1 h.2.1.2.2.1 t0
  refine s_takes t0 h.2.1 (fun _ hcn ht => ?_) (fun hno => h0 ?_)
  · obtain ⟨a, b, d⟩ := h.next hq hcn
    exact h1 (hk.mp (by unfold tkA; rw [if_pos hcn]; exact ht)) a b
  · cases ht : tok tx L t (tkp tx L c)
    · rfl
    · exact absurd ⟨rfl, hk.mpr ht⟩ hno
theorem HV.sees {Q : mSt → Int → Prop} (t0 : t ≠ 0) (h : HV X0 X tx L n c q' f T) (h1 : tok tx L t (tkp tx L c) = true → Q X 1) (h0 : tok tx L t (tkp tx L c) = false → Q X 0) : w_X10_sees N 38 t X Q := by
  have hk := tkA_tok (t := t) h.2.1.1 h.2.1.2.2.1 t0
  refine s_sees h.2.1 (fun _ ht => h1 (hk.mp ht)) (fun hno => h0 ?_)
  cases ht : tok tx L t (tkp tx L c)
  · rfl
  · exact absurd ⟨rfl, hk.mpr ht⟩ hno
theorem HV.refuse {Q : mSt → Prop} (hq : q' = 2 ∨ q' = 13) (L0 : 0 ≤ L) (h : HV X0 X tx L n c q' f T) (h0 : HL X0 (mup X 38 6 (tkp tx L c)) tx L n q' (tkp tx L c) → Q (mup X 38 6 (tkp tx L c))) : w_X10_refuse N 38 X Q :=
  s_refuse h.2.1 (fun hc => absurd rfl hc) (fun _ hc => h0 (h.dead hq L0 hc))
theorem HV.need {Q : mSt → Prop} (hq : q' = 2 ∨ q' = 13) (L0 : 0 ≤ L) (t0 : t ≠ 0) (h : HV X0 X tx L n c q' f T) (h1 : tok tx L t (tkp tx L c) = true → HV X0 (mup X 38 5 ((c + 1 : Nat) : Int)) tx L n (c + 1) q' f T → tkp tx L (c + 1) = nx tx L (tkp tx L c) → Q (mup X 38 5 ((c + 1 : Nat) : Int))) (h0 : tok tx L t (tkp tx L c) = false → HL X0 (mup X 38 6 (tkp tx L c)) tx L n q' (tkp tx L c) → Q (mup X 38 6 (tkp tx L c))) : w_X10_need N 38 t X Q := by
  refine h.takes hq t0 (fun a b d => ⟨fun _ => h1 a b d, fun hc => absurd hc (by decide)⟩) (fun a => ⟨fun hc => absurd rfl hc, fun _ => h.refuse hq L0 (fun hd => h0 a hd)⟩)
theorem HL.need {Q : mSt → Prop} (t0 : t ≠ 0) (h : HL X0 X tx L n q' w) (hQ : Q X) : w_X10_need N 38 t X Q := by
  obtain ⟨c, h1, h2, hw, h3, h4⟩ := h
  exact s_need t0 h2 (fun a => absurd a hw) (fun a => absurd a hw) (fun _ => hQ)
theorem HL.num {Q : mSt → Int → Prop} (hlo : 0 ≤ lo) (h : HL X0 X tx L n q' w) (hQ : Q X lo) : w_X10_needNumber N 38 lo hi X Q := by
  obtain ⟨c, h1, h2, hw, h3, h4⟩ := h
  exact s_needNumber hlo h2 (fun a => absurd a hw) (fun a => absurd a hw) (fun _ => hQ)
theorem HL.after {Q : mSt → Int → Prop} (t0 : t ≠ 0) (hlo : 0 ≤ lo) (h : HL X0 X tx L n q' w) (hQ : Q X lo) : w_X10_need N 38 t X (fun (S1 : mSt) => w_X10_needNumber N 38 lo hi S1 Q) := h.need t0 (h.num hlo hQ)
theorem HL.kinds {Z : Int → mSt → Prop} (t0 : t ≠ 0) (h : HL X0 X tx L n q' w) (hQ : Z 0 X) : w_X10_takes N 38 t X (fun (S10 : mSt) (v10 : Int) => ((v10 = 0 → Z 0 S10) ∧ (v10 ≠ 0 → w_X10_needKinds N 38 S10 (fun (S11 : mSt) (v11 : Int) => Z v11 S11)))) := by
  obtain ⟨c, h1, h2, hw, h3, h4⟩ := h
  exact s_takes t0 h2 (fun a => absurd a hw) (fun _ => ⟨fun _ => hQ, fun hc => absurd rfl hc⟩)
theorem HV.num {Q : mSt → Int → Prop} (hq : q' = 2 ∨ q' = 13) (L0 : 0 ≤ L) (hlo : 0 ≤ lo) (h : HV X0 X tx L n c q' f T) (h1 : ∀ (X' : mSt) (c' : Nat) (v : Int), rdN tx L lo hi (tkp tx L c) = (-1, tkp tx L c', v) → lo ≤ v → v ≤ hi → HV X0 X' tx L n c' q' f T → Q X' v) (h0 : ∀ (X' : mSt) (w : Int), (rdN tx L lo hi (tkp tx L c)).1 = w → w ≠ -1 → HL X0 X' tx L n q' w → Q X' lo) : w_X10_needNumber N 38 lo hi X Q := by
  have hb := tkp_in tx L0 c
  refine s_needNumber hlo h.2.1 (fun _ hcn hf => ?_) (fun _ hf hc => ?_) (fun hc => absurd rfl hc)
  · obtain ⟨a, b, _⟩ := h.next hq hcn
    have hr := fg_rng hf
    exact h1 _ (c + 1) _ (by rw [b]; exact if_pos hf) hr.1 hr.2 a
  · have hf' : fg tx L lo hi (tkp tx L c) = false := by
      by_cases hcn : c < n
      · exact hf hcn
      · have e : c = n := by have := h.2.1.2.2.1; omega
        have e2 : tkp tx L c = L := by rw [e]; exact h.2.1.1.2.2.1
        rw [e2]; exact end_num
    refine h0 _ (tkp tx L c) ?_ (by omega) (h.dead hq L0 hc)
    unfold rdN
    rw [if_neg (by rw [hf']; decide)]
theorem HV.after {Q : mSt → Int → Prop} (hq : q' = 2 ∨ q' = 13) (L0 : 0 ≤ L) (t0 : t ≠ 0) (hlo : 0 ≤ lo) (h : HV X0 X tx L n c q' f T) (h1 : ∀ (X' : mSt) (c' : Nat) (v : Int), rdA tx L t lo hi (tkp tx L c) = (-1, tkp tx L c', v) → lo ≤ v → v ≤ hi → HV X0 X' tx L n c' q' f T → Q X' v) (h0 : ∀ (X' : mSt) (w : Int), (rdA tx L t lo hi (tkp tx L c)).1 = w → w ≠ -1 → HL X0 X' tx L n q' w → Q X' lo) : w_X10_need N 38 t X (fun (S1 : mSt) => w_X10_needNumber N 38 lo hi S1 Q) := by
  have hb := tkp_in tx L0 c
  refine h.need hq L0 t0 (fun ht h2 e2 => ?_) (fun ht hd => ?_)
  · have eq : rdA tx L t lo hi (tkp tx L c) = rdN tx L lo hi (tkp tx L (c + 1)) := by unfold rdA; rw [if_pos ht, e2]
    rw [eq] at h1 h0
    exact h2.num hq L0 hlo h1 h0
  · refine hd.num hlo (h0 _ (tkp tx L c) ?_ (by omega) hd)
    unfold rdA
    rw [if_neg (by rw [ht]; decide)]
theorem HV.kinds {Z : Int → mSt → Prop} (hN : 5000 ≤ N) (hq : q' = 2 ∨ q' = 13) (L0 : 0 ≤ L) (hL : L ≤ 400) (hbt : ∀ k, 0 ≤ k → k < L → 0 ≤ tx k ∧ tx k ≤ 255) (t0 : t ≠ 0) (h : HV X0 X tx L n c q' f T) (h1 : ∀ (X' : mSt) (c' : Nat) (v : Int), rdK tx L t (tkp tx L c) = (-1, tkp tx L c', v) → 0 ≤ v → v < 32 → HV X0 X' tx L n c' q' f T → Z v X') (h0 : ∀ (X' : mSt) (w : Int), (rdK tx L t (tkp tx L c)).1 = w → w ≠ -1 → HL X0 X' tx L n q' w → Z 0 X') : w_X10_takes N 38 t X (fun (S10 : mSt) (v10 : Int) => ((v10 = 0 → Z 0 S10) ∧ (v10 ≠ 0 → w_X10_needKinds N 38 S10 (fun (S11 : mSt) (v11 : Int) => Z v11 S11)))) := by
  refine h.takes hq t0 (fun ht h2 e2 => ⟨fun hc => absurd hc (by decide), fun _ => ?_⟩) (fun ht => ⟨fun _ => h1 X c 0 ?_ (by decide) (by decide) h, fun hc => absurd rfl hc⟩)
  · have hb := tkp_in tx L0 (c + 1)
    refine s_needKinds hN hL L0 hbt h2.2.1 (fun _ hcn hk => ?_) (fun _ hk hc => ?_) (fun hc => absurd rfl hc)
    · obtain ⟨a, b, d⟩ := h2.next hq hcn
      rw [kd_meet d] at hk ⊢
      refine h1 _ (c + 1 + 1) _ ?_ ?_ ?_ a
      · unfold rdK
        rw [if_pos ht, ← e2, if_neg hk, b]
      · have := kdF_ok tx (tkp tx L (c + 1)) (en tx L (tkp tx L (c + 1)) - tkp tx L (c + 1)).toNat
        rw [kd_meet d] at this
        have := this.resolve_left hk
        omega
      · have := kdF_ok tx (tkp tx L (c + 1)) (en tx L (tkp tx L (c + 1)) - tkp tx L (c + 1)).toNat
        rw [kd_meet d] at this
        have := this.resolve_left hk
        omega
    · have hk' : kd tx L (tkp tx L (c + 1)) = -1 := by
        by_cases hcn : c + 1 < n
        · obtain ⟨a, b, d⟩ := h2.next hq hcn
          rw [← kd_meet d]; exact hk hcn
        · have e : c + 1 = n := by have := h2.2.1.2.2.1; omega
          have e3 : tkp tx L (c + 1) = L := by rw [e]; exact h2.2.1.1.2.2.1
          rw [e3]; exact kd_end
      refine h0 _ (tkp tx L (c + 1)) ?_ (by omega) (h2.dead hq L0 hc)
      unfold rdK
      rw [if_pos ht, ← e2, if_pos hk']
  · unfold rdK
    rw [if_neg (by rw [ht]; decide)]
end hitems
