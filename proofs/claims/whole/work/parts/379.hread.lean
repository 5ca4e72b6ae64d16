set_option maxHeartbeats 400000
set_option maxRecDepth 20000
/-! ===== the pure part: a text of the house, the class ===== -/
/-- the text's result -/
def HT (X0 X : mSt) (q' : Nat) (T : Int) (q : Int × mRow) : Prop := okS X ∧ HF X0 X q' ∧ X 38 6 = q.1 ∧ (q.1 = -1 → RLd X q' q.2 T ∧ RR q.2)
section hread
variable {N : Nat} {X X0 : mSt} {tx : Int → Int} {L w T : Int} {n c q' t : Nat} {f : mRow}
theorem HV.readLine {Q : mSt → Prop} (hN : 5000 ≤ N) (hq : q' = 2 ∨ q' = 13) (L0 : 0 ≤ L) (hL : L ≤ 400) (hbt : ∀ k, 0 ≤ k → k < L → 0 ≤ tx k ∧ tx k ≤ 255) (h : HV X0 X tx L n c q' f T) (hQ : ∀ X', HO X0 X' tx L n q' T (hLine tx L f (tkp tx L c)) → Q X') : w_X0_readLine N 38 q' X Q := by
  have hb := tkp_in tx L0 c
  have hR := h.2.2.2.2
  have e2 : X q' 2 = f 3 := h.2.2.1.2.1.2.1
  have e4 : X q' 4 = f 4 := h.2.2.1.2.1.2.2
  have bad : ∀ (X' : mSt), HD X0 X' tx L n q' (tkp tx L c) → HO X0 X' tx L n q' T (tkp tx L c, tkp tx L c, f) := fun X' hd => HO.bad hd rfl (by omega)
  unfold hLine at hQ
  refine h.sees (by decide) (fun t9 => ⟨fun hc => absurd hc (by decide), fun _ => ?_⟩) (fun t9 => ⟨fun _ => ?_, fun hc => absurd rfl hc⟩)
  · rw [if_pos t9] at hQ
    unfold w_X0_readSoap
    rw [e2]
    refine ⟨fun h6 => ?_, fun h6 => ?_⟩
    · rw [if_neg (by omega)] at hQ
      exact h.soap hN hq L0 hL hbt h6 t9 hQ
    · rw [if_pos (by have := hR.2.1.2; omega)] at hQ
      exact h.refuse hq L0 (fun hd => hd.soap hq (fun X' h' => hQ X' (bad X' h')))
  · rw [if_neg (by rw [t9]; decide)] at hQ
    refine h.sees (by decide) (fun t21 => ⟨fun hc => absurd hc (by decide), fun _ => ?_⟩) (fun t21 => ⟨fun _ => ?_, fun hc => absurd rfl hc⟩)
    · rw [if_pos t21] at hQ
      unfold w_X0_readDue
      rw [e4]
      refine ⟨fun h8 => ?_, fun h8 => ?_⟩
      · rw [if_neg (by omega)] at hQ
        exact h.due hq L0 h8 t21 hQ
      · rw [if_pos (by have := hR.2.2.1.2; omega)] at hQ
        exact h.refuse hq L0 (fun hd => hd.due hq (fun X' h' => hQ X' (bad X' h')))
    · rw [if_neg (by rw [t21]; decide)] at hQ
      refine h.takes hq (by decide) (fun t13 h1 e1 => ⟨fun hc => absurd hc (by decide), fun _ => ?_⟩) (fun t13 => ⟨fun _ => ?_, fun hc => absurd rfl hc⟩)
      · rw [if_pos t13, ← e1] at hQ
        exact h1.part hN hq L0 hL hbt hQ
      rw [if_neg (by rw [t13]; decide)] at hQ
      refine h.takes hq (by decide) (fun t18 h1 e1 => ⟨fun hc => absurd hc (by decide), fun _ => ?_⟩) (fun t18 => ⟨fun _ => ?_, fun hc => absurd rfl hc⟩)
      · rw [if_pos t18, ← e1] at hQ
        exact h1.wind hq L0 hQ
      rw [if_neg (by rw [t18]; decide)] at hQ
      refine h.takes hq (by decide) (fun t23 h1 e1 => ⟨fun hc => absurd hc (by decide), fun _ => ?_⟩) (fun t23 => ⟨fun _ => ?_, fun hc => absurd rfl hc⟩)
      · rw [if_pos t23, ← e1] at hQ
        exact h1.tell hq L0 (Or.inr (Or.inl ⟨rfl, rfl, rfl⟩)) hQ
      rw [if_neg (by rw [t23]; decide)] at hQ
      refine h.takes hq (by decide) (fun t10 h1 e1 => ⟨fun hc => absurd hc (by decide), fun _ => ?_⟩) (fun t10 => ⟨fun _ => ?_, fun hc => absurd rfl hc⟩)
      · rw [if_pos t10, ← e1] at hQ
        exact h1.tell hq L0 (Or.inl ⟨rfl, rfl, rfl⟩) hQ
      rw [if_neg (by rw [t10]; decide)] at hQ
      refine h.takes hq (by decide) (fun t24 h1 e1 => ⟨fun hc => absurd hc (by decide), fun _ => ?_⟩) (fun t24 => ⟨fun _ => ?_, fun hc => absurd rfl hc⟩)
      · rw [if_pos t24, ← e1] at hQ
        exact h1.tell hq L0 (Or.inr (Or.inr (Or.inl ⟨rfl, rfl, rfl⟩))) hQ
      rw [if_neg (by rw [t24]; decide)] at hQ
      refine h.takes hq (by decide) (fun t25 h1 e1 => ⟨fun hc => absurd hc (by decide), fun _ => ?_⟩) (fun t25 => ⟨fun _ => ?_, fun hc => absurd rfl hc⟩)
      · rw [if_pos t25, ← e1] at hQ
        exact h1.tell hq L0 (Or.inr (Or.inr (Or.inr ⟨rfl, rfl, rfl⟩))) hQ
      rw [if_neg (by rw [t25]; decide)] at hQ
      exact h.refuse hq L0 (fun hd => hQ _ (bad _ hd.d))
theorem HD.to {q : Int × mRow} (h : HD X0 X tx L n q' w) (hq : q.1 = w) : HT X0 X q' T q := by
  obtain ⟨c, h1, h2, h3, h4⟩ := h
  exact ⟨h1, h4, by rw [hq]; exact h2.2.2.2, fun hc => absurd (hq.symm.trans hc) h3⟩
theorem HV.to (h : HV X0 X tx L n c q' f T) : HT X0 X q' T (-1, f) := ⟨h.1, h.2.2.2.1, h.2.1.2.2.2, fun _ => ⟨h.2.2.1, h.2.2.2.2⟩⟩
theorem tkA_end (hT : TK X tx L n) (hc : c ≤ n) : tkA tx L n c = 0 ↔ tkp tx L c = L := by
  unfold tkA
  by_cases hcn : c < n
  · have hlt := (hT.1 c hcn).2.2.2.2
    rw [if_pos hcn]
    have hge : tkT' tx L (tkp tx L c) ≠ 0 := by
      unfold tkT'
      split
      · decide
      · have := wr_ge (tx := tx) (b := tkp tx L c) (z := en tx L (tkp tx L c) - tkp tx L c) (by have := en_ge (tx := tx) hlt; omega)
        omega
    exact ⟨fun hh => absurd hh hge, fun hh => by omega⟩
  · have e : c = n := by omega
    rw [if_neg hcn]
    exact ⟨fun _ => by rw [e]; exact hT.2.2.1, fun _ => rfl⟩
theorem HV.loop {Q : mSt → Prop} (hN : 5000 ≤ N) (hq : q' = 2 ∨ q' = 13) (L0 : 0 ≤ L) (hL : L ≤ 400) (hbt : ∀ k, 0 ≤ k → k < L → 0 ≤ tx k ∧ tx k ≤ 255) : ∀ (k fu x2 c : Nat) (X : mSt) (f : mRow), x2 + k = 14 → k < fu → HV X0 X tx L n c q' f T → (∀ X', HT X0 X' q' T (hLoop tx L k f (tkp tx L c)) → Q X') → w_X0_read_13 N Q (fun (r0_3 : Nat) (S_3 : mSt) => w_X10_refuse N r0_3 S_3 (fun (S4 : mSt) => Q S4)) fu 38 q' x2 X := by
  intro k
  induction k with
  | zero =>
    intro fu x2 c X f hk hf h hQ
    obtain ⟨fu, rfl⟩ : ∃ m, fu = m + 1 := ⟨fu - 1, by omega⟩
    refine ⟨fun _ => h.refuse hq L0 (fun hd => hQ _ ?_), fun hc => by omega⟩
    exact HD.to hd.d rfl
  | succ k ih =>
    intro fu x2 c X f hk hf h hQ
    obtain ⟨fu, rfl⟩ : ∃ m, fu = m + 1 := ⟨fu - 1, by omega⟩
    refine ⟨fun hc => by omega, fun _ => h.readLine hN hq L0 hL hbt (fun X1 hp => ?_)⟩
    unfold hLoop at hQ
    rcases hp with ⟨q1, c1, h1, e1⟩ | ⟨q1, h1⟩
    · rw [if_pos q1] at hQ
      refine h1.takes hq (by decide) (fun ht h2 e2 => ⟨fun _ v3 e3 => ?_, fun hc => absurd hc (by decide)⟩) (fun ht => ⟨fun hc => absurd rfl hc, fun _ => ?_⟩)
      · rw [e1] at ht e2
        have hlt := tok_lt ht
        rw [if_neg (by omega), if_pos ht, ← e2] at hQ
        rw [nx8 (by omega)] at e3
        subst e3
        exact ih fu (x2 + 1) (c1 + 1) _ _ (by omega) (by omega) h2 hQ
      · rw [e1] at ht
        have hk0 := tkA_end h1.2.1.1 h1.2.1.2.2.1
        refine s_needEnd h1.2.1 (fun he => hQ X1 ?_) (fun _ hne hc => hQ _ ?_) (fun hc => absurd rfl hc)
        · have eL := hk0.mp he
          rw [if_pos (by rw [← e1]; exact eL)]
          exact h1.to
        · have neL : ¬ (hLine tx L f (tkp tx L c)).2.1 = L := fun hh => hne (hk0.mpr (by rw [e1]; exact hh))
          rw [if_neg neL, if_neg (by rw [ht]; decide)]
          exact HD.to (h1.dead hq L0 hc).d e1.symm
    · rw [if_neg q1] at hQ
      obtain ⟨c2, b1, b2, bw, b4⟩ := h1
      have hd : HD X0 X1 tx L n q' (hLine tx L f (tkp tx L c)).1 := ⟨c2, b1, b2, bw, b4⟩
      refine s_takes (by decide) b2 (fun a => absurd a bw) (fun _ => ⟨fun hc => absurd rfl hc, fun _ => ?_⟩)
      exact s_needEnd b2 (fun _ => hQ X1 (hd.to rfl)) (fun hw => absurd hw bw) (fun _ => hQ X1 (hd.to rfl))
/-- a house's text -/
theorem s_readHouse {Q : mSt → Prop} (hN : 5000 ≤ N) (hq : q' = 2 ∨ q' = 13) (L0 : 0 ≤ L) (hL : L ≤ 400) (hbt : ∀ k, 0 ≤ k → k < L → 0 ≤ tx k ∧ tx k ≤ 255) (ok : okS X) (hC : CC X tx L n 0 (-1)) (hl : RLd X q' f T) (hR : RR f) (hQ : ∀ X', HT X X' q' T (hTxt tx L f) → Q X') : w_X0_read N 38 q' X Q := by
  have h : HV X X tx L n 0 q' f T := ⟨ok, hC, hl, HF.rf _ _, hR⟩
  have hk0 := tkA_end hC.1 (Nat.zero_le n)
  have e0 : tkp tx L 0 = ns tx L 0 := rfl
  rw [e0] at hk0
  unfold hTxt at hQ
  refine s_sees hC (fun _ ht => ⟨fun hc => absurd hc (by decide), fun _ => hQ X ?_⟩) (fun hno => ⟨fun _ v3 e3 => ?_, fun hc => absurd rfl hc⟩)
  · rw [if_pos (hk0.mp ht)]
    exact h.to
  · subst e3
    rw [if_neg (fun hh => hno ⟨rfl, hk0.mpr hh⟩)] at hQ
    exact HV.loop hN hq L0 hL hbt 14 N 0 0 X f rfl (by omega) h hQ
end hread
