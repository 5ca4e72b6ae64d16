set_option maxHeartbeats 400000
set_option maxRecDepth 20000
/-! ===== the pure part: the class's cursor ===== -/
/-- the class's table of n tokens, its end -/
def TK (X : mSt) (tx : Int → Int) (L : Int) (n : Nat) : Prop := TB X tx L n ∧ n ≤ 400 ∧ tkp tx L n = L ∧ (X 40 n = 0 ∧ X 41 n = L ∧ X 42 n = 0 ∧ X 43 n = -1) ∧ ∀ k, 0 ≤ k → k < L → X 39 k = tx k
/-- the token at c -/
def tkA (tx : Int → Int) (L : Int) (n c : Nat) : Nat := if c < n then tkT' tx L (tkp tx L c) else 0
/-- the class stands at token c; its fault w -/
def CC (X : mSt) (tx : Int → Int) (L : Int) (n c : Nat) (w : Int) : Prop := TK X tx L n ∧ X 38 5 = c ∧ c ≤ n ∧ X 38 6 = w
section cursor
variable {N : Nat} {X : mSt} {tx : Int → Int} {L w lo hi : Int} {n c t : Nat}
theorem TK.of {X' : mSt} (h : TK X tx L n) (k : ∀ r, 39 ≤ r → r ≤ 43 → X' r = X r) : TK X' tx L n := by
  unfold TK TB
  rw [k 39 (by decide) (by decide), k 40 (by decide) (by decide), k 41 (by decide) (by decide), k 42 (by decide) (by decide), k 43 (by decide) (by decide)]
  exact h
theorem CC.of {X' : mSt} (h : CC X tx L n c w) (k : ∀ r, 38 ≤ r → r ≤ 43 → X' r = X r) : CC X' tx L n c w := by
  obtain ⟨h1, h2, h3, h4⟩ := h
  exact ⟨h1.of (fun r a b => k r (by omega) b), by rw [k 38 (by decide) (by decide)]; exact h2, h3, by rw [k 38 (by decide) (by decide)]; exact h4⟩
theorem CC.tok (h : CC X tx L n c w) : X 40 c = tkA tx L n c ∧ X 41 c = tkp tx L c ∧ (c < n → X 43 c = tkW tx L (tkp tx L c) ∧ tkp tx L c < L) := by
  obtain ⟨⟨h1, h2, h3, ⟨e1, e2, e3, e4⟩, h5⟩, -, hc, -⟩ := h
  unfold tkA
  by_cases hcn : c < n
  · obtain ⟨a, b, d, e, g⟩ := h1 c hcn
    rw [if_pos hcn]
    exact ⟨d, a, fun _ => ⟨e, g⟩⟩
  · have : c = n := by omega
    subst this
    rw [if_neg hcn]
    exact ⟨e1, by rw [e2, h3], fun hc2 => absurd hc2 hcn⟩
theorem s_sees {Q : mSt → Int → Prop} (h : CC X tx L n c w) (h1 : w = -1 → tkA tx L n c = t → Q X 1) (h0 : ¬ (w = -1 ∧ tkA tx L n c = t) → Q X 0) : w_X10_sees N 38 t X Q := by
  obtain ⟨ht, -, -⟩ := h.tok
  obtain ⟨⟨-, hn, -⟩, h2, h3, h4⟩ := h
  unfold w_X10_sees
  rw [h4, h2]
  refine ⟨fun hc => h0 (fun hh => hc hh.1), fun hc => ⟨by omega, by omega, fun t2 e2 => ?_⟩⟩
  have e : t2 = tkA tx L n c := by
    have e2' : (t2 : Int) = X 40 c := e2
    rw [ht] at e2'; omega
  subst e
  exact ⟨fun hne => h0 (fun hh => hne hh.2), fun he => h1 hc he⟩
theorem CC.next (h : CC X tx L n c w) (hc : c < n) : CC (mup X 38 5 ((c + 1 : Nat) : Int)) tx L n (c + 1) w := by
  obtain ⟨h1, h2, h3, h4⟩ := h
  exact ⟨h1.of (fun r a b => mup_ne _ _ _ (by omega)), mup_same _ _ _ _, hc, by rw [mup_i _ _ _ (by decide)]; exact h4⟩
theorem s_takes {Q : mSt → Int → Prop} (t0 : t ≠ 0) (h : CC X tx L n c w) (h1 : w = -1 → c < n → tkT' tx L (tkp tx L c) = t → Q (mup X 38 5 ((c + 1 : Nat) : Int)) 1) (h0 : ¬ (w = -1 ∧ tkA tx L n c = t) → Q X 0) : w_X10_takes N 38 t X Q := by
  obtain ⟨ht, -, -⟩ := h.tok
  obtain ⟨⟨-, hn, -⟩, h2, h3, h4⟩ := h
  unfold w_X10_takes
  rw [h4, h2]
  refine ⟨fun hc => h0 (fun hh => hc hh.1), fun hc => ⟨by omega, by omega, fun t2 e2 => ?_⟩⟩
  have e : t2 = tkA tx L n c := by
    have e2' : (t2 : Int) = X 40 c := e2
    rw [ht] at e2'; omega
  subst e
  refine ⟨fun hne => h0 (fun hh => hne hh.2), fun he => ⟨fun _ S3 e3 => ?_, fun hc2 => absurd hc2 t0⟩⟩
  have hcn : c < n := by
    apply Decidable.byContradiction
    intro hc2
    unfold tkA at he
    rw [if_neg hc2] at he
    exact t0 he.symm
  rw [nx8 (by omega)] at e3
  rw [e3]
  exact h1 hc hcn (by unfold tkA at he; rw [if_pos hcn] at he; exact he)
theorem s_refuse {Q : mSt → Prop} (h : CC X tx L n c w) (h1 : w ≠ -1 → Q X) (h0 : w = -1 → CC (mup X 38 6 (tkp tx L c)) tx L n c (tkp tx L c) → Q (mup X 38 6 (tkp tx L c))) : w_X10_refuse N 38 X Q := by
  obtain ⟨-, hp, -⟩ := h.tok
  obtain ⟨hT, h2, h3, h4⟩ := id h
  unfold w_X10_refuse
  rw [h4, h2]
  refine ⟨h1, fun hc => ⟨by have := hT.2.1; omega, by have := hT.2.1; omega, fun S2 e2 => ?_⟩⟩
  have e2' : S2 = mup X 38 6 (X 41 c) := e2
  rw [hp] at e2'
  rw [e2']
  exact h0 hc ⟨hT.of (fun r a b => mup_ne _ _ _ (by omega)), by rw [mup_i _ _ _ (by decide)]; exact h2, h3, mup_same _ _ _ _⟩
theorem s_need {Q : mSt → Prop} (t0 : t ≠ 0) (h : CC X tx L n c w) (h1 : w = -1 → c < n → tkT' tx L (tkp tx L c) = t → Q (mup X 38 5 ((c + 1 : Nat) : Int))) (h2 : w = -1 → tkA tx L n c ≠ t → CC (mup X 38 6 (tkp tx L c)) tx L n c (tkp tx L c) → Q (mup X 38 6 (tkp tx L c))) (h3 : w ≠ -1 → Q X) : w_X10_need N 38 t X Q := by
  refine s_takes t0 h (fun a b d => ⟨fun _ => h1 a b d, fun hc => absurd hc (by decide)⟩) (fun hn => ⟨fun hc => absurd rfl hc, fun _ => s_refuse h h3 (fun a b => h2 a (fun he => hn ⟨a, he⟩) b)⟩)
theorem s_needNumber {Q : mSt → Int → Prop} (hlo : 0 ≤ lo) (h : CC X tx L n c w) (h1 : w = -1 → c < n → fg tx L lo hi (tkp tx L c) = true → Q (mup X 38 5 ((c + 1 : Nat) : Int)) (vl tx L (tkp tx L c))) (h2 : w = -1 → (c < n → fg tx L lo hi (tkp tx L c) = false) → CC (mup X 38 6 (tkp tx L c)) tx L n c (tkp tx L c) → Q (mup X 38 6 (tkp tx L c)) lo) (h3 : w ≠ -1 → Q X lo) : w_X10_needNumber N 38 lo hi X Q := by
  obtain ⟨ht, -, hv⟩ := h.tok
  obtain ⟨hT, e5, hc, e6⟩ := id h
  have hn := hT.2.1
  have fail : (c < n → fg tx L lo hi (tkp tx L c) = false) → w_X10_needNumber_45 N Q 38 lo X := by
    intro hf
    intro v1 e1
    subst e1
    have h59 : w_X10_needNumber_59 N Q 38 lo X := s_refuse h h3 (fun a b => h2 a hf b)
    exact ⟨fun _ => h59, fun _ => ⟨fun hc => absurd rfl hc, fun _ => h59⟩⟩
  have good : c < n → fg tx L lo hi (tkp tx L c) = true → w_X10_needNumber_46 N Q 38 lo 1 X := by
    intro hcn hf
    intro v1 e1
    subst e1
    rw [e6]
    refine ⟨fun hw => s_refuse h h3 (fun a _ => absurd a hw), fun hw => ⟨fun _ S2 e2 => ?_, fun hc => absurd hc (by decide)⟩⟩
    rw [e5, nx8 (by omega)] at e2
    have e25 : S2 38 5 = ((c + 1 : Nat) : Int) := by rw [e2]; exact mup_same _ _ _ _
    rw [e25, nm_of (by omega) (by omega), show ((c + 1 : Nat) : Int) - 1 = c by omega]
    refine ⟨by omega, by omega, ?_⟩
    have e43 : S2 (38 + 5) c = vl tx L (tkp tx L c) := by
      rw [e2, mup_ne _ _ _ (by decide)]
      have := (hv hcn).1
      rw [(num_val (hv hcn).2 hf).1] at this
      exact this
    rw [e43, e2]
    exact h1 hw hcn hf
  unfold w_X10_needNumber
  rw [e5]
  refine ⟨by omega, by omega, fun t2 e2 => ?_⟩
  have et : t2 = tkA tx L n c := by
    have e2' : (t2 : Int) = X 40 c := e2
    rw [ht] at e2'; omega
  by_cases hcn : c < n
  · have hb := (hv hcn).2
    have m := meet_num (tx := tx) (lo := lo) (hi := hi) hb hlo
    have et' : t2 = tkT' tx L (tkp tx L c) := by rw [et]; unfold tkA; rw [if_pos hcn]
    have e43 : X (38 + 5) c = tkW tx L (tkp tx L c) := (hv hcn).1
    have no : ¬ (tkT' tx L (tkp tx L c) = 1 ∧ lo ≤ tkW tx L (tkp tx L c) ∧ tkW tx L (tkp tx L c) ≤ hi) → w_X10_needNumber_45 N Q 38 lo X := fun hn2 => fail (fun _ => by
      cases hh : fg tx L lo hi (tkp tx L c)
      · rfl
      · exact absurd (m.mpr hh) hn2)
    rw [e43]
    refine ⟨fun hne => no (fun hh => hne (et'.trans hh.1)), fun he => ⟨by omega, by omega, fun hl => no (fun hh => by omega), fun hl => ⟨by omega, by omega, fun hl2 => no (fun hh => by omega), fun hl2 => good hcn (m.mp ⟨et'.symm.trans he, hl, hl2⟩)⟩⟩⟩
  · have e0 : t2 = 0 := by rw [et]; unfold tkA; rw [if_neg hcn]
    refine ⟨fun _ => fail (fun hc2 => absurd hc2 hcn), fun he => ?_⟩
    rw [e0] at he; exact absurd he (by decide)
end cursor
