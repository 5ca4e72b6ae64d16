set_option maxHeartbeats 400000
set_option maxRecDepth 20000
section needs
variable {N : Nat} {X : mSt} {tx : Int → Int} {L w : Int} {n c t : Nat}
theorem s_needTerm {Q : mSt → Int → Prop} (h : CC X tx L n c w) (h1 : w = -1 → c < n → tkW tx L (tkp tx L c) ≠ -1 → Q (mup X 38 5 ((c + 1 : Nat) : Int)) (tkW tx L (tkp tx L c))) (h2 : w = -1 → (c < n → tkW tx L (tkp tx L c) = -1) → CC (mup X 38 6 (tkp tx L c)) tx L n c (tkp tx L c) → Q (mup X 38 6 (tkp tx L c)) 0) (h3 : w ≠ -1 → Q X 0) : w_X10_needTerm N 38 X Q := by
  obtain ⟨ht, -, hv⟩ := h.tok
  obtain ⟨hT, e5, hc, e6⟩ := id h
  have hn := hT.2.1
  unfold w_X10_needTerm
  rw [e6, e5]
  refine ⟨fun hw => s_refuse h h3 (fun a _ => absurd a hw), fun hw => ⟨by omega, by omega, fun hne S2 e2 => ?_, fun he => s_refuse h h3 (fun a b => h2 a (fun hcn => ?_) b)⟩⟩
  · have hcn : c < n := by
      apply Decidable.byContradiction
      intro hc2
      have ec : c = n := by omega
      have : X (38 + 5) c = -1 := by rw [ec]; exact hT.2.2.2.1.2.2.2
      exact hne this
    rw [nx8 (by omega)] at e2
    have e25 : S2 38 5 = ((c + 1 : Nat) : Int) := by rw [e2]; exact mup_same _ _ _ _
    rw [e25, nm_of (by omega) (by omega), show ((c + 1 : Nat) : Int) - 1 = c by omega]
    have e43 : S2 (38 + 5) c = tkW tx L (tkp tx L c) := by rw [e2, mup_ne _ _ _ (by decide)]; exact (hv hcn).1
    refine ⟨by omega, by omega, ?_⟩
    have hne2 : tkW tx L (tkp tx L c) ≠ -1 := by rw [← (hv hcn).1]; exact hne
    rw [e43, e2]
    exact h1 hw hcn hne2
  · rw [← (hv hcn).1]; exact he
theorem s_needEnd {Q : mSt → Prop} (h : CC X tx L n c w) (h1 : tkA tx L n c = 0 → Q X) (h2 : w = -1 → tkA tx L n c ≠ 0 → CC (mup X 38 6 (tkp tx L c)) tx L n c (tkp tx L c) → Q (mup X 38 6 (tkp tx L c))) (h3 : w ≠ -1 → Q X) : w_X10_needEnd N 38 X Q := by
  obtain ⟨ht, -, -⟩ := h.tok
  obtain ⟨hT, e5, hc, e6⟩ := id h
  have hn := hT.2.1
  unfold w_X10_needEnd
  rw [e5]
  refine ⟨by omega, by omega, fun t2 e2 => ?_⟩
  have et : t2 = tkA tx L n c := by
    have e2' : (t2 : Int) = X 40 c := e2
    rw [ht] at e2'; omega
  exact ⟨fun he => h1 (et.symm.trans he), fun hne => s_refuse h h3 (fun a b => h2 a (fun hh => hne (et.trans hh)) b)⟩
end needs
