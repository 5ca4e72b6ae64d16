set_option maxHeartbeats 400000
set_option maxRecDepth 20000
section terms
variable {N : Nat} {M : mSt} {tx : Int → Int} {L a b : Int}
theorem nsF_idem (tx : Int → Int) (L : Int) : ∀ (d : Nat) (a : Int), (L - a).toNat ≤ d → L ≤ nsF tx L d a ∨ tx (nsF tx L d a) ≠ 32
  | 0, a, h => Or.inl (by show L ≤ a; omega)
  | d + 1, a, h => by
    unfold nsF
    by_cases h1 : a < L
    · rw [if_pos h1]
      by_cases h2 : tx a = 32
      · rw [if_pos h2]; exact nsF_idem tx L d (a + 1) (by omega)
      · rw [if_neg h2]; exact Or.inr h2
    · rw [if_neg h1]; exact Or.inl (by omega)
theorem ns_idem (tx : Int → Int) (L a : Int) : ns tx L (ns tx L a) = ns tx L a := ns_stop (nsF_idem tx L _ a (Nat.le_refl _))
/-- has, at a place that holds no blank -/
theorem y_has0 {Q : mSt → Int → Prop} {j : Nat} {s : Int} (hN : 5000 ≤ N) (h : RD M tx L s) (hs : ns tx L s = s) (hQ1 : word tx L j s = true → RD (mup M 0 12 (le' tx L s)) tx L (le' tx L s) → Q (mup M 0 12 (le' tx L s)) 1) (hQ0 : word tx L j s = false → Q M 0) : w_X12_has_ N 0 j M Q := by
  refine y_has hN h (fun hw R => ?_) (fun hw R => ?_)
  · rw [hs] at hw R ⊢; exact hQ1 hw R
  · rw [hs] at hw ⊢
    rw [h.at0]; exact hQ0 hw
end terms
