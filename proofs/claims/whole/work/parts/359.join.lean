set_option maxHeartbeats 400000
set_option maxRecDepth 20000
section joins
variable {N : Nat} {M : mSt} {tx : Int → Int} {L a b : Int}
theorem kd_meet (hb : b < L) : kdF tx b (en tx L b - b).toNat = kd tx L b := by
  have hg := en_ge (tx := tx) hb
  by_cases h0 : ty (tx b) = 0
  · have ee : en tx L b = le' tx L b := by unfold en; rw [if_pos h0]
    unfold kd
    rw [if_neg (by omega), ee]
  · have hl : le' tx L b = b := le_stop (Or.inr (fun hc => h0 (ty_0.mpr hc)))
    unfold kd
    rw [if_pos hl]
    refine kdF_bad (k := 1) (by omega) ?_
    have e0 : tx (b + ((0 : Nat) : Int)) = tx b := by congr 1; omega
    have e : kdF tx b 1 = if kdF tx b 0 = -1 then -1 else if 97 ≤ tx (b + ((0 : Nat) : Int)) ∧ tx (b + ((0 : Nat) : Int)) ≤ 101 ∧ bAnd (bShr (kdF tx b 0) (tx (b + ((0 : Nat) : Int)) - 97)) 1 ≠ 1 then bOr (kdF tx b 0) (bShl 1 (tx (b + ((0 : Nat) : Int)) - 97)) else -1 := rfl
    rw [e, e0]
    split
    · rfl
    · rw [if_neg (fun hh => h0 (ty_0.mpr ⟨hh.1, by omega⟩))]
theorem kd_end : kd tx L L = -1 := by
  unfold kd
  rw [if_pos (le_stop (Or.inl (Int.le_refl _)))]
theorem kd_en (hb : b < L) (h : kd tx L b ≠ -1) : en tx L b = le' tx L b := by
  by_cases h0 : ty (tx b) = 0
  · unfold en; rw [if_pos h0]
  · have hl : le' tx L b = b := le_stop (Or.inr (fun hc => h0 (ty_0.mpr hc)))
    exact absurd (by unfold kd; rw [if_pos hl]) h
end joins
