set_option maxHeartbeats 400000
set_option maxRecDepth 20000
/-! ===== the pure part: the class's tokens and the reference's letters ===== -/
theorem lit_0 : sLen (tkS.getD 0 0) = 0 ∧ sLen (tkS.getD 1 0) = 0 ∧ sLen (tkS.getD 2 0) = 0 := by decide +kernel
theorem lit_w : ∀ t : Nat, t < 36 → 9 ≤ t → tkS.getD t 0 = t - 2 ∧ 1 ≤ sLen (tkS.getD t 0) ∧ 97 ≤ sCh (tkS.getD t 0) 0 ∧ sCh (tkS.getD t 0) 0 ≤ 122 := by decide +kernel
/-- the letters of the signs 3..8 -/
def sgc (t : Nat) : Int := [0, 0, 0, 59, 40, 41, 43, 60, 62].getD t 0
theorem lit_s : ∀ t : Nat, t < 9 → 3 ≤ t → sLen (tkS.getD t 0) = 1 ∧ sCh (tkS.getD t 0) 0 = sgc t ∧ ty (sgc t) = 2 ∧ sgc t ≠ 32 := by decide +kernel
section meets
variable {tx : Int → Int} {L b lo hi : Int} {t : Nat}
theorem txm_0 {z : Int} (hz : 0 < z) (ht : t < 3) : txm tx t b z = false := by
  obtain ⟨h0, h1, h2⟩ := lit_0
  have : t = 0 ∨ t = 1 ∨ t = 2 := by omega
  unfold txm
  rcases this with rfl | rfl | rfl <;> rw [decide_eq_false (by omega)] <;> rfl
theorem wr_ge {z : Int} (hz : 0 < z) : 2 ≤ wr tx b z := by
  have main : ∀ (d s : Nat), s + d = 36 → 2 ≤ wrF tx b z d s := by
    intro d
    induction d with
    | zero => intro s _; exact Nat.le_refl _
    | succ d ih =>
      intro s hs
      have e : wrF tx b z (d + 1) s = if txm tx s b z = true then s else wrF tx b z d (s + 1) := rfl
      rw [e]
      by_cases h : s < 3
      · rw [if_neg (by rw [txm_0 hz h]; decide)]; exact ih (s + 1) (by omega)
      · split
        · omega
        · exact ih (s + 1) (by omega)
  exact main 36 0 rfl
theorem txm_1 {z : Int} (h : txm tx t b z = true) : z = sLen (tkS.getD t 0) ∧ ∀ k : Nat, (k : Int) < z → tx (b + k) = sCh (tkS.getD t 0) k := by
  unfold txm at h
  rw [Bool.and_eq_true, decide_eq_true_eq] at h
  exact ⟨h.1, fun k hk => wdB_at h.2 k (by omega)⟩
/-- words -/
theorem meet_word (hb : b < L) (ht : t < 36) (h9 : 9 ≤ t) : (tkT' tx L b = t) ↔ word tx L (t - 2) b = true := by
  obtain ⟨l1, l2, l3, l4⟩ := lit_w t ht h9
  have hg := en_ge (tx := tx) hb
  have hle := le'_ge tx L b
  have hw : word tx L (t - 2) b = true ↔ (le' tx L b - b = sLen (tkS.getD t 0) ∧ wdB tx (tkS.getD t 0) b (sLen (tkS.getD t 0)).toNat = true) := by
    unfold word
    rw [l1, Bool.and_eq_true, decide_eq_true_eq]
  rw [hw]
  by_cases h0 : ty (tx b) = 0
  · have ee : en tx L b = le' tx L b := by unfold en; rw [if_pos h0]
    unfold tkT'
    rw [if_neg (by omega), wr_iff ht (by omega), ee]
    unfold txm
    rw [Bool.and_eq_true, decide_eq_true_eq]
    constructor
    · rintro ⟨h1, h2⟩; exact ⟨h1, by rw [← h1]; exact h2⟩
    · rintro ⟨h1, h2⟩; exact ⟨h1, by rw [h1]; exact h2⟩
  · have hle0 : le' tx L b = b := le_stop (Or.inr (fun hc => h0 (ty_0.mpr hc)))
    constructor
    · intro h
      exfalso
      unfold tkT' at h
      by_cases h1 : ty (tx b) = 1
      · rw [if_pos h1] at h; omega
      · rw [if_neg h1, wr_iff ht (by omega)] at h
        have h2 := (txm_1 h).2 0 (by omega)
        have e0 : tx (b + ((0 : Nat) : Int)) = tx b := by congr 1; omega
        rw [e0] at h2
        exact h0 (ty_0.mpr (by rw [h2]; exact ⟨l3, l4⟩))
    · rintro ⟨h1, -⟩; omega
/-- signs -/
theorem meet_sign (hb : b < L) (ht : t < 9) (h3 : 3 ≤ t) : (tkT' tx L b = t) ↔ tx b = sgc t := by
  obtain ⟨l1, l2, l3, -⟩ := lit_s t ht h3
  have hg := en_ge (tx := tx) hb
  have e0 : tx (b + ((0 : Nat) : Int)) = tx b := by congr 1; omega
  constructor
  · intro h
    unfold tkT' at h
    by_cases h1 : ty (tx b) = 1
    · rw [if_pos h1] at h; omega
    · rw [if_neg h1, wr_iff (by omega) h3] at h
      have h2 := (txm_1 h).2 0 (by omega)
      rw [e0] at h2
      rw [h2]; exact l2
  · intro h
    have h2 : ty (tx b) = 2 := by rw [h]; exact l3
    have ee : en tx L b = b + 1 := by unfold en; rw [h2, if_neg (by decide), if_neg (by decide)]
    unfold tkT'
    rw [h2, if_neg (by decide), wr_iff (by omega) h3, ee]
    unfold txm
    rw [Bool.and_eq_true, decide_eq_true_eq]
    refine ⟨by omega, wdB_all (fun k hk => ?_)⟩
    have : k = 0 := by omega
    subst this
    rw [e0, h]; exact l2.symm
/-- numbers -/
theorem meet_num (hb : b < L) (hlo : 0 ≤ lo) : (tkT' tx L b = 1 ∧ lo ≤ tkW tx L b ∧ tkW tx L b ≤ hi) ↔ fg tx L lo hi b = true := by
  have hg := en_ge (tx := tx) hb
  unfold fg
  rw [decide_eq_true_eq]
  by_cases h1 : ty (tx b) = 1
  · have ee : en tx L b = dg tx L b := by unfold en; rw [h1, if_neg (by decide), if_pos rfl]
    unfold tkT' tkW vl
    rw [if_pos h1, if_pos h1, ee]
    by_cases h3 : dg tx L b - b ≤ 3
    · rw [if_pos h3]; omega
    · rw [if_neg h3]; omega
  · have hd : dg tx L b = b := dg_stop (Or.inr (fun hc => h1 (ty_1.mpr hc)))
    have hw : tkT' tx L b ≠ 1 := by
      unfold tkT'
      rw [if_neg h1]
      have := wr_ge (tx := tx) (b := b) (z := en tx L b - b) (by omega)
      omega
    constructor
    · intro h; exact absurd h.1 hw
    · intro h; exact absurd hd h.1
theorem num_val (hb : b < L) (h : fg tx L lo hi b = true) : tkW tx L b = vl tx L b ∧ en tx L b = dg tx L b := by
  unfold fg at h
  rw [decide_eq_true_eq] at h
  have h1 : ty (tx b) = 1 := by
    apply Decidable.byContradiction
    intro hc
    exact h.1 (dg_stop (Or.inr (fun hc2 => hc (ty_1.mpr hc2))))
  have ee : en tx L b = dg tx L b := by unfold en; rw [h1, if_neg (by decide), if_pos rfl]
  refine ⟨?_, ee⟩
  unfold tkW vl
  rw [if_pos h1, ee, if_pos h.2.1]
theorem word_en (hb : b < L) (ht : t < 36) (h9 : 9 ≤ t) (h : word tx L (t - 2) b = true) : en tx L b = le' tx L b := by
  obtain ⟨l1, l2, -, -⟩ := lit_w t ht h9
  unfold word at h
  rw [Bool.and_eq_true, decide_eq_true_eq, l1.symm] at h
  have h0 : ty (tx b) = 0 := by
    apply Decidable.byContradiction
    intro hc
    rw [le_stop (Or.inr (fun hc2 => hc (ty_0.mpr hc2)))] at h
    omega
  unfold en; rw [if_pos h0]
theorem sign_en (ht : t < 9) (h3 : 3 ≤ t) (h : tx b = sgc t) : en tx L b = b + 1 := by
  obtain ⟨-, -, l3, -⟩ := lit_s t ht h3
  unfold en
  rw [h, l3, if_neg (by decide), if_neg (by decide)]
/-- at the end nothing stands -/
theorem end_word (ht : t < 36) (h9 : 9 ≤ t) : word tx L (t - 2) L = false := by
  obtain ⟨l1, l2, -, -⟩ := lit_w t ht h9
  unfold word
  rw [le_stop (Or.inl (Int.le_refl _)), decide_eq_false (by rw [← l1]; omega)]; rfl
theorem end_num : fg tx L lo hi L = false := by
  unfold fg
  rw [decide_eq_false_iff_not]
  intro h
  exact h.1 (dg_stop (Or.inl (Int.le_refl _)))
end meets
