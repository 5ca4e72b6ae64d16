set_option maxHeartbeats 400000
set_option maxRecDepth 20000
section parts2
variable {N : Nat} {M : mSt} {tx : Int → Int} {L a b : Int}
theorem tkV_k : ∀ k : Nat, k < 8 → tkV (13 + k) = 1000 + k := by decide +kernel
theorem tkV_no : ∀ t : Nat, t < 36 → (t < 13 ∨ 20 < t) → tkV t = -1 := by decide +kernel
theorem tkW_word (hb : b < L) {k : Nat} (hk : k < 8) (hw : word tx L (11 + k) b = true) : tkW tx L b = 1000 + k ∧ en tx L b = le' tx L b := by
  have hw' : word tx L (13 + k - 2) b = true := by rw [show 13 + k - 2 = 11 + k by omega]; exact hw
  have ht := (meet_word hb (show 13 + k < 36 by omega) (by omega)).mpr hw'
  refine ⟨?_, word_en hb (show 13 + k < 36 by omega) (by omega) hw'⟩
  have h1 : ty (tx b) ≠ 1 := by
    intro hc
    unfold tkT' at ht
    rw [if_pos hc] at ht; omega
  unfold tkW
  rw [if_neg h1, ht]; exact tkV_k k hk
theorem tkW_none (hb : b < L) (h1 : ty (tx b) ≠ 1) (hw : ∀ k : Nat, k < 8 → word tx L (11 + k) b = false) : tkW tx L b = -1 := by
  unfold tkW
  rw [if_neg h1]
  have hlt : tkT' tx L b < 36 := by unfold tkT'; rw [if_neg h1]; exact wr_lt _ _ _
  refine tkV_no _ hlt ?_
  apply Decidable.byContradiction
  intro hc
  have := (meet_word (tx := tx) hb hlt (by omega)).mp rfl
  have h2 := hw (tkT' tx L b - 13) (by omega)
  rw [show 11 + (tkT' tx L b - 13) = tkT' tx L b - 2 by omega] at h2
  rw [h2] at this; exact absurd this (by decide)
theorem y_part {Q : mSt → Int → Prop} (hN : 5000 ≤ N) (h : RD M tx L a) (h13 : M 0 13 = -1) (hQ1 : ns tx L a < L → tkW tx L (ns tx L a) ≠ -1 → RD (mup M 0 12 (en tx L (ns tx L a))) tx L (en tx L (ns tx L a)) → Q (mup M 0 12 (en tx L (ns tx L a))) (if tkW tx L (ns tx L a) < 1000 then tkW tx L (ns tx L a) else M 7 (tkW tx L (ns tx L a) - 1000))) (hQ0 : (ns tx L a < L → tkW tx L (ns tx L a) = -1) → ∀ p v, 0 ≤ v → v < 10000 → RD (mup M 0 12 p) tx L p → Q (mup (mup M 0 12 p) 0 13 (ns tx L a)) v) : w_X12_part N 0 M Q := by
  refine ⟨fun _ => y_skip hN h (fun R => ?_), fun hc => absurd h13 hc⟩
  have hid := ns_idem tx L a
  have h13' : (mup M 0 12 (ns tx L a)) 0 13 = -1 := by rw [mup_i _ _ _ (by decide)]; exact h13
  have words : (ns tx L a < L → ty (tx (ns tx L a)) ≠ 1) → w_X12_part_52 N Q 0 (mup M 0 12 (ns tx L a)) := by
    intro hty
    refine y_part52 hN R hid h13' (fun k hk hw R2 => ?_) (fun hw => ?_)
    · have hlt : ns tx L a < L := by
        apply Decidable.byContradiction
        intro hc
        have : ns tx L a = L := by have := R.2.2.2.1; omega
        have e := end_word (tx := tx) (L := L) (t := 13 + k) (by omega) (by omega)
        rw [show 13 + k - 2 = 11 + k by omega] at e
        rw [this, e] at hw; exact absurd hw (by decide)
      obtain ⟨e1, e2⟩ := tkW_word hlt hk hw
      rw [mup_mup] at R2 ⊢
      rw [← e2] at R2 ⊢
      have := hQ1 hlt (by omega) R2
      rw [e1, if_neg (by omega), show (1000 : Int) + k - 1000 = k by omega] at this
      have e7 : (mup M 0 12 (ns tx L a)) 7 = M 7 := mup_ne _ _ _ (by decide)
      rw [e7]; exact this
    · exact hQ0 (fun hlt => tkW_none hlt (hty hlt) hw) _ 0 (by omega) (by omega) R
  rw [R.1, R.2.1]
  refine ⟨fun hc => words (fun hlt => by omega), fun hlt => y_letter R R.2.2.1 hlt (a_isIn (fun c1 c2 => ⟨fun hc => absurd hc (by decide), fun _ => ?_⟩) (fun hn => ⟨fun _ => words (fun _ hc => by have := ty_1.mp hc; omega), fun hc => absurd rfl hc⟩))⟩
  have h1 : ty (tx (ns tx L a)) = 1 := ty_1.mpr ⟨c1, c2⟩
  refine y_figures hN R h13' (fun hf R2 => ?_) (fun hf p v v0 v1 R2 => ?_)
  · rw [hid] at hf R2 ⊢
    obtain ⟨e1, e2⟩ := num_val hlt hf
    have hf' := hf
    unfold fg at hf'
    rw [decide_eq_true_eq] at hf'
    rw [mup_mup] at R2 ⊢
    rw [← e2] at R2 ⊢
    have := hQ1 hlt (by rw [e1]; omega) R2
    rw [e1, if_pos (by omega)] at this
    exact this
  · rw [hid] at hf ⊢
    rw [mup_mup] at R2 ⊢
    refine hQ0 (fun _ => ?_) p v v0 v1 R2
    have m := meet_num (tx := tx) (lo := 0) (hi := 999) hlt (Int.le_refl _)
    rw [hf] at m
    have ht : tkT' tx L (ns tx L a) = 1 := by unfold tkT'; rw [if_pos h1]
    unfold tkW at m ⊢
    rw [if_pos h1] at m ⊢
    split
    · next h3 =>
      exfalso
      rw [if_pos h3] at m
      have hv := vlF_4 (tx := tx) (b := ns tx L a) (k := (en tx L (ns tx L a) - ns tx L a).toNat) (by omega) (fun i hi => en_fig (L := L) h1 i (by have := en_ge (tx := tx) hlt; omega))
      have hp := vlF_ok (tx := tx) (b := ns tx L a) (k := (en tx L (ns tx L a) - ns tx L a).toNat) (fun i hi => en_fig (L := L) h1 i (by have := en_ge (tx := tx) hlt; omega))
      have h999 : vlF tx (ns tx L a) (en tx L (ns tx L a) - ns tx L a).toNat ≤ 999 := by
        have hk : (en tx L (ns tx L a) - ns tx L a).toNat = 0 ∨ (en tx L (ns tx L a) - ns tx L a).toNat = 1 ∨ (en tx L (ns tx L a) - ns tx L a).toNat = 2 ∨ (en tx L (ns tx L a) - ns tx L a).toNat = 3 := by omega
        rcases hk with hk | hk | hk | hk <;> rw [hk] at hp ⊢ <;> omega
      exact absurd (m.mp ⟨ht, hv.1, h999⟩) (by decide)
    · rfl
end parts2
