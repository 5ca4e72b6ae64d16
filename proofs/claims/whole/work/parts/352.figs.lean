set_option maxHeartbeats 400000
set_option maxRecDepth 20000
/-- the end of the figures from a on -/
def dgF (tx : Int → Int) (L : Int) : Nat → Int → Int
  | 0 => fun a => a
  | d + 1 => fun a => if a < L then (if 48 ≤ tx a ∧ tx a ≤ 57 then dgF tx L d (a + 1) else a) else a
def dg (tx : Int → Int) (L a : Int) : Int := dgF tx L (L - a).toNat a
theorem dgF_ge (tx : Int → Int) (L : Int) : ∀ (d : Nat) (a : Int), a ≤ dgF tx L d a ∧ (a ≤ L → dgF tx L d a ≤ L)
  | 0, a => ⟨Int.le_refl _, id⟩
  | d + 1, a => by
    have := dgF_ge tx L d (a + 1)
    unfold dgF
    split
    · split
      · omega
      · omega
    · omega
theorem dg_ge (tx : Int → Int) (L a : Int) : a ≤ dg tx L a ∧ (a ≤ L → dg tx L a ≤ L) := dgF_ge tx L _ a
theorem dg_step {tx : Int → Int} {L a : Int} (h : a < L) (h2 : 48 ≤ tx a ∧ tx a ≤ 57) : dg tx L a = dg tx L (a + 1) := by
  unfold dg
  obtain ⟨d, hd⟩ : ∃ d, (L - a).toNat = d + 1 := ⟨(L - a).toNat - 1, by omega⟩
  rw [hd, show (L - (a + 1)).toNat = d by omega]
  show (if a < L then (if 48 ≤ tx a ∧ tx a ≤ 57 then dgF tx L d (a + 1) else a) else a) = _
  rw [if_pos h, if_pos h2]
theorem dg_stop {tx : Int → Int} {L a : Int} (h : L ≤ a ∨ ¬ (48 ≤ tx a ∧ tx a ≤ 57)) : dg tx L a = a := by
  unfold dg
  cases hd : (L - a).toNat with
  | zero => rfl
  | succ d =>
    show (if a < L then (if 48 ≤ tx a ∧ tx a ≤ 57 then dgF tx L d (a + 1) else a) else a) = a
    by_cases h1 : a < L
    · rw [if_pos h1, if_neg (h.resolve_left (by omega))]
    · rw [if_neg h1]
/-- the number that k figures from b on write -/
def vlF (tx : Int → Int) (b : Int) : Nat → Int
  | 0 => 0
  | k + 1 => 10 * vlF tx b k + tx (b + k) - 48
def vl (tx : Int → Int) (L b : Int) : Int := vlF tx b (dg tx L b - b).toNat
/-- a number of one to three figures from lo to hi stands at b -/
def fg (tx : Int → Int) (L lo hi b : Int) : Bool := decide (dg tx L b ≠ b ∧ dg tx L b - b ≤ 3 ∧ lo ≤ vl tx L b ∧ vl tx L b ≤ hi)
theorem vlF_ok {tx : Int → Int} {b : Int} : ∀ {k : Nat}, (∀ i : Nat, i < k → 48 ≤ tx (b + i) ∧ tx (b + i) ≤ 57) → 0 ≤ vlF tx b k ∧ vlF tx b k < 10 ^ k
  | 0, _ => by unfold vlF; omega
  | k + 1, h => by
    have h1 := vlF_ok (k := k) (fun i hi => h i (by omega))
    have h2 := h k (by omega)
    have h3 : (10 : Int) ^ (k + 1) = 10 ^ k * 10 := Int.pow_succ 10 k
    unfold vlF
    rw [h3]
    generalize (10 : Int) ^ k = z at h1
    omega
section figs
variable {N : Nat} {M : mSt} {tx : Int → Int} {L a b lo hi : Int}
theorem vlF_4 {k : Nat} (hk : k ≤ 4) (h : ∀ i : Nat, i < k → 48 ≤ tx (b + i) ∧ tx (b + i) ≤ 57) : 0 ≤ vlF tx b k ∧ vlF tx b k < 10000 := by
  have h1 := vlF_ok h
  have h2 : k = 0 ∨ k = 1 ∨ k = 2 ∨ k = 3 ∨ k = 4 := by omega
  rcases h2 with rfl | rfl | rfl | rfl | rfl <;> omega
theorem y_figures {Q : mSt → Int → Prop} (hN : 5000 ≤ N) (h : RD M tx L a) (h13 : M 0 13 = -1) (hQ1 : fg tx L lo hi (ns tx L a) = true → RD (mup M 0 12 (dg tx L (ns tx L a))) tx L (dg tx L (ns tx L a)) → Q (mup M 0 12 (dg tx L (ns tx L a))) (vl tx L (ns tx L a))) (hQ0 : fg tx L lo hi (ns tx L a) = false → ∀ p v, 0 ≤ v → v < 10000 → RD (mup M 0 12 p) tx L p → Q (mup (mup M 0 12 p) 0 13 (ns tx L a)) v) : w_X12_figures N 0 lo hi M Q := by
  refine ⟨fun _ => y_place hN h (fun R v2 e2 v3 e3 => ?_), fun hc => absurd h13 hc⟩
  subst e2; subst e3
  have hto : ∀ b, 0 ≤ b → b ≤ L → RD (mup M 0 12 b) tx L b := fun b b0 b1 => h.to b0 b1
  have r := R.2.2
  obtain ⟨s0, s1, L4, -⟩ := r
  clear R
  generalize ns tx L a = s at *
  have hg := dg_ge tx L s
  have fin : ∀ k : Nat, k ≤ 4 → s + k ≤ L → (∀ i : Nat, i < k → 48 ≤ tx (s + i) ∧ tx (s + i) ≤ 57) → dg tx L (s + k) = dg tx L s → (dg tx L s = s + k ∨ (k = 4 ∧ s + 4 ≤ dg tx L s)) → w_X12_figures_89 N Q 0 lo hi s (vlF tx s k) (mup M 0 12 (s + k)) := by
    intro k hk hkL hd he hx
    have R := hto (s + k) (by omega) hkL
    have hv := vlF_4 (b := s) hk hd
    have k13 : (mup M 0 12 (s + (k : Int))) 0 13 = -1 := by rw [mup_i _ _ _ (by decide)]; exact h13
    have bad : fg tx L lo hi s = false → w_X12_figures_119 N Q 0 s (vlF tx s k) (mup M 0 12 (s + k)) := fun hf => ⟨fun hc => absurd k13 hc, fun _ S1 e1 => by rw [e1]; exact hQ0 hf _ _ hv.1 hv.2 R⟩
    have hvl : k ≤ 3 → vl tx L s = vlF tx s k ∧ dg tx L s = s + k := fun hk3 => by
      have e := hx.resolve_right (by omega)
      refine ⟨?_, e⟩
      unfold vl
      rw [e, show (s + (k : Int) - s).toNat = k by omega]
    unfold w_X12_figures_89
    rw [R.2.1, nm_of (by omega) (by omega)]
    refine ⟨fun hc => bad ?_, fun hc => ⟨fun hc2 => bad ?_, fun hc2 => ⟨fun hc3 => bad ?_, fun hc3 => ⟨fun hc4 => ?_, fun hc4 => bad ?_⟩⟩⟩⟩
    · unfold fg; rw [decide_eq_false_iff_not]; intro hh
      have := (hvl (by omega)).2
      omega
    · unfold fg; rw [decide_eq_false_iff_not]; intro hh; omega
    · unfold fg; rw [decide_eq_false_iff_not]; intro hh
      have := (hvl (by omega)).1
      omega
    · obtain ⟨e1, e2⟩ := hvl (by omega)
      have hf : fg tx L lo hi s = true := by unfold fg; rw [decide_eq_true_eq]; omega
      have := hQ1 hf (by rw [e2]; exact R)
      rw [e1, e2] at this
      exact this
    · unfold fg; rw [decide_eq_false_iff_not]; intro hh
      have := (hvl (by omega)).1
      omega
  have loop : ∀ (d k fu : Nat), k + d = 4 → d < fu → s + k ≤ L → (∀ i : Nat, i < k → 48 ≤ tx (s + i) ∧ tx (s + i) ≤ 57) → dg tx L (s + k) = dg tx L s → w_X12_figures_18 N Q (fun (r0_4 : Nat) (x1_4 : Int) (x2_4 : Int) (x3_4 : Int) (x4_4 : Int) (S_4 : mSt) => w_X12_figures_89 N Q r0_4 x1_4 x2_4 x3_4 x4_4 S_4) fu 0 lo hi s (vlF tx s k) (mup M 0 12 (s + k)) := by
    intro d
    induction d with
    | zero =>
      intro k fu hk hf hkL hd he
      obtain ⟨fu, rfl⟩ : ∃ x, fu = x + 1 := ⟨fu - 1, by omega⟩
      have R := hto (s + k) (by omega) hkL
      have hg2 := dg_ge tx L (s + k)
      unfold w_X12_figures_18 w_X12_figures_18b
      have e3 : nm ((mup M 0 12 (s + (k : Int))) 0 12 - s) = k := by rw [R.2.1, nm_of (by omega) (by omega)]; omega
      rw [R.1, R.2.1]
      refine ⟨fun hc => fin k (by omega) hkL hd he (by clear e3; rw [dg_stop (Or.inl hc)] at he; omega), fun hc => y_letter R (by omega) hc (a_isIn (fun c1 c2 => ⟨fun hc => absurd hc (by decide), fun _ => ⟨fun _ => fin k (by omega) hkL hd he (Or.inr (by clear e3; omega)), fun hc => by rw [e3] at hc; clear e3; omega⟩⟩) (fun hn => ⟨fun _ => fin k (by omega) hkL hd he (by clear e3; rw [dg_stop (Or.inr (by omega))] at he; omega), fun hc => absurd rfl hc⟩))⟩
    | succ d ih =>
      intro k fu hk hf hkL hd he
      obtain ⟨fu, rfl⟩ : ∃ x, fu = x + 1 := ⟨fu - 1, by omega⟩
      have R := hto (s + k) (by omega) hkL
      have hv := vlF_4 (b := s) (k := k) (by omega) hd
      unfold w_X12_figures_18 w_X12_figures_18b
      have e3 : nm ((mup M 0 12 (s + (k : Int))) 0 12 - s) = k := by rw [R.2.1, nm_of (by omega) (by omega)]; omega
      rw [R.1, R.2.1]
      refine ⟨fun hc => fin k (by omega) hkL hd he (by clear e3; rw [dg_stop (Or.inl hc)] at he; omega), fun hc => y_letter R (by omega) hc (a_isIn (fun c1 c2 => ⟨fun hc => absurd hc (by decide), fun _ => ⟨fun hc => by rw [e3] at hc; clear e3; omega, fun _ => ?_⟩⟩) (fun hn => ⟨fun _ => fin k (by omega) hkL hd he (by clear e3; rw [dg_stop (Or.inr (by omega))] at he; omega), fun hc => absurd rfl hc⟩))⟩
      clear e3
      rw [R.2.1]
      refine y_letter R (by omega) hc (fun v4 e4 S5 e5 => ?_)
      rw [nm_of (x := 10 * vlF tx s k) (by omega) (by omega), nm_of (x := 10 * vlF tx s k + tx (s + k)) (by omega) (by omega), nm_of (by omega) (by omega)] at e4
      rw [R.2.1, nm_of (by omega) (by omega), mup_mup] at e5
      rw [dg_step hc ⟨c1, c2⟩] at he
      rw [e4, e5, show s + (k : Int) + 1 = s + ((k + 1 : Nat) : Int) by omega]
      refine ih (k + 1) fu (by omega) (by omega) (by omega) (fun i hi => ?_) (by rw [← he]; congr 1; omega)
      by_cases hik : i = k
      · subst hik; exact ⟨c1, c2⟩
      · exact hd i (by omega)
  have := loop 4 0 N rfl (by omega) (by omega) (fun i hi => by omega) (by congr 1; omega)
  rw [show s + ((0 : Nat) : Int) = s by omega] at this
  exact this
end figs
