set_option maxHeartbeats 400000
set_option maxRecDepth 20000
/-- the word j stands at b -/
def wdB (tx : Int → Int) (j : Nat) (b : Int) : Nat → Bool
  | 0 => true
  | k + 1 => wdB tx j b k && decide (tx (b + k) = sCh j k)
def word (tx : Int → Int) (L : Int) (j : Nat) (b : Int) : Bool := decide (le' tx L b - b = sLen j) && wdB tx j b (sLen j).toNat
theorem wdB_at {tx : Int → Int} {j : Nat} {b : Int} : ∀ {m : Nat}, wdB tx j b m = true → ∀ k : Nat, k < m → tx (b + k) = sCh j k
  | 0, _, k, hk => by omega
  | m + 1, h, k, hk => by
    unfold wdB at h
    rw [Bool.and_eq_true, decide_eq_true_eq] at h
    by_cases he : k = m
    · subst he; exact h.2
    · exact wdB_at h.1 k (by omega)
theorem wdB_no {tx : Int → Int} {j : Nat} {b : Int} {m k : Nat} (hk : k < m) (h : tx (b + k) ≠ sCh j k) : wdB tx j b m = false := by
  cases h2 : wdB tx j b m
  · rfl
  · exact absurd (wdB_at h2 k hk) h
theorem wdB_all {tx : Int → Int} {j : Nat} {b : Int} : ∀ {m : Nat}, (∀ k : Nat, k < m → tx (b + k) = sCh j k) → wdB tx j b m = true
  | 0, _ => rfl
  | m + 1, h => by
    unfold wdB
    rw [Bool.and_eq_true, decide_eq_true_eq]
    exact ⟨wdB_all (fun k hk => h k (by omega)), h m (by omega)⟩
section lext
variable {N : Nat} {M : mSt} {tx : Int → Int} {L a b : Int}
theorem y_has {Q : mSt → Int → Prop} {j : Nat} (hN : 5000 ≤ N) (h : RD M tx L a) (hQ1 : word tx L j (ns tx L a) = true → RD (mup M 0 12 (le' tx L (ns tx L a))) tx L (le' tx L (ns tx L a)) → Q (mup M 0 12 (le' tx L (ns tx L a))) 1) (hQ0 : word tx L j (ns tx L a) = false → RD (mup M 0 12 (ns tx L a)) tx L (ns tx L a) → Q (mup M 0 12 (ns tx L a)) 0) : w_X12_has_ N 0 j M Q := by
  refine y_skip hN h (fun R v2 e2 => ?_)
  rw [R.2.1] at e2
  subst e2
  have hq1 : word tx L j (ns tx L a) = true → Q (mup (mup M 0 12 (ns tx L a)) 0 12 (le' tx L (ns tx L a))) 1 := fun hw => by
    have hg := le'_ge tx L (ns tx L a)
    have hh := R.2.2
    rw [mup_mup]; exact hQ1 hw (h.to (by omega) (by omega))
  have hq0 := fun hw => hQ0 hw R
  generalize mup M 0 12 (ns tx L a) = M1 at R hq0 hq1
  generalize ns tx L a = s at R hq0 hq1
  obtain ⟨-, r12, s0, s1, L4, -⟩ := id R
  have hg := le'_ge tx L s
  have fin : w_X12_has__38 N Q 0 j (le' tx L s) M1 := by
    unfold w_X12_has__38
    rw [r12, nm_of (by omega) (by omega)]
    refine ⟨fun he v2 e2 => ?_, fun he => hq0 (by unfold word; rw [decide_eq_false he]; rfl)⟩
    subst e2
    refine lpUp (n := N) (T := M1) (K := (sLen j).toNat) (W := fun n k T => w_X12_has__55 N Q (fun (r0_3 : Nat) (x2_3 : Int) (S_3 : mSt) => ∀ S4 : mSt, S4 = mup S_3 r0_3 12 x2_3 → Q S4 1) n 0 j (le' tx L s) k T) (I := fun k T => T = M1 ∧ ∀ i : Nat, i < k → tx (s + i) = sCh j i) (fun n T hI => ?_) (fun n k T hk hI ih => ?_) (by omega) ⟨rfl, fun i hi => by omega⟩
    · obtain ⟨rfl, hI2⟩ := hI
      refine ⟨fun _ S4 e4 => ?_, fun hc => by omega⟩
      rw [e4]
      exact hq1 (by unfold word; rw [decide_eq_true he, wdB_all hI2]; rfl)
    · obtain ⟨rfl, hI2⟩ := hI
      refine ⟨fun hc => by omega, fun _ => ?_⟩
      rw [r12, nm_of (by omega) (by omega)]
      refine y_letter R (by omega) (by omega) ⟨by omega, by omega, fun hc v5 e5 => ?_, fun hc => hq0 (by unfold word; rw [wdB_no (k := k) (by omega) hc, Bool.and_false])⟩
      rw [nx8 (by omega)] at e5
      subst e5
      refine ih T ⟨rfl, fun i hi => ?_⟩
      by_cases hik : i = k
      · subst hik; exact hc
      · exact hI2 i (by omega)
  have loop : ∀ (d fu : Nat) (b : Int), b + d = L → d < fu → 0 ≤ b → le' tx L b = le' tx L s → w_X12_has__9 N Q (fun (r0_3 : Nat) (j1_3 : Nat) (x2_3 : Int) (S_3 : mSt) => w_X12_has__38 N Q r0_3 j1_3 x2_3 S_3) fu 0 j b M1 := by
    intro d
    induction d with
    | zero =>
      intro fu b hb hf b0 hn
      obtain ⟨fu, rfl⟩ : ∃ x, fu = x + 1 := ⟨fu - 1, by omega⟩
      rw [le_stop (Or.inl (by omega))] at hn
      unfold w_X12_has__9 w_X12_has__9b
      rw [R.1]
      exact ⟨fun _ => by rw [hn]; exact fin, fun hc => by omega⟩
    | succ d ih =>
      intro fu b hb hf b0 hn
      obtain ⟨fu, rfl⟩ : ∃ x, fu = x + 1 := ⟨fu - 1, by omega⟩
      unfold w_X12_has__9 w_X12_has__9b
      rw [R.1]
      refine ⟨fun hc => by omega, fun _ => y_letter R b0 (by omega) (a_isIn (fun c1 c2 => ⟨fun hc => absurd hc (by decide), fun _ v3 e3 => ?_⟩) (fun hc => ⟨fun _ => ?_, fun hc2 => absurd rfl hc2⟩))⟩
      · rw [nm_of (by omega) (by omega)] at e3
        rw [le_step (by omega) ⟨c1, c2⟩] at hn
        rw [e3]
        exact ih fu (b + 1) (by omega) (by omega) (by omega) hn
      · rw [le_stop (Or.inr (by omega))] at hn
        rw [hn]; exact fin
  exact loop (L - s).toNat N s (by omega) (by omega) s0 rfl
end lext
