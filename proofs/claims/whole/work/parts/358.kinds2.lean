set_option maxHeartbeats 400000
set_option maxRecDepth 20000
section kindst
variable {N : Nat} {M : mSt} {tx : Int → Int} {L a b : Int}
/-- kinds stand at b -/
def kd (tx : Int → Int) (L b : Int) : Int := if le' tx L b = b then -1 else kdF tx b (le' tx L b - b).toNat
theorem kd_bit : ∀ h : Nat, h < 32 → ∀ p : Nat, p < 5 → (bAnd (bShr h p) 1 ≠ 1 ↔ bt h p = 0) := by decide +kernel
theorem y_kinds28 {Q : mSt → Int → Prop} {s : Int} (hN : 5000 ≤ N) (h : RD M tx L s) (hbt : ∀ k, 0 ≤ k → k < L → 0 ≤ tx k ∧ tx k ≤ 255) (h13 : M 0 13 = -1) (hQ1 : kd tx L s ≠ -1 → RD (mup M 0 12 (le' tx L s)) tx L (le' tx L s) → Q (mup M 0 12 (le' tx L s)) (kd tx L s)) (hQ0 : kd tx L s = -1 → ∀ v, 0 ≤ v → v < 32 → RD (mup M 0 12 (le' tx L s)) tx L (le' tx L s) → Q (mup (mup M 0 12 (le' tx L s)) 0 13 s) v) : w_X12_kinds_28 N Q (fun (r0_6 : Nat) (x2_6 : Int) (x3_6 : Int) (x4_6 : Int) (S_6 : mSt) => w_X12_kinds_122 N Q r0_6 x2_6 x3_6 x4_6 S_6) N 0 s 0 1 M := by
  obtain ⟨-, -, s0, s1, L4, -⟩ := id h
  have hg := le'_ge tx L s
  have R' := h.to (show 0 ≤ le' tx L s by omega) (by omega)
  have fin : ∀ (m fl : Int), 0 ≤ m → m < 32 → ((fl = 1 ∧ kdF tx s (le' tx L s - s).toNat = m) ∨ (fl = 0 ∧ kdF tx s (le' tx L s - s).toNat = -1)) → w_X12_kinds_122 N Q 0 s m fl (mup M 0 12 (le' tx L s)) := by
    intro m fl m0 m1 hm
    have k13 : (mup M 0 12 (le' tx L s)) 0 13 = -1 := by rw [mup_i _ _ _ (by decide)]; exact h13
    have bad : kd tx L s = -1 → w_X12_kinds_135 N Q 0 s m (mup M 0 12 (le' tx L s)) := fun hk => ⟨fun hc => absurd k13 hc, fun _ S1 e1 => by rw [e1]; exact hQ0 hk m m0 m1 R'⟩
    refine ⟨fun hf => bad ?_, fun hf => ⟨fun hp => ?_, fun hp => bad ?_⟩⟩
    · unfold kd
      split
      · rfl
      · rcases hm with hm | hm
        · omega
        · exact hm.2
    · rw [R'.2.1] at hp
      have hm' := (hm.resolve_right (fun hc => hf hc.1)).2
      have ek : kd tx L s = m := by unfold kd; rw [if_neg hp]; exact hm'
      have := hQ1 (by omega) R'
      rw [ek] at this
      exact this
    · rw [R'.2.1] at hp
      unfold kd; rw [if_pos hp]
  have loop : ∀ (d k fu : Nat) (m fl : Int), s + k + d = L → d < fu → 0 ≤ m → m < 32 → ((fl = 1 ∧ kdF tx s k = m) ∨ (fl = 0 ∧ kdF tx s k = -1)) → le' tx L (s + k) = le' tx L s → w_X12_kinds_28 N Q (fun (r0_6 : Nat) (x2_6 : Int) (x3_6 : Int) (x4_6 : Int) (S_6 : mSt) => w_X12_kinds_122 N Q r0_6 x2_6 x3_6 x4_6 S_6) fu 0 s m fl (mup M 0 12 (s + k)) := by
    intro d
    induction d with
    | zero =>
      intro k fu m fl hk hf m0 m1 hm he
      obtain ⟨fu, rfl⟩ : ∃ x, fu = x + 1 := ⟨fu - 1, by omega⟩
      have R := h.to (b := s + k) (by omega) (by omega)
      rw [le_stop (Or.inl (by omega))] at he
      unfold w_X12_kinds_28 w_X12_kinds_28b
      rw [R.1, R.2.1]
      refine ⟨fun _ => ?_, fun hc => by omega⟩
      rw [he]
      exact fin m fl m0 m1 (by rw [← he, show (s + (k : Int) - s).toNat = k by omega]; exact hm)
    | succ d ih =>
      intro k fu m fl hk hf m0 m1 hm he
      obtain ⟨fu, rfl⟩ : ∃ x, fu = x + 1 := ⟨fu - 1, by omega⟩
      have R := h.to (b := s + k) (by omega) (by omega)
      have hby := hbt (s + k) (by omega) (by omega)
      unfold w_X12_kinds_28 w_X12_kinds_28b
      rw [R.1, R.2.1]
      refine ⟨fun hc => by omega, fun _ => y_letter R (by omega) (by omega) (a_isIn (fun c1 c2 => ⟨fun hc => absurd hc (by decide), fun _ => ?_⟩) (fun hn => ⟨fun _ => ?_, fun hc => absurd rfl hc⟩))⟩
      · rw [R.2.1]
        refine y_letter R (by omega) (by omega) (fun v4 e4 => ?_)
        rw [nm_of (by omega) (by omega)] at e4
        subst e4
        rw [le_step (by omega) ⟨c1, c2⟩, show s + (k : Int) + 1 = s + ((k + 1 : Nat) : Int) by omega] at he
        have es : kdF tx s (k + 1) = if kdF tx s k = -1 then -1 else if 97 ≤ tx (s + k) ∧ tx (s + k) ≤ 101 ∧ bAnd (bShr (kdF tx s k) (tx (s + k) - 97)) 1 ≠ 1 then bOr (kdF tx s k) (bShl 1 (tx (s + k) - 97)) else -1 := rfl
        have step : ∀ (m' fl' : Int), 0 ≤ m' → m' < 32 → ((fl' = 1 ∧ kdF tx s (k + 1) = m') ∨ (fl' = 0 ∧ kdF tx s (k + 1) = -1)) → w_X12_kinds_109 N Q (w_X12_kinds_28 N Q (fun (r0_6 : Nat) (x2_6 : Int) (x3_6 : Int) (x4_6 : Int) (S_6 : mSt) => w_X12_kinds_122 N Q r0_6 x2_6 x3_6 x4_6 S_6) fu) 0 s m' fl' (mup M 0 12 (s + k)) := by
          intro m' fl' a0 a1 hm' S1 e1
          rw [R.2.1, nm_of (by omega) (by omega), mup_mup, show s + (k : Int) + 1 = s + ((k + 1 : Nat) : Int) by omega] at e1
          rw [e1]
          exact ih (k + 1) fu m' fl' (by omega) (by omega) a0 a1 hm' he
        have no : kdF tx s (k + 1) = -1 → w_X12_kinds_94 N Q (w_X12_kinds_28 N Q (fun (r0_6 : Nat) (x2_6 : Int) (x3_6 : Int) (x4_6 : Int) (S_6 : mSt) => w_X12_kinds_122 N Q r0_6 x2_6 x3_6 x4_6 S_6) fu) 0 s m (tx (s + k) - 97) (mup M 0 12 (s + k)) := fun hk1 v1 e1 => ⟨fun _ => by rw [e1]; exact step m 0 m0 m1 (Or.inr ⟨rfl, hk1⟩), fun hc => absurd e1 hc⟩
        refine ⟨fun hf0 => no ?_, fun hf0 => ⟨fun h5 => no ?_, fun h5 => ?_⟩⟩
        · rcases hm with hm | hm
          · omega
          · rw [es, if_pos hm.2]
        · rw [es]; split
          · rfl
          · rw [if_neg (by omega)]
        · have hk := (hm.resolve_right (fun hc => hf0 hc.1)).2
          have hbit := kd_bit m.toNat (by omega) (tx (s + k) - 97).toNat (by omega)
          rw [show ((m.toNat : Nat) : Int) = m by omega, show (((tx (s + k) - 97).toNat : Nat) : Int) = tx (s + k) - 97 by omega] at hbit
          have hset := kd_set m.toNat (by omega) (tx (s + k) - 97).toNat (by omega)
          rw [show ((m.toNat : Nat) : Int) = m by omega, show (((tx (s + k) - 97).toNat : Nat) : Int) = tx (s + k) - 97 by omega] at hset
          refine a_isOf m0 (by omega) (by omega) (by omega) ⟨fun hb => no ?_, fun hb => ?_⟩
          · rw [es, hk, if_neg (by omega), if_neg (fun hh => hb (hbit.mp hh.2.2))]
          · intro v1 e1
            refine ⟨fun hc => by omega, fun _ v2 e2 => ?_⟩
            rw [e1, e2]
            exact step _ 1 hset.1 hset.2.1 (Or.inl ⟨rfl, by rw [es, hk, if_neg (by omega), if_pos ⟨c1, by omega, hbit.mpr hb⟩]⟩)
      · rw [le_stop (Or.inr (by omega))] at he
        rw [he]
        exact fin m fl m0 m1 (by rw [← he, show (s + (k : Int) - s).toNat = k by omega]; exact hm)
  have := loop (L - s).toNat 0 N 0 1 (by omega) (by omega) (by omega) (by omega) (Or.inl ⟨rfl, rfl⟩) (by congr 1; omega)
  rw [show s + ((0 : Nat) : Int) = s by omega, h.at0] at this
  exact this
end kindst
