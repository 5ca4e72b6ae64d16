set_option maxHeartbeats 4000000
set_option maxRecDepth 20000
section mLight2
variable {N : Nat} {S : mSt} {A : mLaw} {p : Int} {Q : mSt → Int → Prop}
theorem a_white (hN : 1000 ≤ N) (hL : LM N (S 1) A) (hB : LB A) (hok : okS S) (hR : RO (S 1)) (p0 : 0 ≤ p) (p1 : p < 8) (h : ∀ S', okS S' → MF S S' → Q S' (fWhite A (S 1) p)) : w_X12_whiteOf N 0 p S Q := by
  unfold w_X12_whiteOf
  refine a_asks hN hL hok hR p0 p1 (fun S1 ok1 k1 a18 a19 a20 => ?_)
  obtain ⟨g1, g2, g3, g4, g5, g6, g7⟩ := hR.at p0 p1
  refine a_of p0 p1 (by omega) (by omega) (a_of p0 p1 (by omega) (by omega) ?_)
  rw [k1.m]
  refine s_bits (by omega) (by omega) (by omega) (a_lesser (a_greater ?_))
  have hk := h S1 ok1 k1
  have b0 := hB 0 (env (S 1) p)
  have b1 := hB 1 (env (S 1) p)
  have hp := pc_le (S 1 (14 + 6 * p + 3))
  rw [a18, show 14 + 6 * p + 0 = 14 + 6 * p by omega, nm_of (x := 9 + _) (by omega) (by omega), nm_of (x := 9 + _ - _) (by omega) (by omega), nm_of (by omega) (by omega)]
  unfold fWhite at hk
  rwa [show 9 + (A 0 (env (S 1) p) - A 1 (env (S 1) p)) = 9 + A 0 (env (S 1) p) - A 1 (env (S 1) p) by omega]
theorem a_light (hN : 1000 ≤ N) (hL : LM N (S 1) A) (hB : LB A) (hok : okS S) (hR : RO (S 1)) (p0 : 0 ≤ p) (p1 : p < 8) (h : ∀ S', okS S' → MF S S' → Q S' (fLight A (S 1) p)) : w_X12_lightOf N 0 p S Q := by
  unfold w_X12_lightOf
  unfold fLight at h
  refine a_of p0 p1 (by omega) (by omega) ⟨fun q => ?_, fun q => ?_⟩
  · rw [if_neg q] at h
    exact h S hok (MF.rf S)
  · rw [if_pos q] at h
    refine a_of p0 p1 (by omega) (by omega) ⟨fun q2 => ?_, fun q2 => ?_⟩
    · rw [if_neg q2] at h
      exact h S hok (MF.rf S)
    · rw [if_pos q2] at h
      exact a_white hN hL hB hok hR p0 p1 h
theorem a_all (hN : 1000 ≤ N) (hL : LM N (S 1) A) (hB : LB A) (hok : okS S) (hR : RO (S 1)) (h : ∀ S', okS S' → MF S S' → Q S' (fAll A (S 1))) : w_X12_lightOfAll N 0 S Q := by
  unfold w_X12_lightOfAll
  intro v1 e1 v2 e2
  subst e1; subst e2
  have loop : ∀ (d k n : Nat) (T : mSt), k + d = 8 → d < n → okS T → MF S T → w_X12_lightOfAll_4 N Q (fun (x1_3 : Int) (S_3 : mSt) => Q S_3 x1_3) n 0 (fSum A (S 1) k) k T := by
    intro d
    induction d with
    | zero =>
      intro k n T hk hn okT kT
      obtain ⟨n, rfl⟩ : ∃ m, n = m + 1 := ⟨n - 1, by omega⟩
      refine ⟨fun _ => ?_, fun hc => by omega⟩
      have e : k = 8 := by omega
      subst e
      exact h T okT kT
    | succ d ih =>
      intro k n T hk hn okT kT
      obtain ⟨n, rfl⟩ : ∃ m, n = m + 1 := ⟨n - 1, by omega⟩
      refine ⟨fun hc => by omega, fun _ => ?_⟩
      have eT := kT.m
      refine a_light hN (by rw [eT]; exact hL) hB okT (by rw [eT]; exact hR) (by omega) (by omega) (fun T1 ok1 k1 v1 e1 v2 e2 => ?_)
      rw [eT] at e1
      have hs := fSum_ok A (S 1) k
      have hl := fLight_ok A (S 1) k
      rw [nm_of (by omega) (by omega)] at e1 e2
      subst e1; subst e2
      exact ih (k + 1) n T1 (by omega) (by omega) ok1 (kT.tr k1)
  exact loop 8 0 N S rfl (by omega) hok (MF.rf S)
theorem a_dries (hN : 1000 ≤ N) (hL : LM N (S 1) A) (hB : LB A) (hok : okS S) (hR : RO (S 1)) (p0 : 0 ≤ p) (p1 : p < 8) (h : ∀ S', okS S' → MF S S' → Q S' (fDries A (S 1) p)) : w_X12_driesBy N 0 p S Q := by
  unfold w_X12_driesBy
  refine a_asks hN hL hok hR p0 p1 (fun S1 ok1 k1 a18 a19 a20 => ?_)
  obtain ⟨g1, g2, g3, g4, g5, g6, g7⟩ := hR.at p0 p1
  obtain ⟨-, -, -, -, -, -, w8⟩ := hR.at (p := S 1 (14 + 6 * p + 5)) (by omega) (by omega)
  have hd := hR.2.1
  have b2 := hB 2 (env (S 1) p)
  refine a_of p0 p1 (by omega) (by omega) ?_
  rw [k1.m, nm_of (x := 62 + _) (by omega) (by omega)]
  refine ⟨by omega, by omega, a_greater ?_⟩
  have hk := h S1 ok1 k1
  rw [a19, iDiv_nn (by unfold okI; omega) (by decide) (by omega) (by omega), nm_of (x := _ + _) (by omega) (by omega), nm_of (by omega) (by omega)]
  exact hk
end mLight2
