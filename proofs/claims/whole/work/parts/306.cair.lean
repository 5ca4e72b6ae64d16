set_option maxHeartbeats 4000000
set_option maxRecDepth 20000
section cAir
variable {N : Nat} {r lw : Nat} {A : mLaw} {p : Int} {Q : mSt → Int → Prop}
theorem s_air1 {T : mSt} {g : mRow} {ko : Nat → Nat → Int → Int → mSt → Prop} {ko2 : Int → mSt → Prop} {x : Int} (hA : LX N T lw A) (hB : LB A) (hok : okS T) (hM : RM T r g) (hR : RO g) (ap : lw + 6 < r ∨ r + 6 < lw) (p0 : 0 ≤ p) (p1 : p < 8) (x0 : 0 ≤ x) (x1 : x ≤ 8) (h : ∀ T', okS T' → RM T' r (fAir1 A g p) → (∀ r', (r' ≤ r ∨ r + 6 < r') → r' ≠ lw + 5 → r' ≠ lw + 6 → T' r' = T r') → ko r lw (x + fGot1 A g p) (p + 1) T') : w_X5_air_4b N Q ko ko2 r lw x p T := by
  obtain ⟨g1, g2, g3, g4, g5, g6, g7⟩ := hR.at p0 p1
  obtain ⟨e1, e2, e3, e4, e5, e6, e7⟩ := hM.1 p p0 p1
  have nx : nm (p + 1) = p + 1 := nm_of (by omega) (by omega)
  have b := hB 3 (env g p)
  have bd := fDries_ok hB hR p0 p1
  unfold fAir1 fGot1 at h
  refine ⟨fun hc => by omega, fun _ => s_isHung hM p0 p1 ⟨fun q => ⟨p0, p1, fun q2 => ⟨p0, p1, ?_⟩, fun q2 => ⟨p0, p1, ?_⟩⟩, fun q v1 ev => ?_⟩⟩
  · rw [e3] at q2
    rw [if_neg q, if_neg q, if_pos (by omega), if_pos (by omega), Int.add_zero] at h
    refine s_soils hA hok hM hR ap p0 p1 (fun T1 ok1 k1 => ⟨p0, p1, fun T2 e2 v1 ev => ?_⟩)
    rw [e1, nm_of (by omega) (by omega), iMin_min] at e2
    rw [nx] at ev
    subst ev
    have hT1 : RM T1 r g := hM.of (fun r' a b => k1 r' (by omega) (by omega))
    exact h T2 (by rw [e2]; exact okS_up ok1 (by unfold okI; omega)) (by rw [e2]; exact hT1.grey p0 p1) (fun r' a b c => by rw [e2, mup_ne _ _ _ (by omega), k1 r' b c])
  · rw [e3] at q2
    rw [if_neg q, if_neg q, if_neg (by omega), if_neg (by omega)] at h
    refine s_dries hA hB hok hM hR ap p0 p1 (fun T1 ok1 k1 => ⟨p0, p1, fun T2 e2 => ⟨p0, p1, ?_⟩⟩)
    rw [e3, nm_of (by omega) (by omega), iMax_max] at e2
    have hT1 : RM T1 r g := hM.of (fun r' a b => k1 r' (by omega) (by omega))
    have ev : T2 (r + 3) p = max 0 (g (14 + 6 * p + 2) - fDries A g p) := by rw [e2, mup_same]
    have hk := h T2 (by rw [e2]; exact okS_up ok1 (by unfold okI; omega)) (by rw [e2]; exact hT1.wet p0 p1) (fun r' a b c => by rw [e2, mup_ne _ _ _ (by omega), k1 r' b c])
    rw [ev]
    refine ⟨fun q3 v1 e4 v2 e5 => ?_, fun q3 v1 e4 v2 e5 => ?_⟩
    · rw [if_neg q3] at hk
      rw [nm_of (by omega) (by omega)] at e4
      rw [nx] at e5
      subst e4; subst e5
      exact hk
    · rw [if_pos q3] at hk
      rw [nm_of (by omega) (by omega)] at e4
      rw [nx] at e5
      subst e4; subst e5
      exact hk
  · rw [if_pos q, if_pos q, Int.add_zero] at h
    rw [nx] at ev
    subst ev
    exact h T hok hM (fun _ _ _ _ => rfl)
theorem s_air {S : mSt} {f : mRow} (hN : 1000 ≤ N) (hA : LX N S lw A) (hB : LB A) (hok : okS S) (hM : RM S r f) (hR : RO f) (ap : lw + 6 < r ∨ r + 6 < lw) (h : ∀ S', okS S' → RM S' r (fAirs A f 8) → (∀ r', (r' ≤ r ∨ r + 6 < r') → r' ≠ lw + 5 → r' ≠ lw + 6 → S' r' = S r') → Q S' (fGots A f 8)) : w_X5_air N r lw S Q := by
  unfold w_X5_air
  intro v1 e1 v2 e2
  subst e1; subst e2
  have loop : ∀ (d k n : Nat) (T : mSt), k + d = 8 → d < n → okS T → RM T r (fAirs A f k) → (∀ r', (r' ≤ r ∨ r + 6 < r') → r' ≠ lw + 5 → r' ≠ lw + 6 → T r' = S r') → w_X5_air_4 N Q (fun (x2_3 : Int) (S_3 : mSt) => Q S_3 x2_3) n r lw (fGots A f k) k T := by
    intro d
    induction d with
    | zero =>
      intro k n T hk hn okT hT kT
      obtain ⟨n, rfl⟩ : ∃ m, n = m + 1 := ⟨n - 1, by omega⟩
      have e : k = 8 := by omega
      subst e
      exact ⟨fun _ => h T okT hT kT, fun hc => by omega⟩
    | succ d ih =>
      intro k n T hk hn okT hT kT
      obtain ⟨n, rfl⟩ : ∃ m, n = m + 1 := ⟨n - 1, by omega⟩
      have hg := fGots_ok A f k
      exact s_air1 (hA.of (fun j hj => kT _ (by omega) (by omega) (by omega))) hB okT hT (fAirs_RO hB hR k (by omega)) ap (by omega) (by omega) (by omega) (by omega) (fun T' ok' hM' k' => ih (k + 1) n T' (by omega) (by omega) ok' hM' (fun r' a b c => (k' r' a b c).trans (kT r' a b c)))
  exact loop 8 0 N S rfl (by omega) hok hM (fun _ _ _ _ => rfl)
end cAir
