set_option maxHeartbeats 400000
set_option maxRecDepth 20000
/-! ===== the pure part: reading, the letters ===== -/
/-- the first place from a on (at most d on) that holds no blank -/
def nsF (tx : Int → Int) (L : Int) : Nat → Int → Int
  | 0 => fun a => a
  | d + 1 => fun a => if a < L then (if tx a = 32 then nsF tx L d (a + 1) else a) else a
def ns (tx : Int → Int) (L a : Int) : Int := nsF tx L (L - a).toNat a
/-- the end of the letters from a on -/
def leF (tx : Int → Int) (L : Int) : Nat → Int → Int
  | 0 => fun a => a
  | d + 1 => fun a => if a < L then (if 97 ≤ tx a ∧ tx a ≤ 122 then leF tx L d (a + 1) else a) else a
def le' (tx : Int → Int) (L a : Int) : Int := leF tx L (L - a).toNat a
theorem nsF_ge (tx : Int → Int) (L : Int) : ∀ (d : Nat) (a : Int), a ≤ nsF tx L d a ∧ (a ≤ L → nsF tx L d a ≤ L)
  | 0, a => ⟨Int.le_refl _, id⟩
  | d + 1, a => by
    have := nsF_ge tx L d (a + 1)
    unfold nsF
    split
    · split
      · omega
      · omega
    · omega
theorem leF_ge (tx : Int → Int) (L : Int) : ∀ (d : Nat) (a : Int), a ≤ leF tx L d a ∧ (a ≤ L → leF tx L d a ≤ L)
  | 0, a => ⟨Int.le_refl _, id⟩
  | d + 1, a => by
    have := leF_ge tx L d (a + 1)
    unfold leF
    split
    · split
      · omega
      · omega
    · omega
theorem ns_ge (tx : Int → Int) (L a : Int) : a ≤ ns tx L a ∧ (a ≤ L → ns tx L a ≤ L) := nsF_ge tx L _ a
theorem le'_ge (tx : Int → Int) (L a : Int) : a ≤ le' tx L a ∧ (a ≤ L → le' tx L a ≤ L) := leF_ge tx L _ a
theorem ns_step {tx : Int → Int} {L a : Int} (h : a < L) (h2 : tx a = 32) : ns tx L a = ns tx L (a + 1) := by
  unfold ns
  obtain ⟨d, hd⟩ : ∃ d, (L - a).toNat = d + 1 := ⟨(L - a).toNat - 1, by omega⟩
  rw [hd, show (L - (a + 1)).toNat = d by omega]
  show (if a < L then (if tx a = 32 then nsF tx L d (a + 1) else a) else a) = _
  rw [if_pos h, if_pos h2]
theorem ns_stop {tx : Int → Int} {L a : Int} (h : L ≤ a ∨ tx a ≠ 32) : ns tx L a = a := by
  unfold ns
  cases hd : (L - a).toNat with
  | zero => rfl
  | succ d =>
    show (if a < L then (if tx a = 32 then nsF tx L d (a + 1) else a) else a) = a
    by_cases h1 : a < L
    · rw [if_pos h1, if_neg (by omega)]
    · rw [if_neg h1]
theorem le_step {tx : Int → Int} {L a : Int} (h : a < L) (h2 : 97 ≤ tx a ∧ tx a ≤ 122) : le' tx L a = le' tx L (a + 1) := by
  unfold le'
  obtain ⟨d, hd⟩ : ∃ d, (L - a).toNat = d + 1 := ⟨(L - a).toNat - 1, by omega⟩
  rw [hd, show (L - (a + 1)).toNat = d by omega]
  show (if a < L then (if 97 ≤ tx a ∧ tx a ≤ 122 then leF tx L d (a + 1) else a) else a) = _
  rw [if_pos h, if_pos h2]
theorem le_stop {tx : Int → Int} {L a : Int} (h : L ≤ a ∨ ¬ (97 ≤ tx a ∧ tx a ≤ 122)) : le' tx L a = a := by
  unfold le'
  cases hd : (L - a).toNat with
  | zero => rfl
  | succ d =>
    show (if a < L then (if 97 ≤ tx a ∧ tx a ≤ 122 then leF tx L d (a + 1) else a) else a) = a
    by_cases h1 : a < L
    · rw [if_pos h1, if_neg (h.resolve_left (by omega))]
    · rw [if_neg h1]
/-- the reference reads the text tx of length L at a -/
def RD (M : mSt) (tx : Int → Int) (L a : Int) : Prop := M 0 11 = L ∧ M 0 12 = a ∧ 0 ≤ a ∧ a ≤ L ∧ L ≤ 400 ∧ ((M 0 10 = -1 ∧ ∀ k, 0 ≤ k → k < L → M 6 k = tx k) ∨ (M 0 10 = 350 ∧ ∀ k, 0 ≤ k → k < L → M 1 (350 + k) = tx k))
section lexs
variable {N : Nat} {M : mSt} {tx : Int → Int} {L a b : Int}
theorem RD.to (h : RD M tx L a) (b0 : 0 ≤ b) (b1 : b ≤ L) : RD (mup M 0 12 b) tx L b := by
  obtain ⟨h1, h2, h3, h4, h5, h6⟩ := h
  refine ⟨by rw [mup_i _ _ _ (by decide)]; exact h1, mup_same _ _ _ _, b0, b1, h5, ?_⟩
  rw [mup_i _ _ _ (by decide), mup_ne _ _ _ (by decide), mup_ne _ _ _ (by decide)]
  exact h6
theorem mup_mup (S : mSt) (r : Nat) (i v w : Int) : mup (mup S r i v) r i w = mup S r i w := by
  funext r' i'
  by_cases hr : r' = r
  · subst hr
    by_cases hi : i' = i
    · subst hi; rw [mup_same, mup_same]
    · rw [mup_i _ _ _ hi, mup_i _ _ _ hi, mup_i _ _ _ hi]
  · rw [mup_ne _ _ _ hr, mup_ne _ _ _ hr, mup_ne _ _ _ hr]
theorem RD.at0 (h : RD M tx L a) : mup M 0 12 a = M := by
  have := mup_self M 0 12
  rw [h.2.1] at this; exact this
theorem y_letter {Q : mSt → Int → Prop} {k : Int} (h : RD M tx L a) (k0 : 0 ≤ k) (k1 : k < L) (hQ : Q M (tx k)) : w_X12_letter N 0 k M Q := by
  obtain ⟨h1, h2, h3, h4, h5, h6⟩ := h
  rcases h6 with ⟨h6, h7⟩ | ⟨h6, h7⟩
  · refine ⟨fun hc => absurd h6 hc, fun _ => ⟨k0, by omega, ?_⟩⟩
    show Q M (M 6 k)
    rw [h7 k k0 k1]; exact hQ
  · refine ⟨fun _ => ?_, fun hc => by omega⟩
    rw [h6, nm_of (by omega) (by omega)]
    refine ⟨by omega, by omega, ?_⟩
    show Q M (M 1 (350 + k))
    rw [h7 k k0 k1]; exact hQ
theorem y_skip {Q : mSt → Prop} (hN : 5000 ≤ N) (h : RD M tx L a) (hQ : RD (mup M 0 12 (ns tx L a)) tx L (ns tx L a) → Q (mup M 0 12 (ns tx L a))) : w_X12_skip N 0 M Q := by
  have hg := ns_ge tx L a
  obtain ⟨-, -, h3, h4, h5, -⟩ := id h
  have hq := hQ (h.to (by omega) (by omega))
  have loop : ∀ (d fu : Nat) (b : Int), b + d = L → d < fu → 0 ≤ b → ns tx L b = ns tx L a → w_X12_skip_0 N Q (fun (S_1 : mSt) => Q S_1) fu 0 (mup M 0 12 b) := by
    intro d
    induction d with
    | zero =>
      intro fu b hb hf b0 hn
      obtain ⟨fu, rfl⟩ : ∃ x, fu = x + 1 := ⟨fu - 1, by omega⟩
      have R := h.to b0 (by omega)
      rw [ns_stop (Or.inl (by omega))] at hn
      unfold w_X12_skip_0 w_X12_skip_0b
      rw [R.1, R.2.1]
      exact ⟨fun _ => by rw [hn]; exact hq, fun hc => by omega⟩
    | succ d ih =>
      intro fu b hb hf b0 hn
      obtain ⟨fu, rfl⟩ : ∃ x, fu = x + 1 := ⟨fu - 1, by omega⟩
      have R := h.to b0 (by omega)
      unfold w_X12_skip_0 w_X12_skip_0b
      rw [R.1, R.2.1]
      refine ⟨fun hc => by omega, fun _ => y_letter R b0 (by omega) ⟨fun hc => ?_, fun hc S2 e2 => ?_⟩⟩
      · rw [ns_stop (Or.inr hc)] at hn
        rw [hn]; exact hq
      · rw [R.2.1, nm_of (by omega) (by omega), mup_mup] at e2
        rw [ns_step (by omega) hc] at hn
        rw [e2]
        exact ih fu (b + 1) (by omega) (by omega) (by omega) hn
  have := loop (L - a).toNat N a (by omega) (by omega) h3 rfl
  rw [h.at0] at this
  exact this
theorem y_place {Q : mSt → Int → Prop} (hN : 5000 ≤ N) (h : RD M tx L a) (hQ : RD (mup M 0 12 (ns tx L a)) tx L (ns tx L a) → Q (mup M 0 12 (ns tx L a)) (ns tx L a)) : w_X12_place N 0 M Q := by
  refine y_skip hN h (fun R => ?_)
  rw [R.2.1]
  exact hQ R
theorem y_isSign {Q : mSt → Int → Prop} {c : Int} (hN : 5000 ≤ N) (h : RD M tx L a) (hQ : RD (mup M 0 12 (ns tx L a)) tx L (ns tx L a) → Q (mup M 0 12 (ns tx L a)) (if ns tx L a < L ∧ tx (ns tx L a) = c then 1 else 0)) : w_X12_isSign N 0 c M Q := by
  refine y_skip hN h (fun R => ?_)
  have hq := hQ R
  rw [R.1, R.2.1]
  refine ⟨fun hc => ?_, fun hc => y_letter R R.2.2.1 hc ⟨fun hn => ?_, fun hn => ?_⟩⟩
  · rw [if_neg (by omega)] at hq; exact hq
  · rw [if_neg (fun hh => hn hh.2)] at hq; exact hq
  · rw [if_pos ⟨hc, hn⟩] at hq; exact hq
end lexs
