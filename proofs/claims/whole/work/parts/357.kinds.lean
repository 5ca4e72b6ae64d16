set_option maxHeartbeats 400000
set_option maxRecDepth 20000
/-- the kinds that the first k letters from b on write; -1 if one is none or comes twice -/
def kdF (tx : Int → Int) (b : Int) : Nat → Int
  | 0 => 0
  | k + 1 => if kdF tx b k = -1 then -1 else if 97 ≤ tx (b + k) ∧ tx (b + k) ≤ 101 ∧ bAnd (bShr (kdF tx b k) (tx (b + k) - 97)) 1 ≠ 1 then bOr (kdF tx b k) (bShl 1 (tx (b + k) - 97)) else -1
theorem kd_set : ∀ h : Nat, h < 32 → ∀ p : Nat, p < 5 → 0 ≤ bOr h (bShl 1 p) ∧ bOr h (bShl 1 p) < 32 ∧ bOr h (bShl 1 p) ≠ 0 := by decide +kernel
theorem kdF_ok (tx : Int → Int) (b : Int) : ∀ k : Nat, kdF tx b k = -1 ∨ (0 ≤ kdF tx b k ∧ kdF tx b k < 32 ∧ (k ≠ 0 → kdF tx b k ≠ 0))
  | 0 => Or.inr ⟨Int.le_refl _, by show (0 : Int) < 32; decide, fun h => absurd rfl h⟩
  | k + 1 => by
    have h := kdF_ok tx b k
    unfold kdF
    by_cases h1 : kdF tx b k = -1
    · rw [if_pos h1]; exact Or.inl rfl
    · rw [if_neg h1]
      have h2 := h.resolve_left h1
      split
      · next hc =>
        have := kd_set (kdF tx b k).toNat (by omega) (tx (b + k) - 97).toNat (by omega)
        rw [show (((kdF tx b k).toNat : Nat) : Int) = kdF tx b k by omega, show (((tx (b + k) - 97).toNat : Nat) : Int) = tx (b + k) - 97 by omega] at this
        exact Or.inr ⟨this.1, this.2.1, fun _ => this.2.2⟩
      · exact Or.inl rfl
theorem kdF_bad {tx : Int → Int} {b : Int} : ∀ {m k : Nat}, k ≤ m → kdF tx b k = -1 → kdF tx b m = -1
  | 0, k, hk, h => by
    have : k = 0 := by omega
    subst this; exact h
  | m + 1, k, hk, h => by
    by_cases he : k = m + 1
    · rw [← he]; exact h
    · have := kdF_bad (m := m) (k := k) (by omega) h
      unfold kdF
      rw [if_pos this]
section kindss
variable {N : Nat} {X : mSt} {tx : Int → Int} {L w lo hi : Int} {n c t : Nat}
theorem CC.size (h : CC X tx L n c w) (hc : c < n) : X 42 c = en tx L (tkp tx L c) - tkp tx L c := (h.1.1 c hc).2.1
theorem s_needKinds {Q : mSt → Int → Prop} (hN : 5000 ≤ N) (L4 : L ≤ 400) (L0 : 0 ≤ L) (hbt : ∀ k, 0 ≤ k → k < L → 0 ≤ tx k ∧ tx k ≤ 255) (h : CC X tx L n c w) (h1 : w = -1 → c < n → kdF tx (tkp tx L c) (en tx L (tkp tx L c) - tkp tx L c).toNat ≠ -1 → Q (mup X 38 5 ((c + 1 : Nat) : Int)) (kdF tx (tkp tx L c) (en tx L (tkp tx L c) - tkp tx L c).toNat)) (h2 : w = -1 → (c < n → kdF tx (tkp tx L c) (en tx L (tkp tx L c) - tkp tx L c).toNat = -1) → CC (mup X 38 6 (tkp tx L c)) tx L n c (tkp tx L c) → Q (mup X 38 6 (tkp tx L c)) 0) (h3 : w ≠ -1 → Q X 0) : w_X10_needKinds N 38 X Q := by
  obtain ⟨ht, hp, hv⟩ := h.tok
  obtain ⟨hT, e5, hc, e6⟩ := id h
  have hn := hT.2.1
  have fail : (c < n → kdF tx (tkp tx L c) (en tx L (tkp tx L c) - tkp tx L c).toNat = -1) → w_X10_refuse N 38 X (fun (S1 : mSt) => Q S1 0) := fun hf => s_refuse h h3 (fun a b => h2 a hf b)
  intro v1 e1 v2 e2
  subst e1; subst e2
  by_cases hcn : c < n
  · have hb := (hv hcn).2
    have hin := tkp_in tx L0 c
    have hg := en_ge (tx := tx) hb
    have hs := h.size hcn
    generalize hz : en tx L (tkp tx L c) - tkp tx L c = z at *
    generalize hbb : tkp tx L c = b at *
    have x39 : ∀ k, 0 ≤ k → k < L → X 39 k = tx k := hT.2.2.2.2
    refine lpUp (n := N) (T := X) (K := z.toNat) (W := fun m k T => kdF tx b k ≠ -1 → w_X10_needKinds_4 N Q (fun (r0_3 : Nat) (x1_3 : Int) (S_3 : mSt) => (((S_3 r0_3 6) ≠ (-1) → w_X10_needKinds_85 N Q r0_3 S_3) ∧ ((S_3 r0_3 6) = (-1) → ((x1_3 ≠ 0 → ∀ S4 : mSt, S4 = mup S_3 r0_3 5 (nm ((S_3 r0_3 5) + 1)) → Q S4 x1_3) ∧ (x1_3 = 0 → w_X10_needKinds_85 N Q r0_3 S_3))))) m 38 (kdF tx b k) k T) (I := fun k T => T = X) (fun m T hI => ?_) (fun m k T hk hI ih => ?_) (by omega) rfl (by show (0 : Int) ≠ -1; decide)
    · subst hI
      intro hne
      have e42 : T (38 + 4) (T 38 5) = z := by rw [e5]; exact hs
      unfold w_X10_needKinds_4 w_X10_needKinds_4b
      rw [e42, e5]
      refine ⟨by omega, by omega, fun _ => ⟨fun hw => s_refuse h h3 (fun a _ => absurd (e6.trans a) hw), fun hw => ⟨fun hk0 S4 e4 => ?_, fun hk0 => ?_⟩⟩, fun hc2 => by omega⟩
      · rw [e5, nx8 (by omega)] at e4
        rw [e4]
        exact h1 (e6.symm.trans hw) hcn hne
      · exact absurd hk0 (((kdF_ok tx b z.toNat).resolve_left hne).2.2 (by omega))
    · subst hI
      intro hne
      have e42 : T (38 + 4) (T 38 5) = z := by rw [e5]; exact hs
      have e41 : T (38 + 3) c = b := hp
      have hok := (kdF_ok tx b k).resolve_left hne
      have e39 : T (38 + 1) (b + (k : Int)) = tx (b + k) := x39 _ (by omega) (by omega)
      have es : kdF tx b (k + 1) = if kdF tx b k = -1 then -1 else if 97 ≤ tx (b + k) ∧ tx (b + k) ≤ 101 ∧ bAnd (bShr (kdF tx b k) (tx (b + k) - 97)) 1 ≠ 1 then bOr (kdF tx b k) (bShl 1 (tx (b + k) - 97)) else -1 := rfl
      have bad : ¬ (97 ≤ tx (b + k) ∧ tx (b + k) ≤ 101 ∧ bAnd (bShr (kdF tx b k) (tx (b + k) - 97)) 1 ≠ 1) → w_X10_needKinds_55 N Q 38 T := fun hb2 => fail (fun _ => kdF_bad (k := k + 1) (by omega) (by rw [es, if_neg hne, if_neg hb2]))
      have hby := hbt (b + k) (by omega) (by omega)
      unfold w_X10_needKinds_4 w_X10_needKinds_4b
      rw [e42, e5, e41, nm_of (x := b + (k : Int)) (by omega) (by omega), e39, nm_of (x := tx (b + (k : Int)) - 97) (by omega) (by omega)]
      refine ⟨by omega, by omega, fun hc2 => by omega, fun _ => ⟨by omega, by omega, by omega, by omega, fun v4 e4 => ?_⟩⟩
      subst e4
      refine ⟨fun hl => bad (by omega), fun hl => ⟨fun hl2 => bad (by omega), fun hl2 => ⟨fun hbit v5 ev5 v6 ev6 => ?_, fun hbit => bad (fun hh => hh.2.2 hbit)⟩⟩⟩
      rw [nx8 (by omega)] at ev6
      have es2 : kdF tx b (k + 1) = bOr (kdF tx b k) (bShl 1 (tx (b + k) - 97)) := by rw [es, if_neg hne, if_pos ⟨by omega, by omega, hbit⟩]
      have hset := kd_set (kdF tx b k).toNat (by omega) (tx (b + k) - 97).toNat (by omega)
      rw [show (((kdF tx b k).toNat : Nat) : Int) = kdF tx b k by omega, show (((tx (b + k) - 97).toNat : Nat) : Int) = tx (b + k) - 97 by omega] at hset
      have := ih T rfl (by rw [es2]; omega)
      rw [es2] at this
      rw [ev5, ev6]
      exact this
  · have ec : c = n := by omega
    have e42 : X (38 + 4) c = 0 := by rw [ec]; exact hT.2.2.2.1.2.2.1
    obtain ⟨m, rfl⟩ : ∃ m, N = m + 1 := ⟨N - 1, by omega⟩
    have hf := fail (fun hc2 => absurd hc2 hcn)
    unfold w_X10_needKinds_4 w_X10_needKinds_4b
    rw [e5, e42]
    exact ⟨by omega, by omega, fun _ => ⟨fun _ => hf, fun _ => ⟨fun hc2 => absurd rfl hc2, fun _ => hf⟩⟩, fun hc2 => by omega⟩
end kindss
