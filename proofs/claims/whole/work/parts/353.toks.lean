set_option maxHeartbeats 400000
set_option maxRecDepth 20000
/-! ===== the pure part: the class's tokens ===== -/
/-- the token t stands at b, z letters long -/
def txm (tx : Int → Int) (t : Nat) (b z : Int) : Bool := decide (z = sLen (tkS.getD t 0)) && wdB tx (tkS.getD t 0) b z.toNat
/-- the first token from t on that stands at b -/
def wrF (tx : Int → Int) (b z : Int) : Nat → Nat → Nat
  | 0, _ => 2
  | d + 1, t => if txm tx t b z = true then t else wrF tx b z d (t + 1)
def wr (tx : Int → Int) (b z : Int) : Nat := wrF tx b z 36 0
section toks
variable {N : Nat} {X : mSt} {tx : Int → Int} {L b z : Int}
theorem s_isAt {Q : mSt → Int → Prop} {t r : Nat} (hN : 5000 ≤ N) (b0 : 0 ≤ b) (z0 : 0 ≤ z) (hz : b + z ≤ 400) (hX : ∀ k, b ≤ k → k < b + z → X r k = tx k) (hQ1 : txm tx t b z = true → Q X 1) (hQ0 : txm tx t b z = false → Q X 0) : w_X8_isAt N t r b z X Q := by
  unfold w_X8_isAt
  rw [nm_of (x := b + z) (by omega) (by omega)]
  refine ⟨fun hc => hQ0 (by unfold txm; rw [decide_eq_false hc]; rfl), fun hc => ⟨fun _ v2 e2 => ?_, fun hc2 => by omega⟩⟩
  subst e2
  refine lpUp (n := N) (T := X) (K := z.toNat) (W := fun n k T => w_X8_isAt_24 N Q (fun (S_3 : mSt) => Q S_3 1) n t r b z k T) (I := fun k T => T = X ∧ ∀ i : Nat, i < k → tx (b + i) = sCh (tkS.getD t 0) i) (fun n T hI => ?_) (fun n k T hk hI ih => ?_) (by omega) ⟨rfl, fun i hi => by omega⟩
  · obtain ⟨rfl, hI2⟩ := hI
    exact ⟨fun _ => hQ1 (by unfold txm; rw [decide_eq_true hc, wdB_all hI2]; rfl), fun hc2 => by omega⟩
  · obtain ⟨rfl, hI2⟩ := hI
    refine ⟨fun hc2 => by omega, fun _ => ?_⟩
    rw [nm_of (x := b + (k : Int)) (by omega) (by omega), hX _ (by omega) (by omega)]
    refine ⟨by omega, by omega, by omega, by omega, fun he v4 e4 => ?_, fun he => hQ0 (by unfold txm; rw [wdB_no (k := k) (by omega) he, Bool.and_false])⟩
    rw [nx8 (by omega)] at e4
    subst e4
    refine ih T ⟨rfl, fun i hi => ?_⟩
    by_cases hik : i = k
    · subst hik; exact he
    · exact hI2 i (by omega)
theorem s_written {Q : mSt → Nat → Prop} {r : Nat} (hN : 5000 ≤ N) (b0 : 0 ≤ b) (z0 : 0 < z) (hz : b + z ≤ 400) (hX : ∀ k, b ≤ k → k < b + z → X r k = tx k) (hQ : Q X (wr tx b z)) : w_X8_written N r b z X Q := by
  intro v1 e1
  subst e1
  have loop : ∀ (d t fu : Nat), t + d = 36 → d < fu → wr tx b z = wrF tx b z d t → w_X8_written_2 N Q (fun (S_2 : mSt) => Q S_2 2) fu r b z t X := by
    intro d
    induction d with
    | zero =>
      intro t fu ht hf he
      obtain ⟨fu, rfl⟩ : ∃ x, fu = x + 1 := ⟨fu - 1, by omega⟩
      rw [he] at hQ
      exact ⟨fun _ => hQ, fun hc => by omega⟩
    | succ d ih =>
      intro t fu ht hf he
      obtain ⟨fu, rfl⟩ : ∃ x, fu = x + 1 := ⟨fu - 1, by omega⟩
      have e : wrF tx b z (d + 1) t = if txm tx t b z = true then t else wrF tx b z d (t + 1) := rfl
      rw [e] at he
      refine ⟨fun hc => by omega, fun _ => ⟨fun hc => by omega, fun _ => ⟨by omega, by omega, fun t2 e2 => ?_⟩⟩⟩
      have : t2 = t := by omega
      subst this
      refine s_isAt hN b0 (by omega) hz hX (fun hm => ⟨fun hc => absurd hc (by decide), fun _ => ⟨by omega, by omega, fun t5 e5 => ?_⟩⟩) (fun hm => ⟨fun _ v1 e1 => ?_, fun hc => absurd rfl hc⟩)
      · have : t5 = t2 := by omega
        subst this
        rw [if_pos hm] at he
        rw [← he]; exact hQ
      · rw [nx8 (by omega)] at e1
        subst e1
        rw [if_neg (by rw [hm]; decide)] at he
        exact ih (t2 + 1) fu (by omega) (by omega) he
  exact loop 36 0 N rfl (by omega) rfl
end toks
/-- two tokens' texts differ -/
def tdif (t t' : Nat) : Bool := decide (sLen (tkS.getD t 0) ≠ sLen (tkS.getD t' 0)) || (List.range 12).any (fun k => decide ((k : Int) < sLen (tkS.getD t 0)) && decide (sCh (tkS.getD t 0) k ≠ sCh (tkS.getD t' 0) k))
theorem tdif_all : ∀ t : Nat, t < 36 → 3 ≤ t → ∀ t' : Nat, t' < 36 → t' ≠ t → tdif t t' = true := by decide +kernel
theorem txm_one {tx : Int → Int} {b z : Int} {t t' : Nat} (ht : t < 36) (h3 : 3 ≤ t) (ht' : t' < 36) (h : txm tx t b z = true) (h' : txm tx t' b z = true) : t' = t := by
  by_cases he : t' = t
  · exact he
  · have hd := tdif_all t ht h3 t' ht' he
    unfold txm at h h'
    rw [Bool.and_eq_true, decide_eq_true_eq] at h h'
    unfold tdif at hd
    rw [Bool.or_eq_true, decide_eq_true_eq] at hd
    rcases hd with hd | hd
    · exact absurd (h.1.symm.trans h'.1) hd
    · rw [List.any_eq_true] at hd
      obtain ⟨k, -, hk⟩ := hd
      rw [Bool.and_eq_true, decide_eq_true_eq, decide_eq_true_eq] at hk
      have h1 := wdB_at h.2 k (by omega)
      have h2 := wdB_at h'.2 k (by omega)
      exact absurd (h1.symm.trans h2) hk.2
theorem wrF_hit {tx : Int → Int} {b z : Int} {t : Nat} (ht : t < 36) (h3 : 3 ≤ t) : ∀ (d s : Nat), s + d = 36 → s ≤ t → (wrF tx b z d s = t ↔ txm tx t b z = true)
  | 0, s, hs, hst => by omega
  | d + 1, s, hs, hst => by
    have e : wrF tx b z (d + 1) s = if txm tx s b z = true then s else wrF tx b z d (s + 1) := rfl
    rw [e]
    by_cases hm : txm tx s b z = true
    · rw [if_pos hm]
      constructor
      · intro h; rw [← h]; exact hm
      · intro h; exact txm_one ht h3 (by omega) h hm
    · rw [if_neg hm]
      by_cases he : s = t
      · subst he
        constructor
        · intro h
          exfalso
          have hlow : ∀ (d s' : Nat), s < s' → s' + d = 36 → wrF tx b z d s' ≠ s := by
            intro d
            induction d with
            | zero => intro s' _ _ h2; have : (2 : Nat) = s := h2; omega
            | succ d ih =>
              intro s' h1 h2 h4
              have e : wrF tx b z (d + 1) s' = if txm tx s' b z = true then s' else wrF tx b z d (s' + 1) := rfl
              rw [e] at h4
              split at h4
              · omega
              · exact ih (s' + 1) (by omega) (by omega) h4
          exact hlow d (s + 1) (by omega) (by omega) h
        · intro h; exact absurd h hm
      · exact wrF_hit ht h3 d (s + 1) (by omega) (by omega)
/-- the class sees the token t exactly where its text stands -/
theorem wr_iff {tx : Int → Int} {b z : Int} {t : Nat} (ht : t < 36) (h3 : 3 ≤ t) : wr tx b z = t ↔ txm tx t b z = true := wrF_hit ht h3 36 0 rfl (by omega)
