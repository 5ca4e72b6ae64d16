set_option maxHeartbeats 400000
set_option maxRecDepth 20000
def ty (c : Int) : Int := if 97 ≤ c ∧ c ≤ 122 then 0 else if 48 ≤ c ∧ c ≤ 57 then 1 else 2
/-- the end of the token at b -/
def en (tx : Int → Int) (L b : Int) : Int := if ty (tx b) = 0 then le' tx L b else if ty (tx b) = 1 then dg tx L b else b + 1
def tkT' (tx : Int → Int) (L b : Int) : Nat := if ty (tx b) = 1 then 1 else wr tx b (en tx L b - b)
def tkW (tx : Int → Int) (L b : Int) : Int := if ty (tx b) = 1 then (if en tx L b - b ≤ 3 then vlF tx b (en tx L b - b).toNat else -1) else tkV (tkT' tx L b)
/-- where the tokens stand -/
def tkp (tx : Int → Int) (L : Int) : Nat → Int
  | 0 => ns tx L 0
  | i + 1 => if tkp tx L i < L then ns tx L (en tx L (tkp tx L i)) else L
theorem ty_0 {c : Int} : ty c = 0 ↔ (97 ≤ c ∧ c ≤ 122) := by
  unfold ty
  by_cases h : 97 ≤ c ∧ c ≤ 122
  · rw [if_pos h]; exact ⟨fun _ => h, fun _ => rfl⟩
  · rw [if_neg h]
    refine ⟨fun hc => ?_, fun hc => absurd hc h⟩
    split at hc <;> omega
theorem ty_1 {c : Int} : ty c = 1 ↔ (48 ≤ c ∧ c ≤ 57) := by
  unfold ty
  by_cases h : 97 ≤ c ∧ c ≤ 122
  · rw [if_pos h]; exact ⟨fun hc => by omega, fun hc => by omega⟩
  · rw [if_neg h]
    by_cases h2 : 48 ≤ c ∧ c ≤ 57
    · rw [if_pos h2]; exact ⟨fun _ => h2, fun _ => rfl⟩
    · rw [if_neg h2]; exact ⟨fun hc => by omega, fun hc => absurd hc h2⟩
theorem ty_in (c : Int) : ty c = 0 ∨ ty c = 1 ∨ ty c = 2 := by
  unfold ty
  split
  · omega
  · split <;> omega
theorem en_ge {tx : Int → Int} {L b : Int} (h : b < L) : b < en tx L b ∧ en tx L b ≤ L := by
  unfold en
  by_cases h0 : ty (tx b) = 0
  · rw [if_pos h0]
    have hc : 97 ≤ tx b ∧ tx b ≤ 122 := by
      unfold ty at h0
      apply Decidable.byContradiction
      intro hc
      rw [if_neg hc] at h0
      split at h0 <;> omega
    rw [le_step h hc]
    have := le'_ge tx L (b + 1)
    omega
  · rw [if_neg h0]
    by_cases h1 : ty (tx b) = 1
    · rw [if_pos h1]
      have hc : 48 ≤ tx b ∧ tx b ≤ 57 := by
        unfold ty at h1
        apply Decidable.byContradiction
        intro hc
        rw [if_neg hc] at h1
        split at h1 <;> omega
      rw [dg_step h hc]
      have := dg_ge tx L (b + 1)
      omega
    · rw [if_neg h1]; omega
section cuts
variable {N : Nat} {X : mSt} {tx : Int → Int} {L a b p : Int}
theorem s_type {Q : mSt → Int → Prop} {c : Int} (h : Q X (ty c)) : w_X10_typeOf N c X Q := by
  unfold ty at h
  unfold w_X10_typeOf w_X10_typeOf_14
  refine ⟨fun h1 => ⟨fun h2 => ?_, fun h2 => ⟨fun h3 => ?_, fun h3 => ?_⟩⟩, fun h1 => ⟨fun h2 => ⟨fun h3 => ?_, fun h3 => ⟨fun h4 => ?_, fun h4 => ?_⟩⟩, fun h2 => ?_⟩⟩
  · rw [if_neg (by omega), if_neg (by omega)] at h; exact h
  · rw [if_neg (by omega), if_neg (by omega)] at h; exact h
  · rw [if_neg (by omega), if_pos (by omega)] at h; exact h
  · omega
  · rw [if_neg (by omega), if_neg (by omega)] at h; exact h
  · omega
  · rw [if_pos (by omega)] at h; exact h
/-- the end of a token -/
theorem s_extend {Q : mSt → Prop} {Kk : Nat → Int → Int → Int → Int → Int → mSt → Prop} {c : Int} (hN : 5000 ≤ N) (p0 : 0 ≤ p) (p1 : p < L) (hL : L ≤ 400) (hX : ∀ k, 0 ≤ k → k < L → X 39 k = tx k) (h : Kk 38 L c (en tx L p) p (ty (tx p)) X) : w_X10_cut_64 N Q Kk N 38 L c (p + 1) p (ty (tx p)) X := by
  have hg := en_ge (tx := tx) p1
  have loop : ∀ (d fu : Nat) (e : Int), e + d = L → d < fu → p + 1 ≤ e → ((ty (tx p) = 0 → le' tx L e = le' tx L p) ∧ (ty (tx p) = 1 → dg tx L e = dg tx L p) ∧ (ty (tx p) = 2 → e = p + 1)) → w_X10_cut_64 N Q Kk fu 38 L c e p (ty (tx p)) X := by
    intro d
    induction d with
    | zero =>
      intro fu e he hf hp hh
      obtain ⟨fu, rfl⟩ : ∃ x, fu = x + 1 := ⟨fu - 1, by omega⟩
      have ee : en tx L p = e := by
        unfold en
        rcases ty_in (tx p) with h0 | h0 | h0 <;> rw [h0]
        · rw [if_pos rfl, ← hh.1 h0, le_stop (Or.inl (by omega))]
        · rw [if_neg (by decide), if_pos rfl, ← hh.2.1 h0, dg_stop (Or.inl (by omega))]
        · rw [if_neg (by decide), if_neg (by decide)]; exact (hh.2.2 h0).symm
      rw [ee] at h
      exact ⟨fun _ => h, fun hc => by omega⟩
    | succ d ih =>
      intro fu e he hf hp hh
      obtain ⟨fu, rfl⟩ : ∃ x, fu = x + 1 := ⟨fu - 1, by omega⟩
      refine ⟨fun hc => by omega, fun _ => ⟨fun h2 => ?_, fun h2 => ⟨by omega, by omega, ?_⟩⟩⟩
      · have ee : en tx L p = e := by
          unfold en
          rw [h2, if_neg (by decide), if_neg (by decide)]; exact (hh.2.2 h2).symm
        rw [ee] at h; exact h
      · show w_X10_typeOf N (X 39 e) X _
        rw [hX e (by omega) (by omega)]
        refine s_type ⟨fun hn => ?_, fun hn v3 e3 => ?_⟩
        · have ee : en tx L p = e := by
            unfold en
            rcases ty_in (tx p) with h0 | h0 | h0
            · rw [h0, if_pos rfl, ← hh.1 h0, le_stop (Or.inr (fun hc => hn (by rw [h0]; exact ty_0.mpr hc)))]
            · rw [h0, if_neg (by decide), if_pos rfl, ← hh.2.1 h0, dg_stop (Or.inr (fun hc => hn (by rw [h0]; exact ty_1.mpr hc)))]
            · exact absurd h0 h2
          rw [ee] at h; exact h
        · rw [nm_of (by omega) (by omega)] at e3
          rw [e3]
          refine ih fu (e + 1) (by omega) (by omega) (by omega) ⟨fun h0 => ?_, fun h0 => ?_, fun h0 => absurd h0 h2⟩
          · rw [← hh.1 h0, ← le_step (by omega) (ty_0.mp (hn.trans h0))]
          · rw [← hh.2.1 h0, ← dg_step (by omega) (ty_1.mp (hn.trans h0))]
  refine loop (L - (p + 1)).toNat N (p + 1) (by omega) (by omega) (by omega) ⟨fun h0 => (le_step p1 (ty_0.mp h0)).symm, fun h0 => (dg_step p1 (ty_1.mp h0)).symm, fun _ => rfl⟩
theorem s_number {Q : mSt → Int → Prop} {z : Int} (hN : 5000 ≤ N) (b0 : 0 ≤ b) (z0 : 0 ≤ z) (hz : b + z ≤ 400) (hX : ∀ k, b ≤ k → k < b + z → X 39 k = tx k) (hd : ∀ i : Nat, (i : Int) < z → 48 ≤ tx (b + i) ∧ tx (b + i) ≤ 57) (hQ : Q X (if z ≤ 3 then vlF tx b z.toNat else -1)) : w_X10_numberAt N 38 b z X Q := by
  refine ⟨fun h3 v1 e1 v2 e2 => ?_, fun h3 => by rw [if_neg (by omega)] at hQ; exact hQ⟩
  subst e1; subst e2
  rw [if_pos h3] at hQ
  refine lpUp (n := N) (T := X) (K := z.toNat) (W := fun n k T => w_X10_numberAt_12 N Q (fun (x3_3 : Int) (S_3 : mSt) => Q S_3 x3_3) n 38 b z (vlF tx b k) k T) (I := fun k T => T = X) (fun n T hI => ?_) (fun n k T hk hI ih => ?_) (by omega) rfl
  · rw [hI]; exact ⟨fun _ => hQ, fun hc => by omega⟩
  · rw [hI]
    have hv := vlF_4 (tx := tx) (b := b) (k := k) (by omega) (fun i hi => hd i (by omega))
    have hdk := hd k (by omega)
    refine ⟨fun hc => by omega, fun _ => ?_⟩
    rw [nm_of (x := b + (k : Int)) (by omega) (by omega)]
    refine ⟨by omega, by omega, fun v2 e2 v3 e3 => ?_⟩
    have e39 : X (38 + 1) (b + (k : Int)) = tx (b + k) := hX _ (by omega) (by omega)
    rw [nx8 (by omega)] at e3
    rw [e39, nm_of (x := vlF tx b k * 10) (by omega) (by omega), nm_of (x := vlF tx b k * 10 + tx (b + k)) (by omega) (by omega), nm_of (by omega) (by omega)] at e2
    have e4 : v2 = vlF tx b (k + 1) := by
      rw [e2]
      show _ = 10 * vlF tx b k + tx (b + k) - 48
      omega
    rw [e4, e3]
    exact ih X rfl
end cuts
