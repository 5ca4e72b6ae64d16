set_option maxHeartbeats 400000
set_option maxRecDepth 20000
/-! ===== the pure part: the class writes steps ===== -/
/-- the spare law holds the steps S so far -/
def LE (X : mSt) (lw : Nat) (S : List Int) : Prop := X lw 5 = S.length ∧ ∀ i : Nat, i < S.length → X (lw + 4) i = S.getD i 0
/-- what reading a law may change: the spare law, the cursor -/
def PF (X X' : mSt) (lw : Nat) : Prop := (∀ r, r ≠ 38 → (r < lw ∨ lw + 4 < r) → X' r = X r)
theorem PF.rf (X : mSt) (lw : Nat) : PF X X lw := fun _ _ _ => rfl
theorem PF.tr {X X1 X2 : mSt} {lw : Nat} (h : PF X X1 lw) (h' : PF X1 X2 lw) : PF X X2 lw := fun r a b => (h' r a b).trans (h r a b)
theorem PF.cur {X : mSt} {lw : Nat} {i v : Int} : PF X (mup X 38 i v) lw := fun r a _ => mup_ne _ _ _ a
section steps
variable {N : Nat} {X : mSt} {lw : Nat} {v : Int} {S : List Int}
theorem LE.of {X' : mSt} (h : LE X lw S) (e0 : X' lw = X lw) (e4 : X' (lw + 4) = X (lw + 4)) : LE X' lw S := by
  unfold LE; rw [e0, e4]; exact h
theorem s_addStep {Q : mSt → Prop} (ok : okS X) (h : LE X lw S) (hS : S.length < 400) (ov : okI v) (hQ : ∀ X', okS X' → PF X X' lw → X' 38 = X 38 → LE X' lw (S ++ [v]) → (∀ r, r ≠ lw → r ≠ lw + 4 → X' r = X r) → (∀ i, i ≠ 5 → X' lw i = X lw i) → Q X') (hl : lw = 24 ∨ lw = 31) : w_X3_addStep N lw v X Q := by
  obtain ⟨h1, h2⟩ := h
  unfold w_X3_addStep
  rw [h1]
  refine ⟨fun hc => by omega, fun _ => ⟨by omega, by omega, fun S2 e2 S3 e3 => ?_⟩⟩
  have e25 : S2 lw 5 = S.length := by rw [e2, mup_ne _ _ _ (by omega)]; exact h1
  rw [e25, nx8 (by omega)] at e3
  have oS : okI ((S.length + 1 : Nat) : Int) := by unfold okI; omega
  have fr : ∀ r, r ≠ lw → r ≠ lw + 4 → S3 r = X r := fun r a b => by rw [e3, mup_ne _ _ _ a, e2, mup_ne _ _ _ b]
  refine hQ S3 (by rw [e3, e2]; exact okS_up (okS_up ok ov) oS) (fun r a b => fr r (by omega) (by omega)) (fr 38 (by omega) (by omega)) ⟨?_, fun i hi => ?_⟩ fr (fun i hi => by rw [e3, mup_i _ _ _ hi, e2, mup_ne _ _ _ (by omega)])
  · rw [e3, mup_same, List.length_append]; rfl
  · rw [e3, mup_ne _ _ _ (by omega), e2]
    rw [List.length_append] at hi
    by_cases he : i = S.length
    · subst he
      rw [mup_same]
      simp [List.getD]
    · rw [mup_i _ _ _ (by omega), h2 i (by simp at hi; omega)]
      simp [List.getD, List.getElem?_append_left (show i < S.length by simp at hi; omega)]
/-- in a dead state: anything may stand in the spare law -/
theorem s_addStepD {Q : mSt → Prop} (ok : okS X) (h0 : 0 ≤ X lw 5) (ov : okI v) (hQ : ∀ X', okS X' → PF X X' lw → X' 38 = X 38 → 0 ≤ X' lw 5 → (∀ r, r ≠ lw → r ≠ lw + 4 → X' r = X r) → (∀ i, i ≠ 5 → X' lw i = X lw i) → Q X') (hl : lw = 24 ∨ lw = 31) : w_X3_addStep N lw v X Q := by
  refine ⟨fun hc => hQ X ok (PF.rf _ _) rfl h0 (fun _ _ _ => rfl) (fun _ _ => rfl), fun hc => ⟨h0, hc, fun S2 e2 S3 e3 => ?_⟩⟩
  have e25 : S2 lw 5 = X lw 5 := by rw [e2, mup_ne _ _ _ (by omega)]
  rw [e25, nm_of (by omega) (by omega)] at e3
  have oS : okI (X lw 5 + 1) := by unfold okI; omega
  have fr : ∀ r, r ≠ lw → r ≠ lw + 4 → S3 r = X r := fun r a b => by rw [e3, mup_ne _ _ _ a, e2, mup_ne _ _ _ b]
  exact hQ S3 (by rw [e3, e2]; exact okS_up (okS_up ok ov) oS) (fun r a b => fr r (by omega) (by omega)) (fr 38 (by omega) (by omega)) (by rw [e3, mup_same]; omega) fr (fun i hi => by rw [e3, mup_i _ _ _ hi, e2, mup_ne _ _ _ (by omega)])
end steps
