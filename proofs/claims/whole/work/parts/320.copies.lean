set_option maxHeartbeats 400000
set_option maxRecDepth 20000
/-! ===== the pure part: copies by loops ===== -/
/-- n cells of r1 from o1 on, put into r2 from o2 on -/
def mck (S : mSt) (r1 : Nat) (o1 : Int) (r2 : Nat) (o2 n : Int) : mSt := fun r i => if r = r2 ∧ o2 ≤ i ∧ i < o2 + n then S r1 (i - o2 + o1) else S r i
theorem mck_0 (S : mSt) (r1 : Nat) (o1 : Int) (r2 : Nat) (o2 : Int) : mck S r1 o1 r2 o2 0 = S := by
  funext r i; unfold mck; rw [if_neg (by omega)]
theorem mck_ne (S : mSt) {r1 r2 r : Nat} {o1 o2 n : Int} (h : r ≠ r2) : mck S r1 o1 r2 o2 n r = S r := by
  funext i; unfold mck; rw [if_neg (fun q => h q.1)]
theorem mck_in (S : mSt) {r1 r2 : Nat} {o1 o2 n i : Int} (h : o2 ≤ i) (h' : i < o2 + n) : mck S r1 o1 r2 o2 n r2 i = S r1 (i - o2 + o1) := if_pos ⟨rfl, h, h'⟩
theorem mck_out (S : mSt) {r1 r2 : Nat} {o1 o2 n i : Int} (h : i < o2 ∨ o2 + n ≤ i) : mck S r1 o1 r2 o2 n r2 i = S r2 i := if_neg (by omega)
theorem okS_ck {S : mSt} {r1 r2 : Nat} {o1 o2 n : Int} (h : okS S) : okS (mck S r1 o1 r2 o2 n) := fun r i => by
  unfold mck; split
  · exact h _ _
  · exact h _ _
theorem mck_step (S : mSt) {r1 r2 : Nat} {o1 o2 n : Int} (hn : 0 ≤ n) (h : r1 ≠ r2 ∨ o2 ≤ o1) : mup (mck S r1 o1 r2 o2 n) r2 (o2 + n) (mck S r1 o1 r2 o2 n r1 (o1 + n)) = mck S r1 o1 r2 o2 (n + 1) := by
  have e : mck S r1 o1 r2 o2 n r1 (o1 + n) = S r1 (o1 + n) := if_neg (by omega)
  rw [e]
  funext r i
  unfold mup mck
  by_cases hr : r = r2 ∧ i = o2 + n
  · rw [if_pos hr, if_pos (by omega)]; congr 1; omega
  · rw [if_neg hr]
    by_cases h2 : r = r2 ∧ o2 ≤ i ∧ i < o2 + n
    · rw [if_pos h2, if_pos (by omega)]
    · rw [if_neg h2, if_neg (by omega)]
section copies
variable {N : Nat} {S : mSt}
theorem a_aside {Q : mSt → Prop} (hN : 5000 ≤ N) (h : Q (mck S 1 0 4 0 350)) : w_X12_putsAside N 0 S Q := by
  unfold w_X12_putsAside
  intro v1 e1
  subst e1
  refine lpUp (K := 350) (W := fun n k T => w_X12_putsAside_2 N Q (fun (S_2 : mSt) => Q S_2) n 0 k T) (I := fun k T => T = mck S 1 0 4 0 k) (fun n T hI => ?_) (fun n k T hk hI ih => ?_) (by omega) (mck_0 _ _ _ _ _).symm
  · refine ⟨fun _ => ?_, fun hc => by omega⟩
    rw [hI]; exact h
  · refine ⟨fun hc => by omega, fun _ => ⟨by omega, by omega, by omega, by omega, fun S3 e3 v4 e4 => ?_⟩⟩
    rw [nm_of (by omega) (by omega)] at e4
    subst e4
    refine ih S3 ?_
    have := mck_step S (r1 := 1) (r2 := 4) (o1 := 0) (o2 := 0) (n := k) (by omega) (by omega)
    rw [Int.zero_add, ← hI] at this
    rw [e3]; exact this
theorem a_back {Q : mSt → Prop} (hN : 5000 ≤ N) (h : Q (mck S 4 0 1 0 350)) : w_X12_comesBack N 0 S Q := by
  unfold w_X12_comesBack
  intro v1 e1
  subst e1
  refine lpUp (K := 350) (W := fun n k T => w_X12_comesBack_2 N Q (fun (S_2 : mSt) => Q S_2) n 0 k T) (I := fun k T => T = mck S 4 0 1 0 k) (fun n T hI => ?_) (fun n k T hk hI ih => ?_) (by omega) (mck_0 _ _ _ _ _).symm
  · refine ⟨fun _ => ?_, fun hc => by omega⟩
    rw [hI]; exact h
  · refine ⟨fun hc => by omega, fun _ => ⟨by omega, by omega, by omega, by omega, fun S3 e3 v4 e4 => ?_⟩⟩
    rw [nm_of (by omega) (by omega)] at e4
    subst e4
    refine ih S3 ?_
    have := mck_step S (r1 := 4) (r2 := 1) (o1 := 0) (o2 := 0) (n := k) (by omega) (by omega)
    rw [Int.zero_add, ← hI] at this
    rw [e3]; exact this
/-- the reference's row, brought back -/
theorem back_row {f : mRow} {S0 S1 : mSt} (h0 : S0 1 = f) (h4 : S1 4 = mck S0 1 0 4 0 350 4) (h1 : ∀ k, k < 0 ∨ 350 ≤ k → S1 1 k = f k) : (mck S1 4 0 1 0 350) 1 = f := by
  funext i
  by_cases hi : 0 ≤ i ∧ i < 350
  · rw [mck_in _ (by omega) (by omega), h4, mck_in _ (by omega) (by omega), h0]; congr 1; omega
  · rw [mck_out _ (by omega)]; exact h1 i (by omega)
theorem a_image {Q : mSt → Prop} {Q' : Nat → mSt → Prop} (hN : 5000 ≤ N) (h : Q' 0 (mck S 1 0 2 0 750)) : w_X12_image_7 N Q Q' N 0 0 S := by
  refine lpUp (K := 750) (W := fun n k T => w_X12_image_7 N Q Q' n 0 k T) (I := fun k T => T = mck S 1 0 2 0 k) (fun n T hI => ?_) (fun n k T hk hI ih => ?_) (by omega) (mck_0 _ _ _ _ _).symm
  · refine ⟨fun _ => ?_, fun hc => by omega⟩
    rw [hI]; exact h
  · refine ⟨fun hc => by omega, fun _ => ⟨by omega, by omega, by omega, by omega, fun S3 e3 v4 e4 => ?_⟩⟩
    rw [nm_of (by omega) (by omega)] at e4
    subst e4
    refine ih S3 ?_
    have := mck_step S (r1 := 1) (r2 := 2) (o1 := 0) (o2 := 0) (n := k) (by omega) (by omega)
    rw [Int.zero_add, ← hI] at this
    rw [e3]; exact this
theorem a_goback {Q : mSt → Int → Prop} {Q' : Nat → mSt → Prop} (hN : 5000 ≤ N) (h : Q' 0 (mck S 2 0 1 0 750)) : w_X12_back_16 N Q Q' N 0 0 S := by
  refine lpUp (K := 750) (W := fun n k T => w_X12_back_16 N Q Q' n 0 k T) (I := fun k T => T = mck S 2 0 1 0 k) (fun n T hI => ?_) (fun n k T hk hI ih => ?_) (by omega) (mck_0 _ _ _ _ _).symm
  · refine ⟨fun _ => ?_, fun hc => by omega⟩
    rw [hI]; exact h
  · refine ⟨fun hc => by omega, fun _ => ⟨by omega, by omega, by omega, by omega, fun S3 e3 v4 e4 => ?_⟩⟩
    rw [nm_of (by omega) (by omega)] at e4
    subst e4
    refine ih S3 ?_
    have := mck_step S (r1 := 2) (r2 := 1) (o1 := 0) (o2 := 0) (n := k) (by omega) (by omega)
    rw [Int.zero_add, ← hI] at this
    rw [e3]; exact this
theorem a_undo1 {Q : mSt → Int → Prop} {Q' : mSt → Prop} (hN : 5000 ≤ N) {a : Int} (ha : S 0 7 = a) (a0 : 0 ≤ a) (a1 : a < 12) (h : Q' (mck S 5 (350 * a) 1 0 350)) : w_X12_undo_26 N Q Q' N 0 0 S := by
  refine lpUp (K := 350) (W := fun n k T => w_X12_undo_26 N Q Q' n 0 k T) (I := fun k T => T = mck S 5 (350 * a) 1 0 k) (fun n T hI => ?_) (fun n k T hk hI ih => ?_) (by omega) (mck_0 _ _ _ _ _).symm
  · refine ⟨fun _ => ?_, fun hc => by omega⟩
    rw [hI]; exact h
  · have ea : T 0 7 = a := by rw [hI, mck_ne _ (by omega)]; exact ha
    refine ⟨fun hc => by omega, fun _ => ?_⟩
    rw [ea, nm_of (x := 350 * a) (by omega) (by omega), nm_of (x := 350 * a + k) (by omega) (by omega)]
    refine ⟨by omega, by omega, by omega, by omega, fun S3 e3 v4 e4 => ?_⟩
    rw [nm_of (by omega) (by omega)] at e4
    subst e4
    refine ih S3 ?_
    have := mck_step S (r1 := 5) (r2 := 1) (o1 := 350 * a) (o2 := 0) (n := k) (by omega) (by omega)
    rw [Int.zero_add, ← hI] at this
    rw [e3]; exact this
theorem a_rem50 {Q : mSt → Prop} (hN : 5000 ≤ N) {a : Int} (ha : S 0 7 = a) (a0 : 0 ≤ a) (a1 : a < 12) (h : Q (mup (mck S 1 0 5 (350 * a) 350) 0 7 (a + 1))) : w_X12_remembers_50 N Q 0 S := by
  unfold w_X12_remembers_50
  intro v1 e1
  subst e1
  refine lpUp (K := 350) (W := fun n k T => w_X12_remembers_52 N Q (fun (r0_2 : Nat) (S_2 : mSt) => ∀ S3 : mSt, S3 = mup S_2 r0_2 7 (nm ((S_2 r0_2 7) + 1)) → Q S3) n 0 k T) (I := fun k T => T = mck S 1 0 5 (350 * a) k) (fun n T hI => ?_) (fun n k T hk hI ih => ?_) (by omega) (mck_0 _ _ _ _ _).symm
  · have ea : T 0 7 = a := by rw [hI, mck_ne _ (by omega)]; exact ha
    refine ⟨fun _ S3 e3 => ?_, fun hc => by omega⟩
    rw [ea, nm_of (by omega) (by omega)] at e3
    rw [e3, hI]; exact h
  · have ea : T 0 7 = a := by rw [hI, mck_ne _ (by omega)]; exact ha
    refine ⟨fun hc => by omega, fun _ => ?_⟩
    rw [ea, nm_of (x := 350 * a) (by omega) (by omega), nm_of (x := 350 * a + k) (by omega) (by omega)]
    refine ⟨by omega, by omega, by omega, by omega, fun S3 e3 v4 e4 => ?_⟩
    rw [nm_of (by omega) (by omega)] at e4
    subst e4
    refine ih S3 ?_
    have := mck_step S (r1 := 1) (r2 := 5) (o1 := 0) (o2 := 350 * a) (n := k) (by omega) (by omega)
    rw [Int.zero_add, ← hI] at this
    rw [e3]; exact this
/-- what the reference's acts hold behind a remembering -/
theorem a_remembers {Q : mSt → Prop} (hN : 5000 ≤ N) (hok : okS S) {a : Int} (ha : S 0 7 = a) (a0 : 0 ≤ a) (a1 : a ≤ 12) (h : ∀ S', okS S' → (∀ r, r ≠ 0 → r ≠ 5 → S' r = S r) → (∀ i, i ≠ 7 → S' 0 i = S 0 i) → S' 0 7 = min 12 (a + 1) → (∀ i k, 0 ≤ i → i < min 12 (a + 1) - 1 → 0 ≤ k → k < 350 → S' 5 (350 * i + k) = S 5 (350 * (if a = 12 then i + 1 else i) + k)) → (∀ k, 0 ≤ k → k < 350 → S' 5 (350 * (min 12 (a + 1) - 1) + k) = S 1 k) → Q S') : w_X12_remembers N 0 S Q := by
  unfold w_X12_remembers
  rw [ha]
  refine ⟨fun q => ?_, fun q v1 e1 => ?_⟩
  · refine a_rem50 hN ha a0 (by omega) (h _ (okS_up (okS_ck hok) (by unfold okI; omega)) (fun r h0 h5 => by rw [mup_ne _ _ _ h0, mck_ne _ h5]) (fun i hi => by rw [mup_i _ _ _ hi, mck_ne _ (by decide)]) (by rw [mup_same]; omega) (fun i k i0 i1 k0 k1 => ?_) (fun k k0 k1 => ?_))
    · rw [mup_ne _ _ _ (by decide), mck_out _ (by omega), if_neg q]
    · rw [mup_ne _ _ _ (by decide), mck_in _ (by omega) (by omega)]; congr 1; omega
  · subst e1
    refine lpUp (K := 3850) (W := fun n k T => w_X12_remembers_11 N Q (fun (r0_2 : Nat) (S_2 : mSt) => ∀ S3 : mSt, S3 = mup S_2 r0_2 7 (nm ((S_2 r0_2 7) - 1)) → w_X12_remembers_50 N Q r0_2 S3) n 0 k T) (I := fun k T => T = mck S 5 350 5 0 k) (fun n T hI => ?_) (fun n k T hk hI ih => ?_) (by omega) (mck_0 _ _ _ _ _).symm
    · refine ⟨fun _ S3 e3 => ?_, fun hc => by omega⟩
      have ea : T 0 7 = 12 := by rw [hI, mck_ne _ (by omega)]; omega
      rw [ea, show nm (12 - 1) = 11 by decide] at e3
      have k3 : ∀ r, r ≠ 0 → r ≠ 5 → S3 r = S r := fun r h0 h5 => by rw [e3, mup_ne _ _ _ h0, hI, mck_ne _ h5]
      have ok3 : okS S3 := by rw [e3, hI]; exact okS_up (okS_ck hok) (by decide)
      refine a_rem50 (a := 11) hN (by rw [e3]; exact mup_same _ _ _ _) (by decide) (by decide) (h _ (okS_up (okS_ck ok3) (by decide)) (fun r h0 h5 => by rw [mup_ne _ _ _ h0, mck_ne _ h5]; exact k3 r h0 h5) (fun i hi => by rw [mup_i _ _ _ hi, mck_ne _ (by decide), e3, mup_i _ _ _ hi, hI, mck_ne _ (by decide)]) (by rw [mup_same]; omega) (fun i k i0 i1 k0 k1 => ?_) (fun k k0 k1 => ?_))
      · rw [mup_ne _ _ _ (by decide), mck_out _ (by omega), e3, mup_ne _ _ _ (by decide), hI, mck_in _ (by omega) (by omega), if_pos q]; congr 1; omega
      · rw [mup_ne _ _ _ (by decide), mck_in _ (by omega) (by omega), k3 1 (by decide) (by decide)]; congr 1; omega
    · refine ⟨fun hc => by omega, fun _ => ?_⟩
      rw [nm_of (x := (k : Int) + 350) (by omega) (by omega)]
      refine ⟨by omega, by omega, by omega, by omega, fun S3 e3 v4 e4 => ?_⟩
      rw [nm_of (by omega) (by omega)] at e4
      subst e4
      refine ih S3 ?_
      have := mck_step S (r1 := 5) (r2 := 5) (o1 := 350) (o2 := 0) (n := k) (by omega) (by omega)
      rw [Int.zero_add, ← hI] at this
      rw [Int.add_comm 350] at this
      rw [e3]; exact this
end copies
