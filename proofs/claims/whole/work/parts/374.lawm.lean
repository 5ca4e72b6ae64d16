set_option maxHeartbeats 400000
set_option maxRecDepth 20000
/-! ===== the pure part: a law that was read, as a program ===== -/
theorem take_one : ∀ (a : List Lne) (k : Nat), k < a.length → a.take (k + 1) = a.take k ++ [a.getD k (0, 0, [])]
  | [], k, h => absurd h (Nat.not_lt_zero k)
  | x :: r, 0, _ => rfl
  | x :: r, k + 1, h => by
    show x :: r.take (k + 1) = x :: (r.take k ++ [r.getD k (0, 0, [])])
    rw [take_one r k (Nat.lt_of_succ_lt_succ h)]
theorem split_one : ∀ (a : List Lne) (k : Nat), k < a.length → a = a.take k ++ (a.getD k (0, 0, []) :: a.drop (k + 1))
  | [], k, h => absurd h (Nat.not_lt_zero k)
  | x :: r, 0, _ => rfl
  | x :: r, k + 1, h => by
    show x :: r = x :: (r.take k ++ (r.getD k (0, 0, []) :: r.drop (k + 1)))
    rw [← split_one r k (Nat.lt_of_succ_lt_succ h)]
theorem mrun_list (e sp : Int → Int) : ∀ (U : List Int) (i : Int) (s : List Int), (∀ j : Nat, j < U.length → sp (i + j) = U.getD j 0) → mrun e sp i U.length s = U.foldl (exec1 e) s
  | [], _, _, _ => rfl
  | u :: r, i, s, h => by
    have h0 := h 0 (Nat.succ_pos _)
    rw [show i + ((0 : Nat) : Int) = i by omega] at h0
    show mrun e sp (i + 1) r.length (exec1 e s (sp i)) = r.foldl (exec1 e) (exec1 e s u)
    rw [h0]
    refine mrun_list e sp r (i + 1) _ (fun j hj => ?_)
    have := h (j + 1) (Nat.succ_lt_succ hj)
    rw [show i + ((j + 1 : Nat) : Int) = i + 1 + j by omega] at this
    exact this
theorem lsum_app (k : Int) (e : Int → Int) : ∀ (a b : List Lne), lsum k e (a ++ b) = lsum k e a + lsum k e b
  | [], b => by show lsum k e b = 0 + _; rw [Int.zero_add]
  | x :: r, b => by
    show (if x.1 = k then lval e x else 0) + lsum k e (r ++ b) = ((if x.1 = k then lval e x else 0) + lsum k e r) + lsum k e b
    rw [lsum_app k e r b]; omega
/-- a program that holds the lines -/
def PH (P : mPrg) (lns : List Lne) : Prop := P.1 = lns.length ∧ (∀ i : Nat, i < lns.length → P.2.1 i = (lns.getD i (0, 0, [])).1 ∧ P.2.2.1 i = (lns.getD i (0, 0, [])).2.1 ∧ P.2.2.2.1 i = ((stp (lns.take (i + 1))).length : Nat)) ∧ ∀ j : Nat, j < (stp lns).length → P.2.2.2.2 j = (stp lns).getD j 0
section lawms
variable {P : mPrg} {lns : List Lne} {e : Int → Int} {kind : Int}
theorem PH.from (h : PH P lns) : ∀ k : Nat, k ≤ lns.length → pFrom P k = ((stp (lns.take k)).length : Nat)
  | 0, _ => rfl
  | k + 1, hk => by
    unfold pFrom
    rw [if_neg (Nat.succ_ne_zero k), show ((k + 1 : Nat) : Int) - 1 = k by omega]
    exact (h.2.1 k hk).2.2
theorem PH.hvk (h : PH P lns) (k : Nat) (hk : k < lns.length) : hv e P.2.2.2.2 (pFrom P k) (P.2.2.2.1 k) = hv0 ((lns.getD k (0, 0, [])).2.2.foldl (exec1 e) []) := by
  have hs := split_one lns k hk
  have e1 : stp lns = stp (lns.take k) ++ ((lns.getD k (0, 0, [])).2.2 ++ stp (lns.drop (k + 1))) := by
    conv => lhs; rw [hs]
    rw [stp_app]; rfl
  have e2 : (stp (lns.take (k + 1))).length = (stp (lns.take k)).length + (lns.getD k (0, 0, [])).2.2.length := by
    rw [take_one lns k hk, stp_one, List.length_append]
  have e3 : (((stp (lns.take (k + 1))).length : Nat) : Int) - ((stp (lns.take k)).length : Nat) = ((lns.getD k (0, 0, [])).2.2.length : Nat) := by omega
  unfold hv
  rw [h.from k (Nat.le_of_lt hk), (h.2.1 k hk).2.2, e3]
  show hv0 (mrun e P.2.2.2.2 _ ((lns.getD k (0, 0, [])).2.2.length) []) = _
  rw [mrun_list e P.2.2.2.2 _ _ [] (fun j hj => ?_)]
  have hlen : (stp lns).length = (stp (lns.take k)).length + ((lns.getD k (0, 0, [])).2.2.length + (stp (lns.drop (k + 1))).length) := by rw [e1, List.length_append, List.length_append]
  have := h.2.2 ((stp (lns.take k)).length + j) (by omega)
  rw [show (((stp (lns.take k)).length + j : Nat) : Int) = ((stp (lns.take k)).length : Nat) + (j : Int) by omega] at this
  rw [this, e1]
  generalize (lns.getD k (0, 0, [])).2.2 = U at hj hlen
  simp only [List.getD]
  rw [List.getElem?_append_right (by omega), Nat.add_sub_cancel_left, List.getElem?_append_left hj]
theorem PH.sum (h : PH P lns) : ∀ k : Nat, k ≤ lns.length → pSum P kind e k = lsum kind e (lns.take k)
  | 0, _ => rfl
  | k + 1, hk => by
    rw [pSum_succ, PH.sum h k (Nat.le_of_lt hk), take_one lns k hk, lsum_app, PH.hvk h k hk, (h.2.1 k hk).1, (h.2.1 k hk).2.1]
    show _ = lsum kind e (lns.take k) + ((if (lns.getD k (0, 0, [])).1 = kind then lval e (lns.getD k (0, 0, [])) else 0) + 0)
    rw [Int.add_zero]
    rfl
theorem PH.apk (h : PH P lns) : AP P kind e = lsum kind e lns := by
  unfold AP
  have := PH.sum (kind := kind) (e := e) h lns.length (Nat.le_refl _)
  rw [List.take_length] at this
  rw [h.1, ← this]
  rfl
end lawms
theorem qLaw_ok {tx : Int → Int} {L : Int} : ∀ (k : Nat) (b : Int), 0 ≤ b → b ≤ L → (qLaw tx L k b).1 = -1 → (qLaw tx L k b).2.length ≤ k ∧ ((stp (qLaw tx L k b).2).length : Int) ≤ L - b ∧ ∀ l, l ∈ (qLaw tx L k b).2 → 0 ≤ l.2.1 ∧ l.2.1 ≤ 20
  | 0, b, b0, b1, he => by
    have : b = -1 := he
    omega
  | k + 1, b, b0, b1, he => by
    unfold qLaw at he ⊢
    have hg := qLine_GL (tx := tx) b0 b1
    by_cases h1 : (qLine tx L b).1 = -1
    · rw [if_pos h1] at he ⊢
      obtain ⟨g1, g2, g3, g4, g5, -⟩ := hg h1
      by_cases h2 : (qLine tx L b).2.1 = L
      · rw [if_pos h2]
        refine ⟨by show 1 ≤ k + 1; omega, ?_, fun l hl => ?_⟩
        · show (((qLine tx L b).2.2.2.2 ++ []).length : Int) ≤ L - b
          rw [List.append_nil]; omega
        · rw [List.mem_singleton] at hl
          rw [hl]; exact ⟨g4, g5⟩
      · rw [if_neg h2] at he ⊢
        by_cases h3 : tok tx L 3 (qLine tx L b).2.1 = true
        · rw [if_pos h3] at he ⊢
          have hn := nx_ge (tx := tx) (tok_lt h3)
          obtain ⟨i1, i2, i3⟩ := qLaw_ok k (nx tx L (qLine tx L b).2.1) (by omega) hn.2 he
          refine ⟨by show (qLaw tx L k (nx tx L (qLine tx L b).2.1)).2.length + 1 ≤ k + 1; omega, ?_, fun l hl => ?_⟩
          · show (((qLine tx L b).2.2.2.2 ++ stp (qLaw tx L k (nx tx L (qLine tx L b).2.1)).2).length : Int) ≤ L - b
            rw [List.length_append, Int.natCast_add]; omega
          · rcases List.mem_cons.mp hl with rfl | hl
            · exact ⟨g4, g5⟩
            · exact i3 l hl
        · rw [if_neg h3] at he
          have : (qLine tx L b).2.1 = -1 := he
          omega
    · rw [if_neg h1] at he
      exact absurd he h1
theorem qTxt_ok {tx : Int → Int} {L : Int} (L0 : 0 ≤ L) (he : (qTxt tx L).1 = -1) : (qTxt tx L).2.length ≤ 12 ∧ ((stp (qTxt tx L).2).length : Int) ≤ L ∧ ∀ l, l ∈ (qTxt tx L).2 → 0 ≤ l.2.1 ∧ l.2.1 ≤ 20 := by
  unfold qTxt at he ⊢
  have hb := ns_ge tx L 0
  by_cases h : ns tx L 0 = L
  · rw [if_pos h]
    exact ⟨by decide, L0, fun l hl => absurd hl (List.not_mem_nil)⟩
  · rw [if_neg h] at he ⊢
    obtain ⟨i1, i2, i3⟩ := qLaw_ok 12 (ns tx L 0) hb.1 (hb.2 L0) he
    exact ⟨i1, by omega, i3⟩
theorem stp_take_le (a : List Lne) (k : Nat) : (stp (a.take k)).length ≤ (stp a).length := by
  have : a = a.take k ++ a.drop k := (List.take_append_drop k a).symm
  conv => rhs; rw [this, stp_app, List.length_append]
  omega
theorem PH.pgk {P : mPrg} {lns : List Lne} (h : PH P lns) (h12 : lns.length ≤ 12) (hs : (stp lns).length ≤ 400) (ha : ∀ l, l ∈ lns → 0 ≤ l.2.1 ∧ l.2.1 ≤ 20) : PG P := by
  refine ⟨by rw [h.1]; omega, fun i i0 i1 => ?_⟩
  rw [h.1] at i1
  obtain ⟨k, rfl⟩ : ∃ k : Nat, i = k := ⟨i.toNat, by omega⟩
  have hk : k < lns.length := by omega
  obtain ⟨a1, a2, a3⟩ := h.2.1 k hk
  have hm : lns.getD k (0, 0, []) ∈ lns := by
    have e : lns.getD k (0, 0, []) = lns[k] := by simp [List.getD, List.getElem?_eq_getElem hk]
    rw [e]; exact List.getElem_mem hk
  have := stp_take_le lns (k + 1)
  rw [a2, a3]
  exact ⟨ha _ hm, by omega, by omega⟩
theorem PH.lmk {N : Nat} {P : mPrg} {f : mRow} {tx : Int → Int} {L : Int} (hN : 5000 ≤ N) (h : PH P (qTxt tx L).2) (he : (qTxt tx L).1 = -1) (L0 : 0 ≤ L) (hL : L ≤ 400) (h1 : f 1 = (qTxt tx L).2.length) (h2 : f 2 = L) (ht : ∀ k, 0 ≤ k → k < L → f (350 + k) = tx k) : LM N f (AP P) := by
  obtain ⟨q12, qs, qa⟩ := qTxt_ok L0 he
  have hP := h.pgk q12 (by omega) qa
  have hB := AP_LB hP
  refine ⟨fun hc k e => ?_, fun hc M e Q ok hm m10 m11 m12 m13 m14 m18 m19 m20 m7 m16 m17 b8 b9 hQ => ?_⟩
  · rw [h1] at hc
    have : (qTxt tx L).2.length = 0 := by omega
    rw [PH.apk h, List.eq_nil_of_length_eq_zero this]
    rfl
  · have R : RD M tx L 0 := ⟨m11.trans h2, m12, Int.le_refl _, L0, hL, Or.inr ⟨m10, fun k k0 k1 => by rw [hm _ (by omega) (by omega)]; exact ht k k0 k1⟩⟩
    refine y_readLaw hN ok ⟨m7, m16, m17, b8, b9⟩ m14 R m13 (fun M' v hr => ?_)
    rcases hr with ⟨-, ml, -, ac, -⟩ | ⟨q1, -⟩
    · obtain ⟨o1, o2, o3⟩ := ml
      have g : ∀ i, i ≠ 12 → i ≠ 13 → i ≠ 18 → i ≠ 19 → i ≠ 20 → M' 0 i = M 0 i := o3
      obtain ⟨c1, c2, c3⟩ := ac
      have z : ∀ k, AP P k e = lsum k e (qTxt tx L).2 := fun k => PH.apk h
      have r0 := hB 0 e
      have r1 := hB 1 e
      have r2 := hB 2 e
      have r3 := hB 3 e
      rw [m18, ← z 0, ← z 1, nm_of (by omega) (by omega)] at c1
      rw [m19, ← z 2, nm_of (by omega) (by omega)] at c2
      rw [m20, ← z 3, nm_of (by omega) (by omega)] at c3
      refine hQ M' v o1 o2 (g 0 (by decide) (by decide) (by decide) (by decide) (by decide)) (g 4 (by decide) (by decide) (by decide) (by decide) (by decide)) (g 7 (by decide) (by decide) (by decide) (by decide) (by decide)) (g 9 (by decide) (by decide) (by decide) (by decide) (by decide)) (g 16 (by decide) (by decide) (by decide) (by decide) (by decide)) (g 17 (by decide) (by decide) (by decide) (by decide) (by decide)) (by rw [c1]; omega) (by rw [c2]; omega) (by rw [c3]; omega)
    · exact absurd he q1
