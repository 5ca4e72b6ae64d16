set_option maxHeartbeats 400000
set_option maxRecDepth 20000
/-! ===== the pure part: atoms, the class ===== -/
section atomc
variable {N : Nat} {X0 : mSt} {tx : Int → Int} {L : Int} {n lw : Nat} {F : Nat → Nat → Int → mSt → (mSt → Prop) → Prop} {x2 : Int}
theorem qPl_cmp {b : Int} (h1 : tok tx L 34 b = false) (h2 : tok tx L 35 b = false) : qPl tx L b = qCmp tx L b := by
  unfold qPl
  rw [if_neg (by rw [h1]; decide), if_neg (by rw [h2]; decide)]
/-- the second sum of a comparison, dead -/
theorem DV.sum165 {Q : mSt → Prop} {X : mSt} {w x4 : Int} (hN : 5000 ≤ N) (hl : lw = 24 ∨ lw = 31) (h : DV X0 X tx L n lw w) (hQ : ∀ X', DV X0 X' tx L n lw w → Q X') : w_X4_readAtom_165 N F Q 38 lw x4 X :=
  h.readSum hN hl (fun X1 h1 => ⟨fun _ => h1.step hl (by decide) hQ, fun _ => h1.step hl (by decide) hQ⟩)
/-- a comparison -/
theorem LV.cmp {Q : mSt → Prop} {X : mSt} {c : Nat} {S : List Int} (hN : 5000 ≤ N) (hl : lw = 24 ∨ lw = 31) (L0 : 0 ≤ L) (hL : L ≤ 400) (h : LV X0 X tx L n c lw S) (hS : (S.length : Int) ≤ tkp tx L c) (hQ : ∀ X', PO X0 X' tx L n lw S (qCmp tx L (tkp tx L c)) → Q X') : w_X4_readSum N 38 lw X (fun (S5 : mSt) => w_X10_takes N 38 7 S5 (fun (S6 : mSt) (v6 : Int) => ∀ v7 : Int, v7 = v6 → ((v7 ≠ 0 → w_X4_readAtom_165 N F Q 38 lw v7 S6) ∧ (v7 = 0 → w_X10_need N 38 8 S6 (fun (S8 : mSt) => w_X4_readAtom_165 N F Q 38 lw v7 S8))))) := by
  have hb := tkp_in tx L0 c
  have hg := qSum_GR tx _ hb.1 hb.2
  refine h.readSum hN hl L0 hL hS (fun X1 hp => ?_)
  unfold qCmp at hQ
  rcases hp with ⟨q1, c1, h1, e1⟩ | ⟨q1, h1⟩
  · rw [if_pos q1] at hQ
    obtain ⟨g1, g2, g3⟩ := hg q1
    -- behind the sign
    have fin : ∀ (X3 : mSt) (x4 v : Int), (if tok tx L 7 (qSum tx L (tkp tx L c)).2.1 = true then (1012 : Int) else 1013) = v → (tok tx L 7 (qSum tx L (tkp tx L c)).2.1 = true ∨ tok tx L 8 (qSum tx L (tkp tx L c)).2.1 = true) → ((x4 = 0 ∧ v = 1013) ∨ (x4 ≠ 0 ∧ v = 1012)) → LV X0 X3 tx L n (c1 + 1) lw (S ++ (qSum tx L (tkp tx L c)).2.2) → tkp tx L (c1 + 1) = nx tx L (tkp tx L c1) → w_X4_readAtom_165 N F Q 38 lw x4 X3 := by
      intro X3 x4 v ev ht hx h3 e3
      rw [if_pos ht, ev] at hQ
      have hlt : tkp tx L c1 < L := by rw [e1]; rcases ht with h | h <;> exact tok_lt h
      have hn := nx_ge (tx := tx) hlt
      have hlen : (((S ++ (qSum tx L (tkp tx L c)).2.2).length : Nat) : Int) = S.length + (qSum tx L (tkp tx L c)).2.2.length := by rw [List.length_append, Int.natCast_add]
      have hb3 := tkp_in tx L0 (c1 + 1)
      have hg3 := qSum_GR tx _ hb3.1 hb3.2
      refine h3.readSum hN hl L0 hL (by rw [hlen]; omega) (fun X4 hp => ?_)
      have ov : okI v := by rcases hx with ⟨-, h⟩ | ⟨-, h⟩ <;> rw [h] <;> decide
      have last : w_X4_readAtom_185 N F Q v lw X4 := by
        rcases hp with ⟨k1, c2, h4, e4⟩ | ⟨k1, h4⟩
        · obtain ⟨m1, m2, m3⟩ := hg3 k1
          refine h4.step hl ?_ ov (fun X5 h5 => hQ X5 (Or.inl ⟨?_, c2, ?_, ?_⟩))
          · have : (((S ++ (qSum tx L (tkp tx L c)).2.2 ++ (qSum tx L (tkp tx L (c1 + 1))).2.2).length : Nat) : Int) = S.length + (qSum tx L (tkp tx L c)).2.2.length + (qSum tx L (tkp tx L (c1 + 1))).2.2.length := by rw [List.length_append, Int.natCast_add, hlen]
            omega
          · rw [e3, e1] at k1; exact k1
          · rw [e3, e1] at h5
            show LV X0 X5 tx L n c2 lw (S ++ (((qSum tx L (tkp tx L c)).2.2 ++ (qSum tx L (nx tx L (qSum tx L (tkp tx L c)).2.1)).2.2) ++ [v]))
            rw [← List.append_assoc, ← List.append_assoc]; exact h5
          · rw [e3, e1] at e4; exact e4
        · refine h4.step hl ov (fun X5 h5 => hQ X5 (Or.inr ⟨?_, ?_⟩))
          · rw [e3, e1] at k1; exact k1
          · rw [e3, e1] at h5; exact h5
      rcases hx with ⟨hx, hv⟩ | ⟨hx, hv⟩
      · exact ⟨fun _ => by rw [hv] at last; exact last, fun hc => absurd hx hc⟩
      · exact ⟨fun hc => absurd hc hx, fun _ => by rw [hv] at last; exact last⟩
    refine h1.takes hl (by decide) (fun ht h3 e3 v7 e7 => ?_) (fun ht v7 e7 => ?_)
    · subst e7
      rw [e1] at ht
      exact ⟨fun _ => fin _ 1 1012 (if_pos ht) (Or.inl ht) (Or.inr ⟨by decide, rfl⟩) h3 e3, fun hc => absurd hc (by decide)⟩
    · subst e7
      refine ⟨fun hc => absurd rfl hc, fun _ => h1.need hl L0 (by decide) (fun ht2 h3 e3 => ?_) (fun ht2 hd => ?_)⟩
      · rw [e1] at ht ht2
        exact fin _ 0 1013 (if_neg (by rw [ht]; decide)) (Or.inr ht2) (Or.inl ⟨rfl, rfl⟩) h3 e3
      · rw [e1] at ht ht2
        rw [if_neg (by rw [ht, ht2]; decide)] at hQ
        have hc1 := tkp_in tx L0 c1
        exact hd.sum165 hN hl (fun X' hd' => hQ X' (Or.inr ⟨by show (qSum tx L (tkp tx L c)).2.1 ≠ -1; omega, by rw [e1] at hd'; exact hd'⟩))
  · rw [if_neg q1] at hQ
    have hQ' : ∀ X', DV X0 X' tx L n lw (qSum tx L (tkp tx L c)).1 → Q X' := fun X' hd => hQ X' (Or.inr ⟨q1, hd⟩)
    refine h1.takes (by decide) (fun v7 e7 => ?_)
    subst e7
    exact ⟨fun hc => absurd rfl hc, fun _ => h1.need (by decide) (h1.sum165 hN hl hQ')⟩
/-- what stands in an atom that is neither not nor ( -/
theorem LV.plain {Q : mSt → Prop} {X : mSt} {c : Nat} {S : List Int} (hN : 5000 ≤ N) (hl : lw = 24 ∨ lw = 31) (L0 : 0 ≤ L) (hL : L ≤ 400) (h : LV X0 X tx L n c lw S) (hS : (S.length : Int) ≤ tkp tx L c) (hQ : ∀ X', PO X0 X' tx L n lw S (qPl tx L (tkp tx L c)) → Q X') : w_X10_takes N 38 34 X (fun (S3 : mSt) (v3 : Int) => ((v3 = 0 → w_X10_takes N 38 35 S3 (fun (S4 : mSt) (v4 : Int) => ((v4 = 0 → w_X4_readSum N 38 lw S4 (fun (S5 : mSt) => w_X10_takes N 38 7 S5 (fun (S6 : mSt) (v6 : Int) => ∀ v7 : Int, v7 = v6 → ((v7 ≠ 0 → w_X4_readAtom_165 N F Q 38 lw v7 S6) ∧ (v7 = 0 → w_X10_need N 38 8 S6 (fun (S8 : mSt) => w_X4_readAtom_165 N F Q 38 lw v7 S8)))))) ∧ (v4 ≠ 0 → w_X3_addStep N lw 1009 S4 (fun (S9 : mSt) => Q S9))))) ∧ (v3 ≠ 0 → w_X3_addStep N lw 1008 S3 (fun (S10 : mSt) => Q S10)))) := by
  refine h.takes hl (by decide) (fun ht h1 e1 => ⟨fun hc => absurd hc (by decide), fun _ => h1.step hl ?_ (by decide) (fun X2 h2 => hQ X2 ?_)⟩) (fun ht => ⟨fun _ => h.takes hl (by decide) (fun ht2 h1 e1 => ⟨fun hc => absurd hc (by decide), fun _ => h1.step hl ?_ (by decide) (fun X2 h2 => hQ X2 ?_)⟩) (fun ht2 => ⟨fun _ => h.cmp hN hl L0 hL hS (fun X' hp => hQ X' (by rw [qPl_cmp ht ht2]; exact hp)), fun hc => absurd rfl hc⟩), fun hc => absurd rfl hc⟩)
  · have := tok_lt ht; omega
  · unfold qPl
    rw [if_pos ht]
    exact Or.inl ⟨rfl, c + 1, h2, e1⟩
  · have := tok_lt ht2; omega
  · unfold qPl
    rw [if_neg (by rw [ht]; decide), if_pos ht2]
    exact Or.inl ⟨rfl, c + 1, h2, e1⟩
theorem LV.atom (hN : 5000 ≤ N) (hl : lw = 24 ∨ lw = 31) (L0 : 0 ≤ L) (hL : L ≤ 400) : ∀ (d m : Nat) (x2 : Int), x2 + d = 6 → 0 ≤ x2 → d < m → CA (w_X4_readAtom N m) (qAt tx L d) x2 X0 tx L n lw := by
  intro d
  induction d with
  | zero =>
    intro m x2 hx x0 hm c X S Q h hS hQ
    obtain ⟨m, rfl⟩ : ∃ k, m = k + 1 := ⟨m - 1, by omega⟩
    have hb := tkp_in tx L0 c
    have e6 : x2 = 6 := by omega
    subst e6
    have ref : (tok tx L 33 (tkp tx L c) = true ∨ tok tx L 4 (tkp tx L c) = true) → ∀ X', X' = X → w_X4_readAtom_20 N (w_X4_readAtom N m) Q 38 lw 6 X' := by
      intro ht X' eX
      subst eX
      intro v1 e1
      subst e1
      refine ⟨fun hc => absurd hc (by decide), fun _ => ⟨fun hc => absurd hc (by decide), fun _ => h.refuse hl L0 (fun hd => hQ _ (Or.inr ?_))⟩⟩
      have e : qAt tx L 0 (tkp tx L c) = (tkp tx L c, tkp tx L c, []) := if_pos ht
      rw [e]
      exact ⟨by show tkp tx L c ≠ -1; omega, hd⟩
    show w_X4_readAtom_b N (w_X4_readAtom N m) 38 lw 6 X Q
    unfold w_X4_readAtom_b
    refine h.sees (by decide) (fun ht => ⟨fun _ => ref (Or.inl ht) X rfl, fun hc => absurd hc (by decide)⟩) (fun ht => ⟨fun hc => absurd rfl hc, fun _ => h.sees (by decide) (fun ht2 => ⟨fun hc => absurd hc (by decide), fun _ => ref (Or.inr ht2) X rfl⟩) (fun ht2 => ⟨fun _ v1 e1 => ?_, fun hc => absurd rfl hc⟩)⟩)
    subst e1
    have e : qAt tx L 0 (tkp tx L c) = qPl tx L (tkp tx L c) := if_neg (by rw [ht, ht2]; decide)
    rw [e] at hQ
    refine ⟨fun _ => ?_, fun hc => absurd rfl hc⟩
    exact h.takes hl (by decide) (fun hc _ _ => by rw [ht] at hc; exact absurd hc (by decide)) (fun _ => ⟨fun _ => h.takes hl (by decide) (fun hc _ _ => by rw [ht2] at hc; exact absurd hc (by decide)) (fun _ => ⟨fun _ => h.plain hN hl L0 hL hS hQ, fun hc => absurd rfl hc⟩), fun hc => absurd rfl hc⟩)
  | succ d ih =>
    intro m x2 hx x0 hm c X S Q h hS hQ
    obtain ⟨m, rfl⟩ : ∃ k, m = k + 1 := ⟨m - 1, by omega⟩
    have hb := tkp_in tx L0 c
    have en : nm (x2 + 1) = x2 + 1 := nm_of (by omega) (by omega)
    have ihm := ih m (x2 + 1) (by omega) (by omega) (by omega)
    have a43 : w_X4_readAtom_43 N (w_X4_readAtom N m) Q 38 lw x2 X := by
      unfold w_X4_readAtom_43
      rw [en]
      refine h.takes hl (by decide) (fun ht h1 e1 => ⟨fun hc => absurd hc (by decide), fun _ => ?_⟩) (fun ht => ⟨fun _ => h.takes hl (by decide) (fun ht2 h1 e1 => ⟨fun hc => absurd hc (by decide), fun _ => ?_⟩) (fun ht2 => ⟨fun _ => h.plain hN hl L0 hL hS (fun X' hp => hQ X' ?_), fun hc => absurd rfl hc⟩), fun hc => absurd rfl hc⟩)
      · have e : qAt tx L (d + 1) (tkp tx L c) = ((qAt tx L d (nx tx L (tkp tx L c))).1, (qAt tx L d (nx tx L (tkp tx L c))).2.1, (qAt tx L d (nx tx L (tkp tx L c))).2.2 ++ [1010]) := if_pos ht
        rw [e] at hQ
        have hn := nx_ge (tx := tx) (tok_lt ht)
        have hg := qAt_GR (tx := tx) d (nx tx L (tkp tx L c)) (by omega) hn.2
        refine ihm (c + 1) _ S _ h1 (by rw [e1]; omega) (fun X2 hp => ?_)
        rw [e1] at hp
        rcases hp with ⟨q1, c2, h2, e2⟩ | ⟨q1, h2⟩
        · obtain ⟨g1, g2, g3⟩ := hg q1
          refine h2.step hl ?_ (by decide) (fun X3 h3 => hQ X3 (Or.inl ⟨q1, c2, ?_, e2⟩))
          · rw [List.length_append]; omega
          · show LV X0 X3 tx L n c2 lw (S ++ ((qAt tx L d (nx tx L (tkp tx L c))).2.2 ++ [1010]))
            rw [← List.append_assoc]; exact h3
        · exact h2.step hl (by decide) (fun X3 h3 => hQ X3 (Or.inr ⟨q1, h3⟩))
      · have e : qAt tx L (d + 1) (tkp tx L c) = qBr (qAt tx L d) tx L (nx tx L (tkp tx L c)) := by
          show (if _ then _ else if _ then _ else _) = _
          rw [if_neg (by rw [ht]; decide), if_pos ht2]
        rw [e] at hQ
        unfold qBr at hQ
        have hn := nx_ge (tx := tx) (tok_lt ht2)
        have hg := qCond_GR (tx := tx) (F := qAt tx L d) (fun b b0 b1 => qAt_GR d b b0 b1) (nx tx L (tkp tx L c)) (by omega) hn.2
        refine LV.cond hN hl L0 hL ihm (fun b b0 b1 => qAt_GR d b b0 b1) h1 (by rw [e1]; omega) (fun X2 hp => ?_)
        rw [e1] at hp
        rcases hp with ⟨q1, c2, h2, e2⟩ | ⟨q1, h2⟩
        · rw [if_pos q1] at hQ
          obtain ⟨g1, g2, g3⟩ := hg q1
          refine h2.need hl L0 (by decide) (fun ht3 h3 e3 => hQ _ ?_) (fun ht3 hd => hQ _ ?_)
          · rw [e2] at ht3 e3
            rw [if_pos ht3]
            exact Or.inl ⟨rfl, c2 + 1, h3, e3⟩
          · rw [e2] at ht3 hd
            rw [if_neg (by rw [ht3]; decide)]
            exact Or.inr ⟨by show (qCond (qAt tx L d) tx L (nx tx L (tkp tx L c))).2.1 ≠ -1; omega, by rw [e2]; exact hd⟩
        · rw [if_neg q1] at hQ
          exact h2.need (by decide) (hQ X2 (Or.inr ⟨q1, h2⟩))
      · have e : qAt tx L (d + 1) (tkp tx L c) = qPl tx L (tkp tx L c) := by
          show (if _ then _ else if _ then _ else _) = _
          rw [if_neg (by rw [ht]; decide), if_neg (by rw [ht2]; decide)]
        rw [e]; exact hp
    have a20 : ∀ xs, w_X4_readAtom_25 N (w_X4_readAtom N m) Q 38 lw x2 xs X := fun xs v1 e1 => ⟨fun _ => a43, fun _ => ⟨fun _ => a43, fun hc => by omega⟩⟩
    show w_X4_readAtom_b N (w_X4_readAtom N m) 38 lw x2 X Q
    unfold w_X4_readAtom_b
    exact h.sees (by decide) (fun _ => ⟨fun _ => a20 1, fun hc => absurd hc (by decide)⟩) (fun _ => ⟨fun hc => absurd rfl hc, fun _ => h.sees (by decide) (fun _ => ⟨fun hc => absurd hc (by decide), fun _ => a20 1⟩) (fun _ => ⟨fun _ => a20 0, fun hc => absurd rfl hc⟩)⟩)
end atomc
