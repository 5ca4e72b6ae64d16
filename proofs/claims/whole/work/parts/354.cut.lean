set_option maxHeartbeats 400000
set_option maxRecDepth 20000
def ty (c : Int) : Int := if 97 ≤ c ∧ c ≤ 122 then 0 else if 48 ≤ c ∧ c ≤ 57 then 1 else 2
/-- the end of the token at b -/
def en (tx : Int → Int) (L b : Int) : Int := if ty (tx b) = 0 then le' tx L b else if ty (tx b) = 1 then dg tx L b else b + 1
def tkT' (tx : Int → Int) (L b : Int) : Nat := if ty (tx b) = 1 then 1 else wr tx b (en tx L b - b)
def tkW (tx : Int → Int) (L b : Int) : Int := if ty (tx b) = 1 then (if en tx L b - b ≤ 3 then vlF tx b (en tx L b - b).toNat else -1) else tkV (tkT' tx L b)
/-- where the tokens stand -/
def tkp (tx : Int → Int) (L : Int) : Nat → Int
  | 0 => ns tx L 0
  | i + 1 => if tkp tx L i < L then ns tx L (en tx L (tkp tx L i)) else L
theorem ty_0 {c : Int} : ty c = 0 ↔ (97 ≤ c ∧ c ≤ 122) := by
  unfold ty
  by_cases h : 97 ≤ c ∧ c ≤ 122
  · rw [if_pos h]; exact ⟨fun _ => h, fun _ => rfl⟩
  · rw [if_neg h]
    refine ⟨fun hc => ?_, fun hc => absurd hc h⟩
    split at hc <;> omega
theorem ty_1 {c : Int} : ty c = 1 ↔ (48 ≤ c ∧ c ≤ 57) := by
  unfold ty
  by_cases h : 97 ≤ c ∧ c ≤ 122
  · rw [if_pos h]; exact ⟨fun hc => by omega, fun hc => by omega⟩
  · rw [if_neg h]
    by_cases h2 : 48 ≤ c ∧ c ≤ 57
    · rw [if_pos h2]; exact ⟨fun _ => h2, fun _ => rfl⟩
    · rw [if_neg h2]; exact ⟨fun hc => by omega, fun hc => absurd hc h2⟩
theorem ty_in (c : Int) : ty c = 0 ∨ ty c = 1 ∨ ty c = 2 := by
  unfold ty
  split
  · omega
  · split <;> omega
theorem en_ge {tx : Int → Int} {L b : Int} (h : b < L) : b < en tx L b ∧ en tx L b ≤ L := by
  unfold en
  by_cases h0 : ty (tx b) = 0
  · rw [if_pos h0]
    have hc : 97 ≤ tx b ∧ tx b ≤ 122 := by
      unfold ty at h0
      apply Decidable.byContradiction
      intro hc
      rw [if_neg hc] at h0
      split at h0 <;> omega
    rw [le_step h hc]
    have := le'_ge tx L (b + 1)
    omega
  · rw [if_neg h0]
    by_cases h1 : ty (tx b) = 1
    · rw [if_pos h1]
      have hc : 48 ≤ tx b ∧ tx b ≤ 57 := by
        unfold ty at h1
        apply Decidable.byContradiction
        intro hc
        rw [if_neg hc] at h1
        split at h1 <;> omega
      rw [dg_step h hc]
      have := dg_ge tx L (b + 1)
      omega
    · rw [if_neg h1]; omega
section cuts
variable {N : Nat} {X : mSt} {tx : Int → Int} {L a b p : Int}
theorem s_type {Q : mSt → Int → Prop} {c : Int} (h : Q X (ty c)) : w_X10_typeOf N c X Q := by
  unfold ty at h
  unfold w_X10_typeOf w_X10_typeOf_14
  refine ⟨fun h1 => ⟨fun h2 => ?_, fun h2 => ⟨fun h3 => ?_, fun h3 => ?_⟩⟩, fun h1 => ⟨fun h2 => ⟨fun h3 => ?_, fun h3 => ⟨fun h4 => ?_, fun h4 => ?_⟩⟩, fun h2 => ?_⟩⟩
  · rw [if_neg (by omega), if_neg (by omega)] at h; exact h
  · rw [if_neg (by omega), if_neg (by omega)] at h; exact h
  · rw [if_neg (by omega), if_pos (by omega)] at h; exact h
  · omega
  · rw [if_neg (by omega), if_neg (by omega)] at h; exact h
  · omega
  · rw [if_pos (by omega)] at h; exact h
/-- the end of a token -/
theorem s_extend {Q : mSt → Prop} {Kk : Nat → Int → Int → Int → Int → Int → mSt → Prop} {c : Int} (hN : 5000 ≤ N) (p0 : 0 ≤ p) (p1 : p < L) (hL : L ≤ 400) (hX : ∀ k, 0 ≤ k → k < L → X 39 k = tx k) (h : Kk 38 L c (en tx L p) p (ty (tx p)) X) : w_X10_cut_64 N Q Kk N 38 L c (p + 1) p (ty (tx p)) X := by
  have hg := en_ge (tx := tx) p1
  have loop : ∀ (d fu : Nat) (e : Int), e + d = L → d < fu → p + 1 ≤ e → ((ty (tx p) = 0 → le' tx L e = le' tx L p) ∧ (ty (tx p) = 1 → dg tx L e = dg tx L p) ∧ (ty (tx p) = 2 → e = p + 1)) → w_X10_cut_64 N Q Kk fu 38 L c e p (ty (tx p)) X := by
    intro d
    induction d with
    | zero =>
      intro fu e he hf hp hh
      obtain ⟨fu, rfl⟩ : ∃ x, fu = x + 1 := ⟨fu - 1, by omega⟩
      have ee : en tx L p = e := by
        unfold en
        rcases ty_in (tx p) with h0 | h0 | h0 <;> rw [h0]
        · rw [if_pos rfl, ← hh.1 h0, le_stop (Or.inl (by omega))]
        · rw [if_neg (by decide), if_pos rfl, ← hh.2.1 h0, dg_stop (Or.inl (by omega))]
        · rw [if_neg (by decide), if_neg (by decide)]; exact (hh.2.2 h0).symm
      rw [ee] at h
      exact ⟨fun _ => h, fun hc => by omega⟩
    | succ d ih =>
      intro fu e he hf hp hh
      obtain ⟨fu, rfl⟩ : ∃ x, fu = x + 1 := ⟨fu - 1, by omega⟩
      refine ⟨fun hc => by omega, fun _ => ⟨fun h2 => ?_, fun h2 => ⟨by omega, by omega, ?_⟩⟩⟩
      · have ee : en tx L p = e := by
          unfold en
          rw [h2, if_neg (by decide), if_neg (by decide)]; exact (hh.2.2 h2).symm
        rw [ee] at h; exact h
      · show w_X10_typeOf N (X 39 e) X _
        rw [hX e (by omega) (by omega)]
        refine s_type ⟨fun hn => ?_, fun hn v3 e3 => ?_⟩
        · have ee : en tx L p = e := by
            unfold en
            rcases ty_in (tx p) with h0 | h0 | h0
            · rw [h0, if_pos rfl, ← hh.1 h0, le_stop (Or.inr (fun hc => hn (by rw [h0]; exact ty_0.mpr hc)))]
            · rw [h0, if_neg (by decide), if_pos rfl, ← hh.2.1 h0, dg_stop (Or.inr (fun hc => hn (by rw [h0]; exact ty_1.mpr hc)))]
            · exact absurd h0 h2
          rw [ee] at h; exact h
        · rw [nm_of (by omega) (by omega)] at e3
          rw [e3]
          refine ih fu (e + 1) (by omega) (by omega) (by omega) ⟨fun h0 => ?_, fun h0 => ?_, fun h0 => absurd h0 h2⟩
          · rw [← hh.1 h0, ← le_step (by omega) (ty_0.mp (hn.trans h0))]
          · rw [← hh.2.1 h0, ← dg_step (by omega) (ty_1.mp (hn.trans h0))]
  refine loop (L - (p + 1)).toNat N (p + 1) (by omega) (by omega) (by omega) ⟨fun h0 => (le_step p1 (ty_0.mp h0)).symm, fun h0 => (dg_step p1 (ty_1.mp h0)).symm, fun _ => rfl⟩
theorem s_number {Q : mSt → Int → Prop} {z : Int} (hN : 5000 ≤ N) (b0 : 0 ≤ b) (z0 : 0 ≤ z) (hz : b + z ≤ 400) (hX : ∀ k, b ≤ k → k < b + z → X 39 k = tx k) (hd : ∀ i : Nat, (i : Int) < z → 48 ≤ tx (b + i) ∧ tx (b + i) ≤ 57) (hQ : Q X (if z ≤ 3 then vlF tx b z.toNat else -1)) : w_X10_numberAt N 38 b z X Q := by
  refine ⟨fun h3 v1 e1 v2 e2 => ?_, fun h3 => by rw [if_neg (by omega)] at hQ; exact hQ⟩
  subst e1; subst e2
  rw [if_pos h3] at hQ
  refine lpUp (n := N) (T := X) (K := z.toNat) (W := fun n k T => w_X10_numberAt_12 N Q (fun (x3_3 : Int) (S_3 : mSt) => Q S_3 x3_3) n 38 b z (vlF tx b k) k T) (I := fun k T => T = X) (fun n T hI => ?_) (fun n k T hk hI ih => ?_) (by omega) rfl
  · rw [hI]; exact ⟨fun _ => hQ, fun hc => by omega⟩
  · rw [hI]
    have hv := vlF_4 (tx := tx) (b := b) (k := k) (by omega) (fun i hi => hd i (by omega))
    have hdk := hd k (by omega)
    refine ⟨fun hc => by omega, fun _ => ?_⟩
    rw [nm_of (x := b + (k : Int)) (by omega) (by omega)]
    refine ⟨by omega, by omega, fun v2 e2 v3 e3 => ?_⟩
    have e39 : X (38 + 1) (b + (k : Int)) = tx (b + k) := hX _ (by omega) (by omega)
    rw [nx8 (by omega)] at e3
    rw [e39, nm_of (x := vlF tx b k * 10) (by omega) (by omega), nm_of (x := vlF tx b k * 10 + tx (b + k)) (by omega) (by omega), nm_of (by omega) (by omega)] at e2
    have e4 : v2 = vlF tx b (k + 1) := by
      rw [e2]
      show _ = 10 * vlF tx b k + tx (b + k) - 48
      omega
    rw [e4, e3]
    exact ih X rfl
end cuts
/-- the class's table of tokens, the first c -/
def TB (X : mSt) (tx : Int → Int) (L : Int) (c : Nat) : Prop := ∀ i : Nat, i < c → X 41 i = tkp tx L i ∧ X 42 i = en tx L (tkp tx L i) - tkp tx L i ∧ X 40 i = tkT' tx L (tkp tx L i) ∧ X 43 i = tkW tx L (tkp tx L i) ∧ tkp tx L i < L
/-- what cutting leaves -/
def CF (X X' : mSt) : Prop := ∀ r, (r < 40 ∨ 43 < r) → X' r = X r
section cutt
variable {N : Nat} {X : mSt} {tx : Int → Int} {L a b p : Int}
theorem en_fig {tx : Int → Int} {L b : Int} (h : ty (tx b) = 1) (i : Nat) (hi : (i : Int) < en tx L b - b) : 48 ≤ tx (b + i) ∧ tx (b + i) ≤ 57 := by
  have e : en tx L b = dg tx L b := by unfold en; rw [h, if_neg (by decide), if_pos rfl]
  rw [e] at hi
  have main : ∀ (i : Nat) (b : Int), (i : Int) < dg tx L b - b → 48 ≤ tx (b + i) ∧ tx (b + i) ≤ 57 := by
    intro i
    induction i with
    | zero =>
      intro b hb
      apply Decidable.byContradiction
      intro hc
      rw [dg_stop (Or.inr (by rw [show b + ((0 : Nat) : Int) = b by omega] at hc; exact hc))] at hb
      omega
    | succ i ih =>
      intro b hb
      have h0 : b < L ∧ 48 ≤ tx b ∧ tx b ≤ 57 := by
        apply Decidable.byContradiction
        intro hc
        rw [dg_stop (by by_cases h1 : b < L
                        · exact Or.inr (fun h2 => hc ⟨h1, h2⟩)
                        · exact Or.inl (by omega))] at hb
        omega
      rw [dg_step h0.1 h0.2] at hb
      have := ih (b + 1) (by omega)
      rw [show b + 1 + (i : Int) = b + ((i + 1 : Nat) : Int) by omega] at this
      exact this
  exact main i b hi
theorem wrF_lt (tx : Int → Int) (b z : Int) : ∀ (d t : Nat), t + d = 36 → wrF tx b z d t < 36
  | 0, t, _ => by show (2 : Nat) < 36; decide
  | d + 1, t, h => by
    have := wrF_lt tx b z d (t + 1) (by omega)
    unfold wrF
    split
    · omega
    · exact this
theorem wr_lt (tx : Int → Int) (b z : Int) : wr tx b z < 36 := wrF_lt tx b z 36 0 rfl
theorem s_put {Q : mSt → Prop} {c : Nat} (hN : 5000 ≤ N) (ok : okS X) (c1 : c < 401) (p0 : 0 ≤ p) (p1 : p < L) (hL : L ≤ 400) (hX : ∀ k, 0 ≤ k → k < L → X 39 k = tx k) (h : ∀ X', okS X' → CF X X' → (∀ r (i : Int), i ≠ c → X' r i = X r i) → X' 41 c = p → X' 42 c = en tx L p - p → X' 40 c = tkT' tx L p → X' 43 c = tkW tx L p → Q X') : w_X10_put N 38 c (ty (tx p)) p (en tx L p - p) X Q := by
  have hg := en_ge (tx := tx) p1
  refine ⟨by omega, by omega, fun S2 e2 => ⟨by omega, by omega, fun S4 e4 => ?_⟩⟩
  have e2' : S2 = mup X 41 c p := e2
  have e4' : S4 = mup S2 42 c (en tx L p - p) := e4
  have op : okI p := by unfold okI; omega
  have oz : okI (en tx L p - p) := by unfold okI; omega
  have ok4 : okS S4 := by rw [e4', e2']; exact okS_up (okS_up ok op) oz
  have f4 : ∀ r, r ≠ 41 → r ≠ 42 → S4 r = X r := fun r h1 h2 => by rw [e4', mup_ne _ _ _ h2, e2', mup_ne _ _ _ h1]
  have i4 : ∀ r (i : Int), i ≠ c → S4 r i = X r i := fun r i hi => by
    rw [e4']
    by_cases h1 : r = 42
    · subst h1; rw [mup_i _ _ _ hi, e2', mup_ne _ _ _ (by decide)]
    · rw [mup_ne _ _ _ h1, e2']
      by_cases h2 : r = 41
      · subst h2; rw [mup_i _ _ _ hi]
      · rw [mup_ne _ _ _ h2]
  have v41 : S4 41 c = p := by rw [e4', mup_ne _ _ _ (by decide), e2', mup_same]
  have v42 : S4 42 c = en tx L p - p := by rw [e4', mup_same]
  have x4 : ∀ k, 0 ≤ k → k < L → S4 39 k = tx k := fun k a b => by rw [f4 39 (by decide) (by decide)]; exact hX k a b
  clear e2 e4 e2' e4'
  -- the token and its value
  have last : ∀ (t : Nat) (v : Int) (S7 S11 : mSt), okI t → okI v → S7 = mup S4 40 c t → S11 = mup S7 43 c v → t = tkT' tx L p → v = tkW tx L p → Q S11 := by
    intro t v S7 S11 ot ov e7 e11 et ev
    refine h S11 (by rw [e11, e7]; exact okS_up (okS_up ok4 ot) ov) (fun r hr => by rw [e11, mup_ne _ _ _ (by omega), e7, mup_ne _ _ _ (by omega), f4 r (by omega) (by omega)]) (fun r i hi => ?_) ?_ ?_ ?_ ?_
    · rw [e11]
      by_cases h1 : r = 43
      · subst h1; rw [mup_i _ _ _ hi, e7, mup_ne _ _ _ (by decide)]; exact i4 _ i hi
      · rw [mup_ne _ _ _ h1, e7]
        by_cases h2 : r = 40
        · subst h2; rw [mup_i _ _ _ hi]; exact i4 _ i hi
        · rw [mup_ne _ _ _ h2]; exact i4 _ i hi
    · rw [e11, mup_ne _ _ _ (by decide), e7, mup_ne _ _ _ (by decide)]; exact v41
    · rw [e11, mup_ne _ _ _ (by decide), e7, mup_ne _ _ _ (by decide)]; exact v42
    · rw [e11, mup_ne _ _ _ (by decide), e7, mup_same, et]
    · rw [e11, mup_same, ev]
  refine ⟨fun hn => ?_, fun hn => ⟨by omega, by omega, fun S13 e13 => ?_⟩⟩
  · refine s_written hN p0 (by omega) (by omega) (fun k a b => x4 k (by omega) (by omega)) ⟨by omega, by omega, fun S7 e7 => ⟨by omega, by omega, fun t9 e9 => ⟨by omega, by omega, fun S11 e11 => ?_⟩⟩⟩
    have e7' : S7 = mup S4 40 c (wr tx p (en tx L p - p)) := e7
    have e9' : (t9 : Int) = wr tx p (en tx L p - p) := by rw [e9, e7']; exact mup_same _ _ _ _
    have et : t9 = tkT' tx L p := by unfold tkT'; rw [if_neg hn]; omega
    exact last t9 (tkV t9) S7 S11 (by have := wr_lt tx p (en tx L p - p); unfold okI; omega) (tkV_ok _) (by rw [e9']; exact e7') e11 et (by unfold tkW; rw [if_neg hn, et])
  · refine s_number hN p0 (by omega) (by omega) (fun k a b => ?_) (fun i hi => en_fig hn i hi) ⟨by omega, by omega, fun S16 e16 => ?_⟩
    · have e13' : S13 = mup S4 40 c (1 : Int) := e13
      rw [e13', mup_ne _ _ _ (by decide)]; exact x4 k (by omega) (by omega)
    · refine last 1 _ S13 S16 (by decide) ?_ e13 e16 (by unfold tkT'; rw [if_pos hn]) (by unfold tkW; rw [if_pos hn])
      split
      · have := vlF_4 (tx := tx) (b := p) (k := (en tx L p - p).toNat) (by omega) (fun i hi => en_fig (L := L) hn i (by omega))
        unfold okI; omega
      · decide
theorem tkp_in (tx : Int → Int) {L : Int} (L0 : 0 ≤ L) : ∀ i : Nat, 0 ≤ tkp tx L i ∧ tkp tx L i ≤ L
  | 0 => by have := ns_ge tx L 0; show 0 ≤ ns tx L 0 ∧ ns tx L 0 ≤ L; omega
  | i + 1 => by
    have h := tkp_in tx L0 i
    show 0 ≤ (if tkp tx L i < L then ns tx L (en tx L (tkp tx L i)) else L) ∧ (if tkp tx L i < L then ns tx L (en tx L (tkp tx L i)) else L) ≤ L
    by_cases hl : tkp tx L i < L
    · rw [if_pos hl]
      have h2 := en_ge (tx := tx) hl
      have h3 := ns_ge tx L (en tx L (tkp tx L i))
      omega
    · rw [if_neg hl]; omega
theorem s_cut {Q : mSt → Prop} {Kk : Nat → Int → Int → mSt → Prop} (hN : 5000 ≤ N) (ok : okS X) (L0 : 0 ≤ L) (hL : L ≤ 400) (hX : ∀ k, 0 ≤ k → k < L → X 39 k = tx k) (h : ∀ (X' : mSt) (c : Nat), okS X' → CF X X' → TB X' tx L c → c ≤ 400 → tkp tx L c = L → Kk 38 L c X') : w_X10_cut_39 N Q Kk N 38 L 0 0 X := by
  have loop : ∀ (d fu : Nat) (p : Int) (c : Nat) (X1 : mSt), p + d = L → d < fu → (c : Int) ≤ p → okS X1 → CF X X1 → TB X1 tx L c → ns tx L p = tkp tx L c → w_X10_cut_39 N Q Kk fu 38 L c p X1 := by
    intro d
    induction d using Nat.strongRecOn with
    | ind d ih =>
      intro fu p c X1 hp hf hc ok1 k1 t1 hn
      obtain ⟨fu, rfl⟩ : ∃ x, fu = x + 1 := ⟨fu - 1, by omega⟩
      refine ⟨fun hge => ?_, fun hlt v1 e1 => ?_⟩
      · rw [ns_stop (Or.inl hge)] at hn
        exact h X1 c ok1 k1 t1 (by omega) (by omega)
      · subst e1
        have x1 : ∀ k, 0 ≤ k → k < L → X1 39 k = tx k := fun k a b => by rw [k1 39 (by omega)]; exact hX k a b
        have e39 : X1 (38 + 1) v1 = tx v1 := x1 v1 (by omega) hlt
        refine ⟨by omega, by omega, ?_⟩
        rw [e39]
        refine s_type (fun v4 e4 v5 e5 => ?_)
        rw [nm_of (by omega) (by omega)] at e5
        subst e4; subst e5
        have hg := en_ge (tx := tx) hlt
        refine s_extend hN (by omega) hlt hL x1 ⟨by omega, by omega, fun hb => ?_, fun hb => ?_⟩
        · rw [e39] at hb
          have ee : en tx L v1 = v1 + 1 := by unfold en; rw [hb]; rfl
          rw [ns_step hlt hb] at hn
          show w_X10_cut_39 N Q Kk fu 38 L c (en tx L v1) X1
          rw [ee]
          exact ih (L - (v1 + 1)).toNat (by omega) fu (v1 + 1) c X1 (by omega) (by omega) (by omega) ok1 k1 t1 hn
        · rw [e39] at hb
          rw [ns_stop (Or.inr hb)] at hn
          rw [nm_of (by omega) (by omega)]
          refine s_put hN ok1 (by omega) (by omega) hlt hL x1 (fun X2 ok2 k2 f2 g1 g2 g3 g4 v3 e3 => ?_)
          rw [nx8 (by omega)] at e3
          subst e3
          refine ih (L - en tx L v1).toNat (by omega) fu (en tx L v1) (c + 1) X2 (by omega) (by omega) (by omega) ok2 (fun r hr => (k2 r hr).trans (k1 r hr)) (fun i hi => ?_) ?_
          · by_cases he : i = c
            · subst he; rw [← hn]; exact ⟨g1, g2, g3, g4, hlt⟩
            · rw [f2 41 _ (by omega), f2 42 _ (by omega), f2 40 _ (by omega), f2 43 _ (by omega)]
              exact t1 i (by omega)
          · show _ = (if tkp tx L c < L then ns tx L (en tx L (tkp tx L c)) else L)
            rw [← hn, if_pos hlt]
  exact loop L.toNat N 0 0 X (by omega) (by omega) (by omega) ok (fun _ _ => rfl) (fun i hi => by omega) rfl
end cutt
