set_option maxHeartbeats 400000
set_option maxRecDepth 20000
/-! ===== the pure part: what holds between two calls ===== -/
/-- the class's pointers: now, spare; law, spareLaw -/
def KP (X : mSt) (q q' lw lw' : Nat) : Prop := X 0 3 = q ∧ X 0 4 = q' ∧ X 0 5 = lw ∧ X 0 6 = lw' ∧ ((q = 2 ∧ q' = 13) ∨ (q = 13 ∧ q' = 2)) ∧ ((lw = 24 ∧ lw' = 31) ∨ (lw = 31 ∧ lw' = 24))
def TP (X M : mSt) : Prop := X 0 1 = M 0 9 ∧ 0 ≤ M 0 9 ∧ M 0 9 ≤ 400 ∧ ∀ k, 0 ≤ k → k < M 0 9 → X 1 k = M 6 k ∧ 0 ≤ M 6 k ∧ M 6 k ≤ 255
def aRow (M : mSt) (i : Int) : mRow := fun k => M 5 (350 * i + k)
def pSlot (nx sz i : Int) : Nat := 46 + 11 * ((nx - sz + i) % 12).toNat
def PX (X M : mSt) (n : Int) : Prop := (0 ≤ M 0 7 ∧ M 0 7 ≤ 12) ∧ X 44 2 = M 0 7 ∧ (0 ≤ X 44 1 ∧ X 44 1 < 12) ∧ ∀ i, 0 ≤ i → i < M 0 7 → RLd X (pSlot (X 44 1) (M 0 7) i) (aRow M i) n ∧ RR (aRow M i) ∧ aRow M i 1 = M 1 1 ∧ aRow M i 2 = M 1 2
def GX (N : Nat) (X M : mSt) (n : Int) : Prop := (M 0 4 = 0 ∧ X 178 3 = 0) ∨ (M 0 4 = 1 ∧ X 178 3 = 1 ∧ RLd X 179 (M 2) n ∧ RR (M 2) ∧ ∃ B : mPrg, PG B ∧ LWR X 190 B ∧ LM N (M 2) (AP B) ∧ B.1 = M 2 1 ∧ ∀ p, 0 ≤ p → p < 8 → X 197 p = fLight (AP B) (M 2) p)
/-- the latest fault; the reference's booleans -/
def FX (X M : mSt) : Prop := X 0 2 = M 0 13 ∧ BB M ∧ X 215 0 = 0
theorem FX.of {X X' M M' : mSt} (h : FX X M) (e : X' 0 2 = X 0 2) (e' : M' 0 13 = M 0 13) (b : BB M → BB M') (z : X' 215 0 = X 215 0) : FX X' M' := ⟨by rw [e, e']; exact h.1, b h.2.1, z.trans h.2.2⟩
def IV (N : Nat) (n : Int) (X M : mSt) (q q' lw lw' : Nat) (P : mPrg) : Prop := KP X q q' lw lw' ∧ TP X M ∧ FX X M ∧ RLd X q (M 1) n ∧ RR (M 1) ∧ (PG P ∧ LWR X lw P ∧ LM N (M 1) (AP P) ∧ P.1 = M 1 1) ∧ PX X M n ∧ GX N X M n
def Inv (N : Nat) (n : Nat) (X M : mSt) : Prop := ∃ (q q' lw lw' : Nat) (P : mPrg), IV N n X M q q' lw lw' P
/-- what a question may change of the class -/
def XF (q' lw : Nat) (X X' : mSt) : Prop := ∀ r, r ≠ lw + 5 → r ≠ lw + 6 → (r < q' ∨ q' + 10 < r) → (r < 198 ∨ (205 ≤ r ∧ r < 250)) → X' r = X r
theorem XF.rf (q' lw : Nat) (X : mSt) : XF q' lw X X := fun _ _ _ _ _ => rfl
theorem XF.tr {q' lw : Nat} {X X1 X2 : mSt} (h : XF q' lw X X1) (h' : XF q' lw X1 X2) : XF q' lw X X2 := fun r a b c d => (h' r a b c d).trans (h r a b c d)
theorem XF.up {q' lw : Nat} {X : mSt} {r : Nat} {i v : Int} (hr : (198 ≤ r ∧ r ≤ 204) ∨ 250 ≤ r) : XF q' lw X (mup X r i v) := fun r' _ _ _ d => mup_ne _ _ _ (by omega)
/-- what a question may change of the reference -/
def MQu (M M' : mSt) : Prop := (M' 1 = M 1 ∧ M' 2 = M 2 ∧ M' 5 = M 5 ∧ M' 6 = M 6 ∧ ∀ r, 8 ≤ r → r ≤ 10 → M' r = M r) ∧ M' 0 0 = M 0 0 ∧ M' 0 4 = M 0 4 ∧ M' 0 7 = M 0 7 ∧ M' 0 9 = M 0 9 ∧ M' 0 13 = M 0 13 ∧ (BB M → BB M')
theorem MQu.rf (M : mSt) : MQu M M := ⟨⟨rfl, rfl, rfl, rfl, fun _ _ _ => rfl⟩, rfl, rfl, rfl, rfl, rfl, id⟩
theorem MQu.tr {M M1 M2 : mSt} (h : MQu M M1) (h' : MQu M1 M2) : MQu M M2 := by
  obtain ⟨⟨a1, a2, a3, a4, aw⟩, a5, a6, a7, a8, a9, a10⟩ := h
  obtain ⟨⟨b1, b2, b3, b4, bw⟩, b5, b6, b7, b8, b9, b10⟩ := h'
  exact ⟨⟨b1.trans a1, b2.trans a2, b3.trans a3, b4.trans a4, fun r x y => (bw r x y).trans (aw r x y)⟩, b5.trans a5, b6.trans a6, b7.trans a7, b8.trans a8, b9.trans a9, fun b => b10 (a10 b)⟩
theorem MF.q {M M' : mSt} (h : MF M M') : MQu M M' := ⟨⟨h.1 1 (by decide) (by decide), h.1 2 (by decide) (by decide), h.1 5 (by decide) (by decide), h.1 6 (by decide) (by decide), fun r x y => h.1 r (by omega) (by omega)⟩, h.2⟩
theorem MQu.up {M : mSt} {r : Nat} {i v : Int} (hr : r = 3 ∨ r = 4 ∨ r = 7 ∨ 11 ≤ r) : MQu M (mup M r i v) := by
  refine ⟨⟨?_, ?_, ?_, ?_, fun r' x y => ?_⟩, ?_, ?_, ?_, ?_, ?_, fun b => b.of ?_ ?_⟩ <;> rw [mup_ne _ _ _ (by omega)]
/-- MG, with the row brought back -/
theorem MG.q {M M' : mSt} (h : MG M M') (h1 : M' 1 = M 1) : MQu M M' := ⟨⟨h1, h.1 2 (by decide) (by decide) (by decide), h.1 5 (by decide) (by decide) (by decide), h.1 6 (by decide) (by decide) (by decide), fun r x y => h.1 r (by omega) (by omega) (by omega)⟩, h.2⟩
/-- the weak form: what the notebooks hold may change too -/
def MQw (M M' : mSt) : Prop := (M' 1 = M 1 ∧ M' 2 = M 2 ∧ M' 5 = M 5 ∧ M' 6 = M 6) ∧ M' 0 0 = M 0 0 ∧ M' 0 4 = M 0 4 ∧ M' 0 7 = M 0 7 ∧ M' 0 9 = M 0 9 ∧ M' 0 13 = M 0 13 ∧ (BB M → BB M')
theorem MQu.w {M M' : mSt} (h : MQu M M') : MQw M M' := ⟨⟨h.1.1, h.1.2.1, h.1.2.2.1, h.1.2.2.2.1⟩, h.2⟩
theorem MQw.rf (M : mSt) : MQw M M := (MQu.rf M).w
theorem MQw.tr {M M1 M2 : mSt} (h : MQw M M1) (h' : MQw M1 M2) : MQw M M2 := by
  obtain ⟨⟨a1, a2, a3, a4⟩, a5, a6, a7, a8, a9, a10⟩ := h
  obtain ⟨⟨b1, b2, b3, b4⟩, b5, b6, b7, b8, b9, b10⟩ := h'
  exact ⟨⟨b1.trans a1, b2.trans a2, b3.trans a3, b4.trans a4⟩, b5.trans a5, b6.trans a6, b7.trans a7, b8.trans a8, b9.trans a9, fun b => b10 (a10 b)⟩
theorem MQw.up {M : mSt} {r : Nat} {i v : Int} (hr : r = 3 ∨ r = 4 ∨ 7 ≤ r) : MQw M (mup M r i v) := by
  refine ⟨⟨?_, ?_, ?_, ?_⟩, ?_, ?_, ?_, ?_, ?_, fun b => b.of ?_ ?_⟩ <;> rw [mup_ne _ _ _ (by omega)]
section invs
variable {N : Nat} {n n' : Int} {X X' M M' : mSt} {q q' lw lw' : Nat} {P : mPrg} {f : mRow}
theorem KP.of (h : KP X q q' lw lw') (e : X' 0 = X 0) : KP X' q q' lw lw' := by unfold KP; rw [e]; exact h
theorem PX.of (h : PX X M n) (hT : n ≤ n') (e44 : X' 44 = X 44) (er : ∀ r, 46 ≤ r → r ≤ 177 → X' r = X r) (e7 : M' 0 7 = M 0 7) (e5 : M' 5 = M 5) (e1 : M' 1 1 = M 1 1 ∧ M' 1 2 = M 1 2) : PX X' M' n' := by
  obtain ⟨h1, h2, h3, h4⟩ := h
  refine ⟨by rw [e7]; exact h1, by rw [e44, e7]; exact h2, by rw [e44]; exact h3, fun i i0 i1 => ?_⟩
  rw [e7] at i1
  obtain ⟨g1, g2, g3, g4⟩ := h4 i i0 i1
  have ea : aRow M' i = aRow M i := by unfold aRow; rw [e5]
  rw [ea, e44, e7]
  refine ⟨(g1.of (fun r' a b => er r' ?_ ?_)).mono hT, g2, g3.trans e1.1.symm, g4.trans e1.2.symm⟩
  · unfold pSlot at a; omega
  · unfold pSlot at b; omega
theorem GX.of (h : GX N X M n) (hT : n ≤ n') (er : ∀ r, 178 ≤ r → r ≤ 194 → X' r = X r) (er2 : X' 197 = X 197) (e4 : M' 0 4 = M 0 4) (e2 : M' 2 = M 2) : GX N X' M' n' := by
  rcases h with ⟨h1, h2⟩ | ⟨h1, h2, h3, h4, B, h5, h6, h7, h8, h9⟩
  · exact Or.inl ⟨e4.trans h1, by rw [er 178 (by decide) (by decide)]; exact h2⟩
  · refine Or.inr ⟨e4.trans h1, by rw [er 178 (by decide) (by decide)]; exact h2, ?_, by rw [e2]; exact h4, B, h5, ?_, by rw [e2]; exact h7, by rw [e2]; exact h8, ?_⟩
    · rw [e2]; exact (h3.of (fun r' a b => er r' (by omega) (by omega))).mono hT
    · exact h6.of h5.1 (by rw [er _ (by omega) (by omega)]) (fun j a b i _ _ => by rw [er _ (by omega) (by omega)]) (fun i _ _ => by rw [er _ (by omega) (by omega)])
    · rw [er2, e2]; exact h9
theorem IV.query' {v : Int} (h : IV N n X M q q' lw lw' P) (hT : n ≤ n') (hX : ∀ r, r ≠ lw + 5 → r ≠ lw + 6 → (r < q' ∨ q' + 10 < r) → r < 198 → X' r = X r) (hz : X' 215 0 = X 215 0) (hM : MQw (mup M 0 0 v) M') : IV N n' X' M' q q' lw lw' P := by
  obtain ⟨hK, hT2, hf, hL, hR, ⟨p1, p2, p3, p4⟩, hP, hG⟩ := h
  obtain ⟨⟨a1, a2, a3, a4⟩, a5, a6, a7, a8, a9, a10⟩ := hM
  rw [mup_ne _ _ _ (by decide)] at a1 a2 a3 a4
  rw [mup_i _ _ _ (by decide)] at a6 a7 a8 a9
  have hKK := hK
  obtain ⟨k1, k2, k3, k4, k5, k6⟩ := hK
  have x0 : X' 0 = X 0 := hX 0 (by omega) (by omega) (by omega) (by omega)
  refine ⟨hKK.of x0, ?_, ?_, ?_, by rw [a1]; exact hR, ⟨p1, ?_, by rw [a1]; exact p3, by rw [a1]; exact p4⟩, ?_, ?_⟩
  · unfold TP
    rw [x0, a8, a4, hX 1 (by omega) (by omega) (by omega) (by omega)]
    exact hT2
  · exact hf.of (by rw [x0]) a9 (fun b => a10 (b.of (mup_i _ _ _ (by decide)) (mup_i _ _ _ (by decide)))) hz
  · rw [a1]
    exact (hL.of (fun r' a b => hX r' (by omega) (by omega) (by omega) (by omega))).mono hT
  · exact p2.of p1.1 (by rw [hX lw (by omega) (by omega) (by omega) (by omega)]) (fun j a b i _ _ => by rw [hX _ (by omega) (by omega) (by omega) (by omega)]) (fun i _ _ => by rw [hX _ (by omega) (by omega) (by omega) (by omega)])
  · exact hP.of hT (hX 44 (by omega) (by omega) (by omega) (by omega)) (fun r a b => hX r (by omega) (by omega) (by omega) (by omega)) a7 a3 ⟨by rw [a1], by rw [a1]⟩
  · exact hG.of hT (fun r a b => hX r (by omega) (by omega) (by omega) (by omega)) (hX 197 (by omega) (by omega) (by omega) (by omega)) a6 a2
theorem IV.query {v : Int} (h : IV N n X M q q' lw lw' P) (hT : n ≤ n') (hX : XF q' lw X X') (hM : MQu (mup M 0 0 v) M') : IV N n' X' M' q q' lw lw' P := by
  obtain ⟨k1, k2, k3, k4, k5, k6⟩ := id h.1
  exact h.query' hT (fun r a b c d => hX r a b c (Or.inl d)) (by rw [hX 215 (by omega) (by omega) (by omega) (by omega)]) hM.w
/-- the weak form of XF: the class's notebooks too -/
def XZ (q' lw : Nat) (X X' : mSt) : Prop := ∀ r, r ≠ lw + 5 → r ≠ lw + 6 → (r < q' ∨ q' + 10 < r) → r < 198 → X' r = X r
theorem XF.z (h : XF q' lw X X') : XZ q' lw X X' := fun r a b c d => h r a b c (Or.inl d)
theorem XZ.tr {X1 X2 : mSt} (h : XZ q' lw X X1) (h' : XZ q' lw X1 X2) : XZ q' lw X X2 := fun r a b c d => (h' r a b c d).trans (h r a b c d)
theorem XZ.up {r : Nat} {i v : Int} (hr : 198 ≤ r) : XZ q' lw X (mup X r i v) := fun r' _ _ _ d => mup_ne _ _ _ (by omega)
/-- what a question of the class needs -/
def CQ (N : Nat) (X : mSt) (q q' lw lw' : Nat) (f : mRow) (A : mLaw) (n : Int) : Prop := okS X ∧ KP X q q' lw lw' ∧ RLd X q f n ∧ RR f ∧ LB A ∧ LX N X lw A
theorem CQ.of {A : mLaw} (h : CQ N X q q' lw lw' f A n) (ok : okS X') (hX : XF q' lw X X') : CQ N X' q q' lw lw' f A n := by
  obtain ⟨-, h2, h3, h4, h5, h6⟩ := h
  have h2' := h2
  obtain ⟨k1, k2, k3, k4, k5, k6⟩ := h2'
  exact ⟨ok, h2.of (hX 0 (by omega) (by omega) (by omega) (by omega)), h3.of (fun r' a b => hX r' (by omega) (by omega) (by omega) (by omega)), h4, h5, h6.of (fun j hj => hX _ (by omega) (by omega) (by omega) (by omega))⟩
theorem CQ.ofz {A : mLaw} (h : CQ N X q q' lw lw' f A n) (ok : okS X') (hX : XZ q' lw X X') : CQ N X' q q' lw lw' f A n := by
  obtain ⟨-, h2, h3, h4, h5, h6⟩ := h
  have h2' := h2
  obtain ⟨k1, k2, k3, k4, k5, k6⟩ := h2'
  exact ⟨ok, h2.of (hX 0 (by omega) (by omega) (by omega) (by omega)), h3.of (fun r' a b => hX r' (by omega) (by omega) (by omega) (by omega)), h4, h5, h6.of (fun j hj => hX _ (by omega) (by omega) (by omega) (by omega))⟩
theorem IV.CQ (hN : 1000 ≤ N) (h : IV N n X M q q' lw lw' P) (ok : okS X) : CQ N X q q' lw lw' (M 1) (AP P) n := by
  obtain ⟨hK, -, -, hL, hR, ⟨p1, p2, p3, p4⟩, -, -⟩ := h
  exact ⟨ok, hK, hL, hR, AP_LB p1, p2.LX hN p1⟩
/-- what a question of the reference needs -/
def MC (N : Nat) (M : mSt) (f : mRow) (A : mLaw) : Prop := okS M ∧ M 1 = f ∧ RR f ∧ LB A ∧ LM N f A
theorem MC.of {A : mLaw} (h : MC N M f A) (ok : okS M') (e : M' 1 = M 1) : MC N M' f A := ⟨ok, e.trans h.2.1, h.2.2⟩
theorem IV.MC (h : IV N n X M q q' lw lw' P) (ok : okS M) : MC N M (M 1) (AP P) := by
  obtain ⟨hK, -, -, hL, hR, ⟨p1, p2, p3, p4⟩, -, -⟩ := h
  exact ⟨ok, rfl, hR, AP_LB p1, p3⟩
end invs
section qs
variable {N : Nat} {n : Int} {X M : mSt} {q q' lw lw' : Nat} {f : mRow} {A : mLaw} {p : Int} {Q : mSt → Int → Prop}
theorem CQ.fr (C : CQ N X q q' lw lw' f A n) {X' : mSt} (h : ∀ r', r' ≠ lw + 5 → r' ≠ lw + 6 → X' r' = X r') : XF q' lw X X' := fun r a b _ _ => h r a b
theorem x_light (C : CQ N X q q' lw lw' f A n) (p0 : 0 ≤ p) (p1 : p < 8) (h : ∀ X', CQ N X' q q' lw lw' f A n → XF q' lw X X' → Q X' (fLight A f p)) : w_X3_lightOf N lw (q + 1) p X Q := by
  have C' := C
  obtain ⟨ok, ⟨k1, k2, k3, k4, k5, k6⟩, hL, hR, hB, hX⟩ := C'
  exact s_light hX hB ok hL.1.1 hR.1.1 (by omega) p0 p1 (fun S' ok' k' => h S' (C.of ok' (C.fr k')) (C.fr k'))
theorem x_white (C : CQ N X q q' lw lw' f A n) (p0 : 0 ≤ p) (p1 : p < 8) (h : ∀ X', CQ N X' q q' lw lw' f A n → XF q' lw X X' → Q X' (fWhite A f p)) : w_X3_whiteOf N lw (q + 1) p X Q := by
  have C' := C
  obtain ⟨ok, ⟨k1, k2, k3, k4, k5, k6⟩, hL, hR, hB, hX⟩ := C'
  exact s_white hX hB ok hL.1.1 hR.1.1 (by omega) p0 p1 (fun S' ok' k' => h S' (C.of ok' (C.fr k')) (C.fr k'))
theorem x_dries (C : CQ N X q q' lw lw' f A n) (p0 : 0 ≤ p) (p1 : p < 8) (h : ∀ X', CQ N X' q q' lw lw' f A n → XF q' lw X X' → Q X' (fDries A f p)) : w_X3_driesBy N lw (q + 1) p X Q := by
  have C' := C
  obtain ⟨ok, ⟨k1, k2, k3, k4, k5, k6⟩, hL, hR, hB, hX⟩ := C'
  exact s_dries hX hB ok hL.1.1 hR.1.1 (by omega) p0 p1 (fun S' ok' k' => h S' (C.of ok' (C.fr k')) (C.fr k'))
theorem x_all (hN : 1000 ≤ N) (C : CQ N X q q' lw lw' f A n) (h : ∀ X', CQ N X' q q' lw lw' f A n → XF q' lw X X' → Q X' (fAll A f)) : w_X3_allLight N lw (q + 1) X Q := by
  have C' := C
  obtain ⟨ok, ⟨k1, k2, k3, k4, k5, k6⟩, hL, hR, hB, hX⟩ := C'
  exact s_all hN hX hB ok hL.1.1 hR.1.1 (by omega) (fun S' ok' k' => h S' (C.of ok' (C.fr k')) (C.fr k'))
theorem y_light (hN : 1000 ≤ N) (C : MC N M f A) (p0 : 0 ≤ p) (p1 : p < 8) (h : ∀ M', MC N M' f A → MQu M M' → Q M' (fLight A f p)) : w_X12_lightOf N 0 p M Q := by
  have C' := C
  obtain ⟨ok, rfl, hR, hB, hL⟩ := C'
  exact a_light hN hL hB ok hR.1.1 p0 p1 (fun S' ok' k' => h S' (C.of ok' k'.m) k'.q)
theorem y_white (hN : 1000 ≤ N) (C : MC N M f A) (p0 : 0 ≤ p) (p1 : p < 8) (h : ∀ M', MC N M' f A → MQu M M' → Q M' (fWhite A f p)) : w_X12_whiteOf N 0 p M Q := by
  have C' := C
  obtain ⟨ok, rfl, hR, hB, hL⟩ := C'
  exact a_white hN hL hB ok hR.1.1 p0 p1 (fun S' ok' k' => h S' (C.of ok' k'.m) k'.q)
theorem y_dries (hN : 1000 ≤ N) (C : MC N M f A) (p0 : 0 ≤ p) (p1 : p < 8) (h : ∀ M', MC N M' f A → MQu M M' → Q M' (fDries A f p)) : w_X12_driesBy N 0 p M Q := by
  have C' := C
  obtain ⟨ok, rfl, hR, hB, hL⟩ := C'
  exact a_dries hN hL hB ok hR.1.1 p0 p1 (fun S' ok' k' => h S' (C.of ok' k'.m) k'.q)
theorem y_all (hN : 1000 ≤ N) (C : MC N M f A) (h : ∀ M', MC N M' f A → MQu M M' → Q M' (fAll A f)) : w_X12_lightOfAll N 0 M Q := by
  have C' := C
  obtain ⟨ok, rfl, hR, hB, hL⟩ := C'
  exact a_all hN hL hB ok hR.1.1 (fun S' ok' k' => h S' (C.of ok' k'.m) k'.q)
/-- a loop upward -/
theorem lpUp {K : Nat} {W : Nat → Nat → mSt → Prop} {I : Nat → mSt → Prop} (hend : ∀ n T, I K T → W (n + 1) K T) (hstep : ∀ n k T, k < K → I k T → (∀ T', I (k + 1) T' → W n (k + 1) T') → W (n + 1) k T) {n : Nat} {T : mSt} (hn : K < n) (h : I 0 T) : W n 0 T := by
  have loop : ∀ (d k n : Nat) (T : mSt), k + d = K → d < n → I k T → W n k T := by
    intro d
    induction d with
    | zero =>
      intro k n T hk hn hI
      obtain ⟨n, rfl⟩ : ∃ m, n = m + 1 := ⟨n - 1, by omega⟩
      have e : k = K := by omega
      subst e
      exact hend n T hI
    | succ d ih =>
      intro k n T hk hn hI
      obtain ⟨n, rfl⟩ : ∃ m, n = m + 1 := ⟨n - 1, by omega⟩
      exact hstep n k T (by omega) hI (fun T' h' => ih (k + 1) n T' (by omega) (by omega) h')
  exact loop K 0 n T (by omega) hn h
end qs
