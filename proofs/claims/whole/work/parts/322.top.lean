set_option maxHeartbeats 400000
set_option maxRecDepth 20000
/-! ===== the pure part: ends of calls; the plain questions ===== -/
section helpers
variable {N : Nat} {S X M : mSt} {Q : mSt → Int → Prop} {p : Int}
theorem a_isIn {x a b : Int} (h1 : a ≤ x → x ≤ b → Q S 1) (h0 : (x < a ∨ b < x) → Q S 0) : w_X12_isIn N x a b S Q := ⟨fun q => h0 (Or.inl q), fun q => ⟨fun q2 => h0 (Or.inr q2), fun q2 => h1 q q2⟩⟩
theorem a_isPart (h1 : 0 ≤ p → p < 8 → Q S 1) (h0 : (p < 0 ∨ 8 ≤ p) → Q S 0) : w_X12_isPart N p S Q := by
  unfold w_X12_isPart
  exact a_isIn (fun a b => ⟨Or.inr rfl, h1 a (by omega)⟩) (fun a => ⟨Or.inl rfl, h0 (by omega)⟩)
theorem a_isSoap {c : Int} (hc : S 1 3 = c) (c0 : 0 ≤ c) (c6 : c ≤ 6) (h1 : 0 ≤ p → p < c → Q S 1) (h0 : (p < 0 ∨ c ≤ p) → Q S 0) : w_X12_isSoap N 0 p S Q := by
  unfold w_X12_isSoap
  simp only [Nat.zero_add]
  rw [hc, nm_of (by omega) (by omega)]
  exact a_isIn (fun a b => ⟨Or.inr rfl, h1 a (by omega)⟩) (fun a => ⟨Or.inl rfl, h0 (by omega)⟩)
variable {Q1 : mSt → Prop} {E : String → mSt → Prop}
theorem s_ckPart (h1 : 0 ≤ p → p < 8 → Q1 X) (h0 : (p < 0 ∨ 8 ≤ p) → E "java/lang/IndexOutOfBoundsException" X) : w_X11_checkPart N p X Q1 E := ⟨fun q => h0 (Or.inl q), fun q => ⟨fun q2 => h1 q q2, fun q2 => h0 (Or.inr q2)⟩⟩
theorem s_ckNum {a b : Int} (h1 : a ≤ p → p ≤ b → Q1 X) (h0 : (p < a ∨ b < p) → E "java/lang/IllegalArgumentException" X) : w_X11_checkNumber N p a b X Q1 E := ⟨fun q => h0 (Or.inl q), fun q => ⟨fun q2 => h1 q q2, fun q2 => h0 (Or.inr q2)⟩⟩
theorem s_ckSoap {qq : Nat} {c : Int} (hq : X 0 3 = qq) (hc : X qq 2 = c) (h1 : 0 ≤ p → p < c → Q1 X) (h0 : (p < 0 ∨ c ≤ p) → E "java/lang/IndexOutOfBoundsException" X) : w_X11_checkSoap N 0 p X Q1 E := by
  unfold w_X11_checkSoap
  refine ⟨fun q => h0 (Or.inl q), fun q q1 e1 => ?_⟩
  have : q1 = qq := by omega
  subst this
  rw [hc]
  exact ⟨fun q2 => h1 q q2, fun q2 => h0 (Or.inr q2)⟩
end helpers
section ends
variable {N n : Nat} {X X1 M M2 : mSt} {q q' lw lw' : Nat} {P : mPrg}
theorem IV.inv (I : IV N n X M q q' lw lw' P) : Inv N n X M := ⟨q, q', lw, lw', P, I⟩
theorem IV.next (I : IV N n X M q q' lw lw' P) {w : Int} (hX : XF q' lw X X1) (hM : MQu (mup M 0 0 w) M2) : Inv N (n + 1) X1 M2 := ⟨q, q', lw, lw', P, I.query (by omega) hX hM⟩
theorem fin0 (I : IV N n X M q q' lw lw' P) {v : Int} (hX : XF q' lw X X1) (hM : MQu (mup M 0 0 0) M2) : w_X12_thrown N 0 M2 (fun (M3 : mSt) (v3 : Int) => v3 = 0 ∧ ((0 : Int) = 0 → (mup X1 250 0 v) 250 0 = v) ∧ Inv N (n + 1) (mup X1 250 0 v) M3) := ⟨hM.2.1.trans (mup_same _ _ _ _), fun _ => mup_same _ _ _ _, I.next (hX.tr (XF.up (by decide))) hM⟩
theorem finE (I : IV N n X M q q' lw lw' P) {k v : Int} (hk : k ≠ 0) (hX : XF q' lw X X1) (hM : MQu (mup M 0 0 k) M2) : w_X12_thrown N 0 M2 (fun (M3 : mSt) (v3 : Int) => v3 = k ∧ (k = 0 → X1 250 0 = v) ∧ Inv N (n + 1) X1 M3) := ⟨hM.2.1.trans (mup_same _ _ _ _), fun q => absurd q hk, I.next hX hM⟩
theorem IV.next' (I : IV N n X M q q' lw lw' P) {w : Int} (hX : ∀ r, r ≠ lw + 5 → r ≠ lw + 6 → (r < q' ∨ q' + 10 < r) → r < 198 → X1 r = X r) (hz : X1 215 0 = X 215 0) (hM : MQw (mup M 0 0 w) M2) : Inv N (n + 1) X1 M2 := ⟨q, q', lw, lw', P, I.query' (by omega) hX hz hM⟩
theorem fin0' (I : IV N n X M q q' lw lw' P) {v : Int} (hX : ∀ r, r ≠ lw + 5 → r ≠ lw + 6 → (r < q' ∨ q' + 10 < r) → r < 198 → X1 r = X r) (hz : X1 215 0 = X 215 0) (hM : MQw (mup M 0 0 0) M2) : w_X12_thrown N 0 M2 (fun (M3 : mSt) (v3 : Int) => v3 = 0 ∧ ((0 : Int) = 0 → (mup X1 250 0 v) 250 0 = v) ∧ Inv N (n + 1) (mup X1 250 0 v) M3) := ⟨hM.2.1.trans (mup_same _ _ _ _), fun _ => mup_same _ _ _ _, I.next' (fun r a b c d => by rw [mup_ne _ _ _ (by omega)]; exact hX r a b c d) (by rw [mup_ne _ _ _ (by decide)]; exact hz) hM⟩
theorem thr0 (M : mSt) : (mup M 0 0 0) 0 0 = 0 := mup_same _ _ _ _
theorem bI01 (a : Int) : bI a = 0 ∨ bI a = 1 := by unfold bI; split <;> simp
end ends
section tops
variable {N n : Nat} {X M : mSt} {q q' lw lw' : Nat} {P : mPrg} {a1 a2 a3 a4 a5 : Int}
theorem k_4 (I : IV N n X M q q' lw lw' P) : wl_4 N a1 a2 a3 a4 a5 X M (fun X1 M1 => Inv N (n + 1) X1 M1) := by
  intro S1 e1
  have h2 := I.2.2.1.1
  refine ⟨by rw [e1, mup_i _ _ _ (by decide)]; exact h2, I.next (XF.rf _ _ _) (w := 0) (by rw [e1]; exact MQu.rf _)⟩
theorem TP.end (h : TP X M) {v a : Int} (a0 : 0 ≤ a) (a1 : a ≤ M 0 9) : TP (mup X 0 1 a) (mup (mup M 0 0 v) 0 9 a) := by
  obtain ⟨h1, h2, h3, h4⟩ := h
  unfold TP
  rw [mup_same, mup_same, mup_ne _ _ _ (by decide), mup_ne _ _ _ (by decide), mup_ne _ _ _ (by decide)]
  exact ⟨rfl, a0, by omega, fun k k0 k1 => h4 k k0 (by omega)⟩
theorem IV.tape (I : IV N n X M q q' lw lw' P) {v a : Int} (a0 : 0 ≤ a) (a1 : a ≤ M 0 9) : IV N n (mup X 0 1 a) (mup (mup M 0 0 v) 0 9 a) q q' lw lw' P := by
  obtain ⟨hK, hT2, hf, hL, hR, ⟨p1, p2, p3, p4⟩, hP, hG⟩ := I
  have hr : ∀ r, r ≠ 0 → (mup X 0 1 a) r = X r := fun r h => mup_ne _ _ _ h
  have hm : ∀ r, r ≠ 0 → (mup (mup M 0 0 v) 0 9 a) r = M r := fun r h => by rw [mup_ne _ _ _ h, mup_ne _ _ _ h]
  have hm0 : ∀ i, i ≠ 0 → i ≠ 9 → (mup (mup M 0 0 v) 0 9 a) 0 i = M 0 i := fun i h h' => by rw [mup_i _ _ _ h', mup_i _ _ _ h]
  have hK' := hK
  obtain ⟨k1, k2, k3, k4, k5, k6⟩ := hK'
  refine ⟨?_, hT2.end a0 a1, ?_, ?_, ?_, ⟨p1, ?_, ?_, ?_⟩, ?_, ?_⟩
  · unfold KP
    rw [mup_i _ _ _ (by decide), mup_i _ _ _ (by decide), mup_i _ _ _ (by decide), mup_i _ _ _ (by decide)]
    exact hK
  · exact hf.of (mup_i _ _ _ (by decide)) (hm0 13 (by decide) (by decide)) (fun b => b.of (hm0 16 (by decide) (by decide)) (hm0 17 (by decide) (by decide))) (by rw [hr 215 (by decide)])
  · rw [hm 1 (by decide)]; exact hL.of (fun r' a b => hr r' (by omega))
  · rw [hm 1 (by decide)]; exact hR
  · exact p2.of p1.1 (by rw [hr _ (by omega)]) (fun j a b i _ _ => by rw [hr _ (by omega)]) (fun i _ _ => by rw [hr _ (by omega)])
  · rw [hm 1 (by decide)]; exact p3
  · rw [hm 1 (by decide)]; exact p4
  · exact hP.of (Int.le_refl _) (hr 44 (by decide)) (fun r a b => hr r (by omega)) (hm0 7 (by decide) (by decide)) (hm 5 (by decide)) ⟨by rw [hm 1 (by decide)], by rw [hm 1 (by decide)]⟩
  · exact hG.of (Int.le_refl _) (fun r a b => hr r (by omega)) (hr 197 (by decide)) (hm0 4 (by decide) (by decide)) (hm 2 (by decide))
theorem IV.up (I : IV N n X M q q' lw lw' P) : Inv N (n + 1) X M := by
  have h := I.query (n' := ((n + 1 : Nat) : Int)) (v := M 0 0) (X' := X) (M' := M) (by omega) (XF.rf _ _ _) (by
    have e : mup M 0 0 (M 0 0) = M := by
      funext r i; unfold mup; split
      · next h => rw [h.1, h.2]
      · rfl
    rw [e]; exact MQu.rf _)
  exact ⟨q, q', lw, lw', P, h⟩
theorem k_1 (I : IV N n X M q q' lw lw' P) : wl_1 N a1 a2 a3 a4 a5 X M (fun X1 M1 => Inv N (n + 1) X1 M1) := by
  obtain ⟨t1, t2, t3, t4⟩ := I.2.1
  have no : (a1 < 0 ∨ M 0 9 < a1) → w_X12_end N 0 a1 M (fun (M2 : mSt) (v2 : Int) => (0 : Int) = v2 ∧ Inv N (n + 1) X M2) := by
    intro hb S1 e1
    have e9 : S1 0 9 = M 0 9 := by rw [e1, mup_i _ _ _ (by decide)]
    rw [e9]
    refine a_isIn (fun h0 h1 => by omega) (fun _ => ⟨fun h => absurd rfl h, fun _ => ⟨rfl, I.next (XF.rf _ _ _) (w := 0) (by rw [e1]; exact MQu.rf _)⟩⟩)
  refine ⟨fun h => no (Or.inl h), fun h => ⟨fun h2 X1 ex => ?_, fun h2 => no (Or.inr (by omega))⟩⟩
  intro S1 e1
  have e9 : S1 0 9 = M 0 9 := by rw [e1, mup_i _ _ _ (by decide)]
  rw [e9]
  refine a_isIn (fun h0 h1 => ⟨fun _ S3 e3 => ⟨rfl, ?_⟩, fun h => absurd h (by decide)⟩) (fun hb => by omega)
  rw [ex, e3, e1]
  exact (I.tape h (by omega)).up
end tops
section seeds
variable {N n : Nat} {X M : mSt} {q q' lw lw' : Nat} {P : mPrg} {a1 a2 a3 a4 a5 : Int}
theorem RLd.seed {S : mSt} {r : Nat} {f : mRow} {T v : Int} (h : RLd S r f T) : RLd (mup S r 10 v) r (fup f 12 v) T := by
  obtain ⟨h1, ⟨h2, h2a, h2b⟩, h3, h4, ⟨h5, h5a, h5b⟩, h6⟩ := h
  refine ⟨h1.seed, ⟨?_, ?_, ?_⟩, fun i i0 i1 => ?_, fun i i0 i1 => ?_, ⟨?_, ?_, fun ago j b0 b1 j0 j1 => ?_⟩, ?_⟩
  · rw [mup_i _ _ _ (by decide), fup_ne _ _ (by decide)]; exact h2
  · rw [mup_i _ _ _ (by decide), fup_ne _ _ (by decide)]; exact h2a
  · rw [mup_i _ _ _ (by decide), fup_ne _ _ (by decide)]; exact h2b
  · rw [fup_ne _ _ (by decide)] at i1; rw [mup_ne _ _ _ (by omega), fup_ne _ _ (by omega)]; exact h3 i i0 i1
  · rw [fup_ne _ _ (by decide)] at i1; rw [mup_ne _ _ _ (by omega), fup_ne _ _ (by omega)]; exact h4 i i0 i1
  · rw [mup_i _ _ _ (by decide), fup_ne _ _ (by decide)]; exact h5
  · rw [mup_i _ _ _ (by decide)]; exact h5a
  · rw [fup_ne _ _ (by decide)] at b1; rw [mup_i _ _ _ (by decide), mup_ne _ _ _ (by omega), fup_ne _ _ (by omega)]; exact h5b ago j b0 b1 j0 j1
  · rw [mup_i _ _ _ (by decide)]; exact h6
theorem RS.other {f : mRow} {s i v : Int} (h : RS f s) (hi : i < 70 ∨ 94 ≤ i) (s0 : 0 ≤ s) (s1 : s < 6) : RS (fup f i v) s := by
  unfold RS
  rw [fup_ne _ _ (by omega), fup_ne _ _ (by omega), fup_ne _ _ (by omega), fup_ne _ _ (by omega)]
  exact h
theorem PS.other {f : mRow} {i v : Int} (h : PS f) (hi : ∀ p, 0 ≤ p → p < 8 → i ≠ 14 + 6 * p + 5) : PS (fup f i v) := fun g g0 g1 => by
  obtain ⟨p, p0, p1, e⟩ := h g g0 g1
  exact ⟨p, p0, p1, by rw [fup_ne _ _ (Ne.symm (hi p p0 p1))]; exact e⟩
theorem RR.seed {f : mRow} {v : Int} (h : RR f) : RR (fup f 12 v) := by
  obtain ⟨⟨h1, h1a, h1b⟩, h2, h3, h4, h5, h6⟩ := h
  refine ⟨⟨h1.other (by decide) (by decide) (by decide), ?_, ?_⟩, ?_, ?_, ?_, fun s s0 s1 => ?_, h6.other (by omega)⟩
  · rw [fup_ne _ _ (by decide)]; exact h1a
  · rw [fup_ne _ _ (by decide)]; exact h1b
  · rw [fup_ne _ _ (by decide)]; exact h2
  · rw [fup_ne _ _ (by decide)]; exact h3
  · rw [fup_ne _ _ (by decide)]; exact h4
  · rw [fup_ne _ _ (by decide)] at s1; exact (h5 s s0 s1).other (by omega) s0 (by omega)
/-- an act that changes the laundry now, the row -/
theorem IV.act (I : IV N n X M q q' lw lw' P) {X' M' : mSt} {m : Nat} (hm : n ≤ m) (hX : ∀ r, (r < q ∨ q + 10 < r) → (r < 198 ∨ r = 215) → X' r = X r) (hL : RLd X' q (M' 1) m) (hR : RR (M' 1)) (h1 : ∀ k, k = 1 ∨ k = 2 ∨ 350 ≤ k → M' 1 k = M 1 k) (hM : ∀ r, r = 2 ∨ r = 5 ∨ r = 6 → M' r = M r) (h0 : M' 0 4 = M 0 4 ∧ M' 0 7 = M 0 7 ∧ M' 0 9 = M 0 9 ∧ M' 0 13 = M 0 13 ∧ (BB M → BB M')) : IV N m X' M' q q' lw lw' P := by
  obtain ⟨hK, hT2, hf, -, -, ⟨p1, p2, p3, p4⟩, hP, hG⟩ := I
  obtain ⟨m4, m7, m9, m13, mb⟩ := h0
  have hK' := hK
  obtain ⟨k1, k2, k3, k4, k5, k6⟩ := hK'
  have x0 : X' 0 = X 0 := hX 0 (by omega) (by omega)
  refine ⟨hK.of x0, ?_, ?_, hL, hR, ⟨p1, ?_, ?_, ?_⟩, ?_, ?_⟩
  · unfold TP
    rw [x0, m9, hM 6 (by omega), hX 1 (by omega) (by omega)]
    exact hT2
  · exact hf.of (by rw [x0]) m13 mb (by rw [hX 215 (by omega) (by omega)])
  · exact p2.of p1.1 (by rw [hX _ (by omega) (by omega)]) (fun j a b i _ _ => by rw [hX _ (by omega) (by omega)]) (fun i _ _ => by rw [hX _ (by omega) (by omega)])
  · exact p3.of (h1 1 (by omega)) (h1 2 (by omega)) (fun k hk _ => h1 k (by omega))
  · rw [h1 1 (by omega)]; exact p4
  · exact hP.of (by omega) (hX 44 (by omega) (by omega)) (fun r a b => hX r (by omega) (by omega)) m7 (hM 5 (by omega)) ⟨h1 1 (by omega), h1 2 (by omega)⟩
  · exact hG.of (by omega) (fun r a b => hX r (by omega) (by omega)) (hX 197 (by omega) (by omega)) m4 (hM 2 (by omega))
theorem k_40 (I : IV N n X M q q' lw lw' P) : wl_40 N a1 a2 a3 a4 a5 X M (fun X1 M1 => Inv N (n + 1) X1 M1) := by
  obtain ⟨hK, -, -, hL, hR, -⟩ := id I
  obtain ⟨k1, -, -, -, k5, -⟩ := hK
  intro q1 e1 v2 e2 q3 e3 S4 e4
  have hq : q1 = q := by omega
  have hq3 : q3 = q := by omega
  subst q1 q3
  intro S1 e1' v2' e2' S3 e3'
  have h12 : X q 10 = M 1 12 := hL.1.2.2.2.2.2
  refine ⟨by rw [e2, e2', e1', mup_ne _ _ _ (by decide), h12], q, q', lw, lw', P, ?_⟩
  have m1 : S3 1 = fup (M 1) 12 a1 := by rw [e3', Nat.zero_add, mup_1, e1', mup_ne _ _ _ (by decide)]
  refine I.act (Nat.le_succ n) (fun r hr _ => by rw [e4]; exact mup_ne _ _ _ (by omega)) ?_ (by rw [m1]; exact hR.seed) (fun k hk => by rw [m1]; exact fup_ne _ _ (by omega)) (fun r hr => by rw [e3', mup_ne _ _ _ (by omega), e1', mup_ne _ _ _ (by omega)]) ⟨?_, ?_, ?_, ?_, fun b => b.of ?_ ?_⟩
  · rw [m1, e4]; exact hL.seed.mono (by omega)
  all_goals rw [e3', mup_ne _ _ _ (by decide), e1', mup_i _ _ _ (by decide)]
end seeds
