set_option maxHeartbeats 400000
set_option maxRecDepth 20000
/-! ===== the pure part: acts are remembered ===== -/
def KQ (X X' : mSt) (q : Nat) : Prop := X' 44 1 = (X 44 1 + 1) % 12 ∧ X' 44 2 = min 12 (X 44 2 + 1) ∧ CPL X X' q (46 + 11 * (X 44 1).toNat) ∧ ∀ r, r ≠ 44 → (r < 46 + 11 * (X 44 1).toNat ∨ 46 + 11 * (X 44 1).toNat + 10 < r) → X' r = X r
def RQ (M M' : mSt) (a : Int) : Prop := (∀ r, r ≠ 0 → r ≠ 5 → M' r = M r) ∧ (∀ i, i ≠ 7 → M' 0 i = M 0 i) ∧ M' 0 7 = min 12 (a + 1) ∧ (∀ i k, 0 ≤ i → i < min 12 (a + 1) - 1 → 0 ≤ k → k < 350 → M' 5 (350 * i + k) = M 5 (350 * (if a = 12 then i + 1 else i) + k)) ∧ ∀ k, 0 ≤ k → k < 350 → M' 5 (350 * (min 12 (a + 1) - 1) + k) = M 1 k
section keeps
variable {N n : Nat} {X X' M M' : mSt} {q q' lw lw' : Nat} {f g : mRow} {A : mLaw} {P : mPrg} {a1 a2 a3 a4 a5 : Int} {T : Int} {p s : Int}
theorem s_keep {Q : mSt → Prop} (hok : okS X) (hq : q = 2 ∨ q = 13) (h1 : 0 ≤ X 44 1) (h2 : X 44 1 < 12) (h3 : 0 ≤ X 44 2) (h4 : X 44 2 ≤ 12) (h : ∀ X', okS X' → KQ X X' q → Q X') : w_X6_keep N 44 q X Q := by
  refine ⟨h1, h2, ?_⟩
  show w_X2_become N (46 + 11 * (X 44 1).toNat) q X _
  refine s_become2 (by omega) hok (fun S2 ok2 c2 k2 S3 e3 S4 e4 => ?_)
  have e44 : S2 44 = X 44 := k2 44 (by omega)
  rw [e44, nm_of (by omega) (by omega), iRem_nn (by unfold okI; omega) (by decide) (by omega) (by decide)] at e3
  have e44' : S3 44 2 = X 44 2 := by rw [e3, mup_i _ _ _ (by decide), e44]
  rw [e44', nm_of (by omega) (by omega), iMin_min] at e4
  have kk : ∀ r, r ≠ 44 → S4 r = S2 r := fun r hr => by rw [e4, mup_ne _ _ _ hr, e3, mup_ne _ _ _ hr]
  refine h S4 (by rw [e4, e3]; exact okS_up (okS_up ok2 (by unfold okI; omega)) (by unfold okI; omega)) ⟨by rw [e4, mup_i _ _ _ (by decide), e3, mup_same], by rw [e4, mup_same], ?_, fun r hr hr2 => (kk r hr).trans (k2 r hr2)⟩
  obtain ⟨⟨c1, c2a, c2b, c2c⟩, c3, c4, c5, c6⟩ := c2
  refine ⟨⟨fun j a b i c d => by rw [kk _ (by omega)]; exact c1 j a b i c d, by rw [kk _ (by omega)]; exact c2a, by rw [kk _ (by omega)]; exact c2b, by rw [kk _ (by omega)]; exact c2c⟩, by rw [kk _ (by omega)]; exact c3, fun i a b => by rw [kk _ (by omega)]; exact c4 i a b, fun i a b => by rw [kk _ (by omega)]; exact c5 i a b, fun i a b => by rw [kk _ (by omega)]; exact c6 i a b⟩
theorem x_keep {Q : mSt → Prop} (I : IV N n X M q q' lw lw' P) (okX : okS X) (h : ∀ X', okS X' → KQ X X' q → Q X') : w_X6_keep N 44 q X Q := by
  obtain ⟨⟨-, -, -, -, k5, -⟩, -, -, -, -, -, ⟨p1, p2, p3, -⟩, -⟩ := id I
  exact s_keep okX (by omega) p3.1 p3.2 (by omega) (by omega) h
theorem y_rem {Q : mSt → Prop} (hN : 5000 ≤ N) (I : IV N n X M q q' lw lw' P) {M0 : mSt} {w : Int} (e0 : M0 = mup M 0 0 w) (ow : okI w) (okM : okS M) (h : ∀ M', okS M' → RQ M0 M' (M 0 7) → Q M') : w_X12_remembers N 0 M0 Q := by
  obtain ⟨-, -, -, -, -, -, ⟨p1, p2, p3, -⟩, -⟩ := id I
  refine a_remembers hN (by rw [e0]; exact okS_up okM ow) (a := M 0 7) (by rw [e0, mup_i _ _ _ (by decide)]) p1.1 p1.2 (fun S' ok' r1 r2 r3 r4 r5 => h S' ok' ⟨r1, r2, r3, r4, r5⟩)
theorem keep_IV (I : IV N n X M q q' lw lw' P) {M0 : mSt} {w : Int} (e0 : M0 = mup M 0 0 w) (hX : KQ X X' q) (hM : RQ M0 M' (M 0 7)) : IV N n X' M' q q' lw lw' P := by
  obtain ⟨hK, hT2, hf, hL, hR, ⟨p1, p2, p3, p4⟩, ⟨b1, b2, b3, b4⟩, hG⟩ := I
  obtain ⟨x1, x2, x3, x4⟩ := hX
  obtain ⟨m1, m2, m3, m4, m5⟩ := hM
  have m1' : ∀ r, r ≠ 0 → r ≠ 5 → M' r = M r := fun r a b => by rw [m1 r a b, e0, mup_ne _ _ _ a]
  have m2' : ∀ i, i ≠ 0 → i ≠ 7 → M' 0 i = M 0 i := fun i a b => by rw [m2 i b, e0, mup_i _ _ _ a]
  have hK' := hK
  obtain ⟨k1, k2, k3, k4, k5, k6⟩ := hK'
  have x0 : X' 0 = X 0 := x4 0 (by omega) (by omega)
  have e1 : M' 1 = M 1 := m1' 1 (by decide) (by decide)
  have e05 : M0 5 = M 5 := by rw [e0, mup_ne _ _ _ (by decide)]
  have e01 : M0 1 = M 1 := by rw [e0, mup_ne _ _ _ (by decide)]
  refine ⟨hK.of x0, ?_, ?_, ?_, by rw [e1]; exact hR, ⟨p1, ?_, by rw [e1]; exact p3, by rw [e1]; exact p4⟩, ⟨by rw [m3]; omega, by rw [x2, m3, b2], by rw [x1]; omega, fun i i0 i1 => ?_⟩, ?_⟩
  · unfold TP
    rw [x0, m2' 9 (by decide) (by decide), m1' 6 (by decide) (by decide), x4 1 (by omega) (by omega)]
    exact hT2
  · exact hf.of (by rw [x0]) (m2' 13 (by decide) (by decide)) (fun b => b.of (m2' 16 (by decide) (by decide)) (m2' 17 (by decide) (by decide))) (by rw [x4 215 (by omega) (by omega)])
  · rw [e1]; exact hL.of (fun r a b => x4 r (by omega) (by omega))
  · exact p2.of p1.1 (by rw [x4 _ (by omega) (by omega)]) (fun j a b i _ _ => by rw [x4 _ (by omega) (by omega)]) (fun i _ _ => by rw [x4 _ (by omega) (by omega)])
  · rw [m3] at i1
    rw [x1, m3]
    by_cases hl : i = min 12 (M 0 7 + 1) - 1
    · -- the newest
      have eq : EQ (M 1) (aRow M' i) := fun k k0 k1 => by
        show M' 5 _ = _
        rw [hl, m5 k k0 k1, e01]
      have es : pSlot ((X 44 1 + 1) % 12) (min 12 (M 0 7 + 1)) i = 46 + 11 * (X 44 1).toNat := by unfold pSlot; omega
      rw [es]
      exact ⟨(hL.copy hR x3).congr hR eq, hR.congr eq, by rw [eq 1 (by decide) (by decide), e1], by rw [eq 2 (by decide) (by decide), e1]⟩
    · have ei : 0 ≤ (if M 0 7 = 12 then i + 1 else i) ∧ (if M 0 7 = 12 then i + 1 else i) < M 0 7 := by split <;> omega
      obtain ⟨g1, g2, g3, g4⟩ := b4 _ ei.1 ei.2
      have eq : EQ (aRow M (if M 0 7 = 12 then i + 1 else i)) (aRow M' i) := fun k k0 k1 => by
        show M' 5 _ = M 5 _
        rw [m4 i k i0 (by omega) k0 k1, e05]
      have es : pSlot ((X 44 1 + 1) % 12) (min 12 (M 0 7 + 1)) i = pSlot (X 44 1) (M 0 7) (if M 0 7 = 12 then i + 1 else i) := by
        unfold pSlot
        split <;> omega
      have en : pSlot (X 44 1) (M 0 7) (if M 0 7 = 12 then i + 1 else i) + 10 < 46 + 11 * (X 44 1).toNat ∨ 46 + 11 * (X 44 1).toNat + 10 < pSlot (X 44 1) (M 0 7) (if M 0 7 = 12 then i + 1 else i) := by
        unfold pSlot
        split <;> omega
      rw [es]
      refine ⟨(g1.of (fun r a b => x4 r ?_ (by omega))).congr g2 eq, g2.congr eq, by rw [eq 1 (by decide) (by decide), e1]; exact g3, by rw [eq 2 (by decide) (by decide), e1]; exact g4⟩
      unfold pSlot at a
      split at a <;> omega
  · exact hG.of (Int.le_refl _) (fun r a b => x4 r (by omega) (by omega)) (x4 197 (by omega) (by omega)) (m2' 4 (by decide) (by decide)) (m1' 2 (by decide) (by decide))
theorem RLd.moonly {S S' : mSt} {r : Nat} (h : RLd S r f T) (hm : RM S' (r + 1) g) (hr : ∀ r', (r' = r ∨ (r + 8 ≤ r' ∧ r' ≤ r + 10)) → S' r' = S r') (hg : ∀ k, (k < 9 ∨ k = 11 ∨ k = 12 ∨ 70 ≤ k) → g k = f k) : RLd S' r g T := by
  obtain ⟨⟨h1, h1a⟩, h2, h3, h4, ⟨h5, h5a, h5b⟩, h6⟩ := h
  refine ⟨⟨hm, ?_⟩, ?_, fun i i0 i1 => ?_, fun i i0 i1 => ?_, ⟨?_, ?_, fun ago j b0 b1 j0 j1 => ?_⟩, ?_⟩
  · rw [hr r (by omega), hg 5 (by decide), hg 6 (by decide), hg 7 (by decide), hg 8 (by decide), hg 12 (by decide)]; exact h1a
  · rw [hr r (by omega), hg 0 (by decide), hg 3 (by decide), hg 4 (by decide)]; exact h2
  · rw [hg 3 (by decide)] at i1; rw [hr _ (by omega), hg _ (by omega)]; exact h3 i i0 i1
  · rw [hg 4 (by decide)] at i1; rw [hr _ (by omega), hg _ (by omega)]; exact h4 i i0 i1
  · rw [hr r (by omega), hg 11 (by decide)]; exact h5
  · rw [hr r (by omega)]; exact h5a
  · rw [hg 11 (by decide)] at b1; rw [hr r (by omega), hr _ (by omega), hg _ (by omega)]; exact h5b ago j b0 b1 j0 j1
  · rw [hr r (by omega)]; exact h6
theorem RS.same {f g : mRow} {s : Int} (h : RS f s) (s0 : 0 ≤ s) (hg : ∀ k, 70 ≤ k → g k = f k) : RS g s := by
  unfold RS
  rw [hg _ (by omega), hg _ (by omega), hg _ (by omega), hg _ (by omega)]
  exact h
theorem RR.moonly (h : RR f) (hO : RO g) (hP : PS g) (hg : ∀ k, (k < 9 ∨ k = 11 ∨ k = 12 ∨ 70 ≤ k) → g k = f k) : RR g := by
  obtain ⟨⟨h1, h1a, h1b⟩, h2, h3, h4, h5, h6⟩ := h
  refine ⟨⟨hO, by rw [hg 5 (by decide)]; exact h1a, by rw [hg 6 (by decide)]; exact h1b⟩, by rw [hg 3 (by decide)]; exact h2, by rw [hg 4 (by decide)]; exact h3, by rw [hg 0 (by decide)]; exact h4, fun s s0 s1 => ?_, hP⟩
  rw [hg 3 (by decide)] at s1
  exact (h5 s s0 s1).same s0 (fun k hk => hg k (by omega))
theorem PS.pegs (h : PS f) (hg : ∀ p, 0 ≤ p → p < 8 → g (14 + 6 * p + 5) = f (14 + 6 * p + 5)) : PS g := fun x x0 x1 => by
  obtain ⟨p, p0, p1, e⟩ := h x x0 x1
  exact ⟨p, p0, p1, by rw [hg p p0 p1]; exact e⟩
/-- the model's row changes at a part: what IV.act wants -/
theorem act_M {M2 M3 : mSt} (e1 : M3 1 = g) (hr : ∀ r, r ≠ 1 → M3 r = M2 r) : (∀ r, r = 2 ∨ r = 5 ∨ r = 6 → M3 r = M2 r) ∧ M3 0 4 = M2 0 4 ∧ M3 0 7 = M2 0 7 ∧ M3 0 9 = M2 0 9 ∧ M3 0 13 = M2 0 13 ∧ (BB M2 → BB M3) := ⟨fun r h => hr r (by omega), by rw [hr 0 (by decide)], by rw [hr 0 (by decide)], by rw [hr 0 (by decide)], by rw [hr 0 (by decide)], fun b => b.of (by rw [hr 0 (by decide)]) (by rw [hr 0 (by decide)])⟩
theorem thr_end {M3 X3 : mSt} {v : Int} (h0 : M3 0 0 = 0) (hv : X3 250 0 = v) (hI : Inv N (n + 1) X3 M3) : w_X12_thrown N 0 M3 (fun (M3 : mSt) (v3 : Int) => v3 = 0 ∧ ((0 : Int) = 0 → X3 250 0 = v) ∧ Inv N (n + 1) X3 M3) := ⟨h0, fun _ => hv, hI⟩
theorem k_10 (hN : 5000 ≤ N) (I : IV N n X M q q' lw lw' P) (okX : okS X) (okM : okS M) : wl_10 N a1 a2 a3 a4 a5 X M (fun X1 M1 => Inv N (n + 1) X1 M1) := by
  obtain ⟨⟨hq, -, -, -, k5, -⟩, -, -, hL, hR, -⟩ := id I
  unfold wl_10 w_L_hang w_X11_hang w_X12_hang
  have hb01 := bI01 a2
  generalize bI a2 = b2 at hb01
  refine s_ckPart (fun p0 p1 q2 e2 => ?_) (fun hb => ⟨rfl, ?_⟩)
  · have := qe e2 hq
    subst q2
    refine x_keep I okX (fun X2 ok2 kq q4 e4 => ?_)
    have hq2 : X2 0 3 = q := by rw [kq.2.2.2 0 (by omega) (by omega)]; exact hq
    have := qe e4 hq2
    subst q4
    have hL2 : RLd X2 q (M 1) n := hL.of (fun r a b => kq.2.2.2 r (by omega) (by omega))
    obtain ⟨g1, g2, g3, g4, g5, g6, g7⟩ := hR.1.1.at p0 p1
    have hw : ∀ (v : Int) (X3 : mSt), (v = 0 ∨ v = 1) → (v = 0 ↔ M 1 (14 + 6 * a1 + 4) = b2) → okS X3 → RM X3 (q + 1) (fup (M 1) (14 + 6 * a1 + 4) b2) → (∀ r, r ≠ q + 1 → (r < 198 ∨ r = 215) → X3 r = X2 r) → X3 250 0 = v → w_X12_isPart N a1 M (fun (S1 : mSt) (v1 : Int) => ((v1 ≠ 0 → w_X12_hang_13 N (fun (M2 : mSt) (v2 : Int) => w_X12_thrown N 0 M2 (fun (M3 : mSt) (v3 : Int) => v3 = 0 ∧ ((0 : Int) = 0 → (X3 250 0) = (bI v2)) ∧ Inv N (n + 1) X3 M3)) 0 a1 b2 0 0 S1) ∧ (v1 = 0 → w_X12_hang_13 N (fun (M2 : mSt) (v2 : Int) => w_X12_thrown N 0 M2 (fun (M3 : mSt) (v3 : Int) => v3 = 0 ∧ ((0 : Int) = 0 → (X3 250 0) = (bI v2)) ∧ Inv N (n + 1) X3 M3)) 0 a1 b2 1 0 S1))) := by
      intro v X3 hv01 hv ok3 m3 k3 e250
      refine a_isPart (fun _ _ => ⟨fun _ => thrO ?_, fun hc => absurd hc (by decide)⟩) (fun hc => by omega)
      refine y_rem hN I rfl (by decide) okM (fun M2 okM2 rq => a_of p0 p1 (by omega) (by omega) ?_)
      have I2 := keep_IV I rfl kq rq
      have e1 : M2 1 = M 1 := by rw [rq.1 1 (by decide) (by decide), mup_ne _ _ _ (by decide)]
      have z0 : M2 0 0 = 0 := by rw [rq.2.1 0 (by decide), mup_same]
      rw [e1]
      have fin : ∀ w : Int, (w = 0 ∨ w = 1) → w = M 1 (14 + 6 * a1 + 4) → w_X12_hang_44 N (fun (M2 : mSt) (v2 : Int) => w_X12_thrown N 0 M2 (fun (M3 : mSt) (v3 : Int) => v3 = 0 ∧ ((0 : Int) = 0 → (X3 250 0) = (bI v2)) ∧ Inv N (n + 1) X3 M3)) 0 a1 b2 w M2 := by
        intro w hw01 ew v1 e5
        have fin2 : ∀ b : Int, b = b2 → w_X12_hang_57 N (fun (M2 : mSt) (v2 : Int) => w_X12_thrown N 0 M2 (fun (M3 : mSt) (v3 : Int) => v3 = 0 ∧ ((0 : Int) = 0 → (X3 250 0) = (bI v2)) ∧ Inv N (n + 1) X3 M3)) b2 v1 b 4 a1 0 M2 := by
          intro b eb
          subst eb
          refine a_has p0 p1 (by omega) (by omega) ?_
          have e3 : (mup M2 1 (14 + 6 * a1 + 4) b) 1 = fup (M 1) (14 + 6 * a1 + 4) b := by rw [mup_1, e1]
          have hI3 : Inv N (n + 1) X3 (mup M2 1 (14 + 6 * a1 + 4) b) := by
            have hg : ∀ k, (k < 9 ∨ k = 11 ∨ k = 12 ∨ 70 ≤ k) → fup (M 1) (14 + 6 * a1 + 4) b k = M 1 k := fun k hk => fup_ne _ _ (by omega)
            refine ⟨q, q', lw, lw', P, I2.act (Nat.le_succ n) (fun r hr hr2 => k3 r (by omega) hr2) ?_ ?_ (fun k hk => by rw [e3, e1]; exact fup_ne _ _ (by omega)) (fun r hr => mup_ne _ _ _ (by omega)) ⟨by rw [mup_ne _ _ _ (by decide)], by rw [mup_ne _ _ _ (by decide)], by rw [mup_ne _ _ _ (by decide)], by rw [mup_ne _ _ _ (by decide)], fun b => b.of (by rw [mup_ne _ _ _ (by decide)]) (by rw [mup_ne _ _ _ (by decide)])⟩⟩
            · rw [e3]; exact (hL2.moonly m3 (fun r' hr => k3 r' (by omega) (by omega)) hg).mono (by omega)
            · rw [e3]; exact hR.moonly (hR.1.1.hung p0 p1 hb01) (hR.2.2.2.2.2.pegs (fun p x y => fup_ne _ _ (by omega))) hg
          have h0 : (mup M2 1 (14 + 6 * a1 + 4) b) 0 0 = 0 := by rw [mup_ne _ _ _ (by decide)]; exact z0
          refine ⟨fun hc => ⟨h0, fun _ => ?_, hI3⟩, fun hc => ⟨h0, fun _ => ?_, hI3⟩⟩
          · rw [e250]
            have : v = 0 := hv.mpr (by omega)
            rw [this]; rfl
          · rw [e250]
            have : v ≠ 0 := fun hz => hc (by have := hv.mp hz; omega)
            have : v = 1 := by omega
            rw [this]; rfl
        exact ⟨fun hc => fin2 0 (by omega), fun hc => fin2 1 (by omega)⟩
      exact ⟨fun hc => fin 0 (Or.inl rfl) (by omega), fun hc => fin 1 (Or.inr rfl) (by omega)⟩
    have go : ∀ v : Int, (v = 0 ∨ v = 1) → (v = 0 ↔ M 1 (14 + 6 * a1 + 4) = b2) → ∀ (Q : mSt → Int → Prop) (E : String → mSt → Prop), (∀ X3, okS X3 → RM X3 (q + 1) (fup (M 1) (14 + 6 * a1 + 4) b2) → (∀ r, r ≠ q + 1 → X3 r = X2 r) → Q X3 v) → w_X11_hang_35 N Q E 0 a1 b2 v X2 := by
      intro v hv01 hv Q E hQ v1 e1 q5 e5
      have := qe e5 hq2
      subst q5
      subst e1
      rcases hb01 with hb | hb
      · refine s_setHung hb ⟨hv01, hQ _ (okS_up ok2 (bAnd_ok _ _)) ?_ (fun r hr => mup_ne _ _ _ hr)⟩
        rw [hb]; exact hL2.1.1.unhang p0 p1
      · refine s_setHung1 (by omega) ⟨hv01, hQ _ (okS_up ok2 (bOr_ok _ _)) ?_ (fun r hr => mup_ne _ _ _ hr)⟩
        rw [hb]; exact hL2.1.1.hang p0 p1
    have kk : ∀ X3 : mSt, (∀ r, r ≠ q + 1 → X3 r = X2 r) → ∀ v, ∀ r, r ≠ q + 1 → (r < 198 ∨ r = 215) → (mup X3 250 0 v) r = X2 r := fun X3 h v r hr hr2 => by rw [mup_ne _ _ _ (by omega)]; exact h r hr
    have mm : ∀ X3 : mSt, RM X3 (q + 1) (fup (M 1) (14 + 6 * a1 + 4) b2) → ∀ v, RM (mup X3 250 0 v) (q + 1) (fup (M 1) (14 + 6 * a1 + 4) b2) := fun X3 h v => h.of (fun r a b => mup_ne _ _ _ (by omega))
    refine s_isHung hL2.1.1 p0 p1 ⟨fun hc => ?_, fun hc => ?_⟩
    · refine go 0 (Or.inl rfl) (by omega) _ _ (fun X3 ok3 m3 k3 => ⟨fun _ S2 e2 => ?_, fun hc => absurd rfl hc⟩)
      subst e2
      exact hw 0 _ (Or.inl rfl) (by omega) (okS_up ok3 (by decide)) (mm _ m3 _) (kk _ k3 _) (mup_same _ _ _ _)
    · refine go 1 (Or.inr rfl) (by omega) _ _ (fun X3 ok3 m3 k3 => ⟨fun hc => absurd hc (by decide), fun _ S2 e2 => ?_⟩)
      subst e2
      exact hw 1 _ (Or.inr rfl) (by omega) (okS_up ok3 (by decide)) (mm _ m3 _) (kk _ k3 _) (mup_same _ _ _ _)
  · exact a_isPart (fun _ _ => by omega) (fun hc => ⟨fun hc => absurd rfl hc, fun _ => thrX (by decide) (finE I (by decide) (XF.rf _ _ _) (MQu.rf _))⟩)
end keeps
