set_option maxHeartbeats 400000
set_option maxRecDepth 20000
/-! ===== the pure part: part, soap, peg, due, count, log, led ===== -/
theorem st_nev : ∀ st : Nat, st < 32 → ∀ u : Nat, u < 32 → bAnd st (bXor u (-1)) = bAnd st (bXor u (-1)) := fun _ _ _ _ => rfl
theorem i32_1 (a b c : Int32) : (a &&& (b ^^^ (-1))) &&& (c ^^^ (-1)) = a &&& ((b ||| c) ^^^ (-1)) := by
  apply Int32.toBitVec_inj.mp
  simp only [Int32.toBitVec_and, Int32.toBitVec_xor, Int32.toBitVec_or]
  have : (-1 : Int32).toBitVec = BitVec.allOnes 32 := by decide
  rw [this]
  ext i hi
  simp only [BitVec.getElem_and, BitVec.getElem_xor, BitVec.getElem_or, BitVec.getElem_allOnes]
  cases a.toBitVec[i] <;> cases b.toBitVec[i] <;> cases c.toBitVec[i] <;> rfl
theorem i32_2 (a b : Int32) : a &&& ((a &&& (b ^^^ (-1))) ^^^ (-1)) = a &&& b := by
  apply Int32.toBitVec_inj.mp
  simp only [Int32.toBitVec_and, Int32.toBitVec_xor]
  have : (-1 : Int32).toBitVec = BitVec.allOnes 32 := by decide
  rw [this]
  ext i hi
  simp only [BitVec.getElem_and, BitVec.getElem_xor, BitVec.getElem_allOnes]
  cases a.toBitVec[i] <;> cases b.toBitVec[i] <;> rfl
theorem mI_1 : mI (-1) = (-1 : Int32) := rfl
theorem b_1 (a b c : Int) : bAnd (bAnd a (bXor b (-1))) (bXor c (-1)) = bAnd a (bXor (bOr b c) (-1)) := by
  unfold bAnd bXor bOr
  simp only [mI_of, mI_1]
  rw [i32_1]
theorem b_2 (a b : Int) : bAnd a (bXor (bAnd a (bXor b (-1))) (-1)) = bAnd a b := by
  unfold bAnd bXor
  simp only [mI_of, mI_1]
  rw [i32_2]
theorem b_3 (a : Int) (h : okI a) : bAnd a (bXor 0 (-1)) = a := by
  unfold bAnd bXor
  simp only [mI_of, mI_1]
  have : mI a &&& (mI 0 ^^^ (-1)) = mI a := by
    apply Int32.toBitVec_inj.mp
    have : (mI 0 ^^^ (-1) : Int32).toBitVec = BitVec.allOnes 32 := by decide
    rw [Int32.toBitVec_and, this, BitVec.and_allOnes]
  rw [this, mI_ok h]
/-- what the first k soaps take, of a set -/
def tkB (f : mRow) (set : Int) : Nat → Int
  | 0 => 0
  | k + 1 => if bt set k = 1 then bOr (tkB f set k) (f (70 + 4 * k + 3)) else tkB f set k
def fNever (f : mRow) (p : Int) : Int := bAnd (f (14 + 6 * p + 3)) (bXor (tkB f 63 (f 3).toNat) (-1))
def fShare (A : mLaw) (f : mRow) (p : Int) : Int := if fAll A f = 0 then 0 else iDiv (nm (100 * fLight A f p)) (fAll A f)
section asks2
variable {N n : Nat} {X M : mSt} {q q' lw lw' : Nat} {f : mRow} {A : mLaw} {P : mPrg} {a1 a2 a3 a4 a5 : Int} {T : Int} {Q : mSt → Int → Prop} {p s : Int}
theorem x_takenBy (hN : 5000 ≤ N) (C : CQ N X q q' lw lw' f A T) {set : Int} (h0 : 0 ≤ set) (h1 : set < 256) (h : Q X (tkB f set (f 3).toNat)) : w_X2_takenBy N q set X Q := by
  obtain ⟨-, -, hL, hR, -⟩ := id C
  have h3 := hR.2.1
  have e3 := hL.2.1.2.1
  intro v1 e1 v2 e2
  subst e1; subst e2
  refine lpUp (K := (f 3).toNat) (W := fun n k T => w_X2_takenBy_4 N Q (fun (x2_3 : Int) (S_3 : mSt) => Q S_3 x2_3) n q set (tkB f set k) k T) (I := fun k X' => X' = X) (fun n X' hI => ?_) (fun n k X' hk hI ih => ?_) (by omega) rfl
  · subst hI
    refine ⟨fun _ => h, fun hc => by rw [e3] at hc; omega⟩
  · subst hI
    refine ⟨fun hc => by rw [e3] at hc; omega, fun _ => ?_⟩
    rw [sh_bt' h0 h1 (by omega) (by omega)]
    refine ⟨fun hb v1 e1 => ?_, fun hb => x_takes C (by omega) (by omega) (fun v2 e2 v1 e1 => ?_)⟩
    · rw [nx8 (by omega)] at e1
      subst e1
      have eb : tkB f set k = tkB f set (k + 1) := by
        show _ = if _ then _ else _
        rw [if_neg hb]
      rw [eb]; exact ih X' rfl
    · rw [nx8 (by omega)] at e1
      subst e1
      have eb : v2 = tkB f set (k + 1) := by
        rw [e2]
        show _ = if _ then _ else _
        rw [if_pos hb]
      rw [eb]; exact ih X' rfl
theorem y_never (hN : 5000 ≤ N) {S : mSt} (h1 : S 1 = f) (hR : RR f) (p0 : 0 ≤ p) (p1 : p < 8) (h : Q S (fNever f p)) : w_X12_never N 0 p S Q := by
  have h3 := hR.2.1
  obtain ⟨g1, g2, g3, g4, g5, g6, g7⟩ := hR.1.1.at p0 p1
  unfold w_X12_never
  refine a_of p0 p1 (by omega) (by omega) (fun v2 e2 v3 e3 => ?_)
  rw [h1] at e2
  subst e3
  have e0 : v2 = bAnd (f (14 + 6 * p + 3)) (bXor (tkB f 63 0) (-1)) := by
    rw [e2]; exact (b_3 _ (by unfold okI; omega)).symm
  rw [e0]
  refine lpUp (K := (f 3).toNat) (W := fun n k T => w_X12_never_9 N Q (fun (x2_4 : Int) (S_4 : mSt) => Q S_4 x2_4) n 0 (bAnd (f (14 + 6 * p + 3)) (bXor (tkB f 63 k) (-1))) k T) (I := fun k X' => X' = S) (fun n X' hI => ?_) (fun n k X' hk hI ih => ?_) (by omega) rfl
  · subst hI
    refine ⟨fun _ => h, fun hc => by rw [Nat.zero_add, h1] at hc; omega⟩
  · subst hI
    refine ⟨fun hc => by rw [Nat.zero_add, h1] at hc; omega, fun _ => a_ofSoap (by omega) (by omega) (by omega) (by omega) (fun v2 e2 v3 e3 => ?_)⟩
    rw [nx8 (by omega)] at e3
    subst e3
    rw [h1, b_1] at e2
    have hb : bt 63 k = 1 := by
      have : ∀ k : Nat, k < 6 → bt 63 k = 1 := by decide
      exact this k (by omega)
    have eb : bOr (tkB f 63 k) (f (70 + 4 * k + 3)) = tkB f 63 (k + 1) := by
      show _ = if _ then _ else _
      rw [if_pos hb]
    rw [eb] at e2
    rw [e2]; exact ih X' rfl
theorem x_share (hN : 5000 ≤ N) (C : CQ N X q q' lw lw' f A T) (p0 : 0 ≤ p) (p1 : p < 8) (h : ∀ X', CQ N X' q q' lw lw' f A T → XF q' lw X X' → Q X' (fShare A f p)) : w_X11_shareOf N 0 p X Q := by
  obtain ⟨-, ⟨k1, -, k3, -⟩, -⟩ := id C
  unfold fShare at h
  intro q1 e1 q2 e2
  have := qe e1 k3
  have := qe e2 k1
  subst q1 q2
  refine x_all (by omega) C (fun X2 C2 F2 v4 e4 => ⟨fun hc q5 e5 q6 e6 => ?_, fun hc => ?_⟩)
  · obtain ⟨-, ⟨k1, -, k3, -⟩, -⟩ := id C2
    have := qe e5 k3
    have := qe e6 k1
    subst q5 q6
    refine x_light C2 p0 p1 (fun X3 C3 F3 => ⟨hc, ?_⟩)
    rw [if_neg (by omega)] at h
    rw [e4, Int.mul_comm]
    exact h X3 C3 (F2.tr F3)
  · rw [if_pos (by omega)] at h
    exact h X2 C2 F2
theorem y_share (hN : 5000 ≤ N) (C : MC N M f A) (p0 : 0 ≤ p) (p1 : p < 8) (h : ∀ M', MC N M' f A → MQu M M' → Q M' (fShare A f p)) : w_X12_share N 0 p M Q := by
  unfold fShare at h
  refine y_all (by omega) C (fun M2 C2 F2 v2 e2 => ⟨fun hc => ?_, fun hc => ?_⟩)
  · refine y_light (by omega) C2 p0 p1 (fun M3 C3 F3 => ⟨hc, ?_⟩)
    rw [if_neg (by omega)] at h
    rw [e2]
    exact h M3 C3 (F2.tr F3)
  · rw [if_pos (by omega)] at h
    exact h M2 C2 F2
theorem k_5 (hN : 5000 ≤ N) (I : IV N n X M q q' lw lw' P) (okX : okS X) (okM : okS M) : wl_5 N a1 a2 a3 a4 a5 X M (fun X1 M1 => Inv N (n + 1) X1 M1) := by
  obtain ⟨⟨hq, -, hlw, -⟩, -, -, hL, hR, -⟩ := id I
  have C := I.CQ (by omega) okX
  have D := (I.MC okM).thr (v := 0) (by decide)
  unfold wl_5 w_L_part w_X11_part w_X12_part_
  refine s_ckPart (fun p0 p1 q2 e2 => ?_) (fun hb => Or.inl ⟨rfl, ?_⟩)
  · have := qe e2 hq
    subst q2
    obtain ⟨e1, e2, e3, e4, e5, e6, e7⟩ := hL.1.1.1 a1 p0 p1
    -- the model's way down
    have md : ∀ (X' : mSt) (v : Int), XF q' lw X X' → 0 ≤ a2 → a2 ≤ 10 → (∀ Q : mSt → Int → Prop, (∀ M', MC N M' (M 1) (AP P) → MQu (mup M 0 0 0) M' → Q M' v) → w_X12_part__27 N Q 0 a1 a2 0 0 M) → ∀ S2 : mSt, S2 = mup X' 250 0 v → w_X12_isPart N a1 M (fun (S1 : mSt) (v1 : Int) => ((v1 ≠ 0 → w_X12_isIn N a2 0 10 S1 (fun (S2' : mSt) (v2 : Int) => ((v2 ≠ 0 → w_X12_part__27 N (fun (M2 : mSt) (v2 : Int) => w_X12_thrown N 0 M2 (fun (M3 : mSt) (v3 : Int) => v3 = 0 ∧ ((0 : Int) = 0 → (S2 250 0) = v2) ∧ Inv N (n + 1) S2 M3)) 0 a1 a2 0 0 S2') ∧ (v2 = 0 → w_X12_part__27 N (fun (M2 : mSt) (v2 : Int) => w_X12_thrown N 0 M2 (fun (M3 : mSt) (v3 : Int) => v3 = 0 ∧ ((0 : Int) = 0 → (S2 250 0) = v2) ∧ Inv N (n + 1) S2 M3)) 0 a1 a2 2 0 S2')))) ∧ (v1 = 0 → w_X12_part__27 N (fun (M2 : mSt) (v2 : Int) => w_X12_thrown N 0 M2 (fun (M3 : mSt) (v3 : Int) => v3 = 0 ∧ ((0 : Int) = 0 → (S2 250 0) = v2) ∧ Inv N (n + 1) S2 M3)) 0 a1 a2 1 0 S1))) := by
      intro X' v F' b0 b1 hw S2 e2
      subst e2
      exact a_isPart (fun _ _ => ⟨fun _ => a_isIn (fun _ _ => ⟨fun _ => hw _ (fun M' D' G' => fin0 I F' G'), fun hc => absurd hc (by decide)⟩) (fun hc => by omega), fun hc => absurd hc (by decide)⟩) (fun hc => by omega)
    have ofw : ∀ w v, a2 = w → 0 ≤ w → w < 6 → v = M 1 (14 + 6 * a1 + w) → ∀ Q : mSt → Int → Prop, (∀ M', MC N M' (M 1) (AP P) → MQu (mup M 0 0 0) M' → Q M' v) → w_X12_part__27 N Q 0 a1 a2 0 0 M := by
      intro w v ew w0 w1 ev Q hQ
      subst ew
      refine thrO ⟨fun hc => by omega, fun _ => a_of p0 p1 w0 w1 ?_⟩
      have := hQ _ D (MQu.rf _)
      rw [ev] at this
      rw [D.2.1]; exact this
    refine ⟨fun h => ⟨p0, p1, md _ _ (XF.rf _ _ _) (by omega) (by omega) (ofw 0 _ h (by omega) (by omega) (by rw [e1]; congr 1; omega))⟩, fun h => ⟨p0, p1, md _ _ (XF.rf _ _ _) (by omega) (by omega) (ofw 1 _ h (by omega) (by omega) e2)⟩, fun h => ⟨p0, p1, md _ _ (XF.rf _ _ _) (by omega) (by omega) (ofw 2 _ h (by omega) (by omega) e3)⟩, fun h => ⟨p0, p1, md _ _ (XF.rf _ _ _) (by omega) (by omega) (ofw 3 _ h (by omega) (by omega) e4)⟩, fun h => ?_, fun h => ⟨p0, p1, md _ _ (XF.rf _ _ _) (by omega) (by omega) (ofw 5 _ h (by omega) (by omega) e6)⟩, fun h q9 e9 => ?_, fun h q9 e9 => ?_, fun h q9 e9 => ?_, fun h => ?_, fun h => ?_, fun h => ?_⟩
    · refine s_isHung hL.1.1 p0 p1 ⟨fun h2 => md _ _ (XF.rf _ _ _) (by omega) (by omega) (ofw 4 _ h (by omega) (by omega) h2.symm), fun h2 => md _ _ (XF.rf _ _ _) (by omega) (by omega) (ofw 4 _ h (by omega) (by omega) ?_)⟩
      have := (hR.1.1.at p0 p1).2.2.2.2.1
      omega
    · have := qe e9 hlw
      subst q9
      refine x_light C p0 p1 (fun X2 C2 F2 => md _ _ F2 (by omega) (by omega) (fun Q hQ => thrO ⟨fun _ => ⟨fun hc => by omega, fun _ => y_light (by omega) D p0 p1 hQ⟩, fun hc => by omega⟩))
    · have := qe e9 hlw
      subst q9
      refine x_white C p0 p1 (fun X2 C2 F2 => md _ _ F2 (by omega) (by omega) (fun Q hQ => thrO ⟨fun _ => ⟨fun _ => ⟨fun hc => by omega, fun _ => y_white (by omega) D p0 p1 hQ⟩, fun hc => by omega⟩, fun hc => by omega⟩))
    · have := qe e9 hlw
      subst q9
      refine x_dries C p0 p1 (fun X2 C2 F2 => md _ _ F2 (by omega) (by omega) (fun Q hQ => thrO ⟨fun _ => ⟨fun _ => ⟨fun _ => ⟨fun hc => by omega, fun _ => y_dries (by omega) D p0 p1 hQ⟩, fun hc => by omega⟩, fun hc => by omega⟩, fun hc => by omega⟩))
    · refine x_share hN C p0 p1 (fun X2 C2 F2 => md _ _ F2 (by omega) (by omega) (fun Q hQ => thrO ⟨fun _ => ⟨fun _ => ⟨fun _ => ⟨fun _ => ⟨fun hc => by omega, fun _ => y_share hN D p0 p1 hQ⟩, fun hc => by omega⟩, fun hc => by omega⟩, fun hc => by omega⟩, fun hc => by omega⟩))
    · refine ⟨p0, p1, fun q17 e17 => ?_⟩
      have := qe e17 hq
      subst q17
      refine x_takenBy hN C (by decide) (by decide) ?_
      refine md _ _ (XF.rf _ _ _) (by omega) (by omega) (fun Q hQ => thrO ⟨fun _ => ⟨fun _ => ⟨fun _ => ⟨fun _ => ⟨fun _ => y_never hN D.2.1 hR p0 p1 ?_, fun hc => by omega⟩, fun hc => by omega⟩, fun hc => by omega⟩, fun hc => by omega⟩, fun hc => by omega⟩)
      have := hQ _ D (MQu.rf _)
      rw [e4] at this
      exact this
    · refine Or.inr ⟨rfl, a_isPart (fun _ _ => ⟨fun _ => a_isIn (fun _ _ => by omega) (fun _ => ⟨fun hc => absurd rfl hc, fun _ => thrX (by decide) (finE I (by decide) (XF.rf _ _ _) (MQu.rf _))⟩), fun hc => absurd hc (by decide)⟩) (fun hc => by omega)⟩
  · exact a_isPart (fun _ _ => by omega) (fun hc => ⟨fun hc => absurd rfl hc, fun _ => thrX (by decide) (finE I (by decide) (XF.rf _ _ _) (MQu.rf _))⟩)
end asks2
