set_option maxHeartbeats 400000
set_option maxRecDepth 20000
/-! ===== the pure part: the fewest soaps ===== -/
theorem i32_3 (a b : Int32) : (a &&& b) &&& (b ^^^ (-1)) = 0 := by
  apply Int32.toBitVec_inj.mp
  simp only [Int32.toBitVec_and, Int32.toBitVec_xor]
  have : (-1 : Int32).toBitVec = BitVec.allOnes 32 := by decide
  have h0 : (0 : Int32).toBitVec = 0#32 := by decide
  rw [this, h0]
  ext i hi
  simp only [BitVec.getElem_and, BitVec.getElem_xor, BitVec.getElem_allOnes, BitVec.getElem_zero]
  cases a.toBitVec[i] <;> cases b.toBitVec[i] <;> rfl
theorem b_4 (a b : Int) : bAnd (bAnd a b) (bXor b (-1)) = 0 := by
  unfold bAnd bXor
  simp only [mI_of, mI_1]
  rw [i32_3]
  rfl
theorem and31 : ∀ x : Nat, x < 32 → bAnd x 31 = x := by decide +kernel
theorem shl_c : ∀ c : Nat, c < 7 → 1 ≤ bShl 1 c ∧ bShl 1 c ≤ 64 ∧ ∀ k : Nat, k < c → bt (bShl 1 c - 1) k = 1 := by decide +kernel
theorem pc_6 : ∀ k : Nat, k < 64 → pc k < 7 := by decide +kernel
section soaps2
variable {N n : Nat} {X M : mSt} {q q' lw lw' : Nat} {f g : mRow} {A : mLaw} {P : mPrg} {a1 a2 a3 a4 a5 : Int} {T : Int} {p s d x : Int} {Q : mSt → Int → Prop}
theorem tkB_full (hc : 0 ≤ f 3 ∧ f 3 ≤ 6) : ∀ k : Nat, k ≤ (f 3).toNat → tkB f (bShl 1 (f 3) - 1) k = tkB f 63 k
  | 0, _ => rfl
  | k + 1, h => by
    have ih := tkB_full hc k (by omega)
    have hs := shl_c (f 3).toNat (by omega)
    rw [show (((f 3).toNat : Nat) : Int) = f 3 by omega] at hs
    have h1 := hs.2.2 k (by omega)
    have h2 : bt 63 k = 1 := by
      have : ∀ k : Nat, k < 6 → bt 63 k = 1 := by decide
      exact this k (by omega)
    unfold tkB
    rw [if_pos h1, if_pos h2, ih]
/-- sets of soaps that take what can be taken -/
noncomputable def spM (w : Int) (f : mRow) : Nat → Int
  | 0 => -1
  | k + 1 => if bAnd w (bXor (tkB f k (f 3).toNat) (-1)) = 0 ∧ (spM w f k = -1 ∨ pc k < pc (spM w f k)) then k else spM w f k
theorem spM_ok (w : Int) (f : mRow) : ∀ k : Nat, spM w f k = -1 ∨ (0 ≤ spM w f k ∧ spM w f k < k)
  | 0 => Or.inl rfl
  | k + 1 => by
    have := spM_ok w f k
    unfold spM
    split
    · exact Or.inr ⟨by omega, by omega⟩
    · omega
theorem spM_end (hc : 0 ≤ f 3 ∧ f 3 ≤ 6) (st : Int) : spM (bAnd st (tkB f 63 (f 3).toNat)) f (bShl 1 (f 3)).toNat ≠ -1 := by
  have hs := shl_c (f 3).toNat (by omega)
  rw [show (((f 3).toNat : Nat) : Int) = f 3 by omega] at hs
  obtain ⟨K, hK⟩ : ∃ K, (bShl 1 (f 3)).toNat = K + 1 := ⟨(bShl 1 (f 3)).toNat - 1, by omega⟩
  have eK : ((K : Nat) : Int) = bShl 1 (f 3) - 1 := by omega
  rw [hK]
  have hsat : bAnd (bAnd st (tkB f 63 (f 3).toNat)) (bXor (tkB f K (f 3).toNat) (-1)) = 0 := by
    rw [eK, tkB_full hc _ (Nat.le_refl _)]
    exact b_4 _ _
  unfold spM
  by_cases h1 : spM (bAnd st (tkB f 63 (f 3).toNat)) f K = -1
  · rw [if_pos ⟨hsat, Or.inl h1⟩]; omega
  · split
    · omega
    · exact h1
theorem x_soaps {S : mSt} {E : String → mSt → Prop} {st : Int} (hN : 5000 ≤ N) (C : CQ N S q q' lw lw' f A T) (h : Q S (spM (bAnd st (tkB f 63 (f 3).toNat)) f (bShl 1 (f 3)).toNat)) : w_X11_soaps_34 N Q E (fun (x3_10 : Int) (S_10 : mSt) => Q S_10 x3_10) N 0 (bAnd st (tkB f 63 (f 3).toNat)) 0 7 0 S := by
  obtain ⟨-, ⟨k1, -⟩, hL, hR, -⟩ := id C
  have hc := hR.2.1
  have hs := shl_c (f 3).toNat (by omega)
  rw [show (((f 3).toNat : Nat) : Int) = f 3 by omega] at hs
  have hend := spM_end hc st
  generalize bAnd st (tkB f 63 (f 3).toNat) = w at h hend
  refine lpUp (K := (bShl 1 (f 3)).toNat) (W := fun n' k T' => w_X11_soaps_34 N Q E (fun (x3_10 : Int) (S_10 : mSt) => Q S_10 x3_10) n' 0 w (if spM w f k = -1 then 0 else spM w f k) (if spM w f k = -1 then 7 else pc (spM w f k)) k T') (I := fun k T' => T' = S) (fun n' T' hI => ?_) (fun n' k T' hk hI ih => ?_) (by omega) rfl
  · subst hI
    intro q1 e1
    have := qe e1 k1
    subst q1
    rw [hL.2.1.2.1]
    refine ⟨fun _ => ?_, fun hc => by omega⟩
    rw [if_neg hend]
    exact h
  · subst hI
    intro q1 e1
    have := qe e1 k1
    subst q1
    rw [hL.2.1.2.1]
    have hm := spM_ok w f k
    have hu : spM w f (k + 1) = if bAnd w (bXor (tkB f k (f 3).toNat) (-1)) = 0 ∧ (spM w f k = -1 ∨ pc k < pc (spM w f k)) then (k : Int) else spM w f k := rfl
    have ih' := ih T' rfl
    have hp6 := pc_6 k (by omega)
    have pass : spM w f (k + 1) = spM w f k → w_X11_soaps_96 N Q E (w_X11_soaps_34 N Q E (fun (x3_10 : Int) (S_10 : mSt) => Q S_10 x3_10) n') 0 w (if spM w f k = -1 then 0 else spM w f k) (if spM w f k = -1 then 7 else pc (spM w f k)) k T' := by
      intro e2 v1 e1
      rw [nx8 (by omega)] at e1
      subst e1
      rw [e2] at ih'
      exact ih'
    refine ⟨fun hc => by omega, fun _ q2 e2 => ?_⟩
    have := qe e2 k1
    subst q2
    refine x_takenBy hN C (by omega) (by omega) ⟨fun hc v1 e1 => ⟨fun _ => pass ?_, fun hc => absurd e1 hc⟩, fun hc v1 e1 => ⟨fun hc => by omega, fun _ => s_bitCount (by omega) (by omega) ⟨fun hp => pass ?_, fun hp => s_bitCount (by omega) (by omega) (fun v4 e4 v5 e5 v1 e1 => ?_)⟩⟩⟩
    · rw [hu, if_neg (fun z => hc z.1)]
    · rw [hu, if_neg]
      intro z
      rcases z.2 with h1 | h1
      · rw [if_pos h1] at hp; omega
      · by_cases h2 : spM w f k = -1
        · rw [if_pos h2] at hp; omega
        · rw [if_neg h2] at hp; omega
    · rw [nx8 (by omega)] at e1
      subst e1
      have hz : bAnd w (bXor (tkB f k (f 3).toNat) (-1)) = 0 ∧ (spM w f k = -1 ∨ pc k < pc (spM w f k)) := by
        refine ⟨hc, ?_⟩
        by_cases h2 : spM w f k = -1
        · exact Or.inl h2
        · rw [if_neg h2] at hp; exact Or.inr hp
      rw [if_pos hz] at hu
      rw [hu, if_neg (by omega), if_neg (by omega)] at ih'
      rw [e4, e5]
      exact ih'
theorem y_soaps {S : mSt} {w : Int} (hN : 5000 ≤ N) (h1 : S 1 = f) (hc : 0 ≤ f 3 ∧ f 3 ≤ 6) (w0 : 0 ≤ w) (w1 : w < 32) (h : Q S (spM w f (bShl 1 (f 3)).toNat)) : w_X12_soaps_45 N Q (fun (x3_7 : Int) (S_7 : mSt) => Q S_7 x3_7) N 0 w (-1) 0 S := by
  have hs := shl_c (f 3).toNat (by omega)
  rw [show (((f 3).toNat : Nat) : Int) = f 3 by omega] at hs
  have e3 : S (0 + 1) 3 = f 3 := by rw [Nat.zero_add, h1]
  refine lpUp (K := (bShl 1 (f 3)).toNat) (W := fun n' k T' => w_X12_soaps_45 N Q (fun (x3_7 : Int) (S_7 : mSt) => Q S_7 x3_7) n' 0 w (spM w f k) k T') (I := fun k T' => T' = S) (fun n' T' hI => ?_) (fun n' k T' hk hI ih => ?_) (by omega) rfl
  · subst hI
    refine ⟨fun _ => h, fun hc => by rw [e3] at hc; omega⟩
  · subst hI
    have hm := spM_ok w f k
    have hu : spM w f (k + 1) = if bAnd w (bXor (tkB f k (f 3).toNat) (-1)) = 0 ∧ (spM w f k = -1 ∨ pc k < pc (spM w f k)) then (k : Int) else spM w f k := rfl
    have ih' := ih T' rfl
    have pass : spM w f (k + 1) = spM w f k → w_X12_soaps_135 N Q (w_X12_soaps_45 N Q (fun (x3_7 : Int) (S_7 : mSt) => Q S_7 x3_7) n') 0 w (spM w f k) k T' := by
      intro e2 v1 e1
      rw [nx8 (by omega)] at e1
      subst e1
      rw [e2] at ih'
      exact ih'
    have take : spM w f (k + 1) = k → w_X12_soaps_132 N Q (w_X12_soaps_45 N Q (fun (x3_7 : Int) (S_7 : mSt) => Q S_7 x3_7) n') 0 w k T' := by
      intro e2 v1 e1 v2 e4
      rw [nx8 (by omega)] at e4
      subst e4
      rw [e2] at ih'
      rw [e1]
      exact ih'
    refine ⟨fun hc => by rw [e3] at hc; omega, fun _ v1 e1 v2 e2 => ?_⟩
    subst e2
    have e0 : v1 = bAnd w (bXor (tkB f k 0) (-1)) := by rw [e1]; exact (b_3 w (by unfold okI; omega)).symm
    rw [e0]
    refine lpUp (K := (f 3).toNat) (W := fun n'' j T'' => w_X12_soaps_64 N Q (fun (r0_3 : Nat) (x2_3 : Int) (x3_3 : Int) (x4_3 : Int) (x5_3 : Int) (S_3 : mSt) => ((x5_3 ≠ 0 → w_X12_soaps_135 N Q (w_X12_soaps_45 N Q (fun (x3_7 : Int) (S_7 : mSt) => Q S_7 x3_7) n') r0_3 x2_3 x3_3 x4_3 S_3) ∧ (x5_3 = 0 → ((x3_3 = (-1) → w_X12_soaps_132 N Q (w_X12_soaps_45 N Q (fun (x3_7 : Int) (S_7 : mSt) => Q S_7 x3_7) n') r0_3 x2_3 x4_3 S_3) ∧ (x3_3 ≠ (-1) → w_X12_bits N x4_3 S_3 (fun (S4 : mSt) (v4 : Int) => w_X12_bits N x3_3 S4 (fun (S5 : mSt) (v5 : Int) => ((v5 ≤ v4 → w_X12_soaps_135 N Q (w_X12_soaps_45 N Q (fun (x3_7 : Int) (S_7 : mSt) => Q S_7 x3_7) n') r0_3 x2_3 x3_3 x4_3 S5) ∧ (v4 < v5 → w_X12_soaps_132 N Q (w_X12_soaps_45 N Q (fun (x3_7 : Int) (S_7 : mSt) => Q S_7 x3_7) n') r0_3 x2_3 x4_3 S5))))))))) n'' 0 w (spM w f k) k (bAnd w (bXor (tkB f k j) (-1))) j T'') (I := fun j T'' => T'' = T') (fun n'' T'' hJ => ?_) (fun n'' j T'' hj hJ ihj => ?_) (by omega) rfl
    · subst hJ
      refine ⟨fun _ => ⟨fun hz => pass ?_, fun hz => ⟨fun h1' => take ?_, fun h1' => s_bits (by omega) (by omega) (by omega) (s_bits (by omega) (by omega) (by omega) ⟨fun hp => pass ?_, fun hp => take ?_⟩)⟩⟩, fun hc => by rw [e3] at hc; omega⟩
      · rw [hu, if_neg (fun z => hz z.1)]
      · rw [hu, if_pos ⟨hz, Or.inl h1'⟩]
      · rw [hu, if_neg (fun z => by have := z.2; omega)]
      · rw [hu, if_pos ⟨hz, Or.inr hp⟩]
    · subst hJ
      refine ⟨fun hc => by rw [e3] at hc; omega, fun _ => ?_⟩
      unfold w_X12_isOf
      rw [sh_bt' (by omega) (by omega) (by omega) (by omega)]
      refine ⟨fun hb => ⟨fun _ v1 e1 v2 e2 => ?_, fun hc => absurd rfl hc⟩, fun hb => ⟨fun hc => absurd hc (by decide), fun _ => a_ofSoap (by omega) (by omega) (by omega) (by omega) (fun v1 e1 v2 e2 => ?_)⟩⟩
      · rw [nx8 (by omega)] at e2
        have hb2 := bAnd_le' (bXor (tkB f k j) (-1)) (m := w) (by unfold okI; omega) w0
        have h31 := and31 (bAnd w (bXor (tkB f k j) (-1))).toNat (by omega)
        rw [show (((bAnd w (bXor (tkB f k j) (-1))).toNat : Nat) : Int) = bAnd w (bXor (tkB f k j) (-1)) by omega] at h31
        have e5 : tkB f k (j + 1) = tkB f k j := by
          show (if _ then _ else _) = _
          rw [if_neg hb]
        have ihj' := ihj T'' rfl
        rw [e5] at ihj'
        subst e2
        rw [e1, h31]
        exact ihj'
      · rw [nx8 (by omega)] at e2
        rw [h1, b_1] at e1
        have e5 : tkB f k (j + 1) = bOr (tkB f k j) (f (70 + 4 * j + 3)) := by
          show (if _ then _ else _) = _
          rw [if_pos hb]
        have ihj' := ihj T'' rfl
        rw [e5] at ihj'
        subst e2
        rw [e1]
        exact ihj'
theorem k_20 (hN : 5000 ≤ N) (I : IV N n X M q q' lw lw' P) (okX : okS X) (okM : okS M) : wl_20 N a1 a2 a3 a4 a5 X M (fun X1 M1 => Inv N (n + 1) X1 M1) := by
  obtain ⟨⟨hq, -, hlw, -⟩, -, -, hL, hR, -⟩ := id I
  have C := I.CQ (by omega) okX
  have m1 : (mup M 0 0 0) 1 = M 1 := mup_ne _ _ _ (by decide)
  unfold wl_20 w_L_soaps w_X11_soaps w_X12_soaps
  refine s_ckPart (fun p0 p1 q2 e2 => ⟨p0, p1, fun q4 e4 => ?_⟩) (fun hb => ⟨rfl, ?_⟩)
  · have := qe e2 hq
    have := qe e4 hq
    subst q2 q4
    refine x_takenBy hN C (by decide) (by decide) (fun v6 e6 v7 e7 v8 e8 v9 e9 => ?_)
    subst e7; subst e8; subst e9
    have es : X (q + 1 + 4) a1 = M 1 (14 + 6 * a1 + 3) := (hL.1.1.1 a1 p0 p1).2.2.2.1
    have g4 := (hR.1.1.at p0 p1).2.2.2.1
    rw [es] at e6
    have hb := bAnd_le' (tkB (M 1) 63 (M 1 3).toNat) (m := M 1 (14 + 6 * a1 + 3)) (by unfold okI; omega) g4.1
    rw [e6]
    refine x_soaps hN C (fun S2 e2 => ?_)
    subst e2
    refine a_isPart (fun _ _ => ⟨fun _ => thrO (a_of p0 p1 (by omega) (by omega) (y_never hN m1 hR p0 p1 (fun v4 e4 v5 e5 v6 e6 => ?_))), fun hc => absurd hc (by decide)⟩) (fun hc => by omega)
    subst e5; subst e6
    rw [m1] at e4
    unfold fNever at e4
    rw [b_2] at e4
    rw [e4]
    exact y_soaps hN m1 hR.2.1 hb.1 (by omega) (fin0 I (XF.rf _ _ _) (MQu.rf _))
  · exact a_isPart (fun _ _ => by omega) (fun hc => ⟨fun hc => absurd rfl hc, fun _ => thrX (by decide) (finE I (by decide) (XF.rf _ _ _) (MQu.rf _))⟩)
end soaps2
