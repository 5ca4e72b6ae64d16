set_option maxHeartbeats 400000
set_option maxRecDepth 20000
/-! ===== the pure part: halves, watch, soaps ===== -/
def hlf (L : Int → Int) (k : Nat) : Nat → Int
  | 0 => 0
  | i + 1 => hlf L k i + L ((k + i) % 8 : Nat)
theorem hlf_ok {L : Int → Int} (hL : ∀ p, 0 ≤ L p ∧ L p ≤ 20) (k : Nat) : ∀ i : Nat, 0 ≤ hlf L k i ∧ hlf L k i ≤ 20 * i
  | 0 => by unfold hlf; omega
  | i + 1 => by
    have := hlf_ok hL k i
    have := hL ((k + i) % 8 : Nat)
    unfold hlf
    omega
theorem hlf_8 (L : Int → Int) (k : Nat) (hk : k < 8) : hlf L k 8 = hlf L 0 8 := by
  have h : k = 0 ∨ k = 1 ∨ k = 2 ∨ k = 3 ∨ k = 4 ∨ k = 5 ∨ k = 6 ∨ k = 7 := by omega
  have e : ∀ k i : Nat, hlf L k (i + 1) = hlf L k i + L ((k + i) % 8 : Nat) := fun _ _ => rfl
  have e0 : ∀ k : Nat, hlf L k 0 = 0 := fun _ => rfl
  rcases h with rfl | rfl | rfl | rfl | rfl | rfl | rfl | rfl <;> simp only [e, e0] <;> simp <;> omega
theorem hlf_sum (A : mLaw) (f : mRow) : ∀ i : Nat, i ≤ 8 → hlf (fLight A f) 0 i = fSum A f i
  | 0, _ => rfl
  | i + 1, h => by
    have := hlf_sum A f i (by omega)
    unfold hlf fSum
    rw [this, show (0 + i) % 8 = i by omega]
def hap (L : Int → Int) (k : Nat) : Int := max (2 * hlf L k 4 - hlf L 0 8) (-(2 * hlf L k 4 - hlf L 0 8))
def hvC (L : Int → Int) : Nat → Int × Int
  | 0 => (0, 161)
  | k + 1 => if hap L k < (hvC L k).2 then (k, hap L k) else hvC L k
theorem hap_ok {L : Int → Int} (hL : ∀ p, 0 ≤ L p ∧ L p ≤ 20) {k : Nat} (hk : k < 8) : 0 ≤ hap L k ∧ hap L k ≤ 160 := by
  have h4 := hlf_ok hL k 4
  have h8 := hlf_ok hL 0 8
  have h48 : hlf L k 8 = hlf L k 4 + L ((k + 4) % 8 : Nat) + L ((k + 5) % 8 : Nat) + L ((k + 6) % 8 : Nat) + L ((k + 7) % 8 : Nat) := rfl
  rw [hlf_8 L k hk] at h48
  have := hL ((k + 4) % 8 : Nat)
  have := hL ((k + 5) % 8 : Nat)
  have := hL ((k + 6) % 8 : Nat)
  have := hL ((k + 7) % 8 : Nat)
  unfold hap
  omega
section sets
variable {N n : Nat} {X M : mSt} {q q' lw lw' : Nat} {f g : mRow} {A : mLaw} {P : mPrg} {a1 a2 a3 a4 a5 : Int} {T : Int} {p s d x : Int} {Q : mSt → Int → Prop}
theorem rem8 {k i : Nat} (hk : k < 100) (hi : i < 100) : iRem (nm ((k : Int) + i)) 8 = (((k + i) % 8 : Nat) : Int) := by
  rw [nm_of (by omega) (by omega), iRem_nn (by unfold okI; omega) (by decide) (by omega) (by omega)]; omega
theorem x_halves (hN : 5000 ≤ N) (C : CQ N X q q' lw lw' f A T) (h : ∀ X', XF q' lw X X' → Q X' (hvC (fLight A f) 8).1) : w_X11_halves_24 N Q (fun (x2_8 : Int) (S_8 : mSt) => Q S_8 x2_8) N 0 (fAll A f) 0 161 0 X := by
  have hL : ∀ p, 0 ≤ fLight A f p ∧ fLight A f p ≤ 20 := fLight_ok A f
  have e8 : fAll A f = hlf (fLight A f) 0 8 := (hlf_sum A f 8 (by omega)).symm
  rw [e8]
  refine lpUp (K := 8) (W := fun n' k T' => w_X11_halves_24 N Q (fun (x2_8 : Int) (S_8 : mSt) => Q S_8 x2_8) n' 0 (hlf (fLight A f) 0 8) (hvC (fLight A f) k).1 (hvC (fLight A f) k).2 k T') (I := fun k T' => CQ N T' q q' lw lw' f A T ∧ XF q' lw X T') (fun n' T' hI => ?_) (fun n' k T' hk hI ih => ?_) (by omega) ⟨C, XF.rf _ _ _⟩
  · exact ⟨fun _ => h T' hI.2, fun hc => by omega⟩
  · refine ⟨fun hc => by omega, fun _ v1 e1 v2 e2 => ?_⟩
    subst e1; subst e2
    refine lpUp (K := 4) (W := fun n'' i T'' => w_X11_halves_37 N Q (fun (r0_3 : Nat) (x1_3 : Int) (x2_3 : Int) (x3_3 : Int) (x4_3 : Int) (x5_3 : Int) (S_3 : mSt) => ∀ v4 : Int, v4 = (iAbs (nm ((nm (2 * x5_3)) - x1_3))) → ((x3_3 ≤ v4 → w_X11_halves_99 N Q (w_X11_halves_24 N Q (fun (x2_8 : Int) (S_8 : mSt) => Q S_8 x2_8) n') r0_3 x1_3 x2_3 x3_3 x4_3 S_3) ∧ (v4 < x3_3 → ∀ v5 : Int, v5 = v4 → ∀ v6 : Int, v6 = x4_3 → w_X11_halves_99 N Q (w_X11_halves_24 N Q (fun (x2_8 : Int) (S_8 : mSt) => Q S_8 x2_8) n') r0_3 x1_3 v6 v5 x4_3 S_3))) n'' 0 (hlf (fLight A f) 0 8) (hvC (fLight A f) k).1 (hvC (fLight A f) k).2 k (hlf (fLight A f) k i) i T'') (I := fun i T'' => CQ N T'' q q' lw lw' f A T ∧ XF q' lw X T'') (fun n'' T'' hJ => ?_) (fun n'' i T'' hi hJ ihi => ?_) (by omega) hI
    · refine ⟨fun _ v4 e4 => ?_, fun hc => by omega⟩
      have b4 := hlf_ok hL k 4
      have b8 := hlf_ok hL 0 8
      have e5 : v4 = hap (fLight A f) k := by
        rw [e4, nm_of (x := 2 * hlf (fLight A f) k 4) (by omega) (by omega), nm_of (by omega) (by omega)]
        unfold iAbs hap
        generalize hlf (fLight A f) k 4 = u at b4
        generalize hlf (fLight A f) 0 8 = w at b8
        split
        · omega
        · rw [nm_of (by omega) (by omega)]; omega
      refine ⟨fun hc v1 e1 => ?_, fun hc v5 e5' v6 e6 v1 e1 => ?_⟩
      · rw [nx8 (by omega)] at e1
        subst e1
        have eh : hvC (fLight A f) (k + 1) = hvC (fLight A f) k := by
          show (if _ then _ else _) = _
          rw [if_neg (by omega)]
        have := ih T'' hJ
        rw [eh] at this
        exact this
      · rw [nx8 (by omega)] at e1
        subst e1
        have eh : hvC (fLight A f) (k + 1) = ((k : Int), hap (fLight A f) k) := by
          show (if _ then _ else _) = _
          rw [if_pos (by omega)]
        have := ih T'' hJ
        rw [eh] at this
        rw [e5', e6, e5]
        exact this
    · obtain ⟨C', F'⟩ := hJ
      refine ⟨fun hc => by omega, fun _ q1 e1 q2 e2 => ?_⟩
      have := qe e1 C'.2.1.2.2.1
      have := qe e2 C'.2.1.1
      subst q1 q2
      rw [rem8 (by omega) (by omega)]
      refine x_light C' (by omega) (by omega) (fun X2 C2 F2 v4 e4 v5 e5 => ?_)
      have b := hlf_ok hL k i
      have bl := hL (((k + i) % 8 : Nat) : Int)
      rw [nx8 (by omega)] at e5
      rw [nm_of (by omega) (by omega)] at e4
      subst e5
      rw [show v4 = hlf (fLight A f) k (i + 1) from e4]
      exact ihi X2 ⟨C2, F'.tr F2⟩
theorem y_halves {S : mSt} (hN : 5000 ≤ N) (hl : ∀ p, 0 ≤ p → p < 8 → S 12 p = fLight A f p) (h : Q S (hvC (fLight A f) 8).1) : w_X12_halves_17 N Q (fun (x1_6 : Int) (S_6 : mSt) => Q S_6 x1_6) N 0 (-1) 2000000000 0 S := by
  have hL : ∀ p, 0 ≤ fLight A f p ∧ fLight A f p ≤ 20 := fLight_ok A f
  refine lpUp (K := 8) (W := fun n' k T' => w_X12_halves_17 N Q (fun (x1_6 : Int) (S_6 : mSt) => Q S_6 x1_6) n' 0 (if k = 0 then -1 else (hvC (fLight A f) k).1) (if k = 0 then 2000000000 else (hvC (fLight A f) k).2) k T') (I := fun k T' => T' = S) (fun n' T' hI => ?_) (fun n' k T' hk hI ih => ?_) (by omega) rfl
  · subst hI; exact ⟨fun _ => h, fun hc => by omega⟩
  · subst hI
    refine ⟨fun hc => by omega, fun _ v1 e1 v2 e2 => ?_⟩
    subst e1; subst e2
    have fin : ∀ v, v = hap (fLight A f) k → w_X12_halves_94 N Q (w_X12_halves_17 N Q (fun (x1_6 : Int) (S_6 : mSt) => Q S_6 x1_6) n') 0 (if k = 0 then -1 else (hvC (fLight A f) k).1) (if k = 0 then 2000000000 else (hvC (fLight A f) k).2) k v T' := by
      intro v ev v1 e1
      have hb := hap_ok hL (k := k) hk
      have ih' := ih T' rfl
      rw [if_neg (by omega), if_neg (by omega)] at ih'
      have hu : hvC (fLight A f) (k + 1) = if hap (fLight A f) k < (hvC (fLight A f) k).2 then ((k : Int), hap (fLight A f) k) else hvC (fLight A f) k := rfl
      refine ⟨fun hc v2 e2 v3 e3 v4 e4 => ?_, fun hc v4 e4 => ?_⟩
      · rw [nx8 (by omega)] at e4
        subst e4
        have hlt : hap (fLight A f) k < (hvC (fLight A f) k).2 := by
          by_cases h0 : k = 0
          · subst h0
            show hap (fLight A f) 0 < 161
            omega
          · rw [if_neg h0] at hc; omega
        rw [if_pos hlt] at hu
        rw [hu] at ih'
        rw [e2, e3, e1, ev]
        exact ih'
      · rw [nx8 (by omega)] at e4
        subst e4
        have h0 : k ≠ 0 := by intro h0; rw [if_pos h0] at hc; omega
        rw [if_neg h0] at hc
        rw [if_neg (by omega)] at hu
        rw [hu] at ih'
        rw [if_neg h0, if_neg h0]
        exact ih'
    have b4 := hlf_ok hL k 4
    -- the sum with signs
    let sg : Nat → Int := fun i => if i ≤ 4 then hlf (fLight A f) k i else 2 * hlf (fLight A f) k 4 - hlf (fLight A f) k i
    have sgb : ∀ i : Nat, i ≤ 8 → -160 ≤ sg i ∧ sg i ≤ 160 := by
      intro i hi
      have := hlf_ok hL k i
      show -160 ≤ (if i ≤ 4 then _ else _) ∧ (if i ≤ 4 then _ else _) ≤ 160
      split <;> omega
    refine lpUp (K := 8) (W := fun n'' i T'' => w_X12_halves_29 N Q (fun (r0_3 : Nat) (x1_3 : Int) (x2_3 : Int) (x3_3 : Int) (x4_3 : Int) (S_3 : mSt) => ((0 ≤ x4_3 → w_X12_halves_94 N Q (w_X12_halves_17 N Q (fun (x1_6 : Int) (S_6 : mSt) => Q S_6 x1_6) n') r0_3 x1_3 x2_3 x3_3 x4_3 S_3) ∧ (x4_3 < 0 → w_X12_halves_94 N Q (w_X12_halves_17 N Q (fun (x1_6 : Int) (S_6 : mSt) => Q S_6 x1_6) n') r0_3 x1_3 x2_3 x3_3 (nm (-x4_3)) S_3))) n'' 0 (if k = 0 then -1 else (hvC (fLight A f) k).1) (if k = 0 then 2000000000 else (hvC (fLight A f) k).2) k (sg i) i T'') (I := fun i T'' => T'' = T') (fun n'' T'' hJ => ?_) (fun n'' i T'' hi hJ ihi => ?_) (by omega) rfl
    · subst hJ
      have e8 : sg 8 = 2 * hlf (fLight A f) k 4 - hlf (fLight A f) 0 8 := by
        show (if 8 ≤ 4 then _ else _) = _
        rw [if_neg (by omega), hlf_8 _ k hk]
      have b8 := sgb 8 (by omega)
      refine ⟨fun _ => ⟨fun hc => fin _ ?_, fun hc => fin _ ?_⟩, fun hc => by omega⟩
      · unfold hap; rw [← e8]; omega
      · rw [nm_of (by omega) (by omega)]; unfold hap; rw [← e8]; omega
    · subst hJ
      have hb := sgb i (by omega)
      have bl := hL (((k + i) % 8 : Nat) : Int)
      have hi1 : hlf (fLight A f) k (i + 1) = hlf (fLight A f) k i + fLight A f (((k + i) % 8 : Nat) : Int) := rfl
      refine ⟨fun hc => by omega, fun _ => ?_⟩
      rw [rem8 (by omega) (by omega), Nat.zero_add, hl _ (by omega) (by omega)]
      refine ⟨fun h4 => ⟨by omega, by omega, fun v1 e1 v2 e2 => ?_⟩, fun h4 => ⟨by omega, by omega, fun v1 e1 v2 e2 => ?_⟩⟩
      · rw [nx8 (by omega)] at e2
        rw [nm_of (x := -fLight A f _) (by omega) (by omega), nm_of (by omega) (by omega)] at e1
        subst e2
        have es : v1 = sg (i + 1) := by
          rw [e1]
          show (if i ≤ 4 then _ else _) + _ = (if i + 1 ≤ 4 then _ else _)
          rw [if_neg (show ¬ i + 1 ≤ 4 by omega), hi1]
          by_cases h5 : i ≤ 4
          · have : i = 4 := by omega
            subst this
            rw [if_pos (by omega)]; omega
          · rw [if_neg h5]; omega
        rw [es]
        exact ihi T'' rfl
      · rw [nx8 (by omega)] at e2
        rw [nm_of (by omega) (by omega)] at e1
        subst e2
        have es : v1 = sg (i + 1) := by
          rw [e1]
          show (if i ≤ 4 then _ else _) + _ = (if i + 1 ≤ 4 then _ else _)
          rw [if_pos (show i + 1 ≤ 4 by omega), hi1, if_pos (by omega)]
        rw [es]
        exact ihi T'' rfl
theorem k_35 (hN : 5000 ≤ N) (I : IV N n X M q q' lw lw' P) (okX : okS X) (okM : okS M) : wl_35 N a1 a2 a3 a4 a5 X M (fun X1 M1 => Inv N (n + 1) X1 M1) := by
  obtain ⟨⟨hq, -, hlw, -⟩, -⟩ := id I
  unfold wl_35 w_X11_halves
  intro q1 e1 q2 e2
  have := qe e1 hlw
  have := qe e2 hq
  subst q1 q2
  refine x_all (by omega) (I.CQ (by omega) okX) (fun X2 C2 F2 v4 e4 v5 e5 v6 e6 v7 e7 => ?_)
  subst e4; subst e5; subst e6; subst e7
  refine x_halves hN C2 (fun X3 F3 S1 e1 => ?_)
  subst e1
  refine y_looks hN ((I.MC okM).thr (by decide)) (fun M2 D2 G2 L2 v3 e3 v4 e4 v5 e5 => ?_)
  subst e3; subst e4; subst e5
  exact y_halves hN L2 ⟨rfl, I.next (F2.tr F3) G2⟩
-- watch
def sat (w k : Int) : Prop := bAnd w (bXor (bOr (bOr k (bShl k 1)) (bShr k 1)) (-1)) = 0
theorem sat_all : ∀ w : Nat, w < 256 → bAnd w (bXor (bOr (bOr 255 (bShl 255 1)) (bShr 255 1)) (-1)) = 0 := by decide +kernel
theorem pc_7 : ∀ k : Nat, k < 255 → pc k < 8 := by decide +kernel
noncomputable def wtM (w : Int) : Nat → Int
  | 0 => -1
  | k + 1 => if bAnd w (bXor (bOr (bOr (k : Int) (bShl k 1)) (bShr k 1)) (-1)) = 0 ∧ (wtM w k = -1 ∨ pc k < pc (wtM w k)) then k else wtM w k
theorem wtM_ok (w : Int) : ∀ k : Nat, wtM w k = -1 ∨ (0 ≤ wtM w k ∧ wtM w k < k)
  | 0 => Or.inl rfl
  | k + 1 => by
    have := wtM_ok w k
    unfold wtM
    split
    · exact Or.inr ⟨by omega, by omega⟩
    · omega
def fPegs (f : mRow) : Nat → Int
  | 0 => 0
  | k + 1 => if f (14 + 6 * k + 4) = 1 then bOr (fPegs f k) (bShl 1 (f (14 + 6 * k + 5))) else fPegs f k
theorem fPegs_ok (hR : RO f) : ∀ k : Nat, k ≤ 8 → 0 ≤ fPegs f k ∧ fPegs f k < 256
  | 0, _ => by unfold fPegs; omega
  | k + 1, h => by
    have ih := fPegs_ok hR k (by omega)
    obtain ⟨g1, g2, g3, g4, g5, g6, g7⟩ := hR.at (p := (k : Int)) (by omega) (by omega)
    unfold fPegs
    split
    · have := (set_on (fPegs f k).toNat (by omega) (f (14 + 6 * k + 5)).toNat (by omega)).1
      rwa [show (((fPegs f k).toNat : Nat) : Int) = fPegs f k by omega, show (((f (14 + 6 * k + 5)).toNat : Nat) : Int) = f (14 + 6 * k + 5) by omega] at this
    · exact ih
theorem x_watch53 {S : mSt} {w : Int} (hN : 5000 ≤ N) (w0 : 0 ≤ w) (w1 : w < 256) (h : Q S (wtM w 256)) : w_X11_watch_53 N Q (fun (x2_6 : Int) (S_6 : mSt) => Q S_6 x2_6) N w 255 0 S := by
  refine lpUp (K := 256) (W := fun n' k T' => w_X11_watch_53 N Q (fun (x2_6 : Int) (S_6 : mSt) => Q S_6 x2_6) n' w (if wtM w k = -1 then 255 else wtM w k) k T') (I := fun k T' => T' = S) (fun n' T' hI => ?_) (fun n' k T' hk hI ih => ?_) (by omega) rfl
  · subst hI
    refine ⟨fun _ => ?_, fun hc => by omega⟩
    have hne : wtM w 256 ≠ -1 := by
      have hs := sat_all w.toNat (by omega)
      rw [show ((w.toNat : Nat) : Int) = w by omega] at hs
      have hu : wtM w 256 = if bAnd w (bXor (bOr (bOr 255 (bShl 255 1)) (bShr 255 1)) (-1)) = 0 ∧ (wtM w 255 = -1 ∨ pc 255 < pc (wtM w 255)) then 255 else wtM w 255 := rfl
      rw [hu]
      by_cases h1 : wtM w 255 = -1
      · rw [if_pos ⟨hs, Or.inl h1⟩]; decide
      · split
        · decide
        · exact h1
    rw [if_neg hne]
    exact h
  · subst hI
    have hm := wtM_ok w k
    have hu : wtM w (k + 1) = if bAnd w (bXor (bOr (bOr (k : Int) (bShl k 1)) (bShr k 1)) (-1)) = 0 ∧ (wtM w k = -1 ∨ pc k < pc (wtM w k)) then (k : Int) else wtM w k := rfl
    have ih' := ih T' rfl
    have pass : ∀ v, v = (if wtM w k = -1 then 255 else wtM w k) → (if wtM w (k + 1) = -1 then 255 else wtM w (k + 1)) = v → w_X11_watch_93 N Q (w_X11_watch_53 N Q (fun (x2_6 : Int) (S_6 : mSt) => Q S_6 x2_6) n') w v k T' := by
      intro v ev e2 v1 e1
      rw [nx8 (by omega)] at e1
      subst e1
      rw [e2] at ih'
      exact ih'
    refine ⟨fun hc => by omega, fun _ v1 e1 => ?_⟩
    subst e1
    refine ⟨fun hc => pass _ rfl ?_, fun hc => s_bitCount (by omega) (by omega) (s_bitCount (by split <;> omega) (by split <;> omega) ⟨fun hp => pass _ rfl ?_, fun hp v4 e4 v1 e1 => ?_⟩)⟩
    · rw [if_neg (fun z => hc z.1)] at hu
      rw [hu]
    · by_cases h1 : wtM w k = -1
      · rw [if_pos h1] at hp
        have hk255 : k = 255 := by
          by_cases h2 : k = 255
          · exact h2
          · have := pc_7 k (by omega)
            have e255 : pc 255 = 8 := by decide
            omega
        subst hk255
        rw [if_pos ⟨hc, Or.inl h1⟩] at hu
        rw [hu, if_neg (by decide), if_pos h1]; rfl
      · rw [if_neg h1] at hp
        rw [if_neg (fun z => by have := z.2; omega)] at hu
        rw [hu]
    · rw [nx8 (by omega)] at e1
      subst e1
      have hs : bAnd w (bXor (bOr (bOr (k : Int) (bShl k 1)) (bShr k 1)) (-1)) = 0 ∧ (wtM w k = -1 ∨ pc k < pc (wtM w k)) := by
        refine ⟨hc, ?_⟩
        by_cases h1 : wtM w k = -1
        · exact Or.inl h1
        · rw [if_neg h1] at hp; exact Or.inr hp
      rw [if_pos hs] at hu
      rw [hu, if_neg (by omega)] at ih'
      rw [e4]
      exact ih'
theorem y_watch50 {S : mSt} {w : Int} (hN : 5000 ≤ N) (h : Q S (wtM w 256)) : w_X12_watch_50 N Q (fun (x2_7 : Int) (S_7 : mSt) => Q S_7 x2_7) N w (-1) 0 S := by
  refine lpUp (K := 256) (W := fun n' k T' => w_X12_watch_50 N Q (fun (x2_7 : Int) (S_7 : mSt) => Q S_7 x2_7) n' w (wtM w k) k T') (I := fun k T' => T' = S) (fun n' T' hI => ?_) (fun n' k T' hk hI ih => ?_) (by omega) rfl
  · subst hI; exact ⟨fun _ => h, fun hc => by omega⟩
  · subst hI
    have hm := wtM_ok w k
    have hu : wtM w (k + 1) = if bAnd w (bXor (bOr (bOr (k : Int) (bShl k 1)) (bShr k 1)) (-1)) = 0 ∧ (wtM w k = -1 ∨ pc k < pc (wtM w k)) then (k : Int) else wtM w k := rfl
    have ih' := ih T' rfl
    have pass : wtM w (k + 1) = wtM w k → w_X12_watch_95 N Q (w_X12_watch_50 N Q (fun (x2_7 : Int) (S_7 : mSt) => Q S_7 x2_7) n') w (wtM w k) k T' := by
      intro e2 v1 e1
      rw [nx8 (by omega)] at e1
      subst e1
      rw [e2] at ih'
      exact ih'
    have take : wtM w (k + 1) = k → w_X12_watch_93 N Q (w_X12_watch_50 N Q (fun (x2_7 : Int) (S_7 : mSt) => Q S_7 x2_7) n') w k T' := by
      intro e2 v1 e1 v2 e3
      rw [nx8 (by omega)] at e3
      subst e3
      rw [e2] at ih'
      rw [e1]
      exact ih'
    refine ⟨fun hc => by omega, fun _ v1 e1 => ?_⟩
    subst e1
    refine ⟨fun hc => pass ?_, fun hc => ⟨fun h1 => take ?_, fun h1 => s_bits (by omega) (by omega) (by omega) (s_bits (by omega) (by omega) (by omega) ⟨fun hp => pass ?_, fun hp => take ?_⟩)⟩⟩
    · rw [hu, if_neg (fun z => hc z.1)]
    · rw [hu, if_pos ⟨hc, Or.inl h1⟩]
    · rw [hu, if_neg (fun z => by have := z.2; omega)]
    · rw [hu, if_pos ⟨hc, Or.inr hp⟩]
theorem k_27 (hN : 5000 ≤ N) (I : IV N n X M q q' lw lw' P) (okX : okS X) (okM : okS M) : wl_27 N a1 a2 a3 a4 a5 X M (fun X1 M1 => Inv N (n + 1) X1 M1) := by
  obtain ⟨⟨hq, -, hlw, -⟩, -, -, hL, hR, -⟩ := id I
  have hP8 := fPegs_ok hR.1.1 8 (by omega)
  have model : w_X12_watch N 0 M (fun (M2 : mSt) (v2 : Int) => wtM (fPegs (M 1) 8) 256 = v2 ∧ Inv N (n + 1) X M2) := by
    intro S1 e1 v2 e2 v3 e3
    subst e1; subst e2; subst e3
    have m1 : (mup M 0 0 0) 1 = M 1 := mup_ne _ _ _ (by decide)
    refine lpUp (K := 8) (W := fun n' k T' => w_X12_watch_9 N (fun (M2 : mSt) (v2 : Int) => wtM (fPegs (M 1) 8) 256 = v2 ∧ Inv N (n + 1) X M2) (fun (x1_4 : Int) (S_4 : mSt) => ∀ v5 : Int, v5 = (-1) → ∀ v6 : Int, v6 = 0 → w_X12_watch_50 N (fun (M2 : mSt) (v2 : Int) => wtM (fPegs (M 1) 8) 256 = v2 ∧ Inv N (n + 1) X M2) (fun (x2_7 : Int) (S_7 : mSt) => wtM (fPegs (M 1) 8) 256 = x2_7 ∧ Inv N (n + 1) X S_7) N x1_4 v5 v6 S_4) n' 0 (fPegs (M 1) k) k T') (I := fun k T' => T' = mup M 0 0 0) (fun n' T' hI => ?_) (fun n' k T' hk hI ih => ?_) (by omega) rfl
    · subst hI
      refine ⟨fun _ v5 e5 v6 e6 => ?_, fun hc => by omega⟩
      subst e5; subst e6
      exact y_watch50 (Q := fun (M2 : mSt) (v2 : Int) => wtM (fPegs (M 1) 8) 256 = v2 ∧ Inv N (n + 1) X M2) hN ⟨rfl, I.next (XF.rf _ _ _) (MQu.rf _)⟩
    · have T1 : T' 1 = M 1 := by rw [hI]; exact m1
      have hb := fPegs_ok hR.1.1 k (by omega)
      refine ⟨fun hc => by omega, fun _ => a_of (by omega) (by omega) (by omega) (by omega) ?_⟩
      rw [T1]
      refine ⟨fun hh v1 e1 v2 e2 => ?_, fun hh => a_of (by omega) (by omega) (by omega) (by omega) (fun v1 e1 v2 e2 => ?_)⟩
      · rw [nx8 (by omega)] at e2
        rw [bOr_0 (by unfold okI; omega)] at e1
        subst e2
        have e5 : fPegs (M 1) k = fPegs (M 1) (k + 1) := by
          show _ = if _ then _ else _
          rw [if_neg hh]
        rw [e1, e5]
        exact ih T' hI
      · rw [nx8 (by omega)] at e2
        rw [T1] at e1
        subst e2
        have e5 : v1 = fPegs (M 1) (k + 1) := by
          rw [e1]
          show _ = if _ then _ else _
          rw [if_pos hh]
        rw [e5]
        exact ih T' hI
  unfold wl_27 w_X11_watch
  intro v1 e1 v2 e2
  subst e1; subst e2
  refine lpUp (K := 8) (W := fun n' k T' => w_X11_watch_4 N (fun (X1 : mSt) (v1 : Int) => w_X12_watch N 0 M (fun (M2 : mSt) (v2 : Int) => v1 = v2 ∧ Inv N (n + 1) X1 M2)) (fun (x1_3 : Int) (S_3 : mSt) => ∀ v4 : Int, v4 = 255 → ∀ v5 : Int, v5 = 0 → w_X11_watch_53 N (fun (X1 : mSt) (v1 : Int) => w_X12_watch N 0 M (fun (M2 : mSt) (v2 : Int) => v1 = v2 ∧ Inv N (n + 1) X1 M2)) (fun (x2_6 : Int) (S_6 : mSt) => w_X12_watch N 0 M (fun (M2 : mSt) (v2 : Int) => x2_6 = v2 ∧ Inv N (n + 1) S_6 M2)) N x1_3 v4 v5 S_3) n' 0 (fPegs (M 1) k) k T') (I := fun k T' => T' = X) (fun n' T' hI => ?_) (fun n' k T' hk hI ih => ?_) (by omega) rfl
  · subst hI
    refine ⟨fun _ v4 e4 v5 e5 => ?_, fun hc => by omega⟩
    subst e4; subst e5
    exact x_watch53 (Q := fun (X1 : mSt) (v1 : Int) => w_X12_watch N 0 M (fun (M2 : mSt) (v2 : Int) => v1 = v2 ∧ Inv N (n + 1) X1 M2)) hN hP8.1 hP8.2 model
  · subst hI
    have hM := hL.1.1
    have e6 := (hM.1 (k : Int) (by omega) (by omega)).2.2.2.2.2.1
    have hg := (hR.1.1.at (p := (k : Int)) (by omega) (by omega)).2.2.2.2.1
    refine ⟨fun hc => by omega, fun _ q1 e1 => ?_⟩
    have := qe e1 hq
    subst q1
    refine s_isHung hM (by omega) (by omega) ⟨fun hh v1 e1 => ?_, fun hh q3 e3 => ?_⟩
    · rw [nx8 (by omega)] at e1
      subst e1
      have e5 : fPegs (M 1) k = fPegs (M 1) (k + 1) := by
        show _ = if _ then _ else _
        rw [if_neg (by omega)]
      rw [e5]
      exact ih T' rfl
    · have := qe e3 hq
      subst q3
      rw [e6]
      refine ⟨by omega, by omega, fun v5 e5 v1 e1 => ?_⟩
      rw [nx8 (by omega)] at e1
      subst e1
      have e7 : v5 = fPegs (M 1) (k + 1) := by
        rw [e5]
        show _ = if _ then _ else _
        rw [if_pos (by omega)]
      rw [e7]
      exact ih T' rfl
end sets
