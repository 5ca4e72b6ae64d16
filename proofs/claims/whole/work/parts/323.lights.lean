set_option maxHeartbeats 400000
set_option maxRecDepth 20000
/-! ===== the pure part: questions of light ===== -/
theorem bOr_0 {x : Int} (h : okI x) : bOr x 0 = x := by
  unfold bOr
  have : mI x ||| mI 0 = mI x := by
    show mI x ||| 0 = mI x
    exact Int32.or_zero
  rw [this, mI_ok h]
def bset (g : Int → Int) : Nat → Int
  | 0 => 0
  | k + 1 => if 0 < g k then bOr (bset g k) (bShl 1 k) else bset g k
theorem bset_ok (g : Int → Int) : ∀ k : Nat, k ≤ 8 → 0 ≤ bset g k ∧ bset g k < 256
  | 0, _ => by unfold bset; omega
  | k + 1, h => by
    have ih := bset_ok g k (by omega)
    unfold bset
    split
    · have := (set_on (bset g k).toNat (by omega) k (by omega)).1
      rwa [show (((bset g k).toNat : Nat) : Int) = bset g k by omega] at this
    · exact ih
theorem bset_up {g : Int → Int} {k : Nat} (h : 0 < g k) : bOr (bset g k) (bShl 1 k) = bset g (k + 1) := by
  show _ = if 0 < g k then _ else _
  rw [if_pos h]
theorem bset_no {g : Int → Int} {k : Nat} (h : ¬ 0 < g k) : bset g k = bset g (k + 1) := by
  show _ = if 0 < g k then _ else _
  rw [if_neg h]
theorem bset_cong {g g' : Int → Int} : ∀ k : Nat, (∀ j : Nat, j < k → g j = g' j) → bset g k = bset g' k
  | 0, _ => rfl
  | k + 1, h => by unfold bset; rw [h k (by omega), bset_cong k (fun j hj => h j (by omega))]
section lights
variable {N n : Nat} {X M : mSt} {q q' lw lw' : Nat} {f : mRow} {A : mLaw} {P : mPrg} {a1 a2 a3 a4 a5 : Int} {T : Int} {Q : mSt → Int → Prop}
theorem x_shines (hN : 5000 ≤ N) (C : CQ N X q q' lw lw' f A T) (h : ∀ X', CQ N X' q q' lw lw' f A T → XF q' lw X X' → Q X' (bset (fLight A f) 8)) : w_X11_shines N 0 X Q := by
  intro v1 e1 v2 e2
  subst e1; subst e2
  refine lpUp (K := 8) (W := fun n k T => w_X11_shines_4 N Q (fun (x1_3 : Int) (S_3 : mSt) => Q S_3 x1_3) n 0 (bset (fLight A f) k) k T) (I := fun k X' => CQ N X' q q' lw lw' f A T ∧ XF q' lw X X') (fun n X' hI => ?_) (fun n k X' hk hI ih => ?_) (by omega) ⟨C, XF.rf _ _ _⟩
  · exact ⟨fun _ => h X' hI.1 hI.2, fun hc => by omega⟩
  · obtain ⟨C', F'⟩ := hI
    obtain ⟨k1, -, k3, -⟩ := C'.2.1
    refine ⟨fun hc => by omega, fun _ q1 e1 q2 e2 => ?_⟩
    have : q1 = lw := by omega
    have : q2 = q := by omega
    subst q1 q2
    refine x_light C' (by omega) (by omega) (fun X2 C2 F2 => ⟨fun hv v1 e1 => ?_, fun hv v4 e4 v1 e1 => ?_⟩)
    · rw [nx8 (by omega)] at e1
      subst e1
      rw [bset_no (by omega)]
      exact ih X2 ⟨C2, F'.tr F2⟩
    · rw [nx8 (by omega)] at e1
      subst e1; subst e4
      rw [bset_up hv]
      exact ih X2 ⟨C2, F'.tr F2⟩
theorem y_shining (hN : 5000 ≤ N) (C : MC N M f A) (h : ∀ M', MC N M' f A → MQu M M' → Q M' (bset (fLight A f) 8)) : w_X12_shining N 0 M Q := by
  intro v1 e1 v2 e2
  subst e1; subst e2
  refine lpUp (K := 8) (W := fun n k T => w_X12_shining_4 N Q (fun (x1_3 : Int) (S_3 : mSt) => Q S_3 x1_3) n 0 (bset (fLight A f) k) k T) (I := fun k M' => MC N M' f A ∧ MQu M M') (fun n M' hI => ?_) (fun n k M' hk hI ih => ?_) (by omega) ⟨C, MQu.rf _⟩
  · exact ⟨fun _ => h M' hI.1 hI.2, fun hc => by omega⟩
  · obtain ⟨C', F'⟩ := hI
    refine ⟨fun hc => by omega, fun _ => y_light (by omega) C' (by omega) (by omega) (fun M2 C2 F2 => ⟨fun hv v1 e1 v2 e2 => ?_, fun hv v1 e1 v2 e2 => ?_⟩)⟩
    · have hb := bset_ok (fLight A f) k (by omega)
      rw [nx8 (by omega)] at e2
      rw [bOr_0 (by unfold okI; omega), bset_no (by omega)] at e1
      subst e1; subst e2
      exact ih M2 ⟨C2, F'.tr F2⟩
    · rw [nx8 (by omega)] at e2
      rw [bset_up hv] at e1
      subst e1; subst e2
      exact ih M2 ⟨C2, F'.tr F2⟩
theorem MC.thr (C : MC N M f A) {v : Int} (ov : okI v) : MC N (mup M 0 0 v) f A := C.of (okS_up C.1 ov) (mup_ne _ _ _ (by decide))
theorem k_15 (hN : 5000 ≤ N) (I : IV N n X M q q' lw lw' P) (okX : okS X) (okM : okS M) : wl_15 N a1 a2 a3 a4 a5 X M (fun X1 M1 => Inv N (n + 1) X1 M1) := by
  refine x_shines hN (I.CQ (by omega) okX) (fun X' C' F' S1 e1 => ?_)
  subst e1
  exact y_shining hN ((I.MC okM).thr (by decide)) (fun M' D' G' => ⟨rfl, I.next F' G'⟩)
theorem k_16 (hN : 5000 ≤ N) (I : IV N n X M q q' lw lw' P) (okX : okS X) (okM : okS M) : wl_16 N a1 a2 a3 a4 a5 X M (fun X1 M1 => Inv N (n + 1) X1 M1) := by
  obtain ⟨k1, -, k3, -⟩ := I.1
  intro q1 e1 q2 e2
  have : q1 = lw := by omega
  have : q2 = q := by omega
  subst q1 q2
  refine x_all (by omega) (I.CQ (by omega) okX) (fun X' C' F' S1 e1 => ?_)
  subst e1
  exact y_all (by omega) ((I.MC okM).thr (by decide)) (fun M' D' G' => ⟨rfl, I.next F' G'⟩)
-- row
def rcL (s : Int) : Nat → Int × Int
  | 0 => (0, 0)
  | k + 1 => (max (rcL s k).1 (if bt s (k % 8 : Nat) = 1 then (rcL s k).2 + 1 else 0), if bt s (k % 8 : Nat) = 1 then (rcL s k).2 + 1 else 0)
theorem rcL_ok (s : Int) : ∀ k : Nat, (0 ≤ (rcL s k).1 ∧ (rcL s k).1 ≤ k) ∧ 0 ≤ (rcL s k).2 ∧ (rcL s k).2 ≤ k
  | 0 => by simp [rcL]
  | k + 1 => by
    have := rcL_ok s k
    unfold rcL
    split <;> (simp only []; omega)
/-- how far a row goes from p on -/
def rcM1 (s : Int) (p : Nat) : Nat → Nat → Nat
  | 0, n => n
  | d + 1, n => if bt s ((p + n) % 8 : Nat) = 1 then rcM1 s p d (n + 1) else n
def rcM (s : Int) : Nat → Int
  | 0 => 0
  | p + 1 => max (rcM s p) (rcM1 s p 8 0)
theorem row_eq : ∀ s : Nat, s < 256 → min (rcL s 16).1 8 = rcM s 8 := by decide +kernel
theorem x_row {s : Int} (hN : 5000 ≤ N) (s0 : 0 ≤ s) (s1 : s < 256) {ko : Int → mSt → Prop} (h : ko (rcL s 16).1 X) : w_X11_row_12 N Q ko N s 0 0 0 X := by
  refine lpUp (K := 16) (W := fun n k T => w_X11_row_12 N Q ko n s (rcL s k).1 (rcL s k).2 k T) (I := fun k X' => X' = X) (fun n X' hI => ?_) (fun n k X' hk hI ih => ?_) (by omega) rfl
  · exact ⟨fun _ => by rw [hI]; exact h, fun hc => by omega⟩
  · subst hI
    have hr := rcL_ok s k
    have ei : iRem (k : Int) 8 = ((k % 8 : Nat) : Int) := by rw [iRem_nn (by unfold okI; omega) (by decide) (by omega) (by omega)]; omega
    have nxt : ∀ v, v = (rcL s (k + 1)).2 → w_X11_row_39 N Q (w_X11_row_12 N Q ko n) s (rcL s k).1 k v X' := by
      intro v ev v1 e1 v2 e2 v3 e3
      rw [nx8 (by omega)] at e3
      rw [iMax_max] at e2
      subst e3
      have := ih X' rfl
      have e5 : v2 = (rcL s (k + 1)).1 := by rw [e2, e1, ev]; rfl
      rw [e5, e1, ev]
      exact this
    refine ⟨fun hc => by omega, fun _ => ?_⟩
    rw [ei, sh_bt' s0 s1 (by omega) (by omega)]
    refine ⟨fun hb => nxt _ ?_, fun hb => nxt _ ?_⟩
    · show _ = if _ then _ else _
      rw [if_neg hb]
    · show _ = if _ then _ else _
      rw [if_pos hb, nm_of (by omega) (by omega)]
theorem rcM1_ok (s : Int) (p : Nat) : ∀ d n : Nat, n ≤ rcM1 s p d n ∧ rcM1 s p d n ≤ n + d
  | 0, n => by unfold rcM1; omega
  | d + 1, n => by
    have := rcM1_ok s p d (n + 1)
    unfold rcM1
    split <;> omega
theorem rcM_ok (s : Int) : ∀ k : Nat, 0 ≤ rcM s k ∧ rcM s k ≤ 8
  | 0 => by unfold rcM; omega
  | k + 1 => by
    have := rcM_ok s k
    have := rcM1_ok s k 8 0
    unfold rcM
    omega
theorem y_row {s : Int} (hN : 5000 ≤ N) (s0 : 0 ≤ s) (s1 : s < 256) {ko : Int → mSt → Prop} (h : ko (rcM s 8) M) : w_X12_row_14 N Q ko N s 0 0 M := by
  refine lpUp (K := 8) (W := fun n k T => w_X12_row_14 N Q ko n s (rcM s k) k T) (I := fun k M' => M' = M) (fun n X' hI => ?_) (fun n k X' hk hI ih => ?_) (by omega) rfl
  · exact ⟨fun _ => by rw [hI]; exact h, fun hc => by omega⟩
  · subst hI
    refine ⟨fun hc => by omega, fun _ v1 e1 => ?_⟩
    subst e1
    have fin : ∀ r : Nat, r = rcM1 s k 8 0 → w_X12_row_50 N Q (w_X12_row_14 N Q ko n) s (rcM s k) k r X' := by
      intro r hr
      refine a_greater (fun v2 e2 v3 e3 => ?_)
      rw [nx8 (by omega)] at e3
      subst e3
      have := ih X' rfl
      have e5 : v2 = rcM s (k + 1) := by rw [e2, hr]; rfl
      rw [e5]
      exact this
    have loop : ∀ (d m j : Nat), j + d = 8 → d < m → rcM1 s k 8 0 = rcM1 s k d j → w_X12_row_23 N Q (fun (x1_2 : Int) (x2_2 : Int) (x3_2 : Int) (x4_2 : Int) (S_2 : mSt) => w_X12_row_50 N Q (w_X12_row_14 N Q ko n) x1_2 x2_2 x3_2 x4_2 S_2) m s (rcM s k) k j X' := by
      intro d
      induction d with
      | zero =>
        intro m j hj hm hr
        obtain ⟨m, rfl⟩ : ∃ m', m = m' + 1 := ⟨m - 1, by omega⟩
        exact ⟨fun _ => fin j hr.symm, fun hc => by omega⟩
      | succ d ihd =>
        intro m j hj hm hr
        obtain ⟨m, rfl⟩ : ∃ m', m = m' + 1 := ⟨m - 1, by omega⟩
        have ei : iRem (nm ((k : Int) + j)) 8 = (((k + j) % 8 : Nat) : Int) := by rw [nm_of (by omega) (by omega), iRem_nn (by unfold okI; omega) (by decide) (by omega) (by omega)]; omega
        refine ⟨fun hc => by omega, fun _ => ?_⟩
        rw [ei]
        unfold w_X12_isOf
        rw [sh_bt' s0 s1 (by omega) (by omega)]
        unfold rcM1 at hr
        refine ⟨fun hb => ⟨fun _ => ?_, fun hc => absurd rfl hc⟩, fun hb => ⟨fun hc => absurd hc (by decide), fun _ v2 e2 => ?_⟩⟩
        · rw [if_neg hb] at hr
          exact fin j hr.symm
        · rw [if_pos hb] at hr
          rw [nx8 (by omega)] at e2
          subst e2
          exact ihd m (j + 1) (by omega) (by omega) hr
    exact loop 8 N 0 rfl (by omega) rfl
theorem k_28 (hN : 5000 ≤ N) (I : IV N n X M q q' lw lw' P) (okX : okS X) (okM : okS M) : wl_28 N a1 a2 a3 a4 a5 X M (fun X1 M1 => Inv N (n + 1) X1 M1) := by
  refine x_shines hN (I.CQ (by omega) okX) (fun X' C' F' v2 e2 v3 e3 v4 e4 v5 e5 => ?_)
  subst e3; subst e4; subst e5
  have hb := bset_ok (fLight (AP P) (M 1)) 8 (by omega)
  rw [← e2] at hb
  refine x_row hN hb.1 hb.2 (fun S1 e1 => ?_)
  subst e1
  refine y_shining hN ((I.MC okM).thr (by decide)) (fun M' D' G' v3 e3 v4 e4 v5 e5 => ?_)
  subst e4; subst e5
  rw [← e2] at e3
  subst e3
  refine y_row hN hb.1 hb.2 ⟨?_, I.next F' G'⟩
  have := row_eq v3.toNat (by omega)
  rw [show ((v3.toNat : Nat) : Int) = v3 by omega] at this
  rw [iMin_min]; exact this
-- darkest
def dkL (g : Int → Int) : Nat → Int
  | 0 => 0
  | k + 1 => if g (k + 1 : Nat) < g (dkL g k) then (k + 1 : Nat) else dkL g k
theorem dkL_ok (g : Int → Int) : ∀ k : Nat, 0 ≤ dkL g k ∧ dkL g k ≤ k
  | 0 => by unfold dkL; omega
  | k + 1 => by have := dkL_ok g k; unfold dkL; split <;> omega
theorem y_looks (hN : 5000 ≤ N) (C : MC N M f A) {Q : mSt → Prop} (h : ∀ M', MC N M' f A → MQu M M' → (∀ p, 0 ≤ p → p < 8 → M' 12 p = fLight A f p) → Q M') : w_X12_looks N 0 M Q := by
  intro v1 e1
  subst e1
  refine lpUp (K := 8) (W := fun n k T => w_X12_looks_2 N Q (fun (S_2 : mSt) => Q S_2) n 0 k T) (I := fun k M' => MC N M' f A ∧ MQu M M' ∧ ∀ p, 0 ≤ p → p < (k : Int) → M' 12 p = fLight A f p) (fun n M' hI => ?_) (fun n k M' hk hI ih => ?_) (by omega) ⟨C, MQu.rf _, fun p p0 p1 => by omega⟩
  · exact ⟨fun _ => h M' hI.1 hI.2.1 hI.2.2, fun hc => by omega⟩
  · obtain ⟨C', F', L'⟩ := hI
    refine ⟨fun hc => by omega, fun _ => ?_⟩
    have C0 := C'
    obtain ⟨ok, rfl, hR, hB, hL⟩ := C'
    refine a_light (by omega) hL hB ok hR.1.1 (by omega) (by omega) (fun M2 ok2 F2 => ⟨by omega, by omega, fun S3 e3 v4 e4 => ?_⟩)
    rw [nx8 (by omega)] at e4
    subst e4
    have hl := fLight_ok A (M' 1) k
    refine ih S3 ⟨C0.of (by rw [e3]; exact okS_up ok2 (by unfold okI; omega)) (by rw [e3, mup_ne _ _ _ (by decide), F2.m]), by rw [e3]; exact (F'.tr F2.q).tr (MQu.up (by omega)), fun p p0 p1 => ?_⟩
    rw [e3, Nat.zero_add]
    by_cases hp : p = k
    · subst hp; exact mup_same _ _ _ _
    · rw [mup_i _ _ _ hp, F2.1 12 (by decide) (by decide)]; exact L' p p0 (by omega)
theorem k_29 (hN : 5000 ≤ N) (I : IV N n X M q q' lw lw' P) (okX : okS X) (okM : okS M) : wl_29 N a1 a2 a3 a4 a5 X M (fun X1 M1 => Inv N (n + 1) X1 M1) := by
  have hK := I.1
  obtain ⟨k1, -, k3, -⟩ := hK
  intro v1 e1 q2 e2 q3 e3
  have : q2 = lw := by omega
  have : q3 = q := by omega
  subst q2 q3
  subst e1
  refine x_light (I.CQ (by omega) okX) (by decide) (by decide) (fun X1 C1 F1 v5 e5 v6 e6 => ?_)
  subst e5; subst e6
  have model : ∀ X', XF q' lw X X' → w_X12_darkest N 0 M (fun (M2 : mSt) (v2 : Int) => dkL (fLight (AP P) (M 1)) 7 = v2 ∧ Inv N (n + 1) X' M2) := by
    intro X' F' S1 e1
    subst e1
    refine y_looks hN ((I.MC okM).thr (by decide)) (fun M2 D2 G2 L2 v3 e3 v4 e4 => ?_)
    subst e3; subst e4
    refine lpUp (K := 7) (W := fun n' k T => w_X12_darkest_13 N (fun (M2 : mSt) (v2 : Int) => dkL (fLight (AP P) (M 1)) 7 = v2 ∧ Inv N (n + 1) X' M2) (fun (x1_5 : Int) (S_5 : mSt) => dkL (fLight (AP P) (M 1)) 7 = x1_5 ∧ Inv N (n + 1) X' S_5) n' 0 (dkL (fLight (AP P) (M 1)) k) ((k + 1 : Nat)) T) (I := fun k M' => M' = M2) (fun n' M' hI => ?_) (fun n' k M' hk hI ih => ?_) (by omega) rfl
    · subst hI
      exact ⟨fun _ => ⟨rfl, I.next F' G2⟩, fun hc => by omega⟩
    · subst hI
      have hd := dkL_ok (fLight (AP P) (M 1)) k
      refine ⟨fun hc => by omega, fun _ => ⟨by omega, by omega, by omega, by omega, ?_⟩⟩
      rw [Nat.zero_add, L2 _ (by omega) (by omega), L2 _ (by omega) (by omega)]
      refine ⟨fun hb v1 e1 => ?_, fun hb v3 e3 v1 e1 => ?_⟩
      · rw [nx8 (by omega)] at e1
        subst e1
        have e5 : dkL (fLight (AP P) (M 1)) k = dkL (fLight (AP P) (M 1)) (k + 1) := by
          show _ = if _ then _ else _
          rw [if_neg (by omega)]
        rw [e5]
        exact ih M' rfl
      · rw [nx8 (by omega)] at e1
        subst e1
        have e5 : v3 = dkL (fLight (AP P) (M 1)) (k + 1) := by
          rw [e3]
          show _ = if _ then _ else _
          rw [if_pos (by omega)]
        rw [e5]
        exact ih M' rfl
  refine lpUp (K := 7) (W := fun n' k T => w_X11_darkest_20 N (fun (X1 : mSt) (v1 : Int) => w_X12_darkest N 0 M (fun (M2 : mSt) (v2 : Int) => v1 = v2 ∧ Inv N (n + 1) X1 M2)) (fun (x1_7 : Int) (S_7 : mSt) => w_X12_darkest N 0 M (fun (M2 : mSt) (v2 : Int) => x1_7 = v2 ∧ Inv N (n + 1) S_7 M2)) n' 0 (dkL (fLight (AP P) (M 1)) k) (fLight (AP P) (M 1) (dkL (fLight (AP P) (M 1)) k)) ((k + 1 : Nat)) T) (I := fun k X' => CQ N X' q q' lw lw' (M 1) (AP P) n ∧ XF q' lw X X') (fun n' X' hI => ?_) (fun n' k X' hk hI ih => ?_) (by omega) ⟨C1, F1⟩
  · exact ⟨fun _ => model X' hI.2, fun hc => by omega⟩
  · obtain ⟨C', F'⟩ := hI
    obtain ⟨k1, -, k3, -⟩ := C'.2.1
    refine ⟨fun hc => by omega, fun _ q1 e1 q2 e2 => ?_⟩
    have : q1 = lw := by omega
    have : q2 = q := by omega
    subst q1 q2
    refine x_light C' (by omega) (by omega) (fun X2 C2 F2 v4 e4 => ⟨fun hv v1 e1 => ?_, fun hv v5 e5 v6 e6 v1 e1 => ?_⟩)
    · rw [nx8 (by omega)] at e1
      subst e1
      have e5 : dkL (fLight (AP P) (M 1)) k = dkL (fLight (AP P) (M 1)) (k + 1) := by
        show _ = if _ then _ else _
        rw [if_neg (by omega)]
      rw [e5]
      exact ih X2 ⟨C2, F'.tr F2⟩
    · rw [nx8 (by omega)] at e1
      subst e1
      have e7 : v6 = dkL (fLight (AP P) (M 1)) (k + 1) := by
        rw [e6]
        show _ = if _ then _ else _
        rw [if_pos (by omega)]
      have e8 : v5 = fLight (AP P) (M 1) v6 := by rw [e5, e4, e6]
      rw [e8, e7]
      exact ih X2 ⟨C2, F'.tr F2⟩
end lights
