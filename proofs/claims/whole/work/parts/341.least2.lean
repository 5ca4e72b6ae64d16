set_option maxHeartbeats 400000
set_option maxRecDepth 20000
section leastr
variable {N n : Nat} {X M : mSt} {q q' lw lw' : Nat} {f : mRow} {A : mLaw} {P : mPrg} {a1 a2 a3 a4 a5 : Int} {T : Int} {W : Int → Int → Int} {c : Int → Int} {K : Nat} {L : Int}
theorem x_leastW {Q : mSt → Int → Prop} (L0 : 0 ≤ L) (hL : L ≤ 160) (hv : ∀ d : Nat, d ≤ 8 → ∀ t, 0 ≤ t → t ≤ L → X (225 - d) t = lsV W c K d t) (h : Q X (lsA W c K L (-1))) : w_X9_leastWater N 205 L X Q := by
  have e := hv 8 (by decide) L L0 (by omega)
  have e' : X (205 + 11 + 1 + (0 : Int).toNat) L = lsV W c K 8 L := e
  unfold w_X9_leastWater
  rw [e']
  unfold lsA at h
  refine ⟨L0, by omega, fun hc => ⟨L0, by omega, ?_⟩, fun hc => ?_⟩
  · rw [if_pos hc, if_pos rfl] at h; exact h
  · rw [if_neg (by omega)] at h; exact h
theorem x_first {Q : mSt → Int → Prop} {p t : Int} (hN : 5000 ≤ N) (hW : ∀ p k, 0 ≤ W p k ∧ W p k ≤ 20) (hc : ∀ k, 0 ≤ k → k < (K : Int) → 0 ≤ c k ∧ c k ≤ 30) (hK7 : K ≤ 7) (h0 : WM X W c K) (hL : L ≤ 160) (hv : ∀ d : Nat, d ≤ 8 → ∀ t, 0 ≤ t → t ≤ L → X (225 - d) t = lsV W c K d t) (p0 : 0 ≤ p) (p1 : p < 8) (t0 : 0 ≤ t) (t1 : t ≤ L) {d : Nat} (hd : (d : Int) = 7 - p) (hf : lsV W c K (d + 1) t < 1000) (h : Q X (lsC W c K d t)) : w_X9_firstChoice N 205 p t X Q := by
  obtain ⟨g1, g2, g3, g4⟩ := lsC_ok hf
  have h205 := h0.1
  have ev : X (205 + 11 + 1 + p.toNat) t = lsV W c K (d + 1) t := by
    rw [← hv (d + 1) (by omega) t t0 t1]; congr 1; omega
  intro v1 e1
  subst e1
  refine lpUp (n := N) (T := X) (K := (lsC W c K d t).toNat) (W := fun n k T => w_X9_firstChoice_2 N Q (fun (S_2 : mSt) => Q S_2 0) n 205 p t k T) (I := fun k T => T = X) (fun n T hI => ?_) (fun n k T hk hI ih => ?_) (by omega) rfl
  · subst hI
    refine ⟨fun hc => by rw [h205] at hc; omega, fun _ => ?_⟩
    refine s_waterWith hW hc hK7 h0 p0 p1 (by omega) (by omega) t0 (L := L) t1 hL (d := d) hd (hv d (by omega)) ⟨p0, by omega, t0, by omega, fun hne => absurd ?_ hne, fun _ => ?_⟩
    · rw [ev, show (((lsC W c K d t).toNat : Nat) : Int) = lsC W c K d t by omega]; exact g3
    · rw [show (((lsC W c K d t).toNat : Nat) : Int) = lsC W c K d t by omega]; exact h
  · subst hI
    refine ⟨fun hc => by rw [h205] at hc; omega, fun _ => ?_⟩
    refine s_waterWith hW hc hK7 h0 p0 p1 (by omega) (by omega) t0 (L := L) t1 hL (d := d) hd (hv d (by omega)) ⟨p0, by omega, t0, by omega, fun _ v4 e4 => ?_, fun he => absurd (he.trans ev) (g4 k (by omega) (by omega))⟩
    rw [nx8 (by omega)] at e4
    subst e4
    exact ih T rfl
/-- the choice before part p -/
def lsB (W : Int → Int → Int) (c : Int → Int) (K : Nat) (L : Int) : Nat → Int
  | 0 => 0
  | p + 1 => lsC W c K (7 - p) (lsT W c K L p)
theorem lsT_in (hW : ∀ p k, 0 ≤ W p k ∧ W p k ≤ 20) (L0 : 0 ≤ L) : ∀ p : Nat, 0 ≤ lsT W c K L p ∧ lsT W c K L p ≤ L
  | 0 => ⟨L0, Int.le_refl _⟩
  | p + 1 => by
    have h1 := lsT_in hW L0 p
    have h2 := hW p (lsC W c K (7 - p) (lsT W c K L p))
    show 0 ≤ max 0 _ ∧ max 0 _ ≤ L
    omega
theorem x_soapOf {Q : mSt → Int → Prop} {p : Int} (hN : 5000 ≤ N) (hW : ∀ p k, 0 ≤ W p k ∧ W p k ≤ 20) (hc : ∀ k, 0 ≤ k → k < (K : Int) → 0 ≤ c k ∧ c k ≤ 30) (hK7 : K ≤ 7) (h0 : WM X W c K) (L0 : 0 ≤ L) (hL : L ≤ 160) (hv : ∀ d : Nat, d ≤ 8 → ∀ t, 0 ≤ t → t ≤ L → X (225 - d) t = lsV W c K d t) (p0 : 0 ≤ p) (p1 : p < 8) (h : Q X (lsA W c K L p)) : w_X9_soapOf N 205 p L X Q := by
  have e := hv 8 (by decide) L L0 (by omega)
  have e' : X (205 + 11 + 1 + (0 : Int).toNat) L = lsV W c K 8 L := e
  unfold w_X9_soapOf
  rw [e']
  unfold lsA at h
  refine ⟨L0, by omega, fun hf v2 e2 v3 e3 v4 e4 => ?_, fun hf => ?_⟩
  · rw [if_pos hf, if_neg (by omega)] at h
    subst e2; subst e3; subst e4
    refine lpUp (n := N) (T := X) (K := p.toNat + 1) (W := fun n k T => w_X9_soapOf_24 N Q (fun (x4_5 : Int) (S_5 : mSt) => Q S_5 (nm (x4_5 - 1))) n 205 p (lsT W c K v2 k) (lsB W c K v2 k) k T) (I := fun k T => T = X) (fun n T hI => ?_) (fun n k T hk hI ih => ?_) (by omega) rfl
    · subst hI
      refine ⟨fun _ => ?_, fun hc => by omega⟩
      show Q T (nm (lsC W c K (7 - p.toNat) (lsT W c K v2 p.toNat) - 1))
      have g := lsT_fin hc hf p.toNat (by omega)
      rw [show 8 - p.toNat = (7 - p.toNat) + 1 by omega] at g
      obtain ⟨g1, g2, -, -⟩ := lsC_ok g
      rw [nm_of (by omega) (by omega)]
      exact h
    · subst hI
      refine ⟨fun hc => by omega, fun _ => ?_⟩
      have g := lsT_fin hc hf k (by omega)
      rw [show 8 - k = (7 - k) + 1 by omega] at g
      obtain ⟨g1, g2, -, -⟩ := lsC_ok g
      have ht := lsT_in (c := c) (K := K) hW L0 k
      refine x_first hN hW hc hK7 h0 hL hv (by omega) (by omega) ht.1 ht.2 (d := 7 - k) (by omega) g (fun v2' e2 => ⟨by omega, by omega, by omega, by omega, fun v5 e5 v6 e6 => ?_⟩)
      rw [nx8 (by omega)] at e6
      subst e6; subst e2
      have eW : T (205 + 1 + 1 + ((k : Nat) : Int).toNat) (lsC W c K (7 - k) (lsT W c K v2 k)) = W k (lsC W c K (7 - k) (lsT W c K v2 k)) := by
        rw [← h0.2.1 k (by omega) _ g1 g2]; congr 1
      have hw := hW k (lsC W c K (7 - k) (lsT W c K v2 k))
      rw [eW, nm_of (by omega) (by omega), iMax_max] at e5
      subst e5
      exact ih T rfl
  · rw [if_neg (by omega)] at h; exact h
-- the reference
def mfL (v : Int) : Int := if v < 1000 then v else 2000000000
theorem y_white2 {Q : mSt → Int → Prop} {p k : Int} (p0 : 0 ≤ p) (p1 : p < 8) (k0 : 0 ≤ k) (k1 : k < 7) (h : Q M (M 8 (7 * p + k))) : w_X12_white N 0 p k M Q := by
  unfold w_X12_white
  rw [nm_of (x := 7 * p) (by omega) (by omega), nm_of (by omega) (by omega)]
  exact ⟨by omega, by omega, h⟩
theorem y_from {Q : mSt → Int → Prop} {p w : Int} (p0 : 0 ≤ p) (p1 : p ≤ 8) (w0 : 0 ≤ w) (h : Q M (M 9 (161 * p + min 160 w))) : w_X12_from N 0 p w M Q := by
  unfold w_X12_from
  have e : nm (161 * p) = 161 * p := nm_of (by omega) (by omega)
  refine a_lesser ?_
  show 0 ≤ nm (nm (161 * p) + min 160 w) ∧ nm (nm (161 * p) + min 160 w) < 1449 ∧ Q M (M 9 (nm (nm (161 * p) + min 160 w)))
  rw [e, nm_of (by omega) (by omega)]
  exact ⟨by omega, by omega, h⟩
theorem y_costs {Q : mSt → Int → Prop} {k : Int} (k0 : 0 ≤ k) (k1 : k < 7) (hk : c k = if k = 0 then 0 else M 1 (70 + 4 * (k - 1) + 1)) (h : Q M (c k)) : w_X12_costs N 0 k M Q := by
  rw [hk] at h
  refine ⟨fun hc => ?_, fun hc => ?_⟩
  · rw [if_neg hc] at h
    rw [nm_of (by omega) (by omega)]
    exact a_ofSoap (by omega) (by omega) (by omega) (by omega) h
  · rw [if_pos hc] at h; exact h
theorem y_whites {R : mSt → Int → Prop} {Kk : Nat → Int → Int → mSt → Prop} (hN : 5000 ≤ N) (C : MC N M f A) (hK : K = (f 3).toNat + 1) (hW : ∀ p k, W p k = fWhite A (fWould f p (k - 1)) p) (x1 x2 : Int) (h : ∀ M', MC N M' f A → MQw M M' → (∀ p : Nat, p < 8 → ∀ k : Int, 0 ≤ k → k < K → M' 8 (7 * p + k) = W p k) → Kk 0 x1 x2 M') : w_X12_least_47 N R Kk N 0 x1 x2 0 M := by
  have h3 := C.2.2.1.2.1
  refine lpUp (n := N) (T := M) (K := 8) (W := fun n k T => w_X12_least_47 N R Kk n 0 x1 x2 k T) (I := fun p M' => MC N M' f A ∧ MQw M M' ∧ ∀ p' : Nat, p' < p → ∀ k : Int, 0 ≤ k → k < K → M' 8 (7 * p' + k) = W p' k) (fun n T hI => ?_) (fun n p T hp hI ih => ?_) (by omega) ⟨C, MQw.rf _, fun p' hp => by omega⟩
  · obtain ⟨i1, i2, i3⟩ := hI
    exact ⟨fun _ => h T i1 i2 i3, fun hc => by omega⟩
  · obtain ⟨i1, i2, i3⟩ := hI
    refine ⟨fun hc => by omega, fun _ v1 e1 => ?_⟩
    subst e1
    refine lpUp (n := N) (T := T) (K := K) (W := fun n' k T' => w_X12_least_56 N R (fun (r0_2 : Nat) (x1_2 : Int) (x2_2 : Int) (x3_2 : Int) (S_2 : mSt) => ∀ v3 : Int, v3 = nm (x3_2 + 1) → w_X12_least_47 N R Kk n r0_2 x1_2 x2_2 v3 S_2) n' 0 x1 x2 p k T') (I := fun k M' => MC N M' f A ∧ MQw M M' ∧ (∀ p' : Nat, p' < p → ∀ k : Int, 0 ≤ k → k < K → M' 8 (7 * p' + k) = W p' k) ∧ ∀ j : Int, 0 ≤ j → j < k → M' 8 (7 * p + j) = W p j) (fun n' T' hJ => ?_) (fun n' k T' hk hJ jh => ?_) (by omega) ⟨i1, i2, i3, fun j a b => by omega⟩
    · obtain ⟨j1, j2, j3, j4⟩ := hJ
      have e3 : T' (0 + 1) 3 = f 3 := by rw [Nat.zero_add, j1.2.1]
      refine ⟨fun _ v3 e3 => ?_, fun hc => by rw [e3] at hc; omega⟩
      rw [nx8 (by omega)] at e3
      subst e3
      refine ih T' ⟨j1, j2, fun p' hp' k a b => ?_⟩
      by_cases he : p' = p
      · subst he; exact j4 k a b
      · exact j3 p' (by omega) k a b
    · obtain ⟨j1, j2, j3, j4⟩ := hJ
      have e3 : T' (0 + 1) 3 = f 3 := by rw [Nat.zero_add, j1.2.1]
      refine ⟨fun hc => by rw [e3] at hc; omega, fun _ => ?_⟩
      rw [nm_of (x := (k : Int) - 1) (by omega) (by omega)]
      refine y_would hN j1 (by omega) (by omega) (by omega) (fun M2 C2 F2 => ?_)
      have hw := fWhite_ok A (fWould f p ((k : Int) - 1)) p
      have e7 : nm (nm (7 * (p : Int)) + k) = 7 * p + k := by rw [nm_of (x := 7 * (p : Int)) (by omega) (by omega), nm_of (by omega) (by omega)]
      rw [e7, ← hW]
      rw [← hW] at hw
      refine ⟨by omega, by omega, fun S3 e3 v4 e4 => ?_⟩
      rw [nx8 (by omega)] at e4
      subst e4
      have e3' : S3 = mup M2 8 (7 * (p : Int) + k) (W p k) := e3
      have ok3 : okI (W p k) := by unfold okI; omega
      have e8 : M2 8 = T' 8 := F2.1.2.2.2.2 8 (by decide) (by decide)
      refine jh S3 ⟨C2.of (by rw [e3']; exact okS_up C2.1 ok3) (by rw [e3', mup_ne _ _ _ (by decide)]), (j2.tr F2.w).tr (by rw [e3']; exact MQw.up (by decide)), fun p' hp' j a b => ?_, fun j a b => ?_⟩
      · rw [e3', mup_i _ _ _ (by omega), e8]; exact j3 p' hp' j a b
      · rw [e3']
        by_cases he : j = k
        · rw [he, mup_same]
        · rw [mup_i _ _ _ (by omega), e8]; exact j4 j a (by omega)
def VM (M : mSt) (W : Int → Int → Int) (c : Int → Int) (K : Nat) (L : Int) (d : Nat) : Prop := ∀ w : Int, 0 ≤ w → w ≤ 160 → M 9 (161 * (8 - (d : Int)) + w) = mfL (lsV W c K d (max 0 (L - w)))
theorem VM.at' {d : Nat} (hd : d ≤ 8) (h : VM M W c K L d) {p w : Int} (hp : p = 8 - d) (w0 : 0 ≤ w) (hL : L ≤ 160) : M 9 (161 * p + min 160 w) = mfL (lsV W c K d (max 0 (L - w))) := by
  rw [hp, h (min 160 w) (by omega) (by omega)]
  congr 2; omega
theorem mfL_ok {v : Int} (h : 0 ≤ v) : 0 ≤ mfL v ∧ mfL v ≤ 2000000000 := by unfold mfL; split <;> omega
theorem y_dp {R : mSt → Int → Prop} {Kk : Nat → Int → mSt → Prop} (hN : 5000 ≤ N) (ok : okS M) (hW : ∀ p k, 0 ≤ W p k ∧ W p k ≤ 20) (hc : ∀ k, 0 ≤ k → k < (K : Int) → 0 ≤ c k ∧ c k ≤ 30) (hK7 : K ≤ 7) (hK : (K : Int) = M 1 3 + 1) (hcm : ∀ k, c k = if k = 0 then 0 else M 1 (70 + 4 * (k - 1) + 1)) (hw8 : ∀ p : Nat, p < 8 → ∀ k : Int, 0 ≤ k → k < K → M 8 (7 * p + k) = W p k) (L0 : 0 ≤ L) (hL : L ≤ 160) (x2 : Int) (h : ∀ M', okS M' → (∀ r, r ≠ 9 → M' r = M r) → (∀ d : Nat, d ≤ 8 → VM M' W c K L d) → Kk 0 x2 M') : w_X12_least_102 N R (fun (r0_5 : Nat) (x2_5 : Int) (S_5 : mSt) => ∀ v6 : Int, v6 = 7 → w_X12_least_140 N R Kk N r0_5 x2_5 v6 S_5) N 0 L x2 0 M := by
  refine lpUp (n := N) (T := M) (K := 161) (W := fun n k T => w_X12_least_102 N R (fun (r0_5 : Nat) (x2_5 : Int) (S_5 : mSt) => ∀ v6 : Int, v6 = 7 → w_X12_least_140 N R Kk N r0_5 x2_5 v6 S_5) n 0 L x2 k T) (I := fun k T => okS T ∧ (∀ r, r ≠ 9 → T r = M r) ∧ ∀ w : Int, 0 ≤ w → w < k → T 9 (1288 + w) = mfL (lsV W c K 0 (max 0 (L - w)))) (fun n T hI => ?_) (fun n k T hk hI ih => ?_) (by omega) ⟨ok, fun _ _ => rfl, fun w a b => by omega⟩
  · obtain ⟨i1, i2, i3⟩ := hI
    refine ⟨fun _ v6 e6 => ?_, fun hc => by omega⟩
    subst e6
    refine lpUp (n := N) (T := T) (K := 8) (W := fun n d T => w_X12_least_140 N R Kk n 0 x2 (7 - (d : Int)) T) (I := fun d T => okS T ∧ (∀ r, r ≠ 9 → T r = M r) ∧ ∀ d' : Nat, d' ≤ d → VM T W c K L d') (fun n T hI => ?_) (fun n d T hd hI ih => ?_) (by omega) ⟨i1, i2, fun d' hd => by
      have : d' = 0 := by omega
      subst this
      intro w a b
      exact i3 w a (by omega)⟩
    · obtain ⟨j1, j2, j3⟩ := hI
      exact ⟨fun _ => h T j1 j2 j3, fun hc => by omega⟩
    · obtain ⟨j1, j2, j3⟩ := hI
      refine ⟨fun hc => by omega, fun _ v1 e1 => ?_⟩
      subst e1
      refine lpUp (n := N) (T := T) (K := 161) (W := fun n' w T' => w_X12_least_147 N R (fun (r0_2 : Nat) (x2_2 : Int) (x3_2 : Int) (S_2 : mSt) => ∀ v3 : Int, v3 = nm (x3_2 + (-1)) → w_X12_least_140 N R Kk n r0_2 x2_2 v3 S_2) n' 0 x2 (7 - (d : Int)) w T') (I := fun k T' => okS T' ∧ (∀ r, r ≠ 9 → T' r = M r) ∧ (∀ d' : Nat, d' ≤ d → VM T' W c K L d') ∧ ∀ w : Int, 0 ≤ w → w < k → T' 9 (161 * (7 - (d : Int)) + w) = mfL (lsV W c K (d + 1) (max 0 (L - w)))) (fun n' T' hJ => ?_) (fun n' w T' hk hJ jh => ?_) (by omega) ⟨j1, j2, j3, fun t a b => by omega⟩
      · obtain ⟨l1, l2, l3, l4⟩ := hJ
        refine ⟨fun _ v3 e3 => ?_, fun hc => by omega⟩
        rw [nm_of (by omega) (by omega), show 7 - (d : Int) + -1 = 7 - ((d + 1 : Nat) : Int) by omega] at e3
        subst e3
        refine ih T' ⟨l1, l2, fun d' hd' => ?_⟩
        by_cases he : d' = d + 1
        · subst he
          intro w a b
          rw [show (8 : Int) - ((d + 1 : Nat) : Int) = 7 - d by omega]
          exact l4 w a (by omega)
        · exact l3 d' (by omega)
      · obtain ⟨l1, l2, l3, l4⟩ := hJ
        refine ⟨fun hc => by omega, fun _ v1 e1 v2 e2 => ?_⟩
        subst e1; subst e2
        have e13 : T' (0 + 1) 3 = (K : Int) - 1 := by rw [Nat.zero_add, l2 1 (by decide)]; omega
        have e7 : nm (nm (161 * (7 - (d : Int))) + w) = 161 * (7 - (d : Int)) + w := by rw [nm_of (x := 161 * (7 - (d : Int))) (by omega) (by omega), nm_of (by omega) (by omega)]
        have e72 : nm (7 - (d : Int) + 1) = 7 - (d : Int) + 1 := nm_of (by omega) (by omega)
        refine lpUp (n := N) (T := T') (K := K) (W := fun n2 j T2 => w_X12_least_163 N R (fun (r0_3 : Nat) (x2_3 : Int) (x3_3 : Int) (x4_3 : Int) (x5_3 : Int) (S_3 : mSt) => (0 ≤ (nm ((nm (161 * x3_3)) + x4_3)) ∧ (nm ((nm (161 * x3_3)) + x4_3)) < 1449 ∧ ∀ S5 : mSt, S5 = mup S_3 (r0_3 + 9) (nm ((nm (161 * x3_3)) + x4_3)) x5_3 → ∀ v6 : Int, v6 = nm (x4_3 + 1) → w_X12_least_147 N R (fun (r0_2 : Nat) (x2_2 : Int) (x3_2 : Int) (S_2 : mSt) => ∀ v3 : Int, v3 = nm (x3_2 + (-1)) → w_X12_least_140 N R Kk n r0_2 x2_2 v3 S_2) n' r0_3 x2_3 x3_3 v6 S5)) n2 0 x2 (7 - (d : Int)) w (mfL (mnL (lsG W c K d (max 0 (L - w))) j)) j T2) (I := fun j T2 => T2 = T') (fun n2 T2 hI2 => ?_) (fun n2 j T2 hj hI2 jh2 => ?_) (by omega) rfl
        · subst hI2
          refine ⟨fun _ => ?_, fun hc => by rw [e13] at hc; omega⟩
          refine ⟨by rw [e7]; omega, by rw [e7]; omega, fun S5 e5 v6 e6 => ?_⟩
          rw [e7] at e5
          rw [nx8 (by omega)] at e6
          subst e6
          rw [← lsV_s] at e5
          have e5' : S5 = mup T2 9 (161 * (7 - (d : Int)) + w) (mfL (lsV W c K (d + 1) (max 0 (L - w)))) := e5
          have o := lsV_ok (W := W) hc (d + 1) (max 0 (L - w)) (by omega)
          have o1 := mfL_ok o.1
          have o2 : okI (mfL (lsV W c K (d + 1) (max 0 (L - w)))) := by unfold okI; omega
          refine jh S5 ⟨by rw [e5']; exact okS_up l1 o2, fun r hr => by rw [e5', mup_ne _ _ _ hr]; exact l2 r hr, fun d' hd' w' a b => by rw [e5', mup_i _ _ _ (by omega)]; exact l3 d' hd' w' a b, fun w' a b => ?_⟩
          rw [e5']
          by_cases he : w' = w
          · rw [he, mup_same]
          · rw [mup_i _ _ _ (by omega)]; exact l4 w' a (by omega)
        · subst hI2
          refine ⟨fun hc => by rw [e13] at hc; omega, fun _ => ?_⟩
          have e8 : T2 8 (7 * (7 - (d : Int)) + j) = W (7 - (d : Int)) j := by
            have := hw8 (7 - d) (by omega) j (by omega) (by omega)
            rw [show (((7 - d : Nat)) : Int) = 7 - (d : Int) by omega] at this
            rw [l2 8 (by decide)]; exact this
          have hw := hW (7 - (d : Int)) j
          have e9 : nm ((w : Int) + W (7 - (d : Int)) j) = w + W (7 - (d : Int)) j := nm_of (by omega) (by omega)
          have ev : T2 9 (161 * (7 - (d : Int) + 1) + min 160 ((w : Int) + W (7 - (d : Int)) j)) = mfL (lsV W c K d (max 0 (max 0 (L - w) - W (7 - d) j))) := by
            rw [(l3 d (by omega)).at' (by omega) (by omega) (by omega) hL]; congr 2; omega
          have o := lsV_ok (W := W) hc d (max 0 (max 0 (L - w) - W (7 - d) j)) (by omega)
          have cj := hc j (by omega) (by omega)
          have mle := mnL_le (lsG W c K d (max 0 (L - w))) j
          have es : mnL (lsG W c K d (max 0 (L - w))) (j + 1) = min (mnL (lsG W c K d (max 0 (L - w))) j) (c j + lsV W c K d (max 0 (max 0 (L - w) - W (7 - d) j))) := rfl
          refine y_white2 (by omega) (by omega) (by omega) (by omega) ?_
          rw [e8, e72]
          show w_X12_from N 0 _ (nm ((w : Int) + W (7 - (d : Int)) j)) T2 _
          rw [e9]
          refine y_from (by omega) (by omega) (by omega) ?_
          rw [ev]
          refine ⟨fun hb v1 e1 => ?_, fun hb => y_costs (c := c) (by omega) (by omega) (by rw [hcm, l2 1 (by decide)]) (y_white2 (by omega) (by omega) (by omega) (by omega) ?_)⟩
          · rw [nx8 (by omega)] at e1
            subst e1
            have hge : ¬ lsV W c K d (max 0 (max 0 (L - w) - W (7 - d) j)) < 1000 := by
              intro hlt
              have : mfL (lsV W c K d (max 0 (max 0 (L - w) - W (7 - d) j))) = lsV W c K d (max 0 (max 0 (L - w) - W (7 - d) j)) := by unfold mfL; rw [if_pos hlt]
              omega
            have em : mnL (lsG W c K d (max 0 (L - w))) (j + 1) = mnL (lsG W c K d (max 0 (L - w))) j := by rw [es]; omega
            have := jh2 T2 rfl
            rw [em] at this
            exact this
          · have hlt : lsV W c K d (max 0 (max 0 (L - w) - W (7 - d) j)) < 1000 := by
              apply Decidable.byContradiction
              intro hge
              have : mfL (lsV W c K d (max 0 (max 0 (L - w) - W (7 - d) j))) = 2000000000 := by unfold mfL; rw [if_neg hge]
              omega
            rw [e8]
            show w_X12_from N 0 _ (nm ((w : Int) + W (7 - (d : Int)) j)) T2 _
            rw [e9]
            refine y_from (by omega) (by omega) (by omega) ?_
            rw [ev]
            have e10 : mfL (lsV W c K d (max 0 (max 0 (L - w) - W (7 - d) j))) = lsV W c K d (max 0 (max 0 (L - w) - W (7 - d) j)) := by unfold mfL; rw [if_pos hlt]
            rw [e10]
            refine a_lesser (fun v7 e7' v8 e8' => ?_)
            rw [nx8 (by omega)] at e8'
            rw [nm_of (by omega) (by omega)] at e7'
            subst e8'
            have em : v7 = mfL (mnL (lsG W c K d (max 0 (L - w))) (j + 1)) := by
              rw [e7', es]
              unfold mfL
              split <;> split <;> omega
            rw [em]
            exact jh2 T2 rfl
  · obtain ⟨i1, i2, i3⟩ := hI
    have e1 : nm (1288 + (k : Int)) = 1288 + k := nm_of (by omega) (by omega)
    have key : ∀ v : Int, v = mfL (lsV W c K 0 (max 0 (L - k))) → okI v → w_X12_least_130 N R (w_X12_least_102 N R (fun (r0_5 : Nat) (x2_5 : Int) (S_5 : mSt) => ∀ v6 : Int, v6 = 7 → w_X12_least_140 N R Kk N r0_5 x2_5 v6 S_5) n) 0 L x2 k v (nm (1288 + (k : Int))) (0 + 9) T := by
      intro v ev ov
      rw [e1]
      refine ⟨by omega, by omega, fun S2 e2 v3 e3 => ?_⟩
      rw [nx8 (by omega)] at e3
      subst e3
      have e2' : S2 = mup T 9 (1288 + (k : Int)) v := e2
      refine ih S2 ⟨by rw [e2']; exact okS_up i1 ov, fun r hr => by rw [e2', mup_ne _ _ _ hr]; exact i2 r hr, fun w a b => ?_⟩
      rw [e2']
      by_cases he : w = k
      · rw [he, mup_same, ev]
      · rw [mup_i _ _ _ (by omega)]; exact i3 w a (by omega)
    refine ⟨fun hc => by omega, fun _ => ⟨fun hz => key _ ?_ (by decide), fun hz => key 0 ?_ (by decide)⟩⟩
    · show (2000000000 : Int) = mfL (if max 0 (L - (k : Int)) = 0 then 0 else 1000)
      rw [if_neg (by omega)]; rfl
    · show (0 : Int) = mfL (if max 0 (L - (k : Int)) = 0 then 0 else 1000)
      rw [if_pos (by omega)]; rfl
def lsU (W : Int → Int → Int) (c : Int → Int) (K : Nat) (L : Int) : Nat → Int
  | 0 => 0
  | p + 1 => lsU W c K L p + W p (lsC W c K (7 - p) (lsT W c K L p))
theorem lsU_ok (hW : ∀ p k, 0 ≤ W p k ∧ W p k ≤ 20) (L0 : 0 ≤ L) : ∀ p : Nat, 0 ≤ lsU W c K L p ∧ lsU W c K L p ≤ 20 * p ∧ lsT W c K L p = max 0 (L - lsU W c K L p)
  | 0 => ⟨Int.le_refl _, by show (0 : Int) ≤ _; omega, by show L = max 0 (L - 0); omega⟩
  | p + 1 => by
    have h1 := lsU_ok hW L0 p
    have h2 := hW p (lsC W c K (7 - p) (lsT W c K L p))
    show 0 ≤ lsU W c K L p + W p (lsC W c K (7 - p) (lsT W c K L p)) ∧ lsU W c K L p + W p (lsC W c K (7 - p) (lsT W c K L p)) ≤ _ ∧ max 0 (lsT W c K L p - W p (lsC W c K (7 - p) (lsT W c K L p))) = max 0 (L - (lsU W c K L p + W p (lsC W c K (7 - p) (lsT W c K L p))))
    omega
theorem mfL_lt {v : Int} (h : v < 1000) : mfL v = v := by unfold mfL; rw [if_pos h]
theorem mfL_ge {v : Int} (h : ¬ v < 1000) : mfL v = 2000000000 := by unfold mfL; rw [if_neg h]
theorem y_end {Q : mSt → Int → Prop} {x2 : Int} (hN : 5000 ≤ N) (hW : ∀ p k, 0 ≤ W p k ∧ W p k ≤ 20) (hc : ∀ k, 0 ≤ k → k < (K : Int) → 0 ≤ c k ∧ c k ≤ 30) (hK7 : K ≤ 7) (hcm : ∀ k, c k = if k = 0 then 0 else M 1 (70 + 4 * (k - 1) + 1)) (hw8 : ∀ p : Nat, p < 8 → ∀ k : Int, 0 ≤ k → k < K → M 8 (7 * p + k) = W p k) (L0 : 0 ≤ L) (hL : L ≤ 160) (hV : ∀ d : Nat, d ≤ 8 → VM M W c K L d) (hx : x2 = -1 ∨ (0 ≤ x2 ∧ x2 < 8)) (h : Q M (lsA W c K L x2)) : w_X12_from N 0 0 0 M (fun (S8 : mSt) (v8 : Int) => ((v8 ≠ 2000000000 → ((x2 ≠ (-1) → ∀ v9 : Int, v9 = 0 → ∀ v10 : Int, v10 = 0 → ∀ v11 : Int, v11 = 0 → w_X12_least_295 N Q (fun (x4_12 : Int) (S_12 : mSt) => Q S_12 (nm (x4_12 - 1))) N 0 x2 v9 v10 v11 S8) ∧ (x2 = (-1) → w_X12_from N 0 0 0 S8 (fun (S13 : mSt) (v13 : Int) => Q S13 v13)))) ∧ (v8 = 2000000000 → Q S8 (-1)))) := by
  have e0 : M 9 (161 * 0 + min 160 0) = mfL (lsV W c K 8 L) := by
    rw [(hV 8 (by omega)).at' (by omega) (by omega) (by omega) hL]; congr 2; omega
  refine y_from (by omega) (by omega) (by omega) ?_
  rw [e0]
  unfold lsA at h
  by_cases hf : lsV W c K 8 L < 1000
  · rw [if_pos hf] at h
    rw [mfL_lt hf]
    refine ⟨fun _ => ⟨fun hp v9 e9 v10 e10 v11 e11 => ?_, fun hp => ?_⟩, fun hc => by omega⟩
    · rw [if_neg hp] at h
      have hx2 := hx.resolve_left hp
      subst e9; subst e10; subst e11
      refine lpUp (n := N) (T := M) (K := x2.toNat + 1) (W := fun n p T => w_X12_least_295 N Q (fun (x4_12 : Int) (S_12 : mSt) => Q S_12 (nm (x4_12 - 1))) n 0 x2 (lsU W c K L p) (lsB W c K L p) p T) (I := fun k T => T = M) (fun n T hI => ?_) (fun n p T hp hI ih => ?_) (by omega) rfl
      · subst hI
        refine ⟨fun _ => ?_, fun hc => by omega⟩
        show Q T (nm (lsC W c K (7 - x2.toNat) (lsT W c K L x2.toNat) - 1))
        have g := lsT_fin hc hf x2.toNat (by omega)
        rw [show 8 - x2.toNat = (7 - x2.toNat) + 1 by omega] at g
        obtain ⟨g1, g2, -, -⟩ := lsC_ok g
        rw [nm_of (by omega) (by omega)]
        exact h
      · subst hI
        refine ⟨fun hc => by omega, fun _ v1 e1 => ?_⟩
        subst e1
        have g := lsT_fin hc hf p (by omega)
        rw [show 8 - p = (7 - p) + 1 by omega] at g
        obtain ⟨g1, g2, g3, g4⟩ := lsC_ok g
        obtain ⟨u1, u2, u3⟩ := lsU_ok (c := c) (K := K) hW L0 p
        have ew : ∀ k : Int, 0 ≤ k → k < K → T 8 (7 * (p : Int) + k) = W p k := fun k a b => hw8 p (by omega) k a b
        have es : ∀ k : Int, nm (lsU W c K L p + W p k) = lsU W c K L p + W p k := fun k => by have := hW p k; exact nm_of (by omega) (by omega)
        have ev : ∀ k : Int, T 9 (161 * ((p : Int) + 1) + min 160 (lsU W c K L p + W p k)) = mfL (lsV W c K (7 - p) (max 0 (lsT W c K L p - W p k))) := fun k => by
          have := hW p k
          rw [(hV (7 - p) (by omega)).at' (by omega) (by omega) (by omega) hL, u3]; congr 2; omega
        have ev2 : T 9 (161 * (p : Int) + min 160 (lsU W c K L p)) = lsV W c K (7 - p + 1) (lsT W c K L p) := by
          rw [(hV (7 - p + 1) (by omega)).at' (by omega) (by omega) (by omega) hL, ← u3, mfL_lt g]
        have e77 : (7 : Int) - ((7 - p : Nat) : Int) = p := by omega
        have eg : ∀ k, lsG W c K (7 - p) (lsT W c K L p) k = c k + lsV W c K (7 - p) (max 0 (lsT W c K L p - W p k)) := fun k => by unfold lsG; rw [e77]
        -- one look at a choice
        have look : ∀ (k : Int) (Q1 Q2 : mSt → Prop), 0 ≤ k → k < K → (lsG W c K (7 - p) (lsT W c K L p) k = lsV W c K (7 - p + 1) (lsT W c K L p) → Q1 T) → (lsG W c K (7 - p) (lsT W c K L p) k ≠ lsV W c K (7 - p + 1) (lsT W c K L p) → Q2 T) → w_X12_white N 0 p k T (fun (S1 : mSt) (v1 : Int) => w_X12_from N 0 (nm ((p : Int) + 1)) (nm (lsU W c K L p + v1)) S1 (fun (S2 : mSt) (v2 : Int) => ((v2 = 2000000000 → Q2 S2) ∧ (v2 ≠ 2000000000 → w_X12_costs N 0 k S2 (fun (S3 : mSt) (v3 : Int) => w_X12_white N 0 p k S3 (fun (S4 : mSt) (v4 : Int) => w_X12_from N 0 (nm ((p : Int) + 1)) (nm (lsU W c K L p + v4)) S4 (fun (S5 : mSt) (v5 : Int) => w_X12_from N 0 p (lsU W c K L p) S5 (fun (S6 : mSt) (v6 : Int) => (((nm (v3 + v5)) = v6 → Q1 S6) ∧ ((nm (v3 + v5)) ≠ v6 → Q2 S6)))))))))) := by
          intro k Q1 Q2 k0 k1 hq1 hq2
          rw [nm_of (x := (p : Int) + 1) (by omega) (by omega)]
          have hw := hW p k
          have cj := hc k k0 k1
          have o := lsV_ok (W := W) hc (7 - p) (max 0 (lsT W c K L p - W p k)) (by omega)
          refine y_white2 (by omega) (by omega) (by omega) (by omega) ?_
          rw [ew k k0 k1]
          show w_X12_from N 0 _ (nm (lsU W c K L p + W p k)) T _
          rw [es]
          refine y_from (by omega) (by omega) (by omega) ?_
          rw [ev]
          have egk := eg k
          by_cases hlt : lsV W c K (7 - p) (max 0 (lsT W c K L p - W p k)) < 1000
          · rw [mfL_lt hlt]
            refine ⟨fun hb => by omega, fun hb => y_costs (c := c) (by omega) (by omega) (hcm k) (y_white2 (by omega) (by omega) (by omega) (by omega) ?_)⟩
            rw [ew k k0 k1]
            show w_X12_from N 0 _ (nm (lsU W c K L p + W p k)) T _
            rw [es]
            refine y_from (by omega) (by omega) (by omega) ?_
            rw [ev, mfL_lt hlt]
            refine y_from (by omega) (by omega) (by omega) ?_
            rw [ev2, nm_of (by omega) (by omega), ← egk]
            exact ⟨hq1, hq2⟩
          · rw [mfL_ge hlt]
            refine ⟨fun _ => hq2 (by omega), fun hb => absurd rfl hb⟩
        refine lpUp (n := N) (T := T) (K := (lsC W c K (7 - p) (lsT W c K L p)).toNat) (W := fun n' k T' => w_X12_least_304 N Q (fun (r0_2 : Nat) (x2_2 : Int) (x3_2 : Int) (x4_2 : Int) (x5_2 : Int) (S_2 : mSt) => w_X12_white N r0_2 x5_2 x4_2 S_2 (fun (S3 : mSt) (v3 : Int) => ∀ v4 : Int, v4 = (nm (x3_2 + v3)) → ∀ v5 : Int, v5 = nm (x5_2 + 1) → w_X12_least_295 N Q (fun (x4_12 : Int) (S_12 : mSt) => Q S_12 (nm (x4_12 - 1))) n r0_2 x2_2 v4 x4_2 v5 S3)) n' 0 x2 (lsU W c K L p) k p T') (I := fun k T' => T' = T) (fun n' T' hI2 => ?_) (fun n' k T' hk hI2 jh => ?_) (by omega) rfl
        · subst hI2
          refine look _ _ _ (by omega) (by omega) (fun _ => ?_) (fun hne => absurd ?_ hne)
          · refine y_white2 (by omega) (by omega) (by omega) (by omega) (fun v4 e4 v5 e5 => ?_)
            rw [ew _ (by omega) (by omega), es, show (((lsC W c K (7 - p) (lsT W c K L p)).toNat : Nat) : Int) = lsC W c K (7 - p) (lsT W c K L p) by omega] at e4
            rw [nx8 (by omega)] at e5
            rw [e4, e5, show (((lsC W c K (7 - p) (lsT W c K L p)).toNat : Nat) : Int) = lsC W c K (7 - p) (lsT W c K L p) by omega]
            exact ih T' rfl
          · rw [show (((lsC W c K (7 - p) (lsT W c K L p)).toNat : Nat) : Int) = lsC W c K (7 - p) (lsT W c K L p) by omega]; exact g3
        · subst hI2
          refine look _ _ _ (by omega) (by omega) (fun he => absurd he (g4 k (by omega) (by omega))) (fun _ v1 e1 => ?_)
          rw [nx8 (by omega)] at e1
          subst e1
          exact jh T' rfl
    · rw [if_pos hp] at h
      refine y_from (by omega) (by omega) (by omega) ?_
      rw [e0, mfL_lt hf]; exact h
  · rw [if_neg hf] at h
    rw [mfL_ge hf]
    exact ⟨fun hc => absurd rfl hc, fun _ => h⟩
end leastr
