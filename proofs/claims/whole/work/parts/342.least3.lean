set_option maxHeartbeats 400000
set_option maxRecDepth 20000
section lests
variable {N n : Nat} {X M : mSt} {q q' lw lw' : Nat} {f : mRow} {A : mLaw} {P : mPrg} {a1 a2 a3 a4 a5 : Int} {T : Int} {W : Int → Int → Int} {c : Int → Int} {K : Nat} {L : Int}
def lsw (A : mLaw) (f : mRow) (p k : Int) : Int := fWhite A (fWould f p (k - 1)) p
def lsc (f : mRow) (k : Int) : Int := if k = 0 then 0 else f (70 + 4 * (k - 1) + 1)
def lsk (f : mRow) : Nat := (f 3).toNat + 1
theorem lsw_ok (A : mLaw) (f : mRow) : ∀ p k, 0 ≤ lsw A f p k ∧ lsw A f p k ≤ 20 := fun p k => fWhite_ok _ _ _
theorem lsk_ok (hR : RR f) : (lsk f : Int) = f 3 + 1 ∧ lsk f ≤ 7 := by
  have := hR.2.1
  unfold lsk; omega
theorem lsc_ok (hR : RR f) : ∀ k, 0 ≤ k → k < (lsk f : Int) → 0 ≤ lsc f k ∧ lsc f k ≤ 30 := fun k a b => by
  have h3 := (lsk_ok hR).1
  unfold lsc
  split
  · omega
  · have := (hR.2.2.2.2.1 (k - 1) (by omega) (by omega)).2.1
    omega
theorem y_least {Q : mSt → Int → Prop} (hN : 5000 ≤ N) (C : MC N (mup M 0 0 0) f A) (L0 : 0 ≤ a1) (hL : a1 ≤ 160) (hx : a2 = -1 ∨ (0 ≤ a2 ∧ a2 < 8)) (h : ∀ M', MQw (mup M 0 0 0) M' → Q M' (lsA (lsw A f) (lsc f) (lsk f) a1 a2)) : w_X12_least_33 N Q 0 a1 a2 0 0 M := by
  obtain ⟨-, -, hR, -⟩ := id C
  have hW := lsw_ok A f
  have hc := lsc_ok hR
  obtain ⟨hK, hK7⟩ := lsk_ok hR
  refine thrO (fun v2 e2 => ?_)
  subst e2
  refine y_whites hN C rfl (fun _ _ => rfl) _ _ (fun M2 C2 F2 w2 v4 e4 => ?_)
  subst e4
  refine y_dp (c := lsc f) hN C2.1 hW hc hK7 (by rw [C2.2.1]; exact hK) (fun k => by rw [C2.2.1]; rfl) w2 L0 hL _ (fun M3 ok3 k3 V3 => ?_)
  refine y_end (c := lsc f) (K := lsk f) hN hW hc hK7 (fun k => by rw [k3 1 (by decide), C2.2.1]; rfl) (fun p hp k a b => by rw [k3 8 (by decide)]; exact w2 p hp k a b) L0 hL V3 hx (h M3 ?_)
  exact F2.tr ⟨⟨k3 1 (by decide), k3 2 (by decide), k3 5 (by decide), k3 6 (by decide)⟩, by rw [k3 0 (by decide)], by rw [k3 0 (by decide)], by rw [k3 0 (by decide)], by rw [k3 0 (by decide)], by rw [k3 0 (by decide)], fun b => b.of (by rw [k3 0 (by decide)]) (by rw [k3 0 (by decide)])⟩
theorem x_least {Q : mSt → Int → Prop} {E : String → mSt → Prop} (hN : 5000 ≤ N) (C : CQ N X q q' lw lw' f A T) (hz : X 215 0 = 0) (L0 : 0 ≤ a1) (hL : a1 ≤ 160) (hx : a2 = -1 ∨ (0 ≤ a2 ∧ a2 < 8)) (h : ∀ X' : mSt, XZ q' lw X X' → X' 215 0 = X 215 0 → Q X' (lsA (lsw A f) (lsc f) (lsk f) a1 a2)) : w_X11_least_9 N Q E 0 a1 a2 X := by
  obtain ⟨-, -, hL0, hR, -⟩ := id C
  have hW := lsw_ok A f
  have hc := lsc_ok hR
  obtain ⟨hK, hK7⟩ := lsk_ok hR
  refine s_ckNum (fun _ _ q2 e2 => ?_) (fun hb => by omega)
  have : q2 = q := by have := C.2.1.1; omega
  subst this
  refine s_begin hN C (fun X2 C2 F2 b1 b2 b3 v4 e4 => ?_)
  subst e4
  refine x_whites (W := lsw A f) (c := lsc f) (K := lsk f) hN C2 rfl (fun _ _ => rfl) a1 a2 (by rw [b3, hz]) (by rw [b1, hK]) (fun k a b => ?_) (fun X3 C3 F3 W3 z3 => ?_)
  · unfold lsc
    by_cases hk : k = 0
    · rw [if_pos hk, hk, b3, hz]
    · rw [if_neg hk, ← b2 (k - 1) (by omega) (by omega)]; congr 1; omega
  · refine x_fill hN C3.1 hW hc hK7 W3 L0 hL (fun X4 ok4 k4 W4 hv4 => ?_)
    have F : XZ q' lw X X4 := (F2.tr F3).tr (fun r a b c d => k4 r (by omega))
    have z : X4 215 0 = X 215 0 := by rw [k4 215 (by decide), z3, b3]
    refine ⟨fun hp => ?_, fun hp => ?_⟩
    · have hx2 := hx.resolve_left hp
      exact x_soapOf hN hW hc hK7 W4 L0 hL hv4 hx2.1 hx2.2 (h X4 F z)
    · refine x_leastW (W := lsw A f) (c := lsc f) (K := lsk f) L0 hL hv4 ?_
      have := h X4 F z
      rw [hp] at this
      exact this
theorem k_19 (hN : 5000 ≤ N) (I : IV N n X M q q' lw lw' P) (okX : okS X) (okM : okS M) : wl_19 N a1 a2 a3 a4 a5 X M (fun X1 M1 => Inv N (n + 1) X1 M1) := by
  obtain ⟨-, -, ⟨-, -, hz⟩, -⟩ := id I
  unfold wl_19 w_L_least w_X11_least
  have good : (a2 = -1 ∨ (0 ≤ a2 ∧ a2 < 8)) → 0 ≤ a1 → a1 ≤ 160 → ∀ {E : String → mSt → Prop}, w_X11_least_9 N (fun (S1 : mSt) (v1 : Int) => ∀ S2 : mSt, S2 = mup S1 250 0 v1 → w_X12_least N 0 a1 a2 M (fun (M2 : mSt) (v2 : Int) => w_X12_thrown N 0 M2 (fun (M3 : mSt) (v3 : Int) => v3 = 0 ∧ ((0 : Int) = 0 → (S2 250 0) = v2) ∧ Inv N (n + 1) S2 M3))) E 0 a1 a2 X := by
    intro hx L0 hL E
    refine x_least hN (I.CQ (by omega) okX) hz L0 hL hx (fun X' F' z' S2 e2 => ?_)
    subst e2
    have md : w_X12_least_17 N (fun (M2 : mSt) (v2 : Int) => w_X12_thrown N 0 M2 (fun (M3 : mSt) (v3 : Int) => v3 = 0 ∧ ((0 : Int) = 0 → (mup X' 250 0 (lsA (lsw (AP P) (M 1)) (lsc (M 1)) (lsk (M 1)) a1 a2) 250 0) = v2) ∧ Inv N (n + 1) (mup X' 250 0 (lsA (lsw (AP P) (M 1)) (lsc (M 1)) (lsk (M 1)) a1 a2)) M3)) 0 a1 a2 0 M :=
      a_isIn (fun _ _ => ⟨fun _ => y_least hN ((I.MC okM).thr (by decide)) L0 hL hx (fun M' F2 => fin0' I F' z' F2), fun hc => absurd hc (by decide)⟩) (fun hc => by omega)
    exact ⟨fun _ => md, fun hp => a_isPart (fun _ _ => ⟨fun _ => md, fun hc => absurd hc (by decide)⟩) (fun hc => by omega)⟩
  have bad : (a2 = -1 ∨ (0 ≤ a2 ∧ a2 < 8)) → (a1 < 0 ∨ 160 < a1) → w_X12_least N 0 a1 a2 M (fun (M2 : mSt) (v2 : Int) => w_X12_thrown N 0 M2 (fun (M3 : mSt) (v3 : Int) => v3 = 2 ∧ ((2 : Int) = 0 → (X 250 0) = v2) ∧ Inv N (n + 1) X M3)) := by
    intro hx hb
    have md : w_X12_least_17 N (fun (M2 : mSt) (v2 : Int) => w_X12_thrown N 0 M2 (fun (M3 : mSt) (v3 : Int) => v3 = 2 ∧ ((2 : Int) = 0 → (X 250 0) = v2) ∧ Inv N (n + 1) X M3)) 0 a1 a2 0 M :=
      a_isIn (fun _ _ => by omega) (fun _ => ⟨fun hc => absurd rfl hc, fun _ => thrX (by decide) (finE I (by decide) (XF.rf _ _ _) (MQu.rf _))⟩)
    exact ⟨fun _ => md, fun hp => a_isPart (fun _ _ => ⟨fun _ => md, fun hc => absurd hc (by decide)⟩) (fun hc => by omega)⟩
  refine ⟨fun h1 => ?_, fun h1 => s_ckPart (fun p0 p1 => ?_) (fun hb => Or.inl ⟨rfl, ?_⟩)⟩
  · by_cases hr : 0 ≤ a1 ∧ a1 ≤ 160
    · exact good (Or.inl h1) hr.1 hr.2
    · exact s_ckNum (fun _ _ => by omega) (fun hb => Or.inr ⟨rfl, bad (Or.inl h1) hb⟩)
  · by_cases hr : 0 ≤ a1 ∧ a1 ≤ 160
    · exact good (Or.inr ⟨p0, p1⟩) hr.1 hr.2
    · exact s_ckNum (fun _ _ => by omega) (fun hb => Or.inr ⟨rfl, bad (Or.inr ⟨p0, p1⟩) hb⟩)
  · exact ⟨fun hc => absurd hc h1, fun _ => a_isPart (fun _ _ => by omega) (fun _ => ⟨fun hc => absurd rfl hc, fun _ => thrX (by decide) (finE I (by decide) (XF.rf _ _ _) (MQu.rf _))⟩)⟩
end lests
