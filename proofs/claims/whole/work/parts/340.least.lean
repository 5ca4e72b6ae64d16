set_option maxHeartbeats 400000
set_option maxRecDepth 20000
/-! ===== the pure part: the least water ===== -/
def mnL (g : Int → Int) : Nat → Int
  | 0 => 1000
  | k + 1 => min (mnL g k) (g k)
def lsV (W : Int → Int → Int) (c : Int → Int) (K : Nat) : Nat → Int → Int
  | 0 => fun t => if t = 0 then 0 else 1000
  | d + 1 => fun t => mnL (fun k => c k + lsV W c K d (max 0 (t - W (7 - d) k))) K
def lsG (W : Int → Int → Int) (c : Int → Int) (K : Nat) (d : Nat) (t k : Int) : Int := c k + lsV W c K d (max 0 (t - W (7 - d) k))
theorem lsV_s (W : Int → Int → Int) (c : Int → Int) (K d : Nat) (t : Int) : lsV W c K (d + 1) t = mnL (lsG W c K d t) K := rfl
def fsL (g : Int → Int) (v : Int) : Nat → Int
  | 0 => -1
  | k + 1 => if fsL g v k = -1 then (if g k = v then (k : Int) else -1) else fsL g v k
theorem fsL_ok (g : Int → Int) (v : Int) : ∀ k : Nat, (fsL g v k = -1 ∧ ∀ j : Int, 0 ≤ j → j < k → g j ≠ v) ∨ (0 ≤ fsL g v k ∧ fsL g v k < k ∧ g (fsL g v k) = v ∧ ∀ j, 0 ≤ j → j < fsL g v k → g j ≠ v)
  | 0 => Or.inl ⟨rfl, fun j a b => by omega⟩
  | k + 1 => by
    show ((if fsL g v k = -1 then (if g k = v then (k : Int) else -1) else fsL g v k) = -1 ∧ _) ∨ _
    have h := fsL_ok g v k
    have e : fsL g v (k + 1) = if fsL g v k = -1 then (if g k = v then (k : Int) else -1) else fsL g v k := rfl
    rw [e]
    rcases h with ⟨h1, h2⟩ | ⟨h1, h2, h3, h4⟩
    · rw [if_pos h1]
      by_cases hg : g k = v
      · rw [if_pos hg]
        exact Or.inr ⟨by omega, by omega, hg, h2⟩
      · rw [if_neg hg]
        refine Or.inl ⟨rfl, fun j a b => ?_⟩
        by_cases hj : j = k
        · rw [hj]; exact hg
        · exact h2 j a (by omega)
    · rw [if_neg (by omega)]
      exact Or.inr ⟨h1, by omega, h3, h4⟩
theorem mnL_le (g : Int → Int) : ∀ k, mnL g k ≤ 1000
  | 0 => Int.le_refl _
  | k + 1 => by have := mnL_le g k; show min _ _ ≤ _; omega
theorem mnL_hit (g : Int → Int) : ∀ k : Nat, mnL g k < 1000 → ∃ j : Int, 0 ≤ j ∧ j < k ∧ g j = mnL g k
  | 0 => fun h => absurd h (by show ¬ ((1000 : Int) < 1000); decide)
  | k + 1 => fun h => by
    have e : mnL g (k + 1) = min (mnL g k) (g k) := rfl
    rw [e] at h ⊢
    by_cases hc : mnL g k ≤ g k
    · obtain ⟨j, a, b, c⟩ := mnL_hit g k (by omega)
      exact ⟨j, a, by omega, by omega⟩
    · exact ⟨k, by omega, by omega, by omega⟩
theorem mnL_ok {g : Int → Int} {B : Int} (hB : 0 ≤ B) : ∀ {k : Nat}, (∀ j : Int, 0 ≤ j → j < k → 0 ≤ g j ∧ (g j ≤ B ∨ 1000 ≤ g j)) → 0 ≤ mnL g k ∧ (mnL g k ≤ B ∨ mnL g k = 1000)
  | 0, _ => ⟨by show (0 : Int) ≤ 1000; decide, Or.inr rfl⟩
  | k + 1, h => by
    have h1 := mnL_ok (g := g) hB (k := k) (fun j a b => h j a (by omega))
    have h2 := h k (by omega) (by omega)
    have e : mnL g (k + 1) = min (mnL g k) (g k) := rfl
    rw [e]
    omega
section leasts
variable {W : Int → Int → Int} {c : Int → Int} {K : Nat}
theorem lsV_ok (hc : ∀ k, 0 ≤ k → k < (K : Int) → 0 ≤ c k ∧ c k ≤ 30) : ∀ (d : Nat) (t : Int), d ≤ 8 → 0 ≤ lsV W c K d t ∧ (lsV W c K d t ≤ 30 * d ∨ lsV W c K d t = 1000)
  | 0, t, _ => by
    show 0 ≤ (if t = 0 then (0 : Int) else 1000) ∧ ((if t = 0 then (0 : Int) else 1000) ≤ _ ∨ (if t = 0 then (0 : Int) else 1000) = 1000)
    split <;> omega
  | d + 1, t, hd => by
    rw [lsV_s]
    refine mnL_ok (by omega) (fun j a b => ?_)
    have h1 := hc j a b
    have h2 := lsV_ok hc d (max 0 (t - W (7 - d) j)) (by omega)
    unfold lsG
    omega
/-- the choice at a part, the light then wanted -/
def lsC (W : Int → Int → Int) (c : Int → Int) (K d : Nat) (t : Int) : Int := fsL (lsG W c K d t) (lsV W c K (d + 1) t) K
def lsT (W : Int → Int → Int) (c : Int → Int) (K : Nat) (L : Int) : Nat → Int
  | 0 => L
  | p + 1 => max 0 (lsT W c K L p - W p (lsC W c K (7 - p) (lsT W c K L p)))
theorem lsC_ok {d : Nat} {t : Int} (h : lsV W c K (d + 1) t < 1000) : 0 ≤ lsC W c K d t ∧ lsC W c K d t < K ∧ lsG W c K d t (lsC W c K d t) = lsV W c K (d + 1) t ∧ ∀ j, 0 ≤ j → j < lsC W c K d t → lsG W c K d t j ≠ lsV W c K (d + 1) t := by
  rcases fsL_ok (lsG W c K d t) (lsV W c K (d + 1) t) K with ⟨h1, h2⟩ | h2
  · obtain ⟨j, a, b, e⟩ := mnL_hit (lsG W c K d t) K (by rw [← lsV_s]; exact h)
    exact absurd (e.trans (lsV_s W c K d t).symm) (h2 j a b)
  · exact h2
theorem lsT_fin (hc : ∀ k, 0 ≤ k → k < (K : Int) → 0 ≤ c k ∧ c k ≤ 30) {L : Int} (h : lsV W c K 8 L < 1000) : ∀ p : Nat, p ≤ 8 → lsV W c K (8 - p) (lsT W c K L p) < 1000
  | 0, _ => h
  | p + 1, hp => by
    have h1 := lsT_fin hc h p (by omega)
    obtain ⟨d, hd⟩ : ∃ d, 8 - p = d + 1 := ⟨7 - p, by omega⟩
    rw [hd] at h1
    obtain ⟨g1, g2, g3, -⟩ := lsC_ok h1
    have e7 : 7 - p = d := by omega
    have e8 : 8 - (p + 1) = d := by omega
    have hcc := hc _ g1 g2
    rw [e8]
    show lsV W c K d (max 0 (lsT W c K L p - W p (lsC W c K (7 - p) (lsT W c K L p)))) < 1000
    rw [e7]
    unfold lsG at g3
    have e9 : (7 : Int) - d = p := by omega
    rw [e9] at g3
    omega
end leasts
def lsA (W : Int → Int → Int) (c : Int → Int) (K : Nat) (L p : Int) : Int := if lsV W c K 8 L < 1000 then (if p = -1 then lsV W c K 8 L else lsC W c K (7 - p.toNat) (lsT W c K L p.toNat) - 1) else -1
section leastq
variable {N n : Nat} {X M : mSt} {q q' lw lw' : Nat} {f : mRow} {A : mLaw} {P : mPrg} {a1 a2 a3 a4 a5 : Int} {T : Int} {W : Int → Int → Int} {c : Int → Int} {K : Nat}
/-- the class's plan is filled -/
def WM (X : mSt) (W : Int → Int → Int) (c : Int → Int) (K : Nat) : Prop := X 205 2 = K ∧ (∀ p : Nat, p < 8 → ∀ k : Int, 0 ≤ k → k < K → X (207 + p) k = W p k) ∧ ∀ k : Int, 0 ≤ k → k < K → X 215 k = c k
theorem WM.of {X' : mSt} (h : WM X W c K) (e : ∀ r, 205 ≤ r → r < 217 → X' r = X r) : WM X' W c K := by
  obtain ⟨h1, h2, h3⟩ := h
  refine ⟨by rw [e 205 (by decide) (by decide)]; exact h1, fun p hp k a b => by rw [e (207 + p) (by omega) (by omega)]; exact h2 p hp k a b, fun k a b => by rw [e 215 (by decide) (by decide)]; exact h3 k a b⟩
theorem s_begin {Q : mSt → Prop} (hN : 5000 ≤ N) (C : CQ N X q q' lw lw' f A T) (h : ∀ X', CQ N X' q q' lw lw' f A T → XZ q' lw X X' → X' 205 2 = f 3 + 1 → (∀ k, 0 ≤ k → k < f 3 → X' 215 (1 + k) = f (70 + 4 * k + 1)) → X' 215 0 = X 215 0 → Q X') : w_X9_begin N 205 q X Q := by
  obtain ⟨ok, -, hL, hR, -⟩ := id C
  have h3 := hR.2.1
  intro S1 e1 v2 e2
  subst e2
  rw [hL.2.1.2.1, nm_of (by omega) (by omega)] at e1
  have F1 : XZ q' lw X S1 := by rw [e1]; exact XZ.up (by decide)
  have o1 : okI (f 3 + 1) := by unfold okI; omega
  have ok1 : okS S1 := by rw [e1]; exact okS_up ok o1
  refine lpUp (n := N) (T := S1) (K := (f 3).toNat) (W := fun n k T => w_X9_begin_12 N Q (fun (S_3 : mSt) => Q S_3) n 205 q (1 + (k : Int)) T) (I := fun k T' => CQ N T' q q' lw lw' f A T ∧ XZ q' lw X T' ∧ T' 205 2 = f 3 + 1 ∧ (∀ j, 0 ≤ j → j < (k : Int) → T' 215 (1 + j) = f (70 + 4 * j + 1)) ∧ T' 215 0 = X 215 0) (fun n T' hI => ?_) (fun n k T' hk hI ih => ?_) (by omega) ⟨C.ofz ok1 F1, F1, by rw [e1, mup_same], fun j a b => by omega, by rw [e1, mup_ne _ _ _ (by decide)]⟩
  · obtain ⟨C', F', i1, i2, i3⟩ := hI
    exact ⟨fun _ => h T' C' F' i1 (fun k a b => i2 k a (by omega)) i3, fun hc => by rw [i1] at hc; omega⟩
  · obtain ⟨C', F', i1, i2, i3⟩ := hI
    refine ⟨fun hc => by rw [i1] at hc; omega, fun _ => ?_⟩
    rw [nm_of (x := 1 + (k : Int) - 1) (by omega) (by omega), show 1 + (k : Int) - 1 = k by omega]
    refine x_price C' (by omega) (by omega) ⟨by omega, by omega, fun S3 e3 v4 e4 => ?_⟩
    rw [nm_of (by omega) (by omega), show 1 + (k : Int) + 1 = 1 + ((k + 1 : Nat) : Int) by omega] at e4
    subst e4
    have hp := (hR.2.2.2.2.1 k (by omega) (by omega)).2.1
    have F3 : XZ q' lw X S3 := F'.tr (by rw [e3]; exact XZ.up (by decide))
    have o3 : okI (f (70 + 4 * (k : Int) + 1)) := by unfold okI; omega
    have ok3 : okS S3 := by rw [e3]; exact okS_up C'.1 o3
    refine ih S3 ⟨C'.ofz ok3 (by rw [e3]; exact XZ.up (by decide)), F3, by rw [e3, mup_ne _ _ _ (by decide)]; exact i1, fun j a b => ?_, by rw [e3, mup_i _ _ _ (by omega)]; exact i3⟩
    rw [e3]
    show mup T' 215 (1 + (k : Int)) _ 215 (1 + j) = _
    by_cases hj : j = k
    · rw [hj, mup_same]
    · rw [mup_i _ _ _ (by omega)]; exact i2 j a (by omega)
theorem x_whites {Kk : Nat → Int → Int → mSt → Prop} {E : String → mSt → Prop} (hN : 5000 ≤ N) (C : CQ N X q q' lw lw' f A T) (hK : K = (f 3).toNat + 1) (hW : ∀ p k, W p k = fWhite A (fWould f p (k - 1)) p) (x1 x2 : Int) (hc0 : X 215 0 = 0) (h205 : X 205 2 = K) (hcc : ∀ k, 0 ≤ k → k < (K : Int) → X 215 k = c k) (h : ∀ X', CQ N X' q q' lw lw' f A T → XZ q' lw X X' → WM X' W c K → X' 215 = X 215 → Kk 0 x1 x2 X') {R : mSt → Int → Prop} : w_X11_least_30 N R E Kk N 0 x1 x2 0 X := by
  obtain ⟨-, -, hL, hR, -⟩ := id C
  have h3 := hR.2.1
  refine lpUp (K := 8) (W := fun n k T => w_X11_least_30 N R E Kk n 0 x1 x2 k T) (I := fun p X' => CQ N X' q q' lw lw' f A T ∧ XZ q' lw X X' ∧ X' 205 = X 205 ∧ X' 215 = X 215 ∧ ∀ p' : Nat, p' < p → ∀ k : Int, 0 ≤ k → k < K → X' (207 + p') k = W p' k) (fun n X' hI => ?_) (fun n p X' hp hI ih => ?_) (by omega) ⟨C, fun _ _ _ _ _ => rfl, rfl, rfl, fun p' hp => by omega⟩
  · obtain ⟨C', F', i1, i2, i3⟩ := hI
    exact ⟨fun _ => h X' C' F' ⟨by rw [i1]; exact h205, i3, fun k a b => by rw [i2]; exact hcc k a b⟩ i2, fun hc => by omega⟩
  · obtain ⟨C', F', i1, i2, i3⟩ := hI
    refine ⟨fun hc => by omega, fun _ v1 e1 => ?_⟩
    subst e1
    refine lpUp (n := N) (T := X') (K := K) (W := fun n' k T => w_X11_least_39 N R E (fun (r0_2 : Nat) (x1_2 : Int) (x2_2 : Int) (x3_2 : Int) (S_2 : mSt) => ∀ v3 : Int, v3 = nm (x3_2 + 1) → w_X11_least_30 N R E Kk n r0_2 x1_2 x2_2 v3 S_2) n' 0 x1 x2 p (-1 + (k : Int)) T) (I := fun k X2 => CQ N X2 q q' lw lw' f A T ∧ XZ q' lw X X2 ∧ X2 205 = X 205 ∧ X2 215 = X 215 ∧ (∀ p' : Nat, p' < p → ∀ k : Int, 0 ≤ k → k < K → X2 (207 + p') k = W p' k) ∧ ∀ j : Int, 0 ≤ j → j < k → X2 (207 + p) j = W p j) (fun n' X2 hJ => ?_) (fun n' k X2 hk hJ jh => ?_) (by omega) ⟨C', F', i1, i2, i3, fun j a b => by omega⟩
    · obtain ⟨C2, F2, j1, j2, j3, j4⟩ := hJ
      intro q1 e1
      have hq : q1 = q := by have := C2.2.1.1; omega
      subst hq
      rw [C2.2.2.1.2.1.2.1]
      refine ⟨fun _ v3 e3 => ?_, fun hc => by omega⟩
      rw [nx8 (by omega)] at e3
      subst e3
      refine ih X2 ⟨C2, F2, j1, j2, fun p' hp' k a b => ?_⟩
      by_cases he : p' = p
      · subst he; exact j4 k a b
      · exact j3 p' (by omega) k a b
    · obtain ⟨C2, F2, j1, j2, j3, j4⟩ := hJ
      intro q1 e1
      have hq : q1 = q := by have := C2.2.1.1; omega
      subst hq
      rw [C2.2.2.1.2.1.2.1]
      refine ⟨fun hc => by omega, fun _ => x_would C2 (by omega) (by omega) (by omega) (fun X3 C3 F3 => ?_)⟩
      have hw := fWhite_ok A (fWould f p (-1 + (k : Int))) p
      have ew : W p k = fWhite A (fWould f p (-1 + (k : Int))) p := by rw [hW, show (k : Int) - 1 = -1 + (k : Int) by omega]
      refine ⟨by omega, by omega, by rw [nm_of (by omega) (by omega)]; omega, by rw [nm_of (by omega) (by omega)]; omega, fun S3 e3 v4 e4 => ?_⟩
      rw [nm_of (by omega) (by omega), show -1 + (k : Int) + 1 = -1 + ((k + 1 : Nat) : Int) by omega] at e4
      subst e4
      rw [nm_of (by omega) (by omega), show -1 + (k : Int) + 1 = k by omega, ← ew] at e3
      have e3' : S3 = mup X3 (207 + p) k (W p k) := by rw [e3]; congr 1
      have ok3 : okI (W p k) := by rw [ew]; unfold okI; omega
      have F4 : XZ q1 lw X3 X3 := fun _ _ _ _ _ => rfl
      have F5 : XZ q' lw X3 S3 := by rw [e3']; exact XZ.up (by omega)
      have nx : ∀ r, 205 ≤ r → r < 250 → X3 r = X2 r := fun r a b => F3 r (by have := C2.2.1; unfold KP at this; omega) (by have := C2.2.1; unfold KP at this; omega) (by have := C2.2.1; unfold KP at this; omega) (by omega)
      refine jh S3 ⟨C3.ofz (by rw [e3']; exact okS_up C3.1 ok3) F5, (F2.tr F3.z).tr F5, by rw [e3', mup_ne _ _ _ (by omega), nx 205 (by omega) (by omega)]; exact j1, by rw [e3', mup_ne _ _ _ (by omega), nx 215 (by omega) (by omega)]; exact j2, fun p' hp' k a b => by rw [e3', mup_ne _ _ _ (by omega), nx _ (by omega) (by omega)]; exact j3 p' hp' k a b, fun j a b => ?_⟩
      rw [e3']
      by_cases he : j = k
      · rw [he, mup_same]
      · rw [mup_i _ _ _ he, nx _ (by omega) (by omega)]; exact j4 j a (by omega)
theorem s_waterWith {Q : mSt → Int → Prop} {p k t : Int} (hW : ∀ p k, 0 ≤ W p k ∧ W p k ≤ 20) (hc : ∀ k, 0 ≤ k → k < (K : Int) → 0 ≤ c k ∧ c k ≤ 30) (hK7 : K ≤ 7) (h : WM X W c K) (p0 : 0 ≤ p) (p1 : p < 8) (k0 : 0 ≤ k) (k1 : k < K) (t0 : 0 ≤ t) {L : Int} (t1 : t ≤ L) (hL : L ≤ 160) {d : Nat} (hd : (d : Int) = 7 - p) (hv : ∀ t, 0 ≤ t → t ≤ L → X (225 - d) t = lsV W c K d t) (hQ : Q X (lsG W c K d t k)) : w_X9_waterWith N 205 p k t X Q := by
  obtain ⟨h1, h2, h3⟩ := h
  have w0 := hW p k
  have c0 := hc k k0 k1
  have l0 := lsV_ok (W := W) hc d (max 0 (t - W p k)) (by omega)
  have eW : X (205 + 1 + 1 + p.toNat) k = W p k := by
    have := h2 p.toNat (by omega) k k0 k1
    rw [show ((p.toNat : Nat) : Int) = p by omega] at this
    rw [← this, show 205 + 1 + 1 + p.toNat = 207 + p.toNat by omega]
  have e5 : iMax 0 (nm (t - X (205 + 1 + 1 + p.toNat) k)) = max 0 (t - W p k) := by rw [eW, nm_of (by omega) (by omega), iMax_max]
  have ep : nm (p + 1) = p + 1 := nm_of (by omega) (by omega)
  unfold w_X9_waterWith
  rw [e5, ep, show (205 + 11 + 1 + (p + 1).toNat : Nat) = 225 - d by omega, hv _ (by omega) (by omega)]
  refine ⟨k0, by omega, by omega, by omega, p0, p1, k0, by omega, by omega, by omega, ?_⟩
  show Q X (nm (X 215 k + _))
  rw [h3 k k0 k1, nm_of (by omega) (by omega)]
  have e7 : (7 : Int) - d = p := by omega
  unfold lsG at hQ
  rw [e7] at hQ
  exact hQ
theorem x_fill {Q : mSt → Prop} (hN : 5000 ≤ N) (ok : okS X) (hW : ∀ p k, 0 ≤ W p k ∧ W p k ≤ 20) (hc : ∀ k, 0 ≤ k → k < (K : Int) → 0 ≤ c k ∧ c k ≤ 30) (hK7 : K ≤ 7) (h0 : WM X W c K) {L : Int} (L0 : 0 ≤ L) (hL : L ≤ 160) (h : ∀ X', okS X' → (∀ r, r < 217 ∨ 225 < r → X' r = X r) → WM X' W c K → (∀ d : Nat, d ≤ 8 → ∀ t, 0 ≤ t → t ≤ L → X' (225 - d) t = lsV W c K d t) → Q X') : w_X9_fill N 205 L X Q := by
  intro v1 e1
  subst e1
  refine lpUp (n := N) (T := X) (K := L.toNat + 1) (W := fun n k T => w_X9_fill_2 N Q (fun (r0_2 : Nat) (x1_2 : Int) (S_2 : mSt) => ∀ v3 : Int, v3 = 7 → w_X9_fill_36 N Q (fun (S_4 : mSt) => Q S_4) N r0_2 x1_2 v3 S_2) n 205 L k T) (I := fun k T => okS T ∧ (∀ r, r ≠ 225 → T r = X r) ∧ ∀ t : Int, 0 ≤ t → t < k → T 225 t = lsV W c K 0 t) (fun n T hI => ?_) (fun n k T hk hI ih => ?_) (by omega) ⟨ok, fun _ _ => rfl, fun t a b => by omega⟩
  · obtain ⟨i1, i2, i3⟩ := hI
    refine ⟨fun _ v3 e3 => ?_, fun hc => by omega⟩
    subst e3
    refine lpUp (n := N) (T := T) (K := 8) (W := fun n d T => w_X9_fill_36 N Q (fun (S_4 : mSt) => Q S_4) n 205 L (7 - (d : Int)) T) (I := fun d T => okS T ∧ (∀ r, r < 217 ∨ 225 < r → T r = X r) ∧ ∀ d' : Nat, d' ≤ d → ∀ t : Int, 0 ≤ t → t ≤ L → T (225 - d') t = lsV W c K d' t) (fun n T hI => ?_) (fun n d T hd hI ih => ?_) (by omega) ⟨i1, fun r hr => i2 r (by omega), fun d' hd t a b => by
      have : d' = 0 := by omega
      subst this
      exact i3 t a (by omega)⟩
    · obtain ⟨j1, j2, j3⟩ := hI
      exact ⟨fun _ => h T j1 j2 (h0.of (fun r a b => j2 r (by omega))) j3, fun hc => by omega⟩
    · obtain ⟨j1, j2, j3⟩ := hI
      refine ⟨fun hc => by omega, fun _ v1 e1 => ?_⟩
      subst e1
      refine lpUp (n := N) (T := T) (K := L.toNat + 1) (W := fun n' k T' => w_X9_fill_42 N Q (fun (r0_2 : Nat) (x1_2 : Int) (x2_2 : Int) (S_2 : mSt) => ∀ v3 : Int, v3 = nm (x2_2 + (-1)) → w_X9_fill_36 N Q (fun (S_4 : mSt) => Q S_4) n r0_2 x1_2 v3 S_2) n' 205 L (7 - (d : Int)) k T') (I := fun k T' => okS T' ∧ (∀ r, r < 217 ∨ 225 < r → T' r = X r) ∧ (∀ d' : Nat, d' ≤ d → ∀ t : Int, 0 ≤ t → t ≤ L → T' (225 - d') t = lsV W c K d' t) ∧ ∀ t : Int, 0 ≤ t → t < k → T' (225 - (d + 1)) t = lsV W c K (d + 1) t) (fun n' T' hJ => ?_) (fun n' k T' hk hJ jh => ?_) (by omega) ⟨j1, j2, j3, fun t a b => by omega⟩
      · obtain ⟨l1, l2, l3, l4⟩ := hJ
        refine ⟨fun _ v3 e3 => ?_, fun hc => by omega⟩
        rw [nm_of (by omega) (by omega), show 7 - (d : Int) + -1 = 7 - ((d + 1 : Nat) : Int) by omega] at e3
        subst e3
        refine ih T' ⟨l1, l2, fun d' hd' t a b => ?_⟩
        by_cases he : d' = d + 1
        · subst he; exact l4 t a (by omega)
        · exact l3 d' (by omega) t a b
      · obtain ⟨l1, l2, l3, l4⟩ := hJ
        refine ⟨fun hc => by omega, fun _ v1 e1 v2 e2 => ?_⟩
        subst e1; subst e2
        have hWM := h0.of (X' := T') (fun r a b => l2 r (by omega))
        refine lpUp (n := N) (T := T') (K := K) (W := fun n2 j T2 => w_X9_fill_55 N Q (fun (r0_3 : Nat) (x1_3 : Int) (x2_3 : Int) (x3_3 : Int) (x4_3 : Int) (S_3 : mSt) => (0 ≤ x2_3 ∧ x2_3 < 9 ∧ (0 ≤ x3_3 ∧ x3_3 < 161 ∧ ∀ S6 : mSt, S6 = mup S_3 ((r0_3 + 11) + 1 + x2_3.toNat) x3_3 x4_3 → ∀ v7 : Int, v7 = nm (x3_3 + 1) → w_X9_fill_42 N Q (fun (r0_2 : Nat) (x1_2 : Int) (x2_2 : Int) (S_2 : mSt) => ∀ v3 : Int, v3 = nm (x2_2 + (-1)) → w_X9_fill_36 N Q (fun (S_4 : mSt) => Q S_4) n r0_2 x1_2 v3 S_2) n' r0_3 x1_3 x2_3 v7 S6))) n2 205 L (7 - (d : Int)) k (mnL (lsG W c K d k) j) j T2) (I := fun j T2 => T2 = T') (fun n2 T2 hI2 => ?_) (fun n2 j T2 hj hI2 jh2 => ?_) (by omega) rfl
        · subst hI2
          have e205 : T2 205 2 = K := hWM.1
          refine ⟨fun _ => ⟨by omega, by omega, by omega, by omega, fun S6 e6 v7 e7 => ?_⟩, fun hc => by rw [e205] at hc; omega⟩
          rw [nx8 (by omega)] at e7
          subst e7
          rw [show (205 + 11 + 1 + (7 - (d : Int)).toNat : Nat) = 225 - (d + 1) by omega, ← lsV_s] at e6
          have o := lsV_ok (W := W) hc (d + 1) k (by omega)
          have o2 : okI (lsV W c K (d + 1) k) := by unfold okI; omega
          refine jh S6 ⟨by rw [e6]; exact okS_up l1 o2, fun r hr => by rw [e6, mup_ne _ _ _ (by omega)]; exact l2 r hr, fun d' hd' t a b => by rw [e6, mup_ne _ _ _ (by omega)]; exact l3 d' hd' t a b, fun t a b => ?_⟩
          rw [e6]
          by_cases he : t = k
          · rw [he, mup_same]
          · rw [mup_i _ _ _ he]; exact l4 t a (by omega)
        · subst hI2
          have e205 : T2 205 2 = K := hWM.1
          refine ⟨fun hc => by rw [e205] at hc; omega, fun _ => ?_⟩
          refine s_waterWith hW hc hK7 hWM (by omega) (by omega) (by omega) (by omega) (by omega) (L := L) (by omega) hL (d := d) (by omega) (l3 d (by omega)) (fun v2 e2 v3 e3 => ?_)
          rw [iMin_min] at e2
          rw [nx8 (by omega)] at e3
          rw [e2, e3]
          exact jh2 T2 rfl
  · obtain ⟨i1, i2, i3⟩ := hI
    have key : ∀ v : Int, v = lsV W c K 0 k → w_X9_fill_26 N Q (w_X9_fill_2 N Q (fun (r0_2 : Nat) (x1_2 : Int) (S_2 : mSt) => ∀ v3 : Int, v3 = 7 → w_X9_fill_36 N Q (fun (S_4 : mSt) => Q S_4) N r0_2 x1_2 v3 S_2) n) 205 L k v k ((205 + 11) + 1 + (8 : Int).toNat) T := by
      intro v ev
      refine ⟨by omega, by omega, fun S2 e2 v3 e3 => ?_⟩
      rw [nx8 (by omega)] at e3
      subst e3
      have e2' : S2 = mup T 225 k v := e2
      have o := lsV_ok (W := W) hc 0 k (by omega)
      have o2 : okI v := by rw [ev]; unfold okI; omega
      refine ih S2 ⟨by rw [e2']; exact okS_up i1 o2, fun r hr => by rw [e2', mup_ne _ _ _ hr]; exact i2 r hr, fun t a b => ?_⟩
      rw [e2']
      by_cases he : t = k
      · rw [he, mup_same, ev]
      · rw [mup_i _ _ _ he]; exact i3 t a (by omega)
    refine ⟨fun hc => by omega, fun _ => ⟨fun hz => key 1000 ?_, fun hz => key 0 ?_⟩⟩
    · show (1000 : Int) = if (k : Int) = 0 then 0 else 1000
      rw [if_neg hz]
    · show (0 : Int) = if (k : Int) = 0 then 0 else 1000
      rw [if_pos hz]
end leastq
