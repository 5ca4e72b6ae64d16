set_option maxHeartbeats 400000
set_option maxRecDepth 20000
/-! ===== the pure part: the class's law as a program of steps ===== -/
def jn (v a b : Int) : Int := if v = 1011 then nm (a + b) else if v = 1012 then (if a < b then 1 else 0) else if v = 1013 then (if b < a then 1 else 0) else if v = 1014 then bAnd a b else bOr a b
def exec1 (e : Int → Int) (s : List Int) (v : Int) : List Int :=
  if v < 1010 then (if s.length < 32 then (if v < 1000 then v else e (v - 1000)) :: s else s)
  else if v = 1010 then (match s with | a :: r => nm (1 - a) :: r | [] => [])
  else (match s with | b :: a :: r => jn v a b :: r | [b] => [b] | [] => [])
def mrun (e sp : Int → Int) (i : Int) : Nat → List Int → List Int
  | 0, s => s
  | d + 1, s => mrun e sp (i + 1) d (exec1 e s (sp i))
def hv0 : List Int → Int
  | [] => 1
  | x :: _ => if x = 1 then 1 else 0
def hv (e sp : Int → Int) (a b : Int) : Int := hv0 (mrun e sp a (b - a).toNat [])
/-- a program: lines; their kinds, amounts, ends; steps -/
theorem nx8 {k : Nat} (h : k < 1000) : nm ((k : Int) + 1) = ((k + 1 : Nat) : Int) := by rw [nm_of (by omega) (by omega)]; omega
abbrev mPrg : Type := Int × (Int → Int) × (Int → Int) × (Int → Int) × (Int → Int)
def pFrom (P : mPrg) (k : Nat) : Int := if k = 0 then 0 else P.2.2.2.1 (k - 1)
def pSum (P : mPrg) (kind : Int) (e : Int → Int) : Nat → Int
  | 0 => 0
  | k + 1 => pSum P kind e k + (if P.2.1 k = kind then (if hv e P.2.2.2.2 (pFrom P k) (P.2.2.2.1 k) = 0 then 0 else P.2.2.1 k) else 0)
theorem pSum_succ (P : mPrg) (kind : Int) (e : Int → Int) (k : Nat) : pSum P kind e (k + 1) = pSum P kind e k + (if P.2.1 k = kind then (if hv e P.2.2.2.2 (pFrom P k) (P.2.2.2.1 k) = 0 then 0 else P.2.2.1 k) else 0) := rfl
def AP (P : mPrg) : mLaw := fun kind e => pSum P kind e P.1.toNat
def PG (P : mPrg) : Prop := P.1 ≤ 12 ∧ ∀ i, 0 ≤ i → i < P.1 → (0 ≤ P.2.2.1 i ∧ P.2.2.1 i ≤ 20) ∧ 0 ≤ P.2.2.2.1 i ∧ P.2.2.2.1 i ≤ 400
/-- a law of the class holds the program -/
def LWR (S : mSt) (lw : Nat) (P : mPrg) : Prop := S lw 0 = P.1 ∧ (∀ i, 0 ≤ i → i < P.1 → S (lw + 1) i = P.2.1 i ∧ S (lw + 2) i = P.2.2.1 i ∧ S (lw + 3) i = P.2.2.2.1 i) ∧ ∀ j, 0 ≤ j → j < 400 → S (lw + 4) j = P.2.2.2.2 j
theorem LWR.of {S S' : mSt} {lw lw' : Nat} {P : mPrg} (h : LWR S lw P) (hP : P.1 ≤ 12) (h0 : S' lw' 0 = S lw 0) (h1 : ∀ j : Nat, 1 ≤ j → j ≤ 3 → ∀ i, 0 ≤ i → i < 12 → S' (lw' + j) i = S (lw + j) i) (h4 : ∀ i, 0 ≤ i → i < 400 → S' (lw' + 4) i = S (lw + 4) i) : LWR S' lw' P := by
  obtain ⟨a, b, c⟩ := h
  refine ⟨h0.trans a, fun i i0 i1 => ?_, fun j j0 j1 => (h4 j j0 j1).trans (c j j0 j1)⟩
  obtain ⟨b1, b2, b3⟩ := b i i0 i1
  exact ⟨(h1 1 (by omega) (by omega) i i0 (by omega)).trans b1, (h1 2 (by omega) (by omega) i i0 (by omega)).trans b2, (h1 3 (by omega) (by omega) i i0 (by omega)).trans b3⟩
theorem pSum_ok {P : mPrg} (hP : PG P) (kind : Int) (e : Int → Int) : ∀ k : Nat, (k : Int) ≤ P.1 ∨ k = 0 → 0 ≤ pSum P kind e k ∧ pSum P kind e k ≤ 20 * k
  | 0, _ => by unfold pSum; omega
  | k + 1, h => by
    have := pSum_ok hP kind e k (by omega)
    obtain ⟨a, -⟩ := hP.2 k (by omega) (by omega)
    unfold pSum
    split
    · split <;> omega
    · omega
theorem pSum_nm0 {P : mPrg} (hP : PG P) (kind : Int) (e : Int → Int) (k : Nat) (h : (k : Int) ≤ P.1) : nm (pSum P kind e k + 0) = pSum P kind e k + 0 := by
  have ps := pSum_ok hP kind e k (Or.inl h)
  have := hP.1
  generalize P.1 = L at h this
  generalize pSum P kind e k = z at ps
  exact nm_of (by omega) (by omega)
theorem pSum_nm1 {P : mPrg} (hP : PG P) (kind : Int) (e : Int → Int) (k : Nat) (h : (k : Int) < P.1) : nm (pSum P kind e k + P.2.2.1 k) = pSum P kind e k + P.2.2.1 k := by
  have ps := pSum_ok hP kind e k (Or.inl (Int.le_of_lt h))
  have hk := hP.2 k (Int.natCast_nonneg k) h
  have := hP.1
  generalize P.2.2.1 (k : Int) = y at hk
  generalize P.1 = L at h this
  generalize pSum P kind e k = z at ps
  exact nm_of (by omega) (by omega)
theorem AP_LB {P : mPrg} (hP : PG P) : LB (AP P) := fun k e => by
  have := hP.1
  have := pSum_ok hP k e P.1.toNat (by omega)
  unfold AP
  omega
def SK (g : Int → Int) : List Int → Prop
  | [] => True
  | a :: r => g r.length = a ∧ SK g r
theorem SK.up {g g' : Int → Int} : ∀ {s : List Int}, SK g s → (∀ j : Int, 0 ≤ j → j < s.length → g' j = g j) → SK g' s
  | [], _, _ => trivial
  | a :: r, h, hg => ⟨(hg _ (by omega) (by simp; omega)).trans h.1, SK.up h.2 (fun j j0 j1 => hg j j0 (by simp; omega))⟩
section cRun
variable {N : Nat} {lw : Nat} {Q : mSt → Int → Prop}
theorem s_exec {T : mSt} {ko5 : Nat → Int → Int → Int → mSt → Prop} {ko155 : Nat → Int → mSt → Prop} {e sp : Int → Int} {s : List Int} {x2 x4 x3 : Int} (x0 : 0 ≤ x4) (x1 : x4 < x2) (x2' : x2 ≤ 400) (hs : (s.length : Int) = x3) (hl : s.length ≤ 32) (hst : ∀ j, 0 ≤ j → j < 400 → T (lw + 4) j = sp j) (he : ∀ k, 0 ≤ k → k < 10 → T (lw + 5) k = e k) (hk : SK (T (lw + 6)) s) (hok : okS T) (h : ∀ T', okS T' → (∀ r', r' ≠ lw + 6 → T' r' = T r') → SK (T' (lw + 6)) (exec1 e s (sp x4)) → (exec1 e s (sp x4)).length ≤ 32 → ko5 lw x2 ((exec1 e s (sp x4)).length) (x4 + 1) T') : w_X3_holds_5b N Q ko5 ko155 lw x2 x3 x4 T := by
  have nx : nm (x4 + 1) = x4 + 1 := nm_of (by omega) (by omega)
  refine ⟨fun hc => by omega, fun _ => ⟨fun hc => by omega, fun _ => ⟨x0, by omega, fun v2 ev => ?_⟩⟩⟩
  rw [hst x4 x0 (by omega)] at ev
  subst ev
  have keep : exec1 e s (sp x4) = s → w_X3_holds_149 N Q ko5 lw x2 x3 x4 T := by
    intro q v1 e1
    rw [nx] at e1
    subst e1
    rw [q, hs] at h
    exact h T hok (fun _ _ => rfl) hk hl
  unfold exec1 at h keep
  refine ⟨fun q1 => ⟨fun q2 => ⟨fun q3 => ?_, fun q3 v3 e3 => ?_⟩, fun q2 => ⟨fun q3 => ?_, fun q3 => ?_⟩⟩, fun q1 => ⟨fun q2 => ?_, fun q2 => ?_⟩⟩
  · rw [if_neg (by omega), if_neg q2] at keep
    apply keep
    match s, hs with
    | [], _ => rfl
    | [b], _ => rfl
    | b :: a :: r, hs => simp at hs; omega
  · rw [if_neg (by omega), if_neg q2] at h
    match s, hs, hk, hl, h with
    | [], hs, _, _, _ => simp at hs; omega
    | [b], hs, _, _, _ => simp at hs; omega
    | b :: a :: r, hs, hk, hl, h =>
      simp only [List.length_cons] at hs hl h
      have e3' : v3 = (r.length : Int) + 1 := by rw [e3, nm_of (by omega) (by omega)]; omega
      subst e3'
      have e4 : nm ((r.length : Int) + 1 - 1) = r.length := by rw [nm_of (by omega) (by omega)]; omega
      rw [e4]
      obtain ⟨k1, k2, k3⟩ := hk
      simp only [List.length_cons] at k1
      have k1' : T (lw + 6) ((r.length : Int) + 1) = b := by rw [← k1]; congr 1
      rw [k2, k1']
      have fin : ∀ v6, okI v6 → v6 = jn (sp x4) a b → (0 ≤ (r.length : Int) ∧ (r.length : Int) < 32 ∧ ∀ S8 : mSt, S8 = mup T (lw + 6) (r.length) v6 → w_X3_holds_149 N Q ko5 lw x2 ((r.length : Int) + 1) x4 S8) := by
        intro v6 o6 ev6
        refine ⟨by omega, by omega, fun S8 e8 v1 e1 => ?_⟩
        rw [nx] at e1
        subst e1
        have hk8 := h S8 (by rw [e8]; exact okS_up hok o6) (fun r' hr => by rw [e8]; exact mup_ne _ _ _ hr) ⟨by rw [e8, mup_same]; exact ev6, k3.up (fun j j0 j1 => by rw [e8]; exact mup_i _ _ _ (by omega))⟩ (by simp; omega)
        have : (((r.length + 1 : Nat)) : Int) = (r.length : Int) + 1 := by omega
        rw [this] at hk8
        exact hk8
      refine ⟨by omega, by omega, by omega, by omega, ?_⟩
      refine ⟨fun q => fin _ (nm_ok _) ?_, fun q => ⟨fun q' => fin _ (by decide) ?_, fun q' => fin _ (by decide) ?_⟩, fun q => ⟨fun q' => fin _ (by decide) ?_, fun q' => fin _ (by decide) ?_⟩, fun q => fin _ (bAnd_ok _ _) ?_, fun q => fin _ (bOr_ok _ _) ?_⟩
      · unfold jn; rw [if_pos q]
      · unfold jn; rw [if_neg (by omega), if_pos q, if_neg (by omega)]
      · unfold jn; rw [if_neg (by omega), if_pos q, if_pos q']
      · unfold jn; rw [if_neg (by omega), if_neg (by omega), if_pos q, if_neg (by omega)]
      · unfold jn; rw [if_neg (by omega), if_neg (by omega), if_pos q, if_pos q']
      · unfold jn; rw [if_neg (by omega), if_neg (by omega), if_neg (by omega), if_pos q]
      · unfold jn; rw [if_neg (by omega), if_neg (by omega), if_neg (by omega), if_neg (by omega)]
  · rw [if_neg (by omega), if_pos q2] at keep
    apply keep
    match s, hs with
    | [], _ => rfl
    | b :: r, hs => simp at hs; omega
  · rw [if_neg (by omega), if_pos q2] at h
    match s, hs, hk, hl, h with
    | [], hs, _, _, _ => simp at hs; omega
    | a :: r, hs, hk, hl, h =>
      simp only [List.length_cons] at hs hl h
      have e4 : nm (x3 - 1) = r.length := by rw [nm_of (by omega) (by omega)]; omega
      rw [e4]
      refine ⟨by omega, by omega, by omega, by omega, fun S11 e11 v1 e1 => ?_⟩
      rw [nx] at e1
      subst e1
      rw [hk.1] at e11
      have hk8 := h S11 (by rw [e11]; exact okS_up hok (nm_ok _)) (fun r' hr => by rw [e11]; exact mup_ne _ _ _ hr) ⟨by rw [e11, mup_same], hk.2.up (fun j j0 j1 => by rw [e11]; exact mup_i _ _ _ (by omega))⟩ (by omega)
      rw [show (((r.length + 1 : Nat)) : Int) = x3 by omega] at hk8
      exact hk8
  · rw [if_pos q1, if_neg (by omega)] at keep
    exact keep rfl
  · rw [if_pos q1, if_pos (by omega)] at h
    have fin : ∀ v, okI v → v = (if sp x4 < 1000 then sp x4 else e (sp x4 - 1000)) → w_X3_holds_73 N Q ko5 lw x2 x3 x4 v x3 (lw + 6) T := by
      intro v ov ev
      refine ⟨by omega, by omega, fun S2 e2 v3 e3 v1 e1 => ?_⟩
      rw [nx] at e1
      rw [nm_of (by omega) (by omega)] at e3
      subst e1
      subst e3
      rw [← ev] at h
      have hk8 := h S2 (by rw [e2]; exact okS_up hok ov) (fun r' hr => by rw [e2]; exact mup_ne _ _ _ hr) ⟨by rw [e2, hs, mup_same], hk.up (fun j j0 j1 => by rw [e2]; exact mup_i _ _ _ (by omega))⟩ (by simp; omega)
      rw [show (((v :: s).length : Nat) : Int) = x3 + 1 by simp; omega] at hk8
      exact hk8
    refine ⟨fun q3 => ?_, fun q3 => fin _ (by rw [← hst x4 x0 (by omega)]; exact hok _ _) (by rw [if_pos q3])⟩
    rw [nm_of (x := sp x4 - 1000) (by omega) (by omega)]
    exact ⟨by omega, by omega, fin _ (hok _ _) (by rw [if_neg (by omega)]; exact he _ (by omega) (by omega))⟩
theorem s_holds {T : mSt} {e sp : Int → Int} {a b : Int} (hN : 1000 ≤ N) (a0 : 0 ≤ a) (a1 : a ≤ 400) (b0 : 0 ≤ b) (b1 : b ≤ 400) (hst : ∀ j, 0 ≤ j → j < 400 → T (lw + 4) j = sp j) (he : ∀ k, 0 ≤ k → k < 10 → T (lw + 5) k = e k) (hok : okS T) (h : ∀ T', okS T' → (∀ r', r' ≠ lw + 6 → T' r' = T r') → Q T' (hv e sp a b)) : w_X3_holds N lw a b T Q := by
  unfold w_X3_holds
  intro v1 e1 v2 e2
  subst e1
  subst e2
  have fin : ∀ (s : List Int) (T' : mSt), okS T' → (∀ r', r' ≠ lw + 6 → T' r' = T r') → SK (T' (lw + 6)) s → s.length ≤ 32 → mrun e sp v2 (b - v2).toNat [] = s → w_X3_holds_155 N Q lw (s.length) T' := by
    intro s T' ok' k' sk' l' es
    have hh := h T' ok' k'
    unfold hv at hh
    rw [es] at hh
    match s, sk', l', hh with
    | [], _, _, hh => exact ⟨fun _ => hh, fun q => absurd rfl q⟩
    | x :: r, sk', l', hh =>
      simp only [List.length_cons] at l' ⊢
      have e4 : nm (((r.length + 1 : Nat) : Int) - 1) = r.length := by rw [nm_of (by omega) (by omega)]; omega
      refine ⟨fun q => by omega, fun _ => ?_⟩
      rw [e4]
      refine ⟨by omega, by omega, ?_⟩
      rw [sk'.1]
      refine ⟨fun q => ?_, fun q => ?_⟩
      · have hh' : Q T' (if x = 1 then 1 else 0) := hh
        rw [if_neg q] at hh'; exact hh'
      · have hh' : Q T' (if x = 1 then 1 else 0) := hh
        rw [if_pos q] at hh'; exact hh'
  have loop : ∀ (d n : Nat) (i : Int) (s : List Int) (T' : mSt), (b - i).toNat = d → d < n → 0 ≤ i → i ≤ 400 → okS T' → (∀ r', r' ≠ lw + 6 → T' r' = T r') → SK (T' (lw + 6)) s → s.length ≤ 32 → mrun e sp v2 (b - v2).toNat [] = mrun e sp i d s → w_X3_holds_5 N Q (fun (r0_3 : Nat) (x3_3 : Int) (S_3 : mSt) => w_X3_holds_155 N Q r0_3 x3_3 S_3) n lw b (s.length) i T' := by
    intro d
    induction d with
    | zero =>
      intro n i s T' hd hn i0 i1 ok' k' sk' l' es
      obtain ⟨n, rfl⟩ : ∃ m, n = m + 1 := ⟨n - 1, by omega⟩
      refine ⟨fun _ => ?_, fun hc => by omega⟩
      exact fin s T' ok' k' sk' l' es
    | succ d ih =>
      intro n i s T' hd hn i0 i1 ok' k' sk' l' es
      obtain ⟨n, rfl⟩ : ∃ m, n = m + 1 := ⟨n - 1, by omega⟩
      refine s_exec (e := e) (sp := sp) (s := s) i0 (by omega) b1 rfl l' (fun j j0 j1 => by rw [k' _ (by omega)]; exact hst j j0 j1) (fun k k0 k1 => by rw [k' _ (by omega)]; exact he k k0 k1) sk' ok' (fun T2 ok2 k2 sk2 l2 => ?_)
      exact ih n (i + 1) (exec1 e s (sp i)) T2 (by omega) (by omega) (by omega) (by omega) ok2 (fun r' hr => (k2 r' hr).trans (k' r' hr)) sk2 l2 es
  exact loop (b - v2).toNat N v2 [] T rfl (by omega) a0 a1 hok (fun _ _ => rfl) trivial (by simp) rfl
theorem s_look {S : mSt} {r : Nat} {f : mRow} {p : Int} {Q : mSt → Prop} (hok : okS S) (hM : RM S r f) (hR : RO f) (ap : lw + 6 < r ∨ r + 6 < lw) (p0 : 0 ≤ p) (p1 : p < 8) (h : ∀ S', okS S' → (∀ r', r' ≠ lw + 5 → S' r' = S r') → (∀ k, 0 ≤ k → k < 10 → S' (lw + 5) k = env f p k) → Q S') : w_X3_look N lw r p S Q := by
  obtain ⟨g1, g2, g3, g4, g5, g6, g7⟩ := hR.at p0 p1
  obtain ⟨e1, e2, e3, e4, e5, e6, e7⟩ := hM.1 p p0 p1
  have e8 := (hM.1 (f (14 + 6 * p + 5)) g6.1 g6.2).2.2.2.2.2.2
  unfold w_X3_look
  intro S1 s1
  have k1 : ∀ r', r' ≠ lw + 5 → S1 r' = S r' := fun r' hr => by rw [s1]; exact mup_ne _ _ _ hr
  rw [k1 (r + 1) (by omega), e1]
  refine ⟨p0, p1, fun S3 s3 => ?_⟩
  have k3 : ∀ r', r' ≠ lw + 5 → S3 r' = S r' := fun r' hr => by rw [s3, mup_ne _ _ _ hr]; exact k1 r' hr
  rw [k3 (r + 2) (by omega), e2]
  refine ⟨p0, p1, fun S5 s5 => ?_⟩
  have k5 : ∀ r', r' ≠ lw + 5 → S5 r' = S r' := fun r' hr => by rw [s5, mup_ne _ _ _ hr]; exact k3 r' hr
  rw [k5 (r + 3) (by omega), e3]
  refine ⟨p0, p1, fun S7 s7 => ?_⟩
  have k7 : ∀ r', r' ≠ lw + 5 → S7 r' = S r' := fun r' hr => by rw [s7, mup_ne _ _ _ hr]; exact k5 r' hr
  rw [k7 (r + 4) (by omega), e4]
  refine ⟨p0, p1, s_bitCount (by omega) (by omega) (fun S10 s10 => ?_)⟩
  have k10 : ∀ r', r' ≠ lw + 5 → S10 r' = S r' := fun r' hr => by rw [s10, mup_ne _ _ _ hr]; exact k7 r' hr
  rw [k10 (r + 5) (by omega), e6, k10 (r + 6) (by omega), e8]
  refine ⟨p0, p1, g6.1, g6.2, fun S13 s13 => ?_⟩
  have k13 : ∀ r', r' ≠ lw + 5 → S13 r' = S r' := fun r' hr => by rw [s13, mup_ne _ _ _ hr]; exact k10 r' hr
  rw [k13 r (by omega), hM.2.2.1]
  intro S14 s14
  have k14 : ∀ r', r' ≠ lw + 5 → S14 r' = S r' := fun r' hr => by rw [s14, mup_ne _ _ _ hr]; exact k13 r' hr
  rw [k14 r (by omega), hM.2.1]
  intro S15 s15
  have k15 : ∀ r', r' ≠ lw + 5 → S15 r' = S r' := fun r' hr => by rw [s15, mup_ne _ _ _ hr]; exact k14 r' hr
  rw [k15 r (by omega), hM.2.1]
  have hpc := pc_le (f (14 + 6 * p + 3))
  have ok15 : okS S15 := by
    rw [s15, s14, s13, s10, s7, s5, s3, s1]
    exact okS_up (okS_up (okS_up (okS_up (okS_up (okS_up (okS_up (okS_up hok (by unfold okI; omega)) (by unfold okI; omega)) (by unfold okI; omega)) (by unfold okI; omega)) (by unfold okI; omega)) (by rw [← e8]; exact hok _ _)) (by have := hR.2.1; unfold okI; omega)) hR.2.2
  have v15 : ∀ k, 0 ≤ k → k < 8 → S15 (lw + 5) k = env f p k := by
    intro k k0 k1
    have hk : k = 0 ∨ k = 1 ∨ k = 2 ∨ k = 3 ∨ k = 4 ∨ k = 5 ∨ k = 6 ∨ k = 7 := by omega
    rw [s15, s14, s13, s10, s7, s5, s3, s1]
    rcases hk with rfl | rfl | rfl | rfl | rfl | rfl | rfl | rfl <;> simp [mup, env]
  clear s1 s3 s5 s7 s10 s13 s14 s15
  have fin : ∀ (b8 : Int), (b8 = 0 ∨ b8 = 1) → b8 = env f p 8 → w_X3_look_120 N Q lw r p b8 8 (lw + 5) S15 := by
    intro b8 hb e8
    refine ⟨by decide, by decide, fun T2 t2 => ?_⟩
    have kt : ∀ r', r' ≠ lw + 5 → T2 r' = S r' := fun r' hr => by rw [t2, mup_ne _ _ _ hr]; exact k15 r' hr
    have hMt : RM T2 r f := hM.of (fun r' a b => kt r' (by omega))
    refine s_isHung hMt p0 p1 ⟨fun q => ⟨by decide, by decide, fun T3 t3 => ?_⟩, fun q => ⟨by decide, by decide, fun T3 t3 => ?_⟩⟩
    · refine h T3 (by rw [t3, t2]; exact okS_up (okS_up ok15 (by unfold okI; omega)) (by decide)) (fun r' hr => by rw [t3, mup_ne _ _ _ hr]; exact kt r' hr) (fun k k0 k1 => ?_)
      by_cases h9 : k = 9
      · subst h9; rw [t3, mup_same, env9]; omega
      · rw [t3, mup_i _ _ _ h9, t2]
        by_cases h8 : k = 8
        · subst h8; rw [mup_same]; exact e8
        · rw [mup_i _ _ _ h8]; exact v15 k k0 (by omega)
    · refine h T3 (by rw [t3, t2]; exact okS_up (okS_up ok15 (by unfold okI; omega)) (by decide)) (fun r' hr => by rw [t3, mup_ne _ _ _ hr]; exact kt r' hr) (fun k k0 k1 => ?_)
      by_cases h9 : k = 9
      · subst h9; rw [t3, mup_same, env9]; omega
      · rw [t3, mup_i _ _ _ h9, t2]
        by_cases h8 : k = 8
        · subst h8; rw [mup_same]; exact e8
        · rw [mup_i _ _ _ h8]; exact v15 k k0 (by omega)
  exact ⟨fun q => fin 0 (Or.inl rfl) (by rw [env8, if_neg q]), fun q => fin 1 (Or.inr rfl) (by rw [env8, if_pos q])⟩
theorem LWR.LX {X : mSt} {P : mPrg} (hN : 1000 ≤ N) (hL : LWR X lw P) (hP : PG P) : LX N X lw (AP P) := by
  intro S r f p kind Q hj hok hM hR ap p0 p1 k0 k1 h
  have hS : LWR S lw P := hL.of hP.1 (by have := hj 0 (by omega); rw [Nat.add_zero] at this; rw [this]) (fun j a b i _ _ => by rw [hj j (by omega)]) (fun i _ _ => by rw [hj 4 (by omega)])
  have okP : ∀ k : Nat, (k : Int) ≤ P.1 ∨ k = 0 → 0 ≤ pFrom P k ∧ pFrom P k ≤ 400 := by
    intro k hk
    unfold pFrom
    split
    · omega
    · exact (hP.2 _ (by omega) (by omega)).2
  unfold w_X3_sumOf
  intro v1 e1 v2 e2 v3 e3 v4 e4
  subst e1; subst e2; subst e3; subst e4
  have loop : ∀ (d k n : Nat) (x6 : Int) (T : mSt), k + d = P.1.toNat → d < n → okS T → (∀ r', r' ≠ lw + 5 → r' ≠ lw + 6 → T r' = S r') → (x6 = 0 ∨ ∀ k, 0 ≤ k → k < 10 → T (lw + 5) k = env f p k) → w_X3_sumOf_12 N Q (fun (x4_5 : Int) (S_5 : mSt) => Q S_5 x4_5) n lw kind r p (pSum P kind (env f p) k) (pFrom P k) x6 k T := by
    intro d
    induction d with
    | zero =>
      intro k n x6 T hk hn okT kT hx
      obtain ⟨n, rfl⟩ : ∃ m, n = m + 1 := ⟨n - 1, by omega⟩
      have e0 : T lw 0 = P.1 := by rw [kT lw (by omega) (by omega)]; exact hS.1
      refine ⟨fun _ => ?_, fun hc => by omega⟩
      have hk' : k = P.1.toNat := by omega
      subst hk'
      exact h T okT kT
    | succ d ih =>
      intro k n x6 T hk hn okT kT hx
      obtain ⟨n, rfl⟩ : ∃ m, n = m + 1 := ⟨n - 1, by omega⟩
      have hk1 : (k : Int) < P.1 := by omega
      have hk0 : (0 : Int) ≤ k := by omega
      have hk12 : (k : Int) < 12 := by have := hP.1; omega
      have hn1 : d < n := by omega
      have hkd : k + 1 + d = P.1.toNat := by omega
      clear hk hn
      have hg := hP.2 k hk0 hk1
      have hS2 := hS.2.1 k hk0 hk1
      have e0 : T lw 0 = P.1 := by rw [kT lw (by omega) (by omega)]; exact hS.1
      have ek : T (lw + 1) k = P.2.1 k := by rw [kT (lw + 1) (by omega) (by omega)]; exact hS2.1
      have hk1000 : k < 1000 := by omega
      have hkk : ((k + 1 : Nat) : Int) - 1 = k := by omega
      have next : ∀ (w x6' : Int) (T' : mSt), w = pSum P kind (env f p) (k + 1) → okS T' → (∀ r', r' ≠ lw + 5 → r' ≠ lw + 6 → T' r' = S r') → (x6' = 0 ∨ ∀ k, 0 ≤ k → k < 10 → T' (lw + 5) k = env f p k) → w_X3_sumOf_85 N Q (w_X3_sumOf_12 N Q (fun (x4_5 : Int) (S_5 : mSt) => Q S_5 x4_5) n) lw kind r p w x6' k T' := by
        intro w x6' T' ew ok' k' hx'
        refine ⟨hk0, hk12, fun v2 e2 v3 e3 => ?_⟩
        rw [nx8 hk1000] at e3
        rw [k' (lw + 3) (by omega) (by omega), hS2.2.2] at e2
        subst e3; subst ew
        have := ih (k + 1) n x6' T' hkd hn1 ok' k' hx'
        have ef : pFrom P (k + 1) = v2 := by
          unfold pFrom
          rw [if_neg (Nat.succ_ne_zero k), e2, hkk]
        rw [ef] at this
        exact this
      have body : ∀ (x6' : Int) (T' : mSt), okS T' → (∀ r', r' ≠ lw + 5 → r' ≠ lw + 6 → T' r' = S r') → (∀ k, 0 ≤ k → k < 10 → T' (lw + 5) k = env f p k) → P.2.1 k = kind → w_X3_sumOf_53 N Q (w_X3_sumOf_12 N Q (fun (x4_5 : Int) (S_5 : mSt) => Q S_5 x4_5) n) lw kind r p (pSum P kind (env f p) k) (pFrom P k) x6' k T' := by
        intro x6' T' ok' k' hx' ekd
        have o := okP k (Or.inl (Int.le_of_lt hk1))
        refine ⟨hk0, hk12, ?_⟩
        have eE : T' (lw + 3) k = P.2.2.2.1 k := by rw [k' (lw + 3) (by omega) (by omega)]; exact hS2.2.2
        rw [eE]
        refine s_holds hN o.1 o.2 hg.2.1 hg.2.2 (sp := P.2.2.2.2) (fun j j0 j1 => by rw [k' (lw + 4) (by omega) (by omega)]; exact hS.2.2 j j0 j1) hx' ok' (fun T2 ok2 k2 => ?_)
        have k2' : ∀ r', r' ≠ lw + 5 → r' ≠ lw + 6 → T2 r' = S r' := fun r' a b => (k2 r' b).trans (k' r' a b)
        have hx2 : x6' = 0 ∨ ∀ k, 0 ≤ k → k < 10 → T2 (lw + 5) k = env f p k := Or.inr (fun k a b => by rw [k2 _ (by omega)]; exact hx' k a b)
        refine ⟨fun q v1 e1 => ?_, fun q => ⟨hk0, hk12, fun v1 e1 => ?_⟩⟩
        · refine next _ _ _ ?_ ok2 k2' hx2
          rw [e1, pSum_nm0 hP kind _ k (Int.le_of_lt hk1), pSum_succ, if_pos ekd, if_pos q]
        · refine next _ _ _ ?_ ok2 k2' hx2
          rw [e1, k2' (lw + 2) (by omega) (by omega), hS2.2.1, pSum_nm1 hP kind _ k hk1, pSum_succ, if_pos ekd, if_neg q]
      refine ⟨fun hc => absurd hc (by rw [e0]; exact Int.not_le.mpr hk1), fun _ => ⟨fun hc => absurd hc (Int.not_le.mpr hk12), fun _ => ⟨hk0, hk12, ?_⟩⟩⟩
      rw [ek]
      refine ⟨fun q => next _ _ _ ?_ okT kT hx, fun q => ⟨fun q6 => body _ _ okT kT (hx.resolve_left q6) q, fun q6 => ?_⟩⟩
      · rw [pSum_succ, if_neg q, Int.add_zero]
      · refine s_look okT (hM.of (fun r' a b => kT r' (by omega) (by omega))) hR ap p0 p1 (fun T2 ok2 k2 hx2 v3 e3 => ?_)
        subst e3
        exact body _ _ ok2 (fun r' a b => (k2 r' a).trans (kT r' a b)) hx2 q
  exact loop P.1.toNat 0 N 0 S (by omega) (by have := hP.1; omega) hok (fun _ _ _ => rfl) (Or.inl rfl)
end cRun
