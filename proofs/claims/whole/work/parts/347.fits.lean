set_option maxHeartbeats 400000
set_option maxRecDepth 20000
/-! ===== the pure part: the sets that fit ===== -/
def lfB (tk w : Int) : Bool := decide (bAnd w (bXor tk (-1)) ≠ 0)
def okT (tp : Int → Int) (c : Int) : Nat → Bool
  | 0 => true
  | k + 1 => okT tp c k && (decide (tp (2 * k) < c) && decide (tp (2 * k + 1) ≤ 1))
def fiB (f : mRow) (tp : Int → Int) : Nat → Int → Bool
  | 0 => fun _ => true
  | k + 1 => fun w => fiB f tp k w && (lfB (f (70 + 4 * tp (2 * k) + 3)) w == decide (tp (2 * k + 1) = 1))
theorem okT_at {tp : Int → Int} {c : Int} : ∀ {m : Nat}, okT tp c m = true → ∀ k : Nat, k < m → tp (2 * k) < c ∧ tp (2 * k + 1) ≤ 1
  | 0, _, k, hk => by omega
  | m + 1, h, k, hk => by
    unfold okT at h
    rw [Bool.and_eq_true, Bool.and_eq_true, decide_eq_true_eq, decide_eq_true_eq] at h
    by_cases he : k = m
    · subst he; exact h.2
    · exact okT_at h.1 k (by omega)
theorem okT_all {tp : Int → Int} {c : Int} : ∀ {m : Nat}, (∀ k : Nat, k < m → tp (2 * k) < c ∧ tp (2 * k + 1) ≤ 1) → okT tp c m = true
  | 0, _ => rfl
  | m + 1, h => by
    unfold okT
    rw [Bool.and_eq_true, Bool.and_eq_true, decide_eq_true_eq, decide_eq_true_eq]
    exact ⟨okT_all (fun k hk => h k (by omega)), h m (by omega)⟩
theorem okT_no {tp : Int → Int} {c : Int} {m k : Nat} (hk : k < m) (h : ¬ (tp (2 * k) < c ∧ tp (2 * k + 1) ≤ 1)) : okT tp c m = false := by
  cases h2 : okT tp c m
  · rfl
  · exact absurd (okT_at h2 k hk) h
section fits
variable {N n : Nat} {X M : mSt} {q q' lw lw' : Nat} {f : mRow} {A : mLaw} {P : mPrg} {a1 a2 a3 a4 a5 : Int} {T : Int} {tp : Int → Int} {c : Int}
theorem s_setsLeft {Q : mSt → Int → Prop} {tk : Int} (hN : 5000 ≤ N) (h : ∀ v, okI v → (∀ w : Nat, w < 32 → tb v w = lfB tk w) → Q X v) : w_X11_setsLeftBy N tk X Q := by
  intro v1 e1 v2 e2
  subst e1; subst e2
  have loop : ∀ (d k fu : Nat) (v : Int), k + d = 32 → d < fu → okI v → (∀ w : Nat, w < 32 → tb v w = (decide (w < k) && lfB tk w)) → w_X11_setsLeftBy_4 N Q (fun (x1_3 : Int) (S_3 : mSt) => Q S_3 x1_3) fu tk v k X := by
    intro d
    induction d with
    | zero =>
      intro k fu v hk hf ov hv
      obtain ⟨fu, rfl⟩ : ∃ x, fu = x + 1 := ⟨fu - 1, by omega⟩
      refine ⟨fun _ => h v ov (fun w hw => ?_), fun hc => by omega⟩
      rw [hv w hw, show decide (w < k) = true from decide_eq_true (by omega), Bool.true_and]
    | succ d ih =>
      intro k fu v hk hf ov hv
      obtain ⟨fu, rfl⟩ : ∃ x, fu = x + 1 := ⟨fu - 1, by omega⟩
      refine ⟨fun hc => by omega, fun _ => ⟨fun hz v1 e1 => ?_, fun hz v2 e2 v1 e1 => ?_⟩⟩
      · rw [nx8 (by omega)] at e1
        subst e1
        refine ih (k + 1) fu v (by omega) (by omega) ov (fun w hw => ?_)
        rw [hv w hw]
        by_cases he : w = k
        · subst he
          have : lfB tk w = false := by unfold lfB; rw [decide_eq_false_iff_not]; exact fun hc => hc hz
          rw [this, Bool.and_false, Bool.and_false]
        · congr 1
          rw [decide_eq_decide]; omega
      · rw [nx8 (by omega)] at e1
        subst e1
        rw [e2]
        refine ih (k + 1) fu _ (by omega) (by omega) (bOr_ok _ _) (fun w hw => ?_)
        rw [tb_or, hv w hw, tb_shl k (by omega) w hw]
        by_cases he : w = k
        · subst he
          have : lfB tk w = true := by unfold lfB; rw [decide_eq_true_eq]; exact hz
          rw [this, show decide (w < w + 1) = true from decide_eq_true (by omega), beq_self_eq_true, Bool.or_true]; rfl
        · rw [beq_false_of_ne he, Bool.or_false]
          congr 1
          rw [decide_eq_decide]; omega
  exact loop 32 0 N 0 rfl (by omega) (by decide) (fun w hw => by rw [tb_0 w hw]; rfl)
theorem x_fits {Q : mSt → Int → Prop} {E : String → mSt → Prop} (hN : 5000 ≤ N) {X0 : mSt} (e0 : X0 = mup X 0 1 0) (C : CQ N X0 q q' lw lw' f A T) {n9 : Int} (h9 : X 0 1 = n9) (n0 : 0 ≤ n9) (n1 : n9 ≤ 400) (htp : ∀ k, 0 ≤ k → k < n9 → X 1 k = tp k ∧ 0 ≤ tp k) (hQ : ∀ m : Nat, n9 = 2 * m → n9 ≤ 40 → okT tp (f 3) m = true → ∀ v, okI v → (∀ w : Nat, w < 32 → tb v w = fiB f tp m w) → Q X0 v) (hE1 : (n9 % 2 ≠ 0 ∨ 40 < n9) → E "java/lang/IllegalArgumentException" X0) (hE2 : ∀ m : Nat, n9 = 2 * m → n9 ≤ 40 → okT tp (f 3) m = false → E "java/lang/IllegalArgumentException" X0) : w_X11_setsThatFit N 0 X Q E := by
  obtain ⟨ok, ⟨k1, -⟩, hL, hR, -⟩ := id C
  have h3 := hR.2.1
  intro v1 e1 S2 e2
  rw [h9] at e1
  subst e1
  have : S2 = X0 := e2.trans e0.symm
  subst this
  have er : iRem v1 2 = v1 % 2 := iRem_nn (by unfold okI; omega) (by decide) (by omega) (by decide)
  rw [er]
  refine ⟨fun hc => hE1 (Or.inr hc), fun h40 => ⟨fun hev v3 e3 v4 e4 => ?_, fun hod => hE1 (Or.inl hod)⟩⟩
  subst e3; subst e4
  obtain ⟨m, hm⟩ : ∃ m : Nat, v1 = 2 * m := ⟨(v1 / 2).toNat, by omega⟩
  have hx1 : ∀ k, 0 ≤ k → k < v1 → S2 1 k = tp k ∧ 0 ≤ tp k := fun k a b => by rw [e2, mup_ne _ _ _ (by decide)]; exact htp k a b
  have loop : ∀ (d k fu : Nat) (v : Int), k + d = m → d < fu → okI v → (∀ w : Nat, w < 32 → tb v w = fiB f tp k w) → (∀ j : Nat, j < k → tp (2 * j) < f 3 ∧ tp (2 * j + 1) ≤ 1) → w_X11_setsThatFit_34 N Q E (fun (x2_5 : Int) (S_5 : mSt) => Q S_5 x2_5) fu 0 v1 v (2 * (k : Int)) S2 := by
    intro d
    induction d with
    | zero =>
      intro k fu v hk hf ov hv hj
      obtain ⟨fu, rfl⟩ : ∃ x, fu = x + 1 := ⟨fu - 1, by omega⟩
      have e : k = m := by omega
      subst e
      have en : nm (2 * (k : Int) + 1) = 2 * (k : Int) + 1 := nm_of (by omega) (by omega)
      exact ⟨fun _ => hQ k hm h40 (okT_all hj) v ov hv, fun hc => by rw [en] at hc; clear en; omega⟩
    | succ d ih =>
      intro k fu v hk hf ov hv hj
      obtain ⟨fu, rfl⟩ : ∃ x, fu = x + 1 := ⟨fu - 1, by omega⟩
      have en : nm (2 * (k : Int) + 1) = 2 * (k : Int) + 1 := nm_of (by omega) (by omega)
      have en2 : nm (2 * (k : Int) + 2) = 2 * ((k + 1 : Nat) : Int) := by rw [nm_of (by omega) (by omega)]; omega
      have t1 := hx1 (2 * (k : Int)) (by omega) (by clear en en2; omega)
      have t2 := hx1 (2 * (k : Int) + 1) (by omega) (by clear en en2; omega)
      have e11 : S2 (0 + 1) = S2 1 := rfl
      have nxt : ∀ v : Int, okI v → (∀ w : Nat, w < 32 → tb v w = fiB f tp (k + 1) w) → (tp (2 * k) < f 3 ∧ tp (2 * k + 1) ≤ 1) → w_X11_setsThatFit_34 N Q E (fun (x2_5 : Int) (S_5 : mSt) => Q S_5 x2_5) fu 0 v1 v (2 * ((k + 1 : Nat) : Int)) S2 := fun v ov hv hp => ih (k + 1) fu v (by omega) (by omega) ov hv (fun j hjk => by
        by_cases he : j = k
        · subst he; exact hp
        · exact hj j (by omega))
      unfold w_X11_setsThatFit_34 w_X11_setsThatFit_34b w_X11_setsThatFit_115
      rw [en]
      simp only [en2]
      clear en en2
      refine ⟨fun hc => by omega, fun _ => ⟨by omega, by omega, fun v2 e2' => ⟨by omega, by omega, fun v4 e4 q5 e5 => ?_⟩⟩⟩
      have a5 : q5 = q := by omega
      subst a5
      rw [e11, t1.1] at e2'
      rw [e11, t2.1] at e4
      subst e2'; subst e4
      rw [hL.2.1.2.1]
      refine ⟨fun hc => hE2 m hm h40 (okT_no (k := k) (by omega) (fun hc2 => by omega)), fun hs => ⟨fun ha q6 e6 => ?_, fun ha => hE2 m hm h40 (okT_no (k := k) (by omega) (fun hc2 => by omega))⟩⟩
      have a6 : q6 = q5 := by omega
      subst a6
      refine x_takes C t1.2 hs (s_setsLeft hN (fun v8 ov8 hv8 v9 e9 => ?_))
      subst e9
      have hf1 : ∀ w, fiB f tp (k + 1) w = (fiB f tp k w && (lfB (f (70 + 4 * tp (2 * k) + 3)) w == decide (tp (2 * k + 1) = 1))) := fun _ => rfl
      refine ⟨fun hn va ea vb eb => ?_, fun hn va ea vb eb => ?_⟩
      · subst ea; subst eb
        refine nxt _ (bAnd_ok _ _) (fun w hw => ?_) ⟨hs, ha⟩
        rw [tb_and, tb_xor, tb_m1 w hw, hv w hw, hv8 w hw, hf1, decide_eq_false hn]
        cases fiB f tp k w <;> cases lfB (f (70 + 4 * tp (2 * k) + 3)) w <;> rfl
      · subst ea; subst eb
        refine nxt _ (bAnd_ok _ _) (fun w hw => ?_) ⟨hs, ha⟩
        rw [tb_and, hv w hw, hv8 w hw, hf1, decide_eq_true hn]
        cases fiB f tp k w <;> cases lfB (f (70 + 4 * tp (2 * k) + 3)) w <;> rfl
  exact loop m 0 N (-1) (by omega) (by omega) (by decide) (fun w hw => tb_m1 w hw) (fun j hj => by omega)
-- the reference
def fiN (f : mRow) (tp : Int → Int) (m : Nat) : Nat → Int
  | 0 => 0
  | w + 1 => fiN f tp m w + (if fiB f tp m w = true then 1 else 0)
theorem fiN_ok (f : mRow) (tp : Int → Int) (m : Nat) : ∀ w : Nat, 0 ≤ fiN f tp m w ∧ fiN f tp m w ≤ w
  | 0 => by unfold fiN; omega
  | w + 1 => by
    have := fiN_ok f tp m w
    unfold fiN
    split <;> omega
theorem fiB_mono {w : Int} : ∀ {m k : Nat}, k ≤ m → fiB f tp k w = false → fiB f tp m w = false
  | 0, k, hk, h => by
    have : k = 0 := by omega
    subst this; exact h
  | m + 1, k, hk, h => by
    by_cases he : k = m + 1
    · rw [← he]; exact h
    · have := fiB_mono (m := m) (k := k) (by omega) h
      unfold fiB
      rw [this]; rfl
theorem y_told {Q : mSt → Int → Prop} (hN : 5000 ≤ N) (ok : okS M) (h1 : M 1 = f) (hR : RR f) {n9 : Int} (h9 : M 0 9 = n9) (n0 : 0 ≤ n9) (n1 : n9 ≤ 400) (htp : ∀ k, 0 ≤ k → k < n9 → M 6 k = tp k ∧ 0 ≤ tp k) (hQ : ∀ m : Nat, n9 = 2 * m → n9 ≤ 40 → okT tp (f 3) m = true → ∀ M', okS M' → (∀ r, r ≠ 11 → M' r = (mup M 0 9 0) r) → (∀ w : Nat, w < 32 → M' 11 w = if fiB f tp m w = true then 1 else 0) → Q M' (fiN f tp m 32)) (hE1 : (n9 % 2 ≠ 0 ∨ 40 < n9) → Q (mup M 0 9 0) (-1)) (hE2 : ∀ m : Nat, n9 = 2 * m → n9 ≤ 40 → okT tp (f 3) m = false → Q (mup M 0 9 0) (-1)) : w_X12_told N 0 M Q := by
  have h3 := hR.2.1
  intro v1 e1 S2 e2
  rw [h9] at e1
  subst e1
  have er : ∀ i : Int, 0 ≤ i → i < 1000 → iRem i 2 = i % 2 := fun i a b => iRem_nn (by unfold okI; omega) (by decide) a (by decide)
  rw [er v1 n0 (by omega)]
  have none : (Q (mup M 0 9 0) (-1)) → w_X12_told_27 N Q 0 v1 0 S2 := by
    intro hq v1' e1' v2' e2'
    subst e1'; subst e2'
    obtain ⟨N', hN'⟩ : ∃ x, N = x + 1 := ⟨N - 1, by omega⟩
    have key : ∀ K, N = K + 1 → w_X12_told_30 N Q (fun (r0_3 : Nat) (x1_3 : Int) (x2_3 : Int) (S_3 : mSt) => w_X12_told_76 N Q r0_3 x1_3 x2_3 S_3) (K + 1) 0 v1 0 0 S2 := by
      intro K hK
      have h76 : w_X12_told_76 N Q 0 v1 0 S2 := ⟨fun hc => absurd rfl hc, fun _ => by rw [e2]; exact hq⟩
      exact ⟨fun _ => h76, fun _ => ⟨fun _ => h76, fun hc => absurd rfl hc⟩⟩
    have := key N' hN'
    rw [← hN'] at this
    exact this
  refine ⟨fun hc => none (hE1 (Or.inl hc)), fun hev => ⟨fun hc => none (hE1 (Or.inr hc)), fun h40 v1' e1' v2' e2' => ?_⟩⟩
  subst e1'; subst e2'
  obtain ⟨m, hm⟩ : ∃ m : Nat, v1 = 2 * m := ⟨(v1 / 2).toNat, by omega⟩
  have t6 : ∀ k, 0 ≤ k → k < v1 → S2 6 k = tp k ∧ 0 ≤ tp k := fun k a b => by rw [e2, mup_ne _ _ _ (by decide)]; exact htp k a b
  have e13 : S2 (0 + 1) 3 = f 3 := by rw [e2, Nat.zero_add, mup_ne _ _ _ (by decide), h1]
  -- counting
  have count : okT tp (f 3) m = true → w_X12_told_76 N Q 0 v1 1 S2 := by
    intro hT
    have hq := hQ m hm h40 hT
    have hTa := fun k hk => okT_at hT k hk
    refine ⟨fun _ va ea vb eb => ?_, fun hc => absurd hc (by decide)⟩
    subst ea; subst eb
    refine lpUp (n := N) (T := S2) (K := 32) (W := fun n w T => w_X12_told_87 N Q (fun (x3_3 : Int) (S_3 : mSt) => Q S_3 x3_3) n 0 v1 (fiN f tp m w) w T) (I := fun w T => okS T ∧ (∀ r, r ≠ 11 → T r = S2 r) ∧ ∀ w' : Nat, w' < w → T 11 w' = if fiB f tp m w' = true then 1 else 0) (fun n T hI => ?_) (fun n w T hw hI ih => ?_) (by omega) ⟨by rw [e2]; exact okS_up ok (by decide), fun _ _ => rfl, fun w' hw => by omega⟩
    · obtain ⟨i1, i2, i3⟩ := hI
      exact ⟨fun _ => hq T i1 (fun r hr => by rw [i2 r hr, e2]) i3, fun hc => by omega⟩
    · obtain ⟨i1, i2, i3⟩ := hI
      refine ⟨fun hc => by omega, fun _ => ⟨by omega, by omega, fun S4 e4 v3 e3 => ?_⟩⟩
      subst e3
      have e4' : S4 = mup T 11 w 1 := e4
      have fin : ∀ T' : mSt, okS T' → (∀ r, r ≠ 11 → T' r = T r) → (∀ i : Int, i ≠ w → T' 11 i = T 11 i) → (T' 11 w = if fiB f tp m w = true then 1 else 0) → w_X12_told_185 N Q (w_X12_told_87 N Q (fun (x3_3 : Int) (S_3 : mSt) => Q S_3 x3_3) n) 0 v1 (fiN f tp m w) w T' := by
        intro T' o k1 k2 k3
        have hn := fiN_ok f tp m w
        have es : fiN f tp m (w + 1) = fiN f tp m w + (if fiB f tp m w = true then 1 else 0) := rfl
        have nx : ∀ v : Int, v = (if fiB f tp m w = true then 1 else 0) → w_X12_told_201 N Q (w_X12_told_87 N Q (fun (x3_3 : Int) (S_3 : mSt) => Q S_3 x3_3) n) 0 v1 w v (fiN f tp m w) T' := by
          intro v ev va ea vb eb
          have hv01 : v = 0 ∨ v = 1 := by rw [ev]; split <;> omega
          rw [nx8 (by omega)] at eb
          rw [nm_of (by omega) (by omega), ev, ← es] at ea
          subst ea; subst eb
          refine ih T' ⟨o, fun r hr => (k1 r hr).trans (i2 r hr), fun w' hw' => ?_⟩
          by_cases he : w' = w
          · subst he; exact k3
          · rw [k2 _ (by omega)]; exact i3 w' (by omega)
        refine ⟨by omega, by omega, fun hz => nx 0 ?_, fun hz => nx 1 ?_⟩
        · have hz' : T' 11 w = 0 := hz
          rw [← k3, hz']
        · have hz' : T' 11 w ≠ 0 := hz
          rw [k3] at hz'
          split at hz'
          · next hh => rw [if_pos hh]
          · exact absurd rfl hz'
      have loop : ∀ (d k fu : Nat) (T' : mSt), k + d = m → d < fu → okS T' → (∀ r, r ≠ 11 → T' r = T r) → (∀ i : Int, i ≠ w → T' 11 i = T 11 i) → (T' 11 w = if fiB f tp k w = true then 1 else 0) → w_X12_told_105 N Q (fun (r0_4 : Nat) (x1_4 : Int) (x3_4 : Int) (x4_4 : Int) (S_4 : mSt) => w_X12_told_185 N Q (w_X12_told_87 N Q (fun (x3_3 : Int) (S_3 : mSt) => Q S_3 x3_3) n) r0_4 x1_4 x3_4 x4_4 S_4) fu 0 v1 (fiN f tp m w) w (2 * (k : Int)) T' := by
        intro d
        induction d with
        | zero =>
          intro k fu T' hk hf o k1 k2 k3
          obtain ⟨fu, rfl⟩ : ∃ x, fu = x + 1 := ⟨fu - 1, by omega⟩
          have e : k = m := by omega
          subst e
          exact ⟨fun _ => fin T' o k1 k2 k3, fun hc => by omega⟩
        | succ d ihd =>
          intro k fu T' hk hf o k1 k2 k3
          obtain ⟨fu, rfl⟩ : ∃ x, fu = x + 1 := ⟨fu - 1, by omega⟩
          refine ⟨fun hc => by omega, fun _ => ⟨by omega, by omega, fun hz => ?_, fun hz => ⟨by omega, by omega, ?_⟩⟩⟩
          · have hz' : T' 11 w = 0 := hz
            have hf0 : fiB f tp k w = false := by
              cases hh : fiB f tp k w
              · rfl
              · rw [hh, if_pos rfl] at k3; omega
            have := fiB_mono (m := m) (k := k) (by omega) hf0
            refine fin T' o k1 k2 ?_
            rw [this, hz']; rfl
          · have hz' : T' 11 w ≠ 0 := hz
            have hf1 : fiB f tp k w = true := by
              cases hh : fiB f tp k w
              · rw [hh] at k3; exact absurd k3 hz'
              · rfl
            have t1 := t6 (2 * (k : Int)) (by omega) (by omega)
            have t2 := t6 (2 * (k : Int) + 1) (by omega) (by omega)
            have tT := hTa k (by omega)
            have e6 : T' (0 + 6) = S2 6 := (k1 6 (by decide)).trans (i2 6 (by decide))
            have e1 : T' 1 = f := by rw [k1 1 (by decide), i2 1 (by decide), e2, mup_ne _ _ _ (by decide), h1]
            rw [e6, t1.1]
            refine a_ofSoap t1.2 (by omega) (by omega) (by omega) ?_
            rw [e1]
            have hfs : fiB f tp (k + 1) w = (lfB (f (70 + 4 * tp (2 * k) + 3)) w == decide (tp (2 * k + 1) = 1)) := by
              show (fiB f tp k w && _) = _
              rw [hf1, Bool.true_and]
            have go : ∀ L : Int, L = (if lfB (f (70 + 4 * tp (2 * k) + 3)) w = true then 1 else 0) → w_X12_told_152 N Q (w_X12_told_105 N Q (fun (r0_4 : Nat) (x1_4 : Int) (x3_4 : Int) (x4_4 : Int) (S_4 : mSt) => w_X12_told_185 N Q (w_X12_told_87 N Q (fun (x3_3 : Int) (S_3 : mSt) => Q S_3 x3_3) n) r0_4 x1_4 x3_4 x4_4 S_4) fu) 0 v1 (fiN f tp m w) w (2 * (k : Int)) L w (0 + 11) T' := by
              intro L eL
              have last : ∀ v : Int, v = (if fiB f tp (k + 1) w = true then 1 else 0) → w_X12_told_178 N Q (w_X12_told_105 N Q (fun (r0_4 : Nat) (x1_4 : Int) (x3_4 : Int) (x4_4 : Int) (S_4 : mSt) => w_X12_told_185 N Q (w_X12_told_87 N Q (fun (x3_3 : Int) (S_3 : mSt) => Q S_3 x3_3) n) r0_4 x1_4 x3_4 x4_4 S_4) fu) 0 v1 (fiN f tp m w) w (2 * (k : Int)) v w (0 + 11) T' := by
                intro v ev
                have hv01 : v = 0 ∨ v = 1 := by rw [ev]; split <;> omega
                refine ⟨by omega, by omega, hv01, fun S5 e5 v3 e3 => ?_⟩
                rw [nm_of (by omega) (by omega), show 2 * (k : Int) + 2 = 2 * ((k + 1 : Nat) : Int) by omega] at e3
                subst e3
                have e5' : S5 = mup T' 11 w v := e5
                have ov : okI v := by unfold okI; omega
                exact ihd (k + 1) fu S5 (by omega) (by omega) (by rw [e5']; exact okS_up o ov) (fun r hr => by rw [e5', mup_ne _ _ _ hr]; exact k1 r hr) (fun i hi => by rw [e5', mup_i _ _ _ hi]; exact k2 i hi) (by rw [e5', mup_same]; exact ev)
              have en : nm (2 * (k : Int) + 1) = 2 * (k : Int) + 1 := nm_of (by omega) (by omega)
              unfold w_X12_told_152 w_X12_told_170
              rw [en, e6, t2.1]
              clear en
              rw [hfs] at last
              refine ⟨by omega, by omega, fun ha => ?_, fun ha => ?_⟩
              · rw [decide_eq_false ha] at last
                cases hl : lfB (f (70 + 4 * tp (2 * k) + 3)) w <;> rw [hl] at last eL
                · exact ⟨fun hc => absurd eL hc, fun _ => last 1 rfl⟩
                · exact ⟨fun _ => last 0 rfl, fun hc => by rw [if_pos rfl] at eL; omega⟩
              · rw [decide_eq_true ha] at last
                cases hl : lfB (f (70 + 4 * tp (2 * k) + 3)) w <;> rw [hl] at last eL
                · exact ⟨fun _ => last 0 rfl, fun hc => by rw [if_neg (by decide)] at eL; omega⟩
                · exact ⟨fun hc => absurd eL hc, fun _ => last 1 rfl⟩
            refine ⟨fun hb => go 0 ?_, fun hb => go 1 ?_⟩
            · have : lfB (f (70 + 4 * tp (2 * k) + 3)) w = false := by unfold lfB; rw [decide_eq_false_iff_not]; exact fun hc => hc hb
              rw [this]; rfl
            · have : lfB (f (70 + 4 * tp (2 * k) + 3)) w = true := by unfold lfB; rw [decide_eq_true_eq]; exact hb
              rw [this]; rfl
      refine loop m 0 N S4 (by omega) (by omega) (by rw [e4']; exact okS_up i1 (by decide)) (fun r hr => by rw [e4', mup_ne _ _ _ hr]) (fun i hi => by rw [e4', mup_i _ _ _ hi]) ?_
      rw [e4', mup_same]; rfl
  -- looking at the tape
  have look : ∀ (d i fu : Nat), (i : Int) + d = v1 → d + 1 < fu → (∀ j : Nat, j < i → (j % 2 = 0 → tp j < f 3) ∧ (j % 2 = 1 → tp j < 2)) → w_X12_told_30 N Q (fun (r0_3 : Nat) (x1_3 : Int) (x2_3 : Int) (S_3 : mSt) => w_X12_told_76 N Q r0_3 x1_3 x2_3 S_3) fu 0 v1 1 i S2 := by
    intro d
    induction d with
    | zero =>
      intro i fu hi hf hj
      obtain ⟨fu, rfl⟩ : ∃ x, fu = x + 1 := ⟨fu - 1, by omega⟩
      refine ⟨fun _ => count (okT_all (fun k hk => ?_)), fun hc => by omega⟩
      have j1 := (hj (2 * k) (by omega)).1 (by omega)
      have j2 := (hj (2 * k + 1) (by omega)).2 (by omega)
      rw [show ((2 * k : Nat) : Int) = 2 * (k : Int) by omega] at j1
      rw [show ((2 * k + 1 : Nat) : Int) = 2 * (k : Int) + 1 by omega] at j2
      exact ⟨j1, by omega⟩
    | succ d ihd =>
      intro i fu hi hf hj
      obtain ⟨fu, rfl⟩ : ∃ x, fu = x + 1 := ⟨fu - 1, by omega⟩
      have t1 := t6 i (by omega) (by omega)
      have e6 : S2 (0 + 6) i = tp i := t1.1
      have bad : ¬ ((i % 2 = 0 → tp i < f 3) ∧ (i % 2 = 1 → tp i < 2)) → w_X12_told_69 N Q (w_X12_told_30 N Q (fun (r0_3 : Nat) (x1_3 : Int) (x2_3 : Int) (S_3 : mSt) => w_X12_told_76 N Q r0_3 x1_3 x2_3 S_3) fu) 0 v1 i 0 S2 := by
        intro hb va ea vb eb
        rw [ea]
        clear ea eb
        obtain ⟨fu, rfl⟩ : ∃ x, fu = x + 1 := ⟨fu - 1, by omega⟩
        have hT : okT tp (f 3) m = false := by
          refine okT_no (k := i / 2) (by omega) (fun hc => hb ?_)
          rcases Nat.mod_two_eq_zero_or_one i with h0 | h0
          · refine ⟨fun _ => ?_, fun h1 => by omega⟩
            have := hc.1
            rw [show 2 * ((i / 2 : Nat) : Int) = i by omega] at this
            exact this
          · refine ⟨fun h1 => by omega, fun _ => ?_⟩
            have := hc.2
            rw [show 2 * ((i / 2 : Nat) : Int) + 1 = i by omega] at this
            omega
        have h76 : w_X12_told_76 N Q 0 v1 0 S2 := ⟨fun hc => absurd rfl hc, fun _ => by rw [e2]; exact hE2 m hm h40 hT⟩
        exact ⟨fun _ => h76, fun _ => ⟨fun _ => h76, fun hc => absurd rfl hc⟩⟩
      have good : ((i % 2 = 0 → tp i < f 3) ∧ (i % 2 = 1 → tp i < 2)) → w_X12_told_69 N Q (w_X12_told_30 N Q (fun (r0_3 : Nat) (x1_3 : Int) (x2_3 : Int) (S_3 : mSt) => w_X12_told_76 N Q r0_3 x1_3 x2_3 S_3) fu) 0 v1 i 1 S2 := by
        intro hb va ea vb eb
        rw [nx8 (by omega)] at eb
        subst ea; subst eb
        refine ihd (i + 1) fu (by omega) (by omega) (fun j hjk => ?_)
        by_cases he : j = i
        · subst he; exact hb
        · exact hj j (by omega)
      refine ⟨fun hc => by omega, fun _ => ⟨fun hc => absurd hc (by decide), fun _ => ⟨by omega, by omega, ?_⟩⟩⟩
      rw [er i (by omega) (by omega), e13, e6]
      refine ⟨fun ho => ⟨fun hc => bad (fun hb => ?_), fun hc => good ⟨fun h0 => by omega, fun _ => hc⟩⟩, fun he => ⟨fun hc => bad (fun hb => ?_), fun hc => good ⟨fun _ => hc, fun h1 => by omega⟩⟩⟩
      · have := hb.2 (by omega); omega
      · have := hb.1 (by omega); omega
  exact look v1.toNat 0 N (by omega) (by omega) (fun j hj => by omega)
end fits
