set_option maxHeartbeats 400000
set_option maxRecDepth 20000
/-! ===== the pure part: lines of a law, the reference ===== -/
/-- what reading a text's lines may change of the reference -/
def ML (M M' : mSt) : Prop := okS M' ∧ (∀ r, r ≠ 0 → M' r = M r) ∧ ∀ i, i ≠ 12 → i ≠ 13 → i ≠ 18 → i ≠ 19 → i ≠ 20 → M' 0 i = M 0 i
theorem MS.l {M M' : mSt} (h : MS M M') : ML M M' := ⟨h.1, h.2.1, fun i a b _ _ _ => h.2.2 i a b⟩
theorem ML.tr {M M1 M2 : mSt} (h : ML M M1) (h' : ML M1 M2) : ML M M2 := ⟨h'.1, fun r hr => (h'.2.1 r hr).trans (h.2.1 r hr), fun i a b c d f => (h'.2.2 i a b c d f).trans (h.2.2 i a b c d f)⟩
/-- what a line gives -/
def lval (e : Int → Int) (l : Lne) : Int := if hv0 (l.2.2.foldl (exec1 e) []) = 0 then 0 else l.2.1
def lsum (kind : Int) (e : Int → Int) : List Lne → Int
  | [] => 0
  | l :: r => (if l.1 = kind then lval e l else 0) + lsum kind e r
/-- what lines add -/
def AC (M M' : mSt) (e : Int → Int) (lns : List Lne) : Prop := M' 0 18 = nm (M 0 18 + (lsum 0 e lns - lsum 1 e lns)) ∧ M' 0 19 = nm (M 0 19 + lsum 2 e lns) ∧ M' 0 20 = nm (M 0 20 + lsum 3 e lns)
theorem AC.nil {M M' : mSt} {e : Int → Int} (ok : okS M) (h1 : M' 0 18 = M 0 18) (h2 : M' 0 19 = M 0 19) (h3 : M' 0 20 = M 0 20) : AC M M' e [] := by
  refine ⟨?_, ?_, ?_⟩
  · rw [h1]; show _ = nm (M 0 18 + (0 - 0)); rw [show M 0 18 + (0 - 0) = M 0 18 by omega, nm_id (ok _ _)]
  · rw [h2]; show _ = nm (M 0 19 + 0); rw [Int.add_zero, nm_id (ok _ _)]
  · rw [h3]; show _ = nm (M 0 20 + 0); rw [Int.add_zero, nm_id (ok _ _)]
theorem AC.tr {M M1 M2 : mSt} {e : Int → Int} {l : Lne} {r : List Lne} (h : AC M M1 e [l]) (h' : AC M1 M2 e r) : AC M M2 e (l :: r) := by
  obtain ⟨a1, a2, a3⟩ := h
  obtain ⟨b1, b2, b3⟩ := h'
  have s : ∀ k, lsum k e (l :: r) = lsum k e [l] + lsum k e r := fun k => by
    show (if l.1 = k then lval e l else 0) + lsum k e r = ((if l.1 = k then lval e l else 0) + 0) + lsum k e r
    rw [Int.add_zero]
  refine ⟨?_, ?_, ?_⟩
  · rw [b1, a1, nm_nm1, s 0, s 1]; congr 1; omega
  · rw [b2, a2, nm_nm1, s 2]; congr 1; omega
  · rw [b3, a3, nm_nm1, s 3]; congr 1; omega
section refl
variable {N : Nat} {M0 M M' : mSt} {tx e : Int → Int} {L a p lo hi : Int}
theorem LR.figures {Q : mSt → Int → Prop} (hN : 5000 ≤ N) (h : LR M0 M tx L a) (h1 : fg tx L lo hi (ns tx L a) = true → ∀ M' p, LR M0 M' tx L p → ns tx L p = nx tx L (ns tx L a) → Q M' (vl tx L (ns tx L a))) (h0 : fg tx L lo hi (ns tx L a) = false → ∀ M' v, 0 ≤ v → v < 10000 → DR M0 M' (ns tx L a) 400 → Q M' v) : w_X12_figures N 0 lo hi M Q := by
  have n0 := h.ns0
  have hL := h.at0.2.2
  refine y_figures hN h.2.1 h.2.2 (fun hf R => h1 hf _ _ (h.go R) ?_) (fun hf p v v0 v1 R => h0 hf _ v v0 v1 (h.die R.2.2.1 R.2.2.2.1 (by unfold okI; omega) (by omega)))
  unfold nx
  rw [(num_val (fg_lt n0.2 hf) hf).2]
theorem y_144 {Q : mSt → Prop} {k v xs : Int} (hQ : ∀ S', S' = mup (mup (mup M 0 18 (nm (M 0 18 + xs))) 0 19 (nm (M 0 19 + (if k = 2 then v else 0)))) 0 20 (nm (M 0 20 + (if k = 3 then v else 0))) → Q S') : w_X12_lawLine_144 N Q 0 k v xs (M 0 18) 0 M := by
  intro S1 e1
  have a19 : S1 0 19 = M 0 19 := by rw [e1, mup_i _ _ _ (by decide)]
  have fin : ∀ xs', xs' = (if k = 2 then v else 0) → w_X12_lawLine_163 N Q 0 k v xs' (S1 0 19) 0 S1 := by
    intro xs' ex S2 e2
    have a20 : S2 0 20 = M 0 20 := by rw [e2, mup_i _ _ _ (by decide), e1, mup_i _ _ _ (by decide)]
    rw [a19, ex] at e2
    refine ⟨fun h3 S3 e3 => hQ S3 ?_, fun h3 S3 e3 => hQ S3 ?_⟩
    · rw [e3, a20, if_neg h3, e2, e1]
    · rw [e3, a20, if_pos h3, e2, e1]
  exact ⟨fun h2 => fin 0 (by rw [if_neg h2]), fun h2 => fin v (by rw [if_pos h2])⟩
/-- the end of a good line -/
theorem LR.fin106 {Q : mSt → Prop} {k v z : Int} {T : List Int} (h : LR M0 M tx L p) (ok0 : okS M0) (k0 : 0 ≤ k) (k1 : k < 4) (v0 : 0 ≤ v) (v1 : v ≤ 20) (hz : hv0 (T.foldl (exec1 e) []) = z) (hQ : ∀ M', ML M0 M' → RD M' tx L p → M' 0 13 = -1 → AC M0 M' e [(k, v, T)] → Q M') : w_X12_lawLine_106 N Q 0 k v z M := by
  intro z1 ez
  subst ez
  have b18 : M 0 18 = M0 0 18 := h.1.2.2 18 (by decide) (by decide)
  have b19 : M 0 19 = M0 0 19 := h.1.2.2 19 (by decide) (by decide)
  have b20 : M 0 20 = M0 0 20 := h.1.2.2 20 (by decide) (by decide)
  have l0 : ∀ kind, lsum kind e [(k, v, T)] = if k = kind then (if z1 = 0 then 0 else v) else 0 := fun kind => by
    show (if k = kind then (if hv0 (T.foldl (exec1 e) []) = 0 then 0 else v) else 0) + 0 = _
    rw [Int.add_zero, hz]
  refine ⟨fun hc => absurd h.2.2 hc, fun _ => ⟨fun hz1 => ?_, fun hz1 => ?_⟩⟩
  · have go : ∀ xs, okI (nm (M 0 18 + xs)) → xs = (if k = 0 then v else 0) - (if k = 1 then v else 0) → w_X12_lawLine_144 N Q 0 k v xs (M 0 18) 0 M := by
      intro xs _ ex
      refine y_144 (fun S' es => ?_)
      have okS' : okS S' := by rw [es]; exact okS_up (okS_up (okS_up h.1.1 (nm_ok _)) (nm_ok _)) (nm_ok _)
      have fr : ∀ i, i ≠ 18 → i ≠ 19 → i ≠ 20 → S' 0 i = M 0 i := fun i x y w => by rw [es, mup_i _ _ _ w, mup_i _ _ _ y, mup_i _ _ _ x]
      have fr1 : ∀ r, r ≠ 0 → S' r = M r := fun r hr => by rw [es, mup_ne _ _ _ hr, mup_ne _ _ _ hr, mup_ne _ _ _ hr]
      refine hQ S' ⟨okS', fun r hr => (fr1 r hr).trans (h.1.2.1 r hr), fun i x y w1 w2 w3 => (fr i w1 w2 w3).trans (h.1.2.2 i x y)⟩ ?_ (by rw [fr 13 (by decide) (by decide) (by decide)]; exact h.2.2) ⟨?_, ?_, ?_⟩
      · obtain ⟨r1, r2, r3, r4, r5, r6⟩ := h.2.1
        refine ⟨by rw [fr 11 (by decide) (by decide) (by decide)]; exact r1, by rw [fr 12 (by decide) (by decide) (by decide)]; exact r2, r3, r4, r5, ?_⟩
        rw [fr 10 (by decide) (by decide) (by decide), fr1 6 (by decide), fr1 1 (by decide)]
        exact r6
      · rw [l0 0, l0 1, if_neg hz1, es, mup_i _ _ _ (by decide), mup_i _ _ _ (by decide), mup_same, b18, ex]
      · rw [l0 2, if_neg hz1, es, mup_i _ _ _ (by decide), mup_same, b19]
      · rw [l0 3, if_neg hz1, es, mup_same, b20]
    refine ⟨fun h0 => ⟨fun h1 => go 0 (nm_ok _) (by rw [if_neg h0, if_neg h1]; rfl), fun h1 => ?_⟩, fun h0 => go v (nm_ok _) (by rw [if_pos h0, if_neg (by omega)]; omega)⟩
    rw [nm_of (by omega) (by omega)]
    exact go (-v) (nm_ok _) (by rw [if_neg h0, if_pos h1]; omega)
  · refine hQ M h.1.l h.2.1 h.2.2 ⟨?_, ?_, ?_⟩
    · rw [l0 0, l0 1, if_pos hz1, b18]
      have : (if k = 0 then (0 : Int) else 0) - (if k = 1 then (0 : Int) else 0) = 0 := by split <;> split <;> rfl
      rw [this, Int.add_zero, nm_id (ok0 _ _)]
    · rw [l0 2, if_pos hz1, b19]
      have : (if k = 2 then (0 : Int) else 0) = 0 := by split <;> rfl
      rw [this, Int.add_zero, nm_id (ok0 _ _)]
    · rw [l0 3, if_pos hz1, b20]
      have : (if k = 3 then (0 : Int) else 0) = 0 := by split <;> rfl
      rw [this, Int.add_zero, nm_id (ok0 _ _)]
/-- a line's result -/
def RLn (M M' : mSt) (tx : Int → Int) (L : Int) (e : Int → Int) (q : PL) : Prop := (q.1 = -1 ∧ ∃ p, ML M M' ∧ RD M' tx L p ∧ M' 0 13 = -1 ∧ ns tx L p = q.2.1 ∧ AC M M' e [q.2.2]) ∨ (q.1 ≠ -1 ∧ ML M M' ∧ M' 0 13 = q.1 ∧ 0 ≤ M' 0 12)
theorem LR.amt {Q : mSt → Prop} {k : Int} (hN : 5000 ≤ N) (ok0 : okS M0) (hE : EV M0 e) (h14 : M0 0 14 = 0) (h : LR M0 M tx L a) (k0 : 0 ≤ k) (k1 : k < 4) (hQ : ∀ M', RLn M0 M' tx L e (qAmt tx L k (ns tx L a)) → Q M') : w_X12_lawLine_53 N Q 0 k M := by
  intro x1 ex
  subst ex
  have h0 := h.ns0
  unfold qAmt at hQ
  refine ⟨fun _ => h.figures hN (fun hf M1 p1 h1 n1 v3 e3 => ⟨fun _ => ?_, fun hc => absurd h1.2.2 hc⟩) (fun hf M1 v _ _ hd v3 e3 => ⟨fun hc => absurd hc hd.no, fun _ => hQ M1 ?_⟩), fun hc => by omega⟩
  · subst e3
    rw [if_pos hf] at hQ
    have hr := fg_rng hf
    refine h1.has hN (t := 30) (j := 28) rfl (by decide) (by decide) (fun ht M2 p2 h2 n2 => ⟨fun hc => absurd hc (by decide), fun _ => ?_⟩) (fun ht M2 h2 => ⟨fun _ => ?_, fun hc => absurd rfl hc⟩)
    · rw [n1] at ht n2
      rw [if_pos ht] at hQ
      have hF := LR.some (B := 400 + 6) hN (LR.atom (tx := tx) (L := L) (e := e) hN 6 12 (by decide) (by decide) M0 hE (by rw [h14]; rfl)) (fun b b0 b1 => qAt_GR 6 b b0 b1)
      refine hF M2 p2 _ h2 (fun M3 z bz hv => ?_)
      rw [n2] at hv
      rcases hv with ⟨q1, p3, h3, n3, r3⟩ | ⟨q1, h3⟩
      · have hh : hv0 ((qCond (qAt tx L 6) tx L (nx tx L (nx tx L (ns tx L a)))).2.2.foldl (exec1 e) []) = z := by
          rw [r3 [] (by decide)]
          show (if z = 1 then (1 : Int) else 0) = z
          rcases bz with rfl | rfl <;> rfl
        have fin : w_X12_lawLine_106 N Q 0 x1 (vl tx L (ns tx L a)) z M3 := LR.fin106 h3 ok0 k0 k1 hr.1 hr.2 hh (fun M' m1 m2 m3 m4 => hQ M' (Or.inl ⟨q1, p3, m1, m2, m3, n3, m4⟩))
        refine ⟨fun hz => by rw [hz] at fin; exact fin, fun hz => ?_⟩
        rw [bz.resolve_left hz] at fin; exact fin
      · have fin : ∀ z', w_X12_lawLine_106 N Q 0 x1 (vl tx L (ns tx L a)) z' M3 := fun z' z1 ez => ⟨fun _ => hQ M3 (Or.inr ⟨q1, h3.1.l, h3.2.1, h3.2.2.2.1⟩), fun hc => absurd hc h3.no⟩
        exact ⟨fun _ => fin 0, fun _ => fin 1⟩
    · rw [n1] at ht h2
      rw [if_neg (by rw [ht]; decide)] at hQ
      exact LR.fin106 (T := []) (z := 1) h2 ok0 k0 k1 hr.1 hr.2 rfl (fun M' m1 m2 m3 m4 => hQ M' (Or.inl ⟨rfl, _, m1, m2, m3, by rw [← n1, ns_idem], m4⟩))
  · rw [if_neg (by rw [hf]; decide)]
    exact Or.inr ⟨by show ns tx L a ≠ -1; omega, hd.1.l, hd.2.1, hd.2.2.2.1⟩
theorem y_lawLine {Q : mSt → Prop} (hN : 5000 ≤ N) (ok : okS M) (hE : EV M e) (h14 : M 0 14 = 0) (R : RD M tx L a) (h13 : M 0 13 = -1) (hQ : ∀ M', RLn M M' tx L e (qLine tx L (ns tx L a)) → Q M') : w_X12_lawLine N 0 M Q := by
  have h : LR M M tx L a := ⟨MS.rf ok, R, h13⟩
  have h0 := h.ns0
  have hid := ns_idem tx L a
  have amt : ∀ (k : Int) (M1 : mSt) (p1 : Int), qKind tx L (ns tx L a) = k → 0 ≤ k → k < 4 → LR M M1 tx L p1 → ns tx L p1 = nx tx L (ns tx L a) → w_X12_lawLine_53 N Q 0 k M1 := by
    intro k M1 p1 ek k0 k1 h1 n1
    refine h1.amt hN ok hE h14 k0 k1 (fun M' hr => hQ M' ?_)
    have eq : qLine tx L (ns tx L a) = qAmt tx L k (nx tx L (ns tx L a)) := by unfold qLine; rw [ek, if_neg (by omega)]
    rw [eq, ← n1]; exact hr
  have kinds : ∀ t t' : Nat, t ≠ t' → tok tx L t (ns tx L a) = true → ¬ tok tx L t' (ns tx L a) = true := fun t t' hne h1 h2 => hne ((of_decide_eq_true h1).2.symm.trans (of_decide_eq_true h2).2)
  refine h.has hN (t := 26) (j := 24) rfl (by decide) (by decide) (fun t26 M1 p1 h1 n1 => ⟨fun hc => absurd hc (by decide), fun _ => amt 0 M1 p1 ?_ (by decide) (by decide) h1 n1⟩) (fun t26 M1 h1 => ⟨fun _ => ?_, fun hc => absurd rfl hc⟩)
  · unfold qKind
    rw [if_neg (kinds 26 27 (by decide) t26), if_neg (kinds 26 28 (by decide) t26), if_neg (kinds 26 29 (by decide) t26), if_pos t26]
  refine h1.has hN (t := 27) (j := 25) rfl (by decide) (by decide) (fun t27 M2 p2 h2 n2 => ⟨fun hc => absurd hc (by decide), fun _ => amt 1 M2 p2 ?_ (by decide) (by decide) h2 (by rw [n2, hid])⟩) (fun t27 M2 h2 => ⟨fun _ => ?_, fun hc => absurd rfl hc⟩)
  · rw [hid] at t27
    unfold qKind
    rw [if_pos t27]
  refine h2.has hN (t := 28) (j := 26) rfl (by decide) (by decide) (fun t28 M3 p3 h3 n3 => ⟨fun hc => absurd hc (by decide), fun _ => amt 2 M3 p3 ?_ (by decide) (by decide) h3 (by rw [n3, hid, hid])⟩) (fun t28 M3 h3 => ⟨fun _ => ?_, fun hc => absurd rfl hc⟩)
  · rw [hid, hid] at t28
    unfold qKind
    rw [if_neg (kinds 28 27 (by decide) t28), if_pos t28]
  refine h3.has hN (t := 29) (j := 27) rfl (by decide) (by decide) (fun t29 M4 p4 h4 n4 => ⟨fun hc => absurd hc (by decide), fun _ => amt 3 M4 p4 ?_ (by decide) (by decide) h4 (by rw [n4, hid, hid, hid])⟩) (fun t29 M4 h4 => ⟨fun _ => ?_, fun hc => absurd rfl hc⟩)
  · rw [hid, hid, hid] at t29
    unfold qKind
    rw [if_neg (kinds 29 27 (by decide) t29), if_neg (kinds 29 28 (by decide) t29), if_pos t29]
  rw [hid] at t27
  rw [hid, hid] at t28
  rw [hid, hid, hid] at t29 h4
  intro x1 ex
  refine ⟨fun hc => absurd ex hc, fun _ => ?_⟩
  have e12 : M4 0 12 = ns tx L a := h4.2.1.2.1
  rw [e12]
  refine h4.wrong h0.1 h0.2 (fun M5 h5 => hQ M5 (Or.inr ?_))
  have eq : qLine tx L (ns tx L a) = (ns tx L a, ns tx L a, 0, 0, []) := by
    have ek : qKind tx L (ns tx L a) = -1 := by
      unfold qKind
      have n26 : ¬ tok tx L 26 (ns tx L a) = true := by rw [t26]; decide
      have n27 : ¬ tok tx L 27 (ns tx L a) = true := by rw [t27]; decide
      have n28 : ¬ tok tx L 28 (ns tx L a) = true := by rw [t28]; decide
      have n29 : ¬ tok tx L 29 (ns tx L a) = true := by rw [t29]; decide
      rw [if_neg n27, if_neg n28, if_neg n29, if_neg n26]
    unfold qLine
    rw [ek, if_pos rfl]
  rw [eq]
  exact ⟨by show ns tx L a ≠ -1; omega, h5.1.l, h5.2.1, h5.2.2.2.1⟩
/-- a blank skipped behind a fault -/
theorem RD.skipD {Q : mSt → Prop} (hN : 5000 ≤ N) (R : RD M tx L a) (h : ML M M') (p0 : 0 ≤ M' 0 12) (hQ : ∀ M2, ML M M2 → M2 0 13 = M' 0 13 → Q M2) : w_X12_skip N 0 M' Q := by
  obtain ⟨r1, r2, r3, r4, r5, r6⟩ := R
  have e11 : M' 0 11 = L := (h.2.2 11 (by decide) (by decide) (by decide) (by decide) (by decide)).trans r1
  by_cases hl : M' 0 12 ≤ L
  · have R' : RD M' tx L (M' 0 12) := by
      refine ⟨e11, rfl, p0, hl, r5, ?_⟩
      rw [h.2.2 10 (by decide) (by decide) (by decide) (by decide) (by decide), h.2.1 6 (by decide), h.2.1 1 (by decide)]
      exact r6
    refine y_skip hN R' (fun R2 => hQ _ ⟨okS_up h.1 ?_, fun r hr => (mup_ne _ _ _ hr).trans (h.2.1 r hr), fun i x y z u v => by rw [mup_i _ _ _ x]; exact h.2.2 i x y z u v⟩ (mup_i _ _ _ (by decide)))
    have := R2.2.2
    unfold okI; omega
  · obtain ⟨fu, rfl⟩ : ∃ m, N = m + 1 := ⟨N - 1, by omega⟩
    refine ⟨fun _ => hQ M' h rfl, fun hc => ?_⟩
    rw [e11] at hc
    omega
/-- the text's result -/
def RT (M M' : mSt) (e : Int → Int) (x3 : Nat) (q : Int × List Lne) (v : Int) : Prop := (q.1 = -1 ∧ ML M M' ∧ M' 0 13 = -1 ∧ AC M M' e q.2 ∧ v = ((x3 + q.2.length : Nat) : Int)) ∨ (q.1 ≠ -1 ∧ ML M M' ∧ M' 0 13 = q.1)
theorem EV.l (hE : EV M e) (h : ML M M') : EV M' e := by
  obtain ⟨h1, h2, h3, h4⟩ := hE
  exact ⟨fun k k0 k1 => by rw [h.2.1 7 (by decide)]; exact h1 k k0 k1, by rw [h.2.2 16 (by decide) (by decide) (by decide) (by decide) (by decide)]; exact h2, by rw [h.2.2 17 (by decide) (by decide) (by decide) (by decide) (by decide)]; exact h3, h4⟩
theorem y_readL {Q : mSt → Int → Prop} {ko144 : Int → mSt → Prop} (hN : 5000 ≤ N) : ∀ (k fu x3 : Nat) (M : mSt) (a : Int), x3 + k = 12 → k + 1 < fu → okS M → EV M e → M 0 14 = 0 → RD M tx L a → M 0 13 = -1 → (∀ M' v, RT M M' e x3 (qLaw tx L k (ns tx L a)) v → ko144 v M') → w_X12_read_23 N Q ko144 fu 0 1 1 x3 M := by
  intro k
  induction k with
  | zero =>
    intro fu x3 M a hk hf ok hE h14 R h13 hQ
    obtain ⟨fu, rfl⟩ : ∃ m, fu = m + 2 := ⟨fu - 2, by omega⟩
    have h : LR M M tx L a := ⟨MS.rf ok, R, h13⟩
    have h0 := h.ns0
    have e3 : x3 = 12 := by omega
    subst e3
    refine ⟨fun hc => absurd hc (by decide), fun _ => ⟨fun hc => absurd h13 hc, fun _ => h.skip hN (fun M1 h1 => ⟨fun hc => absurd hc (by decide), fun _ => ⟨fun hc => absurd rfl hc, fun _ => ?_⟩⟩)⟩⟩
    rw [h1.2.1.2.1]
    refine h1.wrong h0.1 h0.2 (fun M2 h2 v1 ev => R.skipD hN h2.1.l h2.2.2.2.1 (fun M3 m3 e13 => ⟨fun _ v2 ev2 => ?_, fun hc => ?_⟩))
    · subst ev2
      refine ⟨fun _ => hQ M3 _ (Or.inr ⟨?_, m3, ?_⟩), fun hc => absurd rfl hc⟩
      · show ns tx L a ≠ -1
        omega
      · rw [e13, h2.2.1]; rfl
    · rw [e13, h2.2.1] at hc; omega
  | succ k ih =>
    intro fu x3 M a hk hf ok hE h14 R h13 hQ
    obtain ⟨fu, rfl⟩ : ∃ m, fu = m + 2 := ⟨fu - 2, by omega⟩
    have h : LR M M tx L a := ⟨MS.rf ok, R, h13⟩
    have h0 := h.ns0
    have hid := ns_idem tx L a
    have hg := qLine_GL (tx := tx) h0.1 h0.2
    have nx3 : nm ((x3 : Int) + 1) = ((x3 + 1 : Nat) : Int) := nx8 (by omega)
    unfold qLaw at hQ
    refine ⟨fun hc => absurd hc (by decide), fun _ => ⟨fun hc => absurd h13 hc, fun _ => h.skip hN (fun M1 h1 => ⟨fun hc => absurd hc (by decide), fun _ => ⟨fun _ => ⟨fun hc => absurd hc (by decide), fun _ => ?_⟩, fun hc => by omega⟩⟩)⟩⟩
    have E1 := hE.l h1.1.l
    have a14 : M1 0 14 = 0 := (h1.1.2.2 14 (by decide) (by decide)).trans h14
    -- M1 adds nothing
    have c1 : ∀ M2 lns, AC M1 M2 e lns → AC M M2 e lns := by
      intro M2 lns hc
      unfold AC at hc ⊢
      rw [h1.1.2.2 18 (by decide) (by decide), h1.1.2.2 19 (by decide) (by decide), h1.1.2.2 20 (by decide) (by decide)] at hc
      exact hc
    refine y_lawLine hN h1.1.1 E1 a14 h1.2.1 h1.2.2 (fun M2 hr => ?_)
    rw [hid] at hr
    intro v1 ev1
    rw [nx3] at ev1
    subst ev1
    rcases hr with ⟨q1, p2, m2, R2, f2, n2, ac2⟩ | ⟨q1, m2, f2, p0⟩
    · rw [if_pos q1] at hQ
      obtain ⟨g1, g2, -⟩ := hg q1
      have h2 : LR M2 M2 tx L p2 := ⟨MS.rf m2.1, R2, f2⟩
      refine h2.skip hN (fun M3 h3 => ⟨fun hc => absurd h3.2.2 hc, fun _ => ⟨fun hne => ?_, fun heq => ?_⟩⟩)
      · rw [n2] at h3
        have neL : ¬ (qLine tx L (ns tx L a)).2.1 = L := fun hh => hne (by rw [h3.2.1.2.1, h3.2.1.1]; exact hh)
        rw [if_neg neL] at hQ
        have m3 : ML M M3 := (h1.1.l.tr m2).tr h3.1.l
        have hid3 : ns tx L (qLine tx L (ns tx L a)).2.1 = (qLine tx L (ns tx L a)).2.1 := by rw [← n2]; exact ns_idem tx L p2
        refine h3.isSign hN (show sgc 3 = 59 from rfl) (by decide) (by decide) (fun ht M4 h4 => ⟨fun hc => absurd hc (by decide), fun _ S5 e5 => ?_⟩) (fun ht M4 h4 => ⟨fun _ => ?_, fun hc => absurd rfl hc⟩)
        · rw [hid3] at ht h4
          rw [if_pos ht] at hQ
          obtain ⟨h5, n5⟩ := h4.inc (by decide) (by decide) ht e5
          have m5 : ML M S5 := (h1.1.l.tr m2).tr h5.1.l
          refine ih (fu + 1) (x3 + 1) S5 _ (by omega) (by omega) h5.1.1 (hE.l m5) (by rw [m5.2.2 14 (by decide) (by decide) (by decide) (by decide) (by decide)]; exact h14) h5.2.1 h5.2.2 (fun M6 v hv => hQ M6 v ?_)
          rw [n5] at hv
          rcases hv with ⟨k1, m6, f6, ac6, ev⟩ | ⟨k1, m6, f6⟩
          · refine Or.inl ⟨k1, m5.tr m6, f6, ?_, ?_⟩
            · have ac5 : AC M1 S5 e [(qLine tx L (ns tx L a)).2.2] := by
                unfold AC at ac2 ⊢
                rw [h5.1.2.2 18 (by decide) (by decide), h5.1.2.2 19 (by decide) (by decide), h5.1.2.2 20 (by decide) (by decide)]
                exact ac2
              exact (c1 S5 _ ac5).tr ac6
            · rw [ev]
              show ((x3 + 1 + (qLaw tx L k (nx tx L (qLine tx L (ns tx L a)).2.1)).2.length : Nat) : Int) = ((x3 + ((qLaw tx L k (nx tx L (qLine tx L (ns tx L a)).2.1)).2.length + 1) : Nat) : Int)
              omega
          · exact Or.inr ⟨k1, m5.tr m6, f6⟩
        · rw [hid3] at ht h4
          rw [if_neg (by rw [ht]; decide)] at hQ
          rw [h4.2.1.2.1]
          refine h4.wrong (by omega) (by omega) (fun M5 h5 => ⟨fun hc => absurd hc (by decide), fun _ => ⟨fun _ => hQ M5 _ (Or.inr ⟨?_, (h1.1.l.tr m2).tr h5.1.l, h5.2.1⟩), fun hc => absurd hc h5.no⟩⟩)
          show (qLine tx L (ns tx L a)).2.1 ≠ -1
          omega
      · rw [n2] at h3
        have eL : (qLine tx L (ns tx L a)).2.1 = L := by rw [h3.2.1.2.1, h3.2.1.1] at heq; exact heq
        rw [if_pos eL] at hQ
        intro v2 ev2
        subst ev2
        refine ⟨fun _ => hQ M3 _ (Or.inl ⟨rfl, (h1.1.l.tr m2).tr h3.1.l, h3.2.2, ?_, ?_⟩), fun hc => absurd rfl hc⟩
        · have ac3 : AC M1 M3 e [(qLine tx L (ns tx L a)).2.2] := by
            unfold AC at ac2 ⊢
            rw [h3.1.2.2 18 (by decide) (by decide), h3.1.2.2 19 (by decide) (by decide), h3.1.2.2 20 (by decide) (by decide)]
            exact ac2
          exact c1 M3 _ ac3
        · rfl
    · rw [if_neg q1] at hQ
      refine h1.2.1.skipD hN m2 p0 (fun M3 m3 e13 => ⟨fun _ v2 ev2 => ?_, fun hc => ?_⟩)
      · subst ev2
        exact ⟨fun _ => hQ M3 _ (Or.inr ⟨q1, h1.1.l.tr m3, e13.trans f2⟩), fun hc => absurd rfl hc⟩
      · rw [e13, f2] at hc; exact absurd hc q1
theorem y_readLaw {Q : mSt → Int → Prop} (hN : 5000 ≤ N) (ok : okS M) (hE : EV M e) (h14 : M 0 14 = 0) (R : RD M tx L 0) (h13 : M 0 13 = -1) (hQ : ∀ M' v, RT M M' e 0 (qTxt tx L) v → Q M' v) : w_X12_read N 0 1 M Q := by
  have h : LR M M tx L 0 := ⟨MS.rf ok, R, h13⟩
  unfold qTxt at hQ
  refine h.skip hN (fun M1 h1 => ?_)
  rw [h1.2.1.1, h1.2.1.2.1]
  have h0 := h.ns0
  refine ⟨fun hle v1 e1 v2 e2 => ?_, fun hlt v1 e1 v2 e2 => ?_⟩
  · subst e1; subst e2
    obtain ⟨fu, rfl⟩ : ∃ m, N = m + 1 := ⟨N - 1, by omega⟩
    rw [if_pos (by omega)] at hQ
    refine ⟨fun _ => hQ M1 0 (Or.inl ⟨rfl, h1.1.l, h1.2.2, AC.nil ok (h1.1.2.2 18 (by decide) (by decide)) (h1.1.2.2 19 (by decide) (by decide)) (h1.1.2.2 20 (by decide) (by decide)), rfl⟩), fun hc => absurd rfl hc⟩
  · subst e1; subst e2
    rw [if_neg (by omega)] at hQ
    refine y_readL hN 12 N 0 M1 _ rfl (by omega) h1.1.1 (hE.l h1.1.l) (by rw [h1.1.2.2 14 (by decide) (by decide)]; exact h14) h1.2.1 h1.2.2 (fun M' v hv => hQ M' v ?_)
    rw [ns_idem] at hv
    rcases hv with ⟨k1, m6, f6, ac6, ev⟩ | ⟨k1, m6, f6⟩
    · refine Or.inl ⟨k1, h1.1.l.tr m6, f6, ?_, ev⟩
      unfold AC at ac6 ⊢
      rw [h1.1.2.2 18 (by decide) (by decide), h1.1.2.2 19 (by decide) (by decide), h1.1.2.2 20 (by decide) (by decide)] at ac6
      exact ac6
    · exact Or.inr ⟨k1, h1.1.l.tr m6, f6⟩
end refl
