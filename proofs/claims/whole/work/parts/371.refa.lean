set_option maxHeartbeats 400000
set_option maxRecDepth 20000
/-! ===== the pure part: the reference reads atoms ===== -/
section refa
variable {N : Nat} {M0 M M' : mSt} {tx e : Int → Int} {L B B' a p w : Int} {k k' : Nat} {q : PR} {v : Int}
theorem DR.mono (h : DR M0 M w B) (hB : B ≤ B') : DR M0 M w B' := ⟨h.1, h.2.1, h.2.2.1, h.2.2.2.1, by have := h.2.2.2.2; omega⟩
theorem PV.mono (h : PV M0 M tx L e q v k B) (hk : k ≤ k') (hB : B ≤ B') : PV M0 M tx L e q v k' B' := by
  rcases h with ⟨h1, p, h2, h3, h4⟩ | ⟨h1, h2⟩
  · exact Or.inl ⟨h1, p, h2, h3, fun s hs => h4 s (by omega)⟩
  · exact Or.inr ⟨h1, h2.mono hB⟩
theorem DR.inc {M2 : mSt} (h : DR M0 M w B) (hB : B ≤ 1000) (e2 : M2 = mup M 0 12 (nm (M 0 12 + 1))) : DR M0 M2 w (B + 1) := by
  obtain ⟨⟨m1, m2, m3⟩, h2, h3, h4, h5⟩ := h
  rw [nm_of (by omega) (by omega)] at e2
  subst e2
  refine ⟨⟨okS_up m1 (by unfold okI; omega), fun r hr => (mup_ne _ _ _ hr).trans (m2 r hr), fun i h12 h13 => by rw [mup_i _ _ _ h12]; exact m3 i h12 h13⟩, by rw [mup_i _ _ _ (by decide)]; exact h2, h3, ?_, ?_⟩ <;> rw [mup_same] <;> omega
theorem jn_less (x y : Int) : jn 1012 x y = if x < y then 1 else 0 := by unfold jn; rw [if_neg (by decide), if_pos rfl]
theorem jn_gt (x y : Int) : jn 1013 x y = if y < x then 1 else 0 := by unfold jn; rw [if_neg (by decide), if_neg (by decide), if_pos rfl]
theorem LR.cmp73 {Q : mSt → Int → Prop} {x1 x2 : Int} {t : Nat} {A : List Int} (hN : 5000 ≤ N) (hE : EV M0 e) (h : LR M0 M tx L p) (h3 : 3 ≤ t) (h9 : t < 9) (ht : tok tx L t p = true) (hx : (x2 ≠ 0 ∧ v = 1012) ∨ (x2 = 0 ∧ v = 1013)) (hA : RVT e A x1 2) (hQ : ∀ M' w, (w = 0 ∨ w = 1) → PV M0 M' tx L e ((qSum tx L (nx tx L p)).1, (qSum tx L (nx tx L p)).2.1, (A ++ (qSum tx L (nx tx L p)).2.2) ++ [v]) w 3 400 → Q M' w) : w_X12_plain_73 N Q 0 x1 x2 M := by
  intro S1 e1
  obtain ⟨h1, n1⟩ := h.inc h3 h9 ht e1
  refine h1.sum hN hE (fun M2 y hv v3 ev => ?_)
  subst ev
  rw [n1] at hv
  have fin : ∀ z, z = jn v x1 v3 → (z = 0 ∨ z = 1) → Q M2 z := by
    intro z ez bz
    refine hQ M2 z bz ?_
    rcases hv with ⟨q1, p2, h2, n2, r2⟩ | ⟨q1, h2⟩
    · refine Or.inl ⟨q1, p2, h2, n2, ?_⟩
      have hA3 : RVT e A x1 3 := fun s hs => hA s (by omega)
      have hj := hA3.join r2 (K := 3) (v := v) (by decide) (by rcases hx with ⟨-, h⟩ | ⟨-, h⟩ <;> rw [h] <;> decide)
      rw [← ez] at hj
      show RVT e ((A ++ (qSum tx L (nx tx L p)).2.2) ++ [v]) z 3
      rw [List.append_assoc]; exact hj
    · exact Or.inr ⟨q1, h2⟩
  rcases hx with ⟨hx, ev⟩ | ⟨hx, ev⟩
  · rw [ev, jn_less] at fin
    refine ⟨fun hc => absurd hc hx, fun _ => ⟨fun hc => fin 0 (by rw [if_neg (by omega)]) (Or.inl rfl), fun hc => fin 1 (by rw [if_pos hc]) (Or.inr rfl)⟩⟩
  · rw [ev, jn_gt] at fin
    refine ⟨fun _ => ⟨fun hc => fin 0 (by rw [if_neg (by omega)]) (Or.inl rfl), fun hc => fin 1 (by rw [if_pos hc]) (Or.inr rfl)⟩, fun hc => absurd hx hc⟩
theorem RVT.fact {c j : Int} (h1 : 1000 ≤ c) (h2 : c < 1010) (hj : c - 1000 = j) : RVT e [c] (e j) 3 := by
  intro s hs
  show exec1 e s c = _
  unfold exec1
  rw [if_pos h2, if_pos (by omega), if_neg (by omega), hj]
theorem LR.plain {Q : mSt → Int → Prop} (hN : 5000 ≤ N) (hE : EV M0 e) (h : LR M0 M tx L a) (hQ : ∀ M' v, (v = 0 ∨ v = 1) → PV M0 M' tx L e (qPl tx L (ns tx L a)) v 3 400 → Q M' v) : w_X12_plain N 0 M Q := by
  have hid := ns_idem tx L a
  refine h.has hN (t := 34) (j := 32) rfl (by decide) (by decide) (fun ht M1 p1 h1 n1 => ⟨fun hc => absurd hc (by decide), fun _ => ?_⟩) (fun ht M1 h1 => ⟨fun _ => h1.has hN (t := 35) (j := 33) rfl (by decide) (by decide) (fun ht2 M2 p2 h2 n2 => ⟨fun hc => absurd hc (by decide), fun _ => ?_⟩) (fun ht2 M2 h2 => ⟨fun _ => ?_, fun hc => absurd rfl hc⟩), fun hc => absurd rfl hc⟩)
  · have e16 : M1 0 16 = e 8 := (h1.1.2.2 16 (by decide) (by decide)).trans hE.2.1
    rw [e16]
    refine ⟨hE.2.2.2.1, hQ M1 _ hE.2.2.2.1 ?_⟩
    unfold qPl
    rw [if_pos ht]
    exact Or.inl ⟨rfl, p1, h1, n1, RVT.fact (by decide) (by decide) (by decide)⟩
  · rw [hid] at ht2 n2
    have e17 : M2 0 17 = e 9 := (h2.1.2.2 17 (by decide) (by decide)).trans hE.2.2.1
    rw [e17]
    refine ⟨hE.2.2.2.2, hQ M2 _ hE.2.2.2.2 ?_⟩
    unfold qPl
    rw [if_neg (by rw [ht]; decide), if_pos ht2]
    exact Or.inl ⟨rfl, p2, h2, n2, RVT.fact (by decide) (by decide) (by decide)⟩
  · rw [hid] at ht2 h2
    rw [qPl_cmp ht ht2] at hQ
    unfold qCmp at hQ
    have h0 := h2.at0
    refine h2.sum hN hE (fun M3 v3 hv v4 e4 => ?_)
    subst e4
    rw [hid] at hv
    rcases hv with ⟨q1, p3, h3, n3, r3⟩ | ⟨q1, h3⟩
    · rw [if_pos q1] at hQ
      refine ⟨fun _ => h3.isSign hN (show sgc 7 = 60 from rfl) (by decide) (by decide) (fun ht3 M4 h4 v6 e6 => ?_) (fun ht3 M4 h4 v6 e6 => ?_), fun hc => absurd h3.2.2 hc⟩
      · subst e6
        rw [n3] at ht3 h4
        rw [if_pos (Or.inl ht3), if_pos ht3] at hQ
        exact ⟨fun _ => h4.cmp73 hN hE (by decide) (by decide) ht3 (Or.inl ⟨by decide, rfl⟩) r3 hQ, fun hc => absurd hc (by decide)⟩
      · subst e6
        have hid3 := ns_idem tx L p3
        refine ⟨fun hc => absurd rfl hc, fun _ => h4.isSign hN (show sgc 8 = 62 from rfl) (by decide) (by decide) (fun ht4 M5 h5 => ⟨fun _ => ?_, fun hc => absurd hc (by decide)⟩) (fun ht4 M5 h5 => ⟨fun hc => absurd rfl hc, fun _ => ?_⟩)⟩
        · rw [hid3, n3] at ht4 h5
          rw [n3] at ht3
          rw [if_pos (Or.inr ht4), if_neg (by rw [ht3]; decide)] at hQ
          exact h5.cmp73 hN hE (by decide) (by decide) ht4 (Or.inr ⟨rfl, rfl⟩) r3 hQ
        · rw [hid3, n3] at ht4 h5
          rw [n3] at ht3
          rw [if_neg (by rw [ht3, ht4]; decide)] at hQ
          have h50 := h5.at0
          have e12 : M5 0 12 = (qSum tx L (ns tx L a)).2.1 := h5.2.1.2.1
          rw [e12]
          refine h5.wrong h50.1 h50.2.1 (fun M6 h6 => hQ M6 0 (Or.inl rfl) (Or.inr ⟨?_, h6⟩))
          show (qSum tx L (ns tx L a)).2.1 ≠ -1
          omega
    · rw [if_neg q1] at hQ
      exact ⟨fun hc => absurd hc h3.no, fun _ => hQ M3 0 (Or.inl rfl) (Or.inr ⟨q1, h3⟩)⟩
/-- into a level, and out of it -/
theorem MS.down {x : Int} (h : MS M0 M) (h' : MS (mup M 0 14 x) M') (ok0 : okI (M0 0 14)) : MS M0 (mup M' 0 14 (M0 0 14)) := by
  refine ⟨okS_up h'.1 ok0, fun r hr => by rw [mup_ne _ _ _ hr, h'.2.1 r hr, mup_ne _ _ _ hr]; exact h.2.1 r hr, fun i h12 h13 => ?_⟩
  by_cases h14 : i = 14
  · subst h14; exact mup_same _ _ _ _
  · rw [mup_i _ _ _ h14, h'.2.2 i h12 h13, mup_i _ _ _ h14]; exact h.2.2 i h12 h13
theorem RD.m14 {x : Int} (h : RD M tx L a) : RD (mup M 0 14 x) tx L a := by
  obtain ⟨h1, h2, h3, h4, h5, h6⟩ := h
  refine ⟨by rw [mup_i _ _ _ (by decide)]; exact h1, by rw [mup_i _ _ _ (by decide)]; exact h2, h3, h4, h5, ?_⟩
  rw [mup_i _ _ _ (by decide), mup_ne _ _ _ (by decide), mup_ne _ _ _ (by decide)]
  exact h6
theorem LR.up {x : Int} (h : LR M0 M tx L a) (ox : okI x) : LR (mup M 0 14 x) (mup M 0 14 x) tx L a := ⟨MS.rf (okS_up h.1.1 ox), h.2.1.m14, by rw [mup_i _ _ _ (by decide)]; exact h.2.2⟩
theorem LR.down {x : Int} (h : MS M0 M) (h' : LR (mup M 0 14 x) M' tx L p) (ok0 : okI (M0 0 14)) : LR M0 (mup M' 0 14 (M0 0 14)) tx L p := ⟨h.down h'.1 ok0, h'.2.1.m14, by rw [mup_i _ _ _ (by decide)]; exact h'.2.2⟩
theorem DR.down {x : Int} (h : MS M0 M) (h' : DR (mup M 0 14 x) M' w B) (ok0 : okI (M0 0 14)) : DR M0 (mup M' 0 14 (M0 0 14)) w B := by
  obtain ⟨h1, h2, h3, h4, h5⟩ := h'
  exact ⟨h.down h1 ok0, by rw [mup_i _ _ _ (by decide)]; exact h2, h3, by rw [mup_i _ _ _ (by decide)]; exact h4, by rw [mup_i _ _ _ (by decide)]; exact h5⟩
theorem EV.up {x : Int} (hE : EV M0 e) (h : MS M0 M) : EV (mup M 0 14 x) e := by
  obtain ⟨h1, h2, h3, h4⟩ := hE
  refine ⟨fun k k0 k1 => by rw [mup_ne _ _ _ (by decide), h.2.1 7 (by decide)]; exact h1 k k0 k1, by rw [mup_i _ _ _ (by decide), h.2.2 16 (by decide) (by decide)]; exact h2, by rw [mup_i _ _ _ (by decide), h.2.2 17 (by decide) (by decide)]; exact h3, h4⟩
theorem RVT.nt {T : List Int} {x z : Int} (h : RVT e T x k) (hz : nm (1 - x) = z) : RVT e (T ++ [1010]) z k := by
  intro s hs
  rw [List.foldl_append, h s hs]
  show exec1 e (x :: s) 1010 = _
  unfold exec1
  rw [if_neg (by decide), if_pos rfl]
  show nm (1 - x) :: s = _
  rw [hz]
/-- a level ends -/
theorem LR.out {Q : mSt → Int → Prop} {F : Nat → mSt → (mSt → Int → Prop) → Prop} {d : Nat} {x3 : Int} (hd : M0 0 14 = 5 - (d : Int)) (hd6 : d < 6) (e14 : M' 0 14 = 6 - (d : Int)) (b3 : x3 = 0 ∨ x3 = 1) (hQ : Q (mup M' 0 14 (M0 0 14)) x3) : w_X12_atom_138 N F Q 0 x3 M' := by
  intro S1 e1
  rw [e14, nm_of (by omega) (by omega), show 6 - (d : Int) - 1 = M0 0 14 by omega] at e1
  rw [e1]
  exact ⟨b3, hQ⟩
theorem LR.atom (hN : 5000 ≤ N) : ∀ (d m : Nat), d < m → d ≤ 6 → ∀ M0, EV M0 e → M0 0 14 = 6 - (d : Int) → CB (w_X12_atom N m) (qAt tx L d) M0 tx L e (3 + 2 * d) (400 + (d : Int)) := by
  intro d
  induction d with
  | zero =>
    intro m hm _ M0 hE h14 M a Q h hQ
    obtain ⟨m, rfl⟩ : ∃ j, m = j + 1 := ⟨m - 1, by omega⟩
    have hid := ns_idem tx L a
    have h0 := h.ns0
    refine ⟨fun _ => h.place hN (fun M1 h1 v2 e2 => ?_), fun hc => absurd h.2.2 hc⟩
    subst e2
    have ref : (tok tx L 33 (ns tx L a) = true ∨ tok tx L 4 (ns tx L a) = true) → ∀ (M3 : mSt) (p3 x2 : Int), LR M0 M3 tx L p3 → w_X12_atom_40 N (w_X12_atom N m) Q 0 (ns tx L a) x2 M3 := by
      intro ht M3 p3 x2 h3
      have e14 : M3 0 14 = 6 := by rw [h3.1.2.2 14 (by decide) (by decide), h14]; rfl
      refine ⟨fun hc => absurd e14 hc, fun _ => h3.wrong h0.1 h0.2 (fun M4 h4 => hQ M4 0 (Or.inl rfl) (Or.inr ?_))⟩
      have eq : qAt tx L 0 (ns tx L a) = (ns tx L a, ns tx L a, []) := if_pos ht
      rw [eq]
      exact ⟨by show ns tx L a ≠ -1; omega, h4.mono (by omega)⟩
    refine h1.has hN (t := 33) (j := 31) rfl (by decide) (by decide) (fun ht M3 p3 h3 n3 v4 e4 => ?_) (fun ht M3 h3 v4 e4 => ?_)
    · subst e4
      rw [hid] at ht
      exact ⟨fun _ => ref (Or.inl ht) M3 p3 1 h3, fun hc => absurd hc (by decide)⟩
    · subst e4
      rw [hid] at ht
      refine ⟨fun hc => absurd rfl hc, fun _ => h3.isSign hN (show sgc 4 = 40 from rfl) (by decide) (by decide) (fun ht2 M5 h5 => ⟨fun _ => ref (Or.inr ?_) M5 _ 0 h5, fun hc => absurd hc (by decide)⟩) (fun ht2 M5 h5 => ⟨fun hc => absurd rfl hc, fun _ => h5.plain hN hE (fun M6 v6 b6 hv => ⟨b6, hQ M6 v6 b6 ?_⟩)⟩)⟩
      · rw [hid, hid] at ht2; exact ht2
      · rw [hid, hid] at ht2
        rw [hid, hid, hid] at hv
        have eq : qAt tx L 0 (ns tx L a) = qPl tx L (ns tx L a) := if_neg (by rw [ht, ht2]; decide)
        rw [eq]; exact hv.mono (by omega) (by omega)
  | succ d ih =>
    intro m hm hd6 M0 hE h14 M a Q h hQ
    obtain ⟨m, rfl⟩ : ∃ j, m = j + 1 := ⟨m - 1, by omega⟩
    have hid := ns_idem tx L a
    have h0 := h.ns0
    have h14' : M0 0 14 = 5 - (d : Int) := by omega
    have ok14 : okI (M0 0 14) := by unfold okI; omega
    refine ⟨fun _ => h.place hN (fun M1 h1 v2 e2 => ?_), fun hc => absurd h.2.2 hc⟩
    subst e2
    refine h1.has hN (t := 33) (j := 31) rfl (by decide) (by decide) (fun ht M3 p3 h3 n3 v4 e4 => ?_) (fun ht M3 h3 v4 e4 => ?_)
    · subst e4
      rw [hid] at ht n3
      have eq : qAt tx L (d + 1) (ns tx L a) = ((qAt tx L d (nx tx L (ns tx L a))).1, (qAt tx L d (nx tx L (ns tx L a))).2.1, (qAt tx L d (nx tx L (ns tx L a))).2.2 ++ [1010]) := if_pos ht
      rw [eq] at hQ
      have e14 : M3 0 14 = 5 - (d : Int) := by rw [h3.1.2.2 14 (by decide) (by decide), h14']
      refine ⟨fun _ => ⟨fun _ S1 e1 v2 ev2 => ⟨fun hc => absurd hc (by decide), fun _ => ?_⟩, fun hc => by omega⟩, fun hc => absurd hc (by decide)⟩
      rw [e14, nm_of (by omega) (by omega), show 5 - (d : Int) + 1 = 6 - d by omega] at e1
      subst e1
      refine ih m (by omega) (by omega) (mup M3 0 14 (6 - (d : Int))) (hE.up h3.1) (mup_same _ _ _ _) _ p3 _ (h3.up (by unfold okI; omega)) (fun M8 v8 b8 hv => ?_)
      rw [n3] at hv
      have out : ∀ z, nm (1 - v8) = z → (z = 0 ∨ z = 1) → w_X12_atom_84 N (w_X12_atom N m) Q 0 z M8 := by
        intro z hz bz v1 ev1
        subst ev1
        rcases hv with ⟨q1, p8, h8, n8, r8⟩ | ⟨q1, h8⟩
        · exact LR.out h14' (by omega) (by rw [h8.1.2.2 14 (by decide) (by decide), mup_same]) bz (hQ _ _ bz (Or.inl ⟨q1, p8, LR.down h3.1 h8 ok14, n8, fun s hs => (r8.nt hz) s (by omega)⟩))
        · exact LR.out h14' (by omega) (by rw [h8.1.2.2 14 (by decide) (by decide), mup_same]) bz (hQ _ _ bz (Or.inr ⟨q1, (DR.down h3.1 h8 ok14).mono (by omega)⟩))
      refine ⟨fun hc => out 0 ?_ (Or.inl rfl), fun hc => out 1 ?_ (Or.inr rfl)⟩
      · rw [b8.resolve_left hc]; rfl
      · rw [hc]; rfl
    · subst e4
      rw [hid] at ht h3
      refine ⟨fun hc => absurd rfl hc, fun _ => h3.isSign hN (show sgc 4 = 40 from rfl) (by decide) (by decide) (fun ht2 M5 h5 => ⟨fun _ => ?_, fun hc => absurd hc (by decide)⟩) (fun ht2 M5 h5 => ⟨fun hc => absurd rfl hc, fun _ => h5.plain hN hE (fun M6 v6 b6 hv => ⟨b6, hQ M6 v6 b6 ?_⟩)⟩)⟩
      · rw [hid] at ht2 h5
        have eq : qAt tx L (d + 1) (ns tx L a) = qBr (qAt tx L d) tx L (nx tx L (ns tx L a)) := by
          show (if _ then _ else if _ then _ else _) = _
          rw [if_neg (by rw [ht]; decide), if_pos ht2]
        rw [eq] at hQ
        unfold qBr at hQ
        have e14 : M5 0 14 = 5 - (d : Int) := by rw [h5.1.2.2 14 (by decide) (by decide), h14']
        refine ⟨fun _ S1 e1 v2 ev2 => ⟨fun _ S3 e3 => ?_, fun hc => absurd rfl hc⟩, fun hc => by omega⟩
        rw [e14, nm_of (by omega) (by omega), show 5 - (d : Int) + 1 = 6 - d by omega] at e1
        subst e1
        obtain ⟨hb, nb⟩ := (h5.up (x := 6 - (d : Int)) (by unfold okI; omega)).inc (t := 4) (by decide) (by decide) ht2 e3
        have hF := LR.some hN (ih m (by omega) (by omega) (mup M5 0 14 (6 - (d : Int))) (hE.up h5.1) (mup_same _ _ _ _)) (fun b b0 b1 => qAt_GR d b b0 b1)
        refine hF S3 _ _ hb (fun M4 x3 b4 hv v5 ev5 => ?_)
        subst ev5
        rw [nb] at hv
        -- behind a fault
        have bad : ∀ (M6 : mSt) (w B : Int), (qCond (qAt tx L d) tx L (nx tx L (ns tx L a))).1 = w ∨ True → DR (mup M5 0 14 (6 - (d : Int))) M6 w B → B ≤ 400 + (d : Int) → (∀ M' z, (z = 0 ∨ z = 1) → DR M0 M' w (400 + ((d + 1 : Nat) : Int)) → Q M' z) → w_X12_atom_128 N (w_X12_atom N m) Q 0 v5 M6 := by
          intro M6 w B _ h6 hB hQ6 S1 e1
          have h7 := h6.inc (by omega) e1
          exact LR.out h14' (by omega) (by rw [h7.1.2.2 14 (by decide) (by decide), mup_same]) b4 (hQ6 _ _ b4 ((DR.down h5.1 h7 ok14).mono (by omega)))
        rcases hv with ⟨q1, p4, h4, n4, r4⟩ | ⟨q1, h4⟩
        · rw [if_pos q1] at hQ
          refine ⟨fun hc => absurd h4.2.2 hc, fun _ => h4.isSign hN (show sgc 5 = 41 from rfl) (by decide) (by decide) (fun ht3 M6 h6 => ⟨fun _ S1 e1 => ?_, fun hc => absurd hc (by decide)⟩) (fun ht3 M6 h6 => ⟨fun hc => absurd rfl hc, fun _ => ?_⟩)⟩
          · rw [n4] at ht3 h6
            rw [if_pos ht3] at hQ
            obtain ⟨h7, n7⟩ := h6.inc (by decide) (by decide) ht3 e1
            exact LR.out h14' (by omega) (by rw [h7.1.2.2 14 (by decide) (by decide), mup_same]) b4 (hQ _ _ b4 (Or.inl ⟨rfl, _, LR.down h5.1 h7 ok14, n7, fun s hs => r4 s (by omega)⟩))
          · rw [n4] at ht3 h6
            rw [if_neg (by rw [ht3]; decide)] at hQ
            have h60 := h6.at0
            have e12 : M6 0 12 = (qCond (qAt tx L d) tx L (nx tx L (ns tx L a))).2.1 := h6.2.1.2.1
            rw [e12]
            refine h6.wrong h60.1 h60.2.1 (fun M7 h7 => bad M7 _ 400 (Or.inr trivial) h7 (by omega) (fun M' z bz hd => hQ M' z bz (Or.inr ⟨?_, hd⟩)))
            show (qCond (qAt tx L d) tx L (nx tx L (ns tx L a))).2.1 ≠ -1
            omega
        · rw [if_neg q1] at hQ
          exact ⟨fun _ => bad M4 _ _ (Or.inr trivial) h4 (Int.le_refl _) (fun M' z bz hd => hQ M' z bz (Or.inr ⟨q1, hd⟩)), fun hc => absurd hc h4.no⟩
      · rw [hid] at ht2
        rw [hid, hid] at hv
        have eq : qAt tx L (d + 1) (ns tx L a) = qPl tx L (ns tx L a) := by
          show (if _ then _ else if _ then _ else _) = _
          rw [if_neg (by rw [ht]; decide), if_neg (by rw [ht2]; decide)]
        rw [eq]; exact hv.mono (by omega) (by omega)
end refa
