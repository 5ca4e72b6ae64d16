set_option maxHeartbeats 400000
set_option maxRecDepth 20000
/-! ===== the pure part: the reference reads conditions ===== -/
theorem jn_and : ∀ x : Nat, x < 2 → ∀ y : Nat, y < 2 → jn 1014 x y = if x = 0 then 0 else if y = 0 then 0 else 1 := by decide +kernel
theorem jn_or : ∀ x : Nat, x < 2 → ∀ y : Nat, y < 2 → jn 1015 x y = if x = 0 then (if y = 0 then 0 else 1) else 1 := by decide +kernel
theorem jn_and' {x y : Int} (hx : x = 0 ∨ x = 1) (hy : y = 0 ∨ y = 1) : jn 1014 x y = if x = 0 then 0 else if y = 0 then 0 else 1 := by
  rcases hx with rfl | rfl <;> rcases hy with rfl | rfl
  · exact jn_and 0 (by decide) 0 (by decide)
  · exact jn_and 0 (by decide) 1 (by decide)
  · exact jn_and 1 (by decide) 0 (by decide)
  · exact jn_and 1 (by decide) 1 (by decide)
theorem jn_or' {x y : Int} (hx : x = 0 ∨ x = 1) (hy : y = 0 ∨ y = 1) : jn 1015 x y = if x = 0 then (if y = 0 then 0 else 1) else 1 := by
  rcases hx with rfl | rfl <;> rcases hy with rfl | rfl
  · exact jn_or 0 (by decide) 0 (by decide)
  · exact jn_or 0 (by decide) 1 (by decide)
  · exact jn_or 1 (by decide) 0 (by decide)
  · exact jn_or 1 (by decide) 1 (by decide)
/-- F reads what G tells -/
def CB (F : Nat → mSt → (mSt → Int → Prop) → Prop) (G : Int → PR) (M0 : mSt) (tx : Int → Int) (L : Int) (e : Int → Int) (k : Nat) (B : Int) : Prop := ∀ (M : mSt) (a : Int) (Q : mSt → Int → Prop), LR M0 M tx L a → (∀ M' v, (v = 0 ∨ v = 1) → PV M0 M' tx L e (G (ns tx L a)) v k B → Q M' v) → F 0 M Q
section refc
variable {N : Nat} {M0 : mSt} {tx e : Int → Int} {L B : Int} {k : Nat} {F : Nat → mSt → (mSt → Int → Prop) → Prop} {G : Int → PR}
theorem DR.no {M : mSt} {w : Int} (h : DR M0 M w B) : M 0 13 ≠ -1 := by rw [h.2.1]; exact h.2.2.1
theorem LR.everyL {Q : mSt → Int → Prop} {ko44 : Int → mSt → Prop} {K : Nat} (hN : 5000 ≤ N) (hF : CB F G M0 tx L e k B) (hG : ∀ b, 0 ≤ b → b ≤ L → GR L b 0 (G b)) (hk : k + 1 ≤ K) : ∀ (d fu : Nat) (M : mSt) (a p x1 : Int) (T : List Int), L - p ≤ d → d < fu → LR M0 M tx L a → ns tx L a = p → (x1 = 0 ∨ x1 = 1) → RVT e T x1 K → (∀ M' v, (v = 0 ∨ v = 1) → PV M0 M' tx L e (jRest G (tok tx L 32) (nx tx L) 1014 d p T) v K B → ko44 v M') → w_X12_every_5 N F Q ko44 fu 0 x1 M := by
  intro d
  induction d with
  | zero =>
    intro fu M a p x1 T hd hf h hp hx hT hQ
    obtain ⟨fu, rfl⟩ : ∃ m, fu = m + 1 := ⟨fu - 1, by omega⟩
    have hs : tok tx L 32 p = false := by
      cases hk : tok tx L 32 p
      · rfl
      · have := tok_lt hk; omega
    rw [jRest_stop hs] at hQ
    refine ⟨fun hc => absurd h.2.2 hc, fun _ => h.has hN (t := 32) (j := 30) rfl (by decide) (by decide) (fun ht => ?_) (fun ht M' h' => ⟨fun _ => hQ M' x1 hx (Or.inl ⟨rfl, _, h', by rw [ns_idem]; exact hp, hT⟩), fun hc => absurd rfl hc⟩)⟩
    rw [hp, hs] at ht; exact absurd ht (by decide)
  | succ d ih =>
    intro fu M a p x1 T hd hf h hp hx hT hQ
    obtain ⟨fu, rfl⟩ : ∃ m, fu = m + 1 := ⟨fu - 1, by omega⟩
    refine ⟨fun hc => absurd h.2.2 hc, fun _ => h.has hN (t := 32) (j := 30) rfl (by decide) (by decide) (fun ht S2 a2 h2 n2 => ⟨fun hc => absurd hc (by decide), fun _ => ?_⟩) (fun ht M' h' => ⟨fun _ => hQ M' x1 hx ?_, fun hc => absurd rfl hc⟩)⟩
    · rw [hp] at ht n2
      have hlt := tok_lt ht
      have hn := nx_ge (tx := tx) hlt
      have h0 := h.ns0
      rw [hp] at h0
      refine hF S2 a2 _ h2 (fun M3 v3 b3 hv v4 e4 => ?_)
      subst e4
      rw [n2] at hv
      have ej := jn_and' hx b3
      have next : ∀ w, w = jn 1014 x1 v4 → (w = 0 ∨ w = 1) → w_X12_every_5 N F Q ko44 fu 0 w M3 := by
        intro w ew bw
        rcases hv with ⟨q1, p3, h3, e3, r3⟩ | ⟨q1, h3⟩
        · have hg := hG (nx tx L p) (by omega) hn.2 q1
          refine ih fu M3 p3 _ w _ ?_ (by omega) h3 e3 bw (by have hj := hT.join r3 (K := K) (v := 1014) hk (by decide); rw [← ew] at hj; exact hj) (fun M' v bv hv => hQ M' v bv ?_)
          · omega
          · rw [jRest_next ht q1]; exact hv
        · obtain ⟨fu, rfl⟩ : ∃ m, fu = m + 1 := ⟨fu - 1, by omega⟩
          have hb := jRest_bad (v := 1014) (d := d) (T := T) ht q1
          exact ⟨fun _ => hQ M3 _ bw (Or.inr ⟨by rw [hb]; exact q1, by rw [hb]; exact h3⟩), fun hc => absurd hc h3.no⟩
      refine ⟨fun x0 v1 e1 => ?_, fun x0 => ⟨fun y0 v1 e1 => ?_, fun y0 v1 e1 => ?_⟩⟩
      · rw [if_pos x0] at ej
        exact next v1 (e1.trans ej.symm) (Or.inl e1)
      · rw [if_neg x0, if_pos y0] at ej
        exact next v1 (e1.trans ej.symm) (Or.inl e1)
      · rw [if_neg x0, if_neg y0] at ej
        exact next v1 (e1.trans ej.symm) (Or.inr e1)
    · rw [hp] at ht
      rw [jRest_stop ht]
      exact Or.inl ⟨rfl, _, h', by rw [ns_idem]; exact hp, hT⟩
theorem LR.every (hN : 5000 ≤ N) (hF : CB F G M0 tx L e k B) (hG : ∀ b, 0 ≤ b → b ≤ L → GR L b 0 (G b)) : CB (w_X12_every N F) (qAll G tx L) M0 tx L e (k + 1) B := by
  intro M a Q h hQ
  have h0 := h.ns0
  have hL := h.at0.2.2
  unfold qAll qJ at hQ
  refine hF M a _ h (fun M1 v1 b1 hv v2 e2 => ?_)
  subst e2
  rcases hv with ⟨q1, p3, h3, e3, r3⟩ | ⟨q1, h3⟩
  · have hg := hG (ns tx L a) h0.1 h0.2 q1
    rw [qJn_rest q1] at hQ
    refine LR.everyL hN hF hG (Nat.le_refl _) (L - ns tx L a).toNat N M1 p3 _ _ _ (by omega) (by omega) h3 e3 b1 ?_ (fun M' v bv hv => ⟨bv, hQ M' v bv hv⟩)
    intro s hs
    show ((G (ns tx L a)).2.2 ++ []).foldl (exec1 e) s = _
    rw [List.append_nil]
    exact r3 s (by omega)
  · rw [qJn_bad q1] at hQ
    obtain ⟨fu, rfl⟩ : ∃ m, N = m + 1 := ⟨N - 1, by omega⟩
    exact ⟨fun _ => ⟨b1, hQ M1 _ b1 (Or.inr ⟨q1, h3⟩)⟩, fun hc => absurd hc h3.no⟩
theorem LR.someL {Q : mSt → Int → Prop} {ko44 : Int → mSt → Prop} {K : Nat} {G' : Int → PR} (hN : 5000 ≤ N) (hF : CB (w_X12_every N F) G' M0 tx L e k B) (hG : ∀ b, 0 ≤ b → b ≤ L → GR L b 0 (G' b)) (hk : k + 1 ≤ K) : ∀ (d fu : Nat) (M : mSt) (a p x1 : Int) (T : List Int), L - p ≤ d → d < fu → LR M0 M tx L a → ns tx L a = p → (x1 = 0 ∨ x1 = 1) → RVT e T x1 K → (∀ M' v, (v = 0 ∨ v = 1) → PV M0 M' tx L e (jRest G' (tok tx L 31) (nx tx L) 1015 d p T) v K B → ko44 v M') → w_X12_some_5 N F Q ko44 fu 0 x1 M := by
  intro d
  induction d with
  | zero =>
    intro fu M a p x1 T hd hf h hp hx hT hQ
    obtain ⟨fu, rfl⟩ : ∃ m, fu = m + 1 := ⟨fu - 1, by omega⟩
    have hs : tok tx L 31 p = false := by
      cases hk : tok tx L 31 p
      · rfl
      · have := tok_lt hk; omega
    rw [jRest_stop hs] at hQ
    refine ⟨fun hc => absurd h.2.2 hc, fun _ => h.has hN (t := 31) (j := 29) rfl (by decide) (by decide) (fun ht => ?_) (fun ht M' h' => ⟨fun _ => hQ M' x1 hx (Or.inl ⟨rfl, _, h', by rw [ns_idem]; exact hp, hT⟩), fun hc => absurd rfl hc⟩)⟩
    rw [hp, hs] at ht; exact absurd ht (by decide)
  | succ d ih =>
    intro fu M a p x1 T hd hf h hp hx hT hQ
    obtain ⟨fu, rfl⟩ : ∃ m, fu = m + 1 := ⟨fu - 1, by omega⟩
    refine ⟨fun hc => absurd h.2.2 hc, fun _ => h.has hN (t := 31) (j := 29) rfl (by decide) (by decide) (fun ht S2 a2 h2 n2 => ⟨fun hc => absurd hc (by decide), fun _ => ?_⟩) (fun ht M' h' => ⟨fun _ => hQ M' x1 hx ?_, fun hc => absurd rfl hc⟩)⟩
    · rw [hp] at ht n2
      have hlt := tok_lt ht
      have hn := nx_ge (tx := tx) hlt
      have h0 := h.ns0
      rw [hp] at h0
      refine hF S2 a2 _ h2 (fun M3 v3 b3 hv v4 e4 => ?_)
      subst e4
      rw [n2] at hv
      have ej := jn_or' hx b3
      have next : ∀ w, w = jn 1015 x1 v4 → (w = 0 ∨ w = 1) → w_X12_some_5 N F Q ko44 fu 0 w M3 := by
        intro w ew bw
        rcases hv with ⟨q1, p3, h3, e3, r3⟩ | ⟨q1, h3⟩
        · have hg := hG (nx tx L p) (by omega) hn.2 q1
          refine ih fu M3 p3 _ w _ ?_ (by omega) h3 e3 bw (by have hj := hT.join r3 (K := K) (v := 1015) hk (by decide); rw [← ew] at hj; exact hj) (fun M' v bv hv => hQ M' v bv ?_)
          · omega
          · rw [jRest_next ht q1]; exact hv
        · obtain ⟨fu, rfl⟩ : ∃ m, fu = m + 1 := ⟨fu - 1, by omega⟩
          have hb := jRest_bad (v := 1015) (d := d) (T := T) ht q1
          exact ⟨fun _ => hQ M3 _ bw (Or.inr ⟨by rw [hb]; exact q1, by rw [hb]; exact h3⟩), fun hc => absurd hc h3.no⟩
      refine ⟨fun x0 v1 e1 => ?_, fun x0 => ⟨fun y0 v1 e1 => ?_, fun y0 v1 e1 => ?_⟩⟩
      · rw [if_neg x0] at ej
        exact next v1 (e1.trans ej.symm) (Or.inr e1)
      · rw [if_pos x0, if_pos y0] at ej
        exact next v1 (e1.trans ej.symm) (Or.inl e1)
      · rw [if_pos x0, if_neg y0] at ej
        exact next v1 (e1.trans ej.symm) (Or.inr e1)
    · rw [hp] at ht
      rw [jRest_stop ht]
      exact Or.inl ⟨rfl, _, h', by rw [ns_idem]; exact hp, hT⟩
theorem LR.some (hN : 5000 ≤ N) (hF : CB F G M0 tx L e k B) (hG : ∀ b, 0 ≤ b → b ≤ L → GR L b 0 (G b)) : CB (w_X12_some N F) (qCond G tx L) M0 tx L e (k + 2) B := by
  intro M a Q h hQ
  have h0 := h.ns0
  have hL := h.at0.2.2
  have hE := LR.every hN hF hG
  have hG2 : ∀ b, 0 ≤ b → b ≤ L → GR L b 0 (qAll G tx L b) := fun b b0 b1 => qAll_GR hG b b0 b1
  unfold qCond qJ at hQ
  refine hE M a _ h (fun M1 v1 b1 hv v2 e2 => ?_)
  subst e2
  rcases hv with ⟨q1, p3, h3, e3, r3⟩ | ⟨q1, h3⟩
  · have hg := hG2 (ns tx L a) h0.1 h0.2 q1
    rw [qJn_rest q1] at hQ
    refine LR.someL hN hE hG2 (Nat.le_refl _) (L - ns tx L a).toNat N M1 p3 _ _ _ (by omega) (by omega) h3 e3 b1 ?_ (fun M' v bv hv => ⟨bv, hQ M' v bv hv⟩)
    intro s hs
    show ((qAll G tx L (ns tx L a)).2.2 ++ []).foldl (exec1 e) s = _
    rw [List.append_nil]
    exact r3 s (by omega)
  · rw [qJn_bad q1] at hQ
    obtain ⟨fu, rfl⟩ : ∃ m, N = m + 1 := ⟨N - 1, by omega⟩
    exact ⟨fun _ => ⟨b1, hQ M1 _ b1 (Or.inr ⟨q1, h3⟩)⟩, fun hc => absurd hc h3.no⟩
end refc
