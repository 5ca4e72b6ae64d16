set_option maxHeartbeats 4000000
/-! ===== constructors: rows of references, a private method ===== -/
theorem gW.hole {g : mG} {b : Nat} {K : Nat → mK} {S0 S : mSt} {r n ci : Nat} {dn : List Nat} {H : Heap} (h : gW g b K S0 S r r n ci dn H) (ho : Nat) : gW g b K S0 S r ho n ci dn H :=
  ⟨h.1, h.2.1, h.2.2.1, h.2.2.2.1, h.2.2.2.2.1, fun r' h1 h2 _ => h.2.2.2.2.2.1 r' h1 h2 (by omega), h.2.2.2.2.2.2⟩
theorem gW.at {g : mG} {b : Nat} {K : Nat → mK} {S0 S : mSt} {r ho n ci : Nat} {dn : List Nat} {H H1 : Heap} (h : gW g b K S0 S r ho n ci dn H) (h1 : r < ho) (hz : H1.size = H.size) (hq : ∀ q : Nat, q ≠ b + ho → H1[q]? = H[q]?) : gW g b K S0 S r ho n ci dn H1 :=
  ⟨h.1, h.2.1, hz.trans h.2.2.1, h.2.2.2.1, h.2.2.2.2.1.kept (hq _ (by omega)), fun r' a1 a2 a3 => mCl_same (h.2.2.2.2.2.1 r' a1 a2 a3) (hq _ (by omega)), h.2.2.2.2.2.2⟩
theorem gW.close {g : mG} {b : Nat} {K : Nat → mK} {S0 S S1 : mSt} {r ho n ci : Nat} {dn : List Nat} {H : Heap} (h : gW g b K S0 S r ho n ci dn H) (h1 : r < ho) (h2 : ho < n) (hok : okS S1) (hs : ∀ r', r' ≠ ho → S1 r' = S r') (hc : mCl g b K ho (S1 ho) H) : gW g b K S0 S1 r r n ci dn H := by
  refine ⟨h.1, hok, h.2.2.1, h.2.2.2.1, by rw [hs r (by omega)]; exact h.2.2.2.2.1, fun r' a1 a2 _ => ?_, fun r' a1 => by rw [hs r' (by omega)]; exact h.2.2.2.2.2.2 r' a1⟩
  by_cases e : r' = ho
  · subst e; exact hc
  · rw [hs r' e]; exact h.2.2.2.2.2.1 r' a1 a2 e
def mzz (S : mSt) (n N : Nat) : mSt := fun r i => if n < r ∧ r ≤ n + N then 0 else S r i
theorem mzz_in (S : mSt) {n N r : Nat} (h : n < r ∧ r ≤ n + N) (i : Int) : mzz S n N r i = 0 := if_pos h
theorem mzz_ne (S : mSt) {n N r : Nat} (h : ¬ (n < r ∧ r ≤ n + N)) : mzz S n N r = S r := by funext i; exact if_neg h
theorem okS_zz {S : mSt} {n N : Nat} (h : okS S) : okS (mzz S n N) := fun r i => by
  unfold mzz; split
  · decide
  · exact h r i
theorem c_outer (c : ClassId) (N h0 : Nat) : ∀ i : Nat, Jvm.Free.Multi.outerC c N h0 i = arrV c N (fun j => if j < i then .ref (h0 + 1 + j) else .null)
  | 0 => by
    show ({ cls := c, slots := Array.replicate N .null, vm := .none } : Cell) = _
    rw [arrV_new]
    exact arrV_congr fun j _ => by simp
  | i + 1 => by
    show (Jvm.Free.Multi.outerC c N h0 i).setSlot i (.ref (h0 + 1 + i)) = _
    rw [c_outer c N h0 i, arrV_store]
    refine arrV_congr fun j _ => ?_
    unfold updV
    by_cases e : j = i
    · subst e; simp
    · by_cases h : j < i
      · simp [e, h, Nat.lt_succ_of_lt h]
      · simp [e, h, show ¬ j < i + 1 by omega]
section cMore
variable {p : Program} {l : Launch} {e : Env} {R : Room} {s : State} {m : MethodId} {args : Array Value} {below : List Frame} {meth : Method} {c : Code} {H : Heap} {locs : List Loc} {cells slots : Nat} {Q : State → Prop}
variable {cc : ByteArray} {pc nL : Nat} {ls : Array Slot} {rest : List Value} {own : String} {g : mG} {b : Nat} {K : Nat → mK} {S0 S : mSt} {r ho n ci : Nat} {dn : List Nat} {A0 : Nat → Prop}
theorem c_mna {N M : Nat} {x y : Int} (X : mX p s m args c cc own) (hK : mKg g s) (hA : cAr s) (hG : gW g b K S0 S r ho n ci dn H) (hS : va_S A0 s.heap H locs) {index : Nat} (hk : K n = (4, N, M)) (hk1 : ∀ j, j < N → K (n + 1 + j) = (1, M, 0)) (hx : okI x) (hxn : x = N) (hN : N ≤ 1000) (hy : okI y) (hyn : y = M) (hM : M ≤ 1000) (w : Cond.arrayClass .int ∈ wsG) (wl : Cond.classLink own index "[[I" ∈ wsG) (d : decode cc pc = .ok (.multianewarray index 2, 4)) (hc : cells + (1 + N) ≤ R.cells) (hs : slots + (N + N * M) ≤ R.slots) (k : ∀ (S1 : mSt) (H1 : Heap), S1 = mzz S n N → gW g b K S0 S1 r ho (n + 1 + N) ci dn H1 → va_S A0 s.heap H1 locs → W p l e R s m args below meth c H1 locs (cells + 1 + N) (slots + N + N * M) Q (F0 m (pc + 4) ls (.ref (b + n) :: rest))) : W p l e R s m args below meth c H locs cells slots Q (F0 m pc ls (.int (mI y) :: .int (mI x) :: rest)) := by
  have hsz := hG.2.2.1
  have hle : s.heap.size ≤ b + n := by have := hS.1; omega
  have hneg : ¬ mI x < 0 := fun h => by have := (mI_lt hx (b := 0) (by decide)).mp h; omega
  have hneg2 : ¬ mI y < 0 := fun h => by have := (mI_lt hy (b := 0) (by decide)).mp h; omega
  have hcx : (mI x).toNatClampNeg = N := by rw [mI_cl hx]; omega
  have hcy : (mI y).toNatClampNeg = M := by rw [mI_cl hy]; omega
  have hstr : "[" ++ (FieldType.array FieldType.int).toString = "[[I" := by decide +kernel
  intro T hT Xs
  subst hT
  obtain ⟨vm₁, cA, comp, -, fA, fC, -, -, X', step⟩ := Xs.multianewarray2F X.1 (ty := .int) X.2.2.1 (by rw [hstr]; exact X.2.2.2 _ wl) hA.2.2 (X.2.2.2 _ w) (g := F0 m pc ls (.int (mI y) :: .int (mI x) :: rest)) rfl (by rw [X.2.1]; exact d) rfl hneg hneg2 (by rw [hcx]; omega) (by rw [hcy]; show M * 4 ≤ _; omega) (by rw [hcy]; omega) (by decide) (by decide) (by rw [hcx]; exact hc) (by rw [hcx, hcy]; exact hs)
  have e1 : cA = g.cy 3 := Option.some.inj (fA.symm.trans (hK.1.2 3 _ rfl).2)
  have e2 : comp = g.cy 0 := Option.some.inj (fC.symm.trans (hK.1.2 0 _ rfl).2)
  subst e1 e2
  rw [hcx, hcy] at X' step
  generalize hF : Jvm.Free.Multi.fill (T.setVm vm₁) (g.cy 3) (g.cy 0) N M (defaultValue .int) N = F at X' step
  obtain ⟨f1, f2, -, -⟩ := Jvm.Free.Multi.fill_facts (T.setVm vm₁) (g.cy 3) (g.cy 0) N M (defaultValue .int) N
  rw [hF] at f1 f2
  have hTh : (T.setVm vm₁).heap = T.heap := rfl
  rw [hTh, hsz] at f1 f2
  have hold : ∀ q : Nat, q < b + n → F.heap[q]? = T.heap[q]? := fun q hq => by
    have := Jvm.Free.Multi.fill_old (T.setVm vm₁) (g.cy 3) (g.cy 0) N M (defaultValue .int) (a := q) (by rw [hTh, hsz]; exact hq) N
    rw [hF, hTh] at this
    exact this
  have hrow : ∀ j : Nat, j < N → F.heap[b + n + 1 + j]? = some (arrV (g.cy 0) M (fun _ => .int 0)) := fun j hj => by
    have := Jvm.Free.Multi.fill_inner (T.setVm vm₁) (g.cy 3) (g.cy 0) N M (defaultValue .int) N j hj
    rw [hF, hTh, hsz] at this
    rw [this, ← arrV_new]
    rfl
  rw [c_outer] at f2
  obtain ⟨t, a1, b1⟩ := k (mzz S n N) F.heap rfl (hG.grow (by omega) (okS_zz hG.2.1) (by omega) hold (fun r' h => mzz_ne S (by omega)) (fun r' h1 h2 _ => by
    by_cases e : r' = n
    · subst e
      unfold mCl
      rw [hk]
      exact f2.trans (congrArg some (arrV_congr fun j hj => by rw [if_pos hj, show b + r' + 1 + j = b + (r' + 1 + j) by omega]))
    · have hr := hk1 (r' - n - 1) (by omega)
      rw [show n + 1 + (r' - n - 1) = r' by omega] at hr
      have hw := hrow (r' - n - 1) (by omega)
      rw [show b + n + 1 + (r' - n - 1) = b + r' by omega] at hw
      unfold mCl
      rw [hr]
      exact hw.trans (congrArg some (arrV_congr fun j _ => by rw [mzz_in S (by omega)]; rfl)))) ⟨Nat.le_trans hS.1 (by omega), fun q h1 h2 => (hold q (by omega)).trans (hS.2.1 q h1 h2), hS.2.2⟩ F rfl X'
  rw [hsz] at step
  exact ⟨t, step t a1, b1⟩
theorem c_anew {C : String} {t N : Nat} {x : Int} (X : mX p s m args c cc own) (hK : mKg g s) (hG : gW g b K S0 S r r n ci dn H) (hS : va_S A0 s.heap H locs) {index : Nat} (ht : (mTy g)[t]? = some (g.cy t, .object C)) (hov : va_AO C s) (hx : okI x) (hxn : x = N) (hN : N ≤ 1000) (wl : Cond.classLink own index C ∈ wsG) (d : decode cc pc = .ok (.anewarray index, 3)) (hc : cells + 1 ≤ R.cells) (hs : slots + N ≤ R.slots) (k : ∀ (H1 : Heap), H1[b + n]? = some (arrV (g.cy t) N (fun _ => .null)) → gW g b K S0 S r n (n + 1) ci dn H1 → va_S A0 s.heap H1 locs → W p l e R s m args below meth c H1 locs (cells + 1) (slots + N) Q (F0 m (pc + 3) ls (.ref (b + n) :: rest))) : W p l e R s m args below meth c H locs cells slots Q (F0 m pc ls (.int (mI x) :: rest)) := by
  have hsz := hG.2.2.1
  have hle : s.heap.size ≤ b + n := by have := hS.1; omega
  have hneg : ¬ mI x < 0 := fun h => by have := (mI_lt hx (b := 0) (by decide)).mp h; omega
  have hcx : (mI x).toNatClampNeg = N := by rw [mI_cl hx]; omega
  refine W.anew X.1 X.2.1 X.2.2.1 (X.2.2.2 _ wl) (va_AO.use hov) rfl d rfl hneg (by rw [hcx]; omega) hc (by rw [hcx]; exact hs) fun cA kA comp f1 _ _ _ => ?_
  obtain ⟨kA', comp', -, -, -, k4⟩ := (hK.1.2 t _ ht).2
  have e1 : cA = g.cy t := Option.some.inj (f1.symm.trans k4)
  subst e1
  rw [hcx]
  generalize hH1 : H.push ({ cls := g.cy t, slots := Array.replicate N .null, vm := .none } : Cell) = H1
  have z1 : H1.size = H.size + 1 := by rw [← hH1, Array.size_push]
  have e1 : H1[H.size]? = some (arrV (g.cy t) N (fun _ => .null)) := by rw [← hH1, Array.getElem?_push_size, ← arrV_new]
  have o1 : ∀ q : Nat, q < b + n → H1[q]? = H[q]? := fun q hq => by rw [← hH1, Array.getElem?_push, if_neg (by omega)]
  rw [hsz] at e1
  rw [hsz]
  exact k H1 e1 ((hG.hole n).grow (by omega) hG.2.1 (by omega) o1 (fun _ _ => rfl) (fun r' h1 h2 h3 => absurd (show r' = n by omega) h3)) ⟨Nat.le_trans hS.1 (by omega), fun q h1 h2 => (o1 q (by omega)).trans (hS.2.1 q h1 h2), hS.2.2⟩
theorem c_token (X : mX p s m args c cc own) (hK : mKg g s) (hS : va_S A0 s.heap H locs) (hA0 : ∀ q, A0 q → g.lo ≤ q) {index : Nat} {nmT : String} (t : Nat) (ht : t < 36) (hn : tkN.getD t "" = nmT) (hl : Cond.fieldLink own index "MoonWash$Token" nmT "LMoonWash$Token;" ∈ wsG) (d : decode cc pc = .ok (.getstatic index, 3)) (k : W p l e R s m args below meth c H locs cells slots Q (F0 m (pc + 3) ls (.ref (g.ad t) :: rest))) : W p l e R s m args below meth c H locs cells slots Q (F0 m pc ls rest) := by
  subst hn
  exact va_gets X.1 X.2.1 ((hK.2.2.1.2.2.1.1 t ht).1.narrow hA0) hS X.2.2.1 (X.2.2.2 _ hl) (fun _ h => h) d k
theorem c_ast {C : String} {t N ci1 : Nat} {T : u_T} {NT : Nat} {f : Nat → Value} {q : Nat} (X : mX p s m args c cc own) (hK : mKg g s) (hG : gW g b K S0 S r ho n ci dn H) (hS : va_S (gA b r) s.heap H locs) (h1 : r < ho) (ht : (mTy g)[t]? = some (g.cy t, .object C)) (hc1 : vwCl[ci1]? = some (C, T, NT)) (hArr : H[b + ho]? = some (arrV (g.cy t) N f)) {cv : Cell} (hv : H[q]? = some cv) (hvc : cv.cls = g.D.1 ci1) (hvs : cv.vm.isStatics = false) {i : Int} (hi : okI i) (hi0 : 0 ≤ i) (hi1 : i < N) (d : decode cc pc = .ok (.aastore, 1)) (k : ∀ (H1 : Heap) (locs1 : List Loc), H1[b + ho]? = some (arrV (g.cy t) N (updV f i.toNat (.ref q))) → gW g b K S0 S r ho n ci dn H1 → va_S (gA b r) s.heap H1 locs1 → W p l e R s m args below meth c H1 locs1 cells slots Q (F0 m (pc + 1) ls rest)) : W p l e R s m args below meth c H locs cells slots Q (F0 m pc ls (.ref q :: .int (mI i) :: .ref (b + ho) :: rest)) := by
  obtain ⟨kA, comp, k1, k2, k3, -⟩ := (hK.1.2 t _ ht).2
  have hcls := (hK.1.1 ci1 _ hc1).2
  have hcomp : comp = g.D.1 ci1 := Option.some.inj (k3.symm.trans hcls.1)
  subst hcomp
  have hni := mI_not (n := N) hi hi0 hi1
  obtain ⟨kC, hkC, hkd⟩ := hcls.2
  have has : s.vm.assignable cv.cls (g.D.1 ci1) = true := by rw [hvc]; exact va_assign hcls
  refine W.aast X.1 X.2.1 hArr (fun q h => by cases h) (fun h => by cases h) k1 k2 rfl hkC ⟨fun q => hni (Or.inl q), by show _ < (arrV _ _ _).slots.size; rw [arrV_size]; exact Nat.not_le.mp fun q => hni (Or.inr q)⟩ hv (fun q h => by rw [h] at hvs; cases hvs) (by rw [hvc]; exact hkC) has rfl rfl d (fun H1 e1 e2 e3 => k H1 _ ?_ (hG.at h1 e2 e3) (hS.put e2 e3 (by show b + r ≤ b + ho; omega)))
  rw [e1, mI_cl hi, arrV_store]
end cMore
