/-! ===== the law: two parts beside each other ===== -/
theorem mCl_lt {g : mG} {b r : Nat} {K : Nat → mK} {f : Int → Int} {H : Heap} (h : mCl g b K r f H) (hk : (K r).1 < 7) : b + r < H.size := by
  have hk' : ∀ {x : Cell}, H[b + r]? = some x → b + r < H.size := fun hx => (Array.getElem?_eq_some_iff.mp hx).1
  have e : (K r).1 = 0 ∨ (K r).1 = 1 ∨ (K r).1 = 2 ∨ (K r).1 = 3 ∨ (K r).1 = 4 ∨ (K r).1 = 5 ∨ (K r).1 = 6 := by omega
  unfold mCl at h
  rcases e with e | e | e | e | e | e | e <;> rw [e] at h <;> first | exact hk' h | exact hk' h.1 | (obtain ⟨⟨cell, q1, q2⟩, h2⟩ := h; exact hk' q1)
theorem mCl_no {g : mG} {b r : Nat} {K : Nat → mK} {f : Int → Int} {H : Heap} (hk : ¬ (K r).1 < 7) : mCl g b K r f H := by
  obtain ⟨k, e⟩ : ∃ k, (K r).1 = k + 7 := ⟨(K r).1 - 7, by omega⟩
  unfold mCl
  rw [e]
  trivial
theorem mCl_same {g : mG} {b r : Nat} {K : Nat → mK} {f : Int → Int} {H H1 : Heap} (h : mCl g b K r f H) (ha : H1[b + r]? = H[b + r]?) : mCl g b K r f H1 := by
  unfold mCl at h ⊢
  split at h <;> first | exact ⟨h.1.kept ha, h.2⟩ | exact ha.trans h | exact ⟨ha.trans h.1, h.2⟩ | trivial
theorem mW.apart {g : mG} {b : Nat} {K : Nat → mK} {S : mSt} {H H1 : Heap} {A : Nat → Prop} (h : mW g b K S H) (hq : ∀ q : Nat, q < H.size → ¬ A q → H1[q]? = H[q]?) (hA : ∀ r, (K r).1 < 7 → b + r < H.size → ¬ A (b + r)) : mW g b K S H1 := by
  refine ⟨h.1, h.2.1, fun r => ?_⟩
  by_cases hk : (K r).1 < 7
  · have hlt := mCl_lt (h.2.2 r) hk
    exact mCl_same (h.2.2 r) (hq _ hlt (hA r hk hlt))
  · exact mCl_no hk
theorem KM_13 {r : Nat} (h : (KM r).1 < 7) : r < 13 := KM_lt (t := KM r) rfl (by omega)
theorem KX_of : ∀ r, r < 13 → (KX (237 + r)).1 = 9 := by decide +kernel
/-- what the class writes is not the reference's -/
theorem l_apM {b sz : Nat} : ∀ r, (KM r).1 < 7 → b + 237 + r < sz → ¬ mA b KX sz (b + 237 + r) := by
  intro r hr hlt h
  rcases h with ⟨r1, e, h1⟩ | h
  · have e1 : r1 = 237 + r := by omega
    have := KX_of r (KM_13 hr)
    rw [e1] at h1
    omega
  · omega
theorem l_apX {b sz : Nat} : ∀ r, (KX r).1 < 7 → b + r < sz → ¬ mA (b + 237) KM sz (b + r) := by
  intro r hr hlt h
  rcases h with ⟨r1, e, h1⟩ | h
  · have e1 : r = 237 + r1 := by omega
    have := KX_of r1 (KM_13 h1)
    rw [e1] at hr
    omega
  · omega
abbrev lA (s : State) : Nat → Prop := fun q => s.heap.size ≤ q
theorem l_in {s : State} {b sz : Nat} {K : Nat → mK} (hb : s.heap.size ≤ b) (hz : s.heap.size ≤ sz) : ∀ q, mA b K sz q → lA s q := by
  intro q h
  rcases h with ⟨r, h, -⟩ | h <;> (show s.heap.size ≤ q; omega)
def bI (x : Int) : Int := if x = 0 then 0 else 1
theorem bI_ok (x : Int) : okI (bI x) := by unfold bI; split <;> decide
def sA (xs : Nat → Int32) (i k : Int) : Int := (xs (nm (i + k)).toNat).toInt
theorem sA_ok (xs : Nat → Int32) (i k : Int) : okI (sA xs i k) := toInt_okI _
theorem l_idx {i k : Int} {L : Nat} (h0 : 0 ≤ i) (h5 : i + 5 < L) (hL : L ≤ 3072) (hk0 : 0 ≤ k) (hk : k ≤ 5) : 0 ≤ nm (i + k) ∧ nm (i + k) < L := by unfold nm; omega
section lRows
variable {p : Program} {l : Launch} {e : Env} {R : Room} {s : State} {m : MethodId} {args : Array Value} {below : List Frame} {meth : Method} {c : Code} {H : Heap} {locs : List Loc} {cells slots : Nat} {Q : State → Prop}
variable {cc : ByteArray} {pc nL : Nat} {ls : Array Slot} {rest : List Value} {own : String} {g : mG} {b sb L : Nat} {K : Nat → mK} {S : mSt} {xs : Nat → Int32}
theorem l_sld (X : mX p s m args c cc own) (hX : va_X sb L xs s s.heap) (hb : sb < s.heap.size) (hS : va_S (lA s) s.heap H locs) {i k : Int} (h : 0 ≤ nm (i + k) ∧ nm (i + k) < L) (d : decode cc pc = .ok (.iaload, 1)) (kk : W p l e R s m args below meth c H locs cells slots Q (F0 m (pc + 1) ls (.int (mI (sA xs i k)) :: rest))) : W p l e R s m args below meth c H locs cells slots Q (F0 m pc ls (.int (mI (nm (i + k))) :: .ref sb :: rest)) := by
  refine va_sld X.1 X.2.1 hX hb (Nat.not_le.mpr hb) hS (mI_in (nm_ok _) h.1 h.2) d ?_
  rw [mI_cl (nm_ok _)]
  exact m_num (mI_of _).symm kk
theorem l_sld0 (X : mX p s m args c cc own) (hX : va_X sb L xs s s.heap) (hb : sb < s.heap.size) (hS : va_S (lA s) s.heap H locs) {i : Int} (hi : okI i) (h : 0 ≤ i ∧ i < L) (d : decode cc pc = .ok (.iaload, 1)) (kk : W p l e R s m args below meth c H locs cells slots Q (F0 m (pc + 1) ls (.int (mI (sA xs i 0)) :: rest))) : W p l e R s m args below meth c H locs cells slots Q (F0 m pc ls (.int (mI i) :: .ref sb :: rest)) := by
  have e : nm (i + 0) = i := by rw [Int.add_zero]; exact nm_id hi
  have := l_sld (k := 0) X hX hb hS (by rw [e]; exact h) d kk
  rwa [e] at this
theorem l_slen (X : mX p s m args c cc own) (hX : va_X sb L xs s s.heap) (hb : sb < s.heap.size) (hS : va_S (lA s) s.heap H locs) (d : decode cc pc = .ok (.arraylength, 1)) (kk : W p l e R s m args below meth c H locs cells slots Q (F0 m (pc + 1) ls (.int (mI (L : Int)) :: rest))) : W p l e R s m args below meth c H locs cells slots Q (F0 m pc ls (.ref sb :: rest)) :=
  va_slen X.1 X.2.1 hX hb (Nat.not_le.mpr hb) hS d (m_num (mI_nat L) kk)
theorem l_bool (X : mX p s m args c cc own) {x : Int} (hx : okI x) (d : decode cc pc = .ok (.ifCond .eq 7, 3)) (d1 : decode cc (pc + 3) = .ok (.iconst 1, 1)) (d2 : decode cc (pc + 4) = .ok (.goto 4, 3)) (d3 : decode cc (pc + 7) = .ok (.iconst 0, 1)) (kk : W p l e R s m args below meth c H locs cells slots Q (F0 m (pc + 8) ls (.int (mI (bI x)) :: rest))) : W p l e R s m args below meth c H locs cells slots Q (F0 m pc ls (.int (mI x) :: rest)) := by
  refine m_if_eq (tgt := pc + 7) X hx d (by omega) (fun h => ?_) (fun h => ?_)
  · refine m_iconst X d3 ?_
    rw [show bI x = 0 from if_pos h] at kk
    exact kk
  · refine m_iconst X d1 (m_goto (tgt := pc + 8) X d2 (by omega) ?_)
    rw [show bI x = 1 from if_neg h] at kk
    exact kk
theorem l_boolL (X : mX p s m args c cc own) {x : Int} (hx : okI x) (d : decode cc pc = .ok (.ifCond .eq 7, 3)) (d1 : decode cc (pc + 3) = .ok (.lconst 1, 1)) (d2 : decode cc (pc + 4) = .ok (.goto 4, 3)) (d3 : decode cc (pc + 7) = .ok (.lconst 0, 1)) (kk : W p l e R s m args below meth c H locs cells slots Q (F0 m (pc + 8) ls (.long (Int64.ofInt (bI x)) :: rest))) : W p l e R s m args below meth c H locs cells slots Q (F0 m pc ls (.int (mI x) :: rest)) := by
  refine m_if_eq (tgt := pc + 7) X hx d (by omega) (fun h => ?_) (fun h => ?_)
  · refine m_lconst (x := 0) X rfl d3 ?_
    rw [show bI x = 0 from if_pos h] at kk
    exact kk
  · refine m_lconst (x := 1) X rfl d1 (m_goto (tgt := pc + 8) X d2 (by omega) ?_)
    rw [show bI x = 1 from if_neg h] at kk
    exact kk
theorem l_lald (X : mX p s m args c cc own) (hK : mKg g s) (hW : mW g b K S H) {r n : Nat} (hk : K r = (6, n, 0)) {i : Int} (hi : okI i) (h0 : 0 ≤ i) (h1 : i < n) (d : decode cc pc = .ok (.laload, 1)) (k : W p l e R s m args below meth c H locs cells slots Q (F0 m (pc + 1) ls (.long (Int64.ofInt (S r i)) :: rest))) : W p l e R s m args below meth c H locs cells slots Q (F0 m pc ls (.int (mI i) :: .ref (b + r) :: rest)) := by
  have hc := mW_cl hW hk
  have e : ((i.toNat : Nat) : Int) = i := by omega
  refine W.lald X.1 X.2.1 hc ((hK.1.2 5 _ rfl).1 n _) (arrV_none _ _ _) (by rw [arrV_size]; exact mI_not hi h0 h1) (v := .long (Int64.ofInt (S r i))) ?_ rfl rfl d k
  rw [mI_cl hi, arrV_read _ _ (by omega), e]
theorem l_cmp (X : mX p s m args c cc own) {x y : Int} (h : x = y) {off : Int} {tgt : Nat} (d : decode cc pc = .ok (.lcmp, 1)) (d1 : decode cc (pc + 1) = .ok (.ifCond .eq off, 3)) (ht : ((pc + 1 : Nat) : Int) + off = (tgt : Int)) (k : W p l e R s m args below meth c H locs cells slots Q (F0 m tgt ls rest)) : W p l e R s m args below meth c H locs cells slots Q (F0 m pc ls (.long (Int64.ofInt y) :: .long (Int64.ofInt x) :: rest)) := by
  subst h
  exact W.lcmp X.1 X.2.1 d (lv_if_eq X.1 X.2.1 d1 ht (fun _ => k) (fun h => absurd ((lg_cmp_eq _ _).mpr rfl) h))
theorem l_callVi (X : mX p s m args c cc own) (hml : c.maxLocals = nL) (hls : ls.size = nL) (hK : mKg g s) (hb : s.heap.size ≤ b) (hW : mW g b K S H) (hS : va_S (lA s) s.heap H locs) {y : MethodName} {bytes : ByteArray} {maxL index mc ms : Nat} {ret : Option FieldType} {rm : Room} {As : List Value} {r ci d0 N : Nat} {T : u_T} {Qp : mSt → Int → Prop} (hM : ∀ sz, vx_Met l y (Cond.code y bytes maxL ret :: wsG) rm (mPc g b K S (.ref (b + r) :: As) sz) (mQi g b K Qp (mA b K sz)) (mEx g b K (fun _ _ => False) (mA b K sz)) mc ms (mA b K sz)) (hk : K r = (0, ci, d0)) (hcl : vwCl[ci]? = some (y.cls, T, N)) (w1 : Cond.methodLink own index y ∈ wsG) (w2 : Cond.instanceMethod y ∈ wsG) (w3 : Cond.selects y.cls y y ∈ wsG) (w4 : Cond.initialized y.cls ∈ wsG) (w5 : Cond.code y bytes maxL ret ∈ wsG) (hd : mPl y As.length) (hR : mRm rm R maxL cells slots mc ms) (hst : (rest.map fun v => v.category).sum ≤ 8) (d : decode cc pc = .ok (.invokevirtual index, 3)) (kk : ∀ (v : Int) (S1 : mSt) (H1 : Heap) (locs1 : List Loc), okI v → Qp S1 v → mW g b K S1 H1 → (∀ q : Nat, q < H.size → ¬ mA b K H.size q → H1[q]? = H[q]?) → va_S (lA s) s.heap H1 locs1 → W p l e R s m args below meth c H1 locs1 (cells + mc) (slots + ms) Q (F0 m (pc + 3) ls (.int (mI v) :: rest))) : W p l e R s m args below meth c H locs cells slots Q (F0 m pc ls (As.reverse ++ .ref (b + r) :: rest)) :=
  vx_calli (A1 := mA b K H.size) (AX := mA b K H.size) (mc := mc) (ms := ms) (vx_runV (nL := nL) (As := As) (rest := rest) ⟨X.1, X.2.1, hml, X.2.2.1, X.2.2.2⟩ (hM H.size) (cwV As.length X.2.2.2 (mGV w1 w2 w3 w4 w5) rfl hR.1 hR.2.1 ⟨rfl, hd⟩ ⟨hR.2.2.1, hR.2.2.2.1⟩) ⟨mPc_blind, m_recv hK hW hk hcl, fun U hU hWm => ⟨rfl, by rw [hU], by rw [hU]; exact hW, hK.to hWm hU hS (fun q h => Nat.le_trans hK.2.1 h)⟩⟩ rfl rfl hls rfl (lv_room hst) d ⟨hR.2.2.2.2.1, hR.2.2.2.2.2⟩) hS (fun q _ h => l_in hb hS.1 q h) (fun q h => l_in hb hS.1 q h) (fun q _ h => l_in hb hS.1 q h) (fun En ce q9 u t H1 locs1 ht _ _ hw _ _ hS1 h1 h2 h3 => hw.1.elim) (fun v u t H1 locs1 ht _ hq hw _ hk1 hS1 => by obtain ⟨rfl, hv, hq⟩ := hq; exact kk u.2 u.1 H1 locs1 hv hq (ht ▸ hw) hk1 hS1)
theorem l_callVv (X : mX p s m args c cc own) (hml : c.maxLocals = nL) (hls : ls.size = nL) (hK : mKg g s) (hb : s.heap.size ≤ b) (hW : mW g b K S H) (hS : va_S (lA s) s.heap H locs) {y : MethodName} {bytes : ByteArray} {maxL index mc ms : Nat} {ret : Option FieldType} {rm : Room} {As : List Value} {r ci d0 N : Nat} {T : u_T} {Qp : mSt → Prop} (hM : ∀ sz, vx_Met l y (Cond.code y bytes maxL ret :: wsG) rm (mPc g b K S (.ref (b + r) :: As) sz) (mQv g b K Qp (mA b K sz)) (mEx g b K (fun _ _ => False) (mA b K sz)) mc ms (mA b K sz)) (hk : K r = (0, ci, d0)) (hcl : vwCl[ci]? = some (y.cls, T, N)) (w1 : Cond.methodLink own index y ∈ wsG) (w2 : Cond.instanceMethod y ∈ wsG) (w3 : Cond.selects y.cls y y ∈ wsG) (w4 : Cond.initialized y.cls ∈ wsG) (w5 : Cond.code y bytes maxL ret ∈ wsG) (hd : mPl y As.length) (hR : mRm rm R maxL cells slots mc ms) (hst : (rest.map fun v => v.category).sum ≤ 8) (d : decode cc pc = .ok (.invokevirtual index, 3)) (kk : ∀ (S1 : mSt) (H1 : Heap) (locs1 : List Loc), Qp S1 → mW g b K S1 H1 → (∀ q : Nat, q < H.size → ¬ mA b K H.size q → H1[q]? = H[q]?) → va_S (lA s) s.heap H1 locs1 → W p l e R s m args below meth c H1 locs1 (cells + mc) (slots + ms) Q (F0 m (pc + 3) ls rest)) : W p l e R s m args below meth c H locs cells slots Q (F0 m pc ls (As.reverse ++ .ref (b + r) :: rest)) :=
  vx_callv (A1 := mA b K H.size) (AX := mA b K H.size) (mc := mc) (ms := ms) (vx_runV (nL := nL) (As := As) (rest := rest) ⟨X.1, X.2.1, hml, X.2.2.1, X.2.2.2⟩ (hM H.size) (cwV As.length X.2.2.2 (mGV w1 w2 w3 w4 w5) rfl hR.1 hR.2.1 ⟨rfl, hd⟩ ⟨hR.2.2.1, hR.2.2.2.1⟩) ⟨mPc_blind, m_recv hK hW hk hcl, fun U hU hWm => ⟨rfl, by rw [hU], by rw [hU]; exact hW, hK.to hWm hU hS (fun q h => Nat.le_trans hK.2.1 h)⟩⟩ rfl rfl hls rfl (lv_room hst) d ⟨hR.2.2.2.2.1, hR.2.2.2.2.2⟩) hS (fun q _ h => l_in hb hS.1 q h) (fun q h => l_in hb hS.1 q h) (fun q _ h => l_in hb hS.1 q h) (fun En ce q9 u t H1 locs1 ht _ _ hw _ _ hS1 h1 h2 h3 => hw.1.elim) (fun u t H1 locs1 ht _ hq hw _ hk1 hS1 => kk u H1 locs1 hq (ht ▸ hw) hk1 hS1)
theorem mGW {own : String} {index maxL : Nat} {y : MethodName} {bytes : ByteArray} {ret : Option FieldType} {hh : List (Nat × Nat × Nat × Nat)} (w1 : Cond.methodLink own index y ∈ wsG) (w2 : Cond.static y ∈ wsG) (w4 : Cond.initialized y.cls ∈ wsG) (w5 : Cond.codeWith y bytes maxL ret hh ∈ wsG) : GoodIn wsG (va_wsS own index y (Cond.codeWith y bytes maxL ret hh :: wsG)) := by
  intro w hw
  have h : w ∈ wsG := by
    simp only [va_wsS, List.mem_append, List.mem_cons, List.not_mem_nil, or_false] at hw
    rcases hw with (h | h | h) | h | h <;> first | exact h | (rw [h]; assumption)
  exact ⟨h, wsG_good w h⟩
theorem l_callSi (X : mX p s m args c cc own) (hml : c.maxLocals = nL) (hls : ls.size = nL) (hK : mKg g s) (hb : s.heap.size ≤ b) (hW : mW g b K S H) (hS : va_S (lA s) s.heap H locs) {y : MethodName} {bytes : ByteArray} {maxL index mc ms : Nat} {ret : Option FieldType} {hh : List (Nat × Nat × Nat × Nat)} {rm : Room} {As : List Value} {Qp : mSt → Int → Prop} (hM : ∀ sz, vx_Met l y (Cond.codeWith y bytes maxL ret hh :: wsG) rm (mPc g b K S As sz) (mQi g b K Qp (mA b K sz)) (mEx g b K (fun _ _ => False) (mA b K sz)) mc ms (mA b K sz)) (w1 : Cond.methodLink own index y ∈ wsG) (w2 : Cond.static y ∈ wsG) (w4 : Cond.initialized y.cls ∈ wsG) (w5 : Cond.codeWith y bytes maxL ret hh ∈ wsG) (hd : mPl y As.length) (hR : mRm rm R maxL cells slots mc ms) (hst : (rest.map fun v => v.category).sum ≤ 8) (d : decode cc pc = .ok (.invokestatic index, 3)) (kk : ∀ (v : Int) (S1 : mSt) (H1 : Heap) (locs1 : List Loc), okI v → Qp S1 v → mW g b K S1 H1 → (∀ q : Nat, q < H.size → ¬ mA b K H.size q → H1[q]? = H[q]?) → va_S (lA s) s.heap H1 locs1 → W p l e R s m args below meth c H1 locs1 (cells + mc) (slots + ms) Q (F0 m (pc + 3) ls (.int (mI v) :: rest))) : W p l e R s m args below meth c H locs cells slots Q (F0 m pc ls (As.reverse ++ rest)) :=
  vx_calli (A1 := mA b K H.size) (AX := mA b K H.size) (mc := mc) (ms := ms) (vx_runSX (nL := nL) (As := As) (rest := rest) ⟨X.1, X.2.1, hml, X.2.2.1, X.2.2.2⟩ (hM H.size) (vx_cwSW As.length X.2.2.2 (mGW w1 w2 w4 w5) rfl hR.1 hR.2.1 hd ⟨hR.2.2.1, hR.2.2.2.1⟩) ⟨mPc_blind, fun U hU hWm => ⟨rfl, by rw [hU], by rw [hU]; exact hW, hK.to hWm hU hS (fun q h => Nat.le_trans hK.2.1 h)⟩⟩ rfl rfl hls rfl (lv_room hst) d ⟨hR.2.2.2.2.1, hR.2.2.2.2.2⟩) hS (fun q _ h => l_in hb hS.1 q h) (fun q h => l_in hb hS.1 q h) (fun q _ h => l_in hb hS.1 q h) (fun En ce q9 u t H1 locs1 ht _ _ hw _ _ hS1 h1 h2 h3 => hw.1.elim) (fun v u t H1 locs1 ht _ hq hw _ hk1 hS1 => by obtain ⟨rfl, hv, hq⟩ := hq; exact kk u.2 u.1 H1 locs1 hv hq (ht ▸ hw) hk1 hS1)
end lRows
abbrev lC (p : Program) (l : Launch) (s : State) (m : MethodId) (args : Array Value) (c : Code) (g : mG) (sb L : Nat) (xs : Nat → Int32) (b : Nat) : Prop := mX p s m args c cL_law_ "MoonWashLaw" ∧ mKg g s ∧ c.maxLocals = 7 ∧ l.stackTraces = false ∧ (va_X sb L xs s s.heap ∧ sb < s.heap.size ∧ L ≤ 3072) ∧ s.heap.size ≤ b
