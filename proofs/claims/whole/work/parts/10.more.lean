/-! ===== throwing on, Math, copies, tokens ===== -/
/-- a row copied over another, from its begin -/
def mcp (S : mSt) (r1 r2 : Nat) (n : Int) : mSt := fun r i => if r = r2 ∧ 0 ≤ i ∧ i < n then S r1 i else S r i
theorem mcp_in (S : mSt) (r1 r2 : Nat) {n i : Int} (h0 : 0 ≤ i) (h : i < n) : mcp S r1 r2 n r2 i = S r1 i := if_pos ⟨rfl, h0, h⟩
theorem mcp_r (S : mSt) (r1 : Nat) {r r2 : Nat} (n i : Int) (h : r ≠ r2) : mcp S r1 r2 n r i = S r i := if_neg fun q => h q.1
theorem okS_cp {S : mSt} {r1 r2 : Nat} {n : Int} (h : okS S) : okS (mcp S r1 r2 n) := fun r i => by
  unfold mcp; split
  · exact h r1 i
  · exact h r i
def tkV (t : Nat) : Int := (tkT.getD t 0).toInt
theorem tkV_ok (t : Nat) : okI (tkV t) := toInt_okI _
def iAbs (x : Int) : Int := if 0 ≤ x then x else nm (-x)
theorem iAbs_ok {x : Int} (h : okI x) : okI (iAbs x) := by unfold iAbs; split; exact h; exact nm_ok _
section mMore
variable {p : Program} {l : Launch} {e : Env} {R : Room} {s : State} {m : MethodId} {args : Array Value} {below : List Frame} {meth : Method} {c : Code} {H : Heap} {locs : List Loc} {cells slots mc ms : Nat} {Q : State → Prop}
variable {cc : ByteArray} {pc nL : Nat} {ls : Array Slot} {rest : List Value} {own : String} {g : mG} {b : Nat} {K : Nat → mK} {S : mSt}
theorem m_prop {Qc : Array Value → State → Outcome → State → Prop} {E : String → mSt → Prop} {A : Nat → Prop} (hout : ∀ x ∈ c.exceptionTable.toList, False) (hlk : meth.locks = false) (hW : mW g b K S H) (hS : va_S A s.heap H locs) {En : String} {ce : Cell} {q9 : Addr} (hE : E En S) (h1 : H[q9]? = some ce) (h2 : ce.vm = .none) (h3 : s.vm.findClass En = some ce.cls) (hc : cells ≤ mc) (hs : slots ≤ ms) :
    vx_W p l e R s m args below meth c H locs cells slots (vx_MQ below Qc (mEx g b K E A) args s mc ms A) (F0 m pc ls rest) q9 :=
  vx_out (fun x hx => (hout x hx).elim) hlk h1 h2 h3 (fun t ht _ => ⟨S, trivial, ⟨hE, (show mW g b K S t.heap by rw [ht]; exact hW)⟩, hS.F ht⟩) hS.2.2 hc hs
theorem m_max (X : mX p s m args c cc own) (hml : c.maxLocals = nL) (hls : ls.size = nL) {index : Nat} {x y : Int} (hx : okI x) (hy : okI y) (w1 : Cond.methodLink own index Lib.Math.max.name ∈ wsG) (w2 : Cond.static Lib.Math.max.name ∈ wsG) (w3 : Cond.initialized "java/lang/Math" ∈ wsG) (w4 : Cond.code Lib.Math.max.name Lib.Math.max.code 2 (some .int) ∈ wsG) (hR : 1 ≤ R.frames ∧ (rest.map fun v => v.category).sum + 13 ≤ R.locals ∧ cells ≤ R.cells ∧ slots ≤ R.slots) (d : decode cc pc = .ok (.invokestatic index, 3))
    (k : W p l e R s m args below meth c H locs cells slots Q (F0 m (pc + 3) ls (.int (mI (iMax x y)) :: rest))) : W p l e R s m args below meth c H locs cells slots Q (F0 m pc ls (.int (mI y) :: .int (mI x) :: rest)) := by
  refine va_mmax X.1 X.2.1 (hml.trans hls.symm) X.2.2.1 (X.2.2.2 _ w1) (X.2.2.2 _ w2) (X.2.2.2 _ w3) (X.2.2.2 _ w4) hR.1 hR.2.1 hR.2.2.1 hR.2.2.2 d (m_num ?_ k)
  unfold iMax
  by_cases h : x < y
  · rw [if_pos h, if_pos ((mI_lt hx hy).mpr h)]
  · rw [if_neg h, if_neg (fun q => h ((mI_lt hx hy).mp q))]
theorem m_min (X : mX p s m args c cc own) (hml : c.maxLocals = nL) (hls : ls.size = nL) {index : Nat} {x y : Int} (hx : okI x) (hy : okI y) (w1 : Cond.methodLink own index Lib.Math.min.name ∈ wsG) (w2 : Cond.static Lib.Math.min.name ∈ wsG) (w3 : Cond.initialized "java/lang/Math" ∈ wsG) (w4 : Cond.code Lib.Math.min.name Lib.Math.min.code 2 (some .int) ∈ wsG) (hR : 1 ≤ R.frames ∧ (rest.map fun v => v.category).sum + 13 ≤ R.locals ∧ cells ≤ R.cells ∧ slots ≤ R.slots) (d : decode cc pc = .ok (.invokestatic index, 3))
    (k : W p l e R s m args below meth c H locs cells slots Q (F0 m (pc + 3) ls (.int (mI (iMin x y)) :: rest))) : W p l e R s m args below meth c H locs cells slots Q (F0 m pc ls (.int (mI y) :: .int (mI x) :: rest)) := by
  refine va_mmin X.1 X.2.1 (hml.trans hls.symm) X.2.2.1 (X.2.2.2 _ w1) (X.2.2.2 _ w2) (X.2.2.2 _ w3) (X.2.2.2 _ w4) hR.1 hR.2.1 hR.2.2.1 hR.2.2.2 d (m_num ?_ k)
  unfold iMin
  by_cases h : y < x
  · rw [if_pos ((mI_lt hy hx).mpr h), if_neg (by omega)]
  · rw [if_neg (fun q => h ((mI_lt hy hx).mp q))]
    by_cases h2 : x < y
    · rw [if_pos h2]
    · rw [if_neg h2, show x = y by omega]
theorem m_abs (X : mX p s m args c cc own) (hml : c.maxLocals = nL) (hls : ls.size = nL) {index : Nat} {x : Int} (hx : okI x) (w1 : Cond.methodLink own index Lib.Math.abs.name ∈ wsG) (w2 : Cond.static Lib.Math.abs.name ∈ wsG) (w3 : Cond.initialized "java/lang/Math" ∈ wsG) (w4 : Cond.code Lib.Math.abs.name Lib.Math.abs.code 1 (some .int) ∈ wsG) (hR : 1 ≤ R.frames ∧ (rest.map fun v => v.category).sum + 13 ≤ R.locals ∧ cells ≤ R.cells ∧ slots ≤ R.slots) (d : decode cc pc = .ok (.invokestatic index, 3))
    (k : W p l e R s m args below meth c H locs cells slots Q (F0 m (pc + 3) ls (.int (mI (iAbs x)) :: rest))) : W p l e R s m args below meth c H locs cells slots Q (F0 m pc ls (.int (mI x) :: rest)) := by
  refine va_mabs X.1 X.2.1 (hml.trans hls.symm) X.2.2.1 (X.2.2.2 _ w1) (X.2.2.2 _ w2) (X.2.2.2 _ w3) (X.2.2.2 _ w4) hR.1 (by omega) hR.2.2.1 hR.2.2.2 d (m_num ?_ k)
  unfold iAbs
  have h0 : (0 : Int32) ≤ mI x ↔ 0 ≤ x := mI_le (a := 0) (by decide) hx
  by_cases h : 0 ≤ x
  · rw [if_pos h, if_pos (h0.mpr h)]
  · rw [if_neg h, if_neg (fun q => h (h0.mp q))]
    have e := mI_sub 0 x
    rw [Int.zero_sub] at e
    exact e
theorem m_copy (X : mX p s m args c cc own) (hml : c.maxLocals = nL) (hls : ls.size = nL) (hK : mKg g s) (hW : mW g b K S H) (hS : va_S (mA b K s.heap.size) s.heap H locs) {index r1 r2 n1 n2 : Nat} {n : Int} (w1 : Cond.methodLink own index arraycopyName ∈ wsG) (w2 : Cond.native arraycopyName ∈ wsG) (w3 : Cond.static arraycopyName ∈ wsG) (w4 : Cond.initialized "java/lang/System" ∈ wsG) (hk1 : K r1 = (1, n1, 0)) (hk2 : K r2 = (1, n2, 0)) (hn : okI n) (h0 : 0 ≤ n) (h1 : n ≤ n1) (h2 : n ≤ n2) (hR : 1 ≤ R.frames ∧ (rest.map fun v => v.category).sum + (nativeFrameWords "java/lang/System" "arraycopy" 5 + 11) ≤ R.locals) (d : decode cc pc = .ok (.invokestatic index, 3))
    (k : ∀ (S1 : mSt) (H1 : Heap) (locs1 : List Loc), S1 = mcp S r1 r2 n → mW g b K S1 H1 → va_S (mA b K s.heap.size) s.heap H1 locs1 → W p l e R s m args below meth c H1 locs1 cells slots Q (F0 m (pc + 3) ls rest)) : W p l e R s m args below meth c H locs cells slots Q (F0 m pc ls (.int (mI n) :: .int (mI 0) :: .ref (b + r2) :: .int (mI 0) :: .ref (b + r1) :: rest)) := by
  have hc1 := mW_cl hW hk1
  have hc2 := mW_cl hW hk2
  have hz : (mI 0).toNatClampNeg = 0 := mI_cl (by decide)
  have hn' : (mI n).toNatClampNeg = n.toNat := mI_cl hn
  have h00 : ¬ mI 0 < 0 := by decide
  have hn0 : ¬ mI n < 0 := fun q => by have := (mI_lt hn (b := 0) (by decide)).mp q; omega
  have hzi : (mI 0).toInt = 0 := by decide
  intro T hT Xs
  obtain ⟨-, k0, hk0, cm0, hkk0⟩ := (hK.1.2 0 _ rfl).1 n1 (fun j => .int (mI (S r1 j)))
  obtain ⟨-, k9, hk9, cm1, hkk1⟩ := (hK.1.2 0 _ rfl).1 n2 (fun j => .int (mI (S r2 j)))
  obtain ⟨vm', X', step⟩ := Xs.arraycopy X.1 X.2.2.1 (X.2.2.2 _ w1) (X.2.2.2 _ w2) (X.2.2.2 _ w3) (X.2.2.2 _ w4) (src := b + r1) (dst := b + r2) (cs := vp_cell (g.cy 0) (n1, .inl (fun j => mI (S r1 j)))) (cd := vp_cell (g.cy 0) (n2, .inl (fun j => mI (S r2 j)))) (srcPos := mI 0) (destPos := mI 0) (n := mI n) (by rw [hT]; exact hc1) (by rw [hT]; exact hc2)
    (fun _ h => by cases h) (fun _ h => by cases h) (fun h => by cases h) (fun h => by cases h) hk0 hk9 hkk0 hkk1 (by simp [refKind]) h00 h00 hn0
    (by rw [hzi, mI_ok hn]; show ¬ _ > ((arrV (g.cy 0) n1 (fun j => .int (mI (S r1 j)))).slots.size : Int); rw [arrV_size]; omega)
    (by rw [hzi, mI_ok hn]; show ¬ _ > ((arrV (g.cy 0) n2 (fun j => .int (mI (S r2 j)))).slots.size : Int); rw [arrV_size]; omega)
    (fun vm₁ _ i hi => by
      have e : (vp_cell (g.cy 0) (n1, .inl (fun j => mI (S r1 j)))).slots.getD ((mI 0).toNatClampNeg + i) .null = .int (mI (S r1 (i : Int))) := by
        show (arrV (g.cy 0) n1 (fun j => .int (mI (S r1 j)))).slots.getD _ _ = _
        rw [hn'] at hi
        rw [hz, Nat.zero_add, Array.getD_eq_getD_getElem?, arrV_read _ _ (by omega)]
        rfl
      rw [e]
      exact ⟨rfl, trivial⟩)
    (g := F0 m pc ls (.int (mI n) :: .int (mI 0) :: .ref (b + r2) :: .int (mI 0) :: .ref (b + r1) :: rest)) rfl (by rw [hml, ← hls]) (rest := rest) rfl (by rw [X.2.1]; exact d) hR.1 (by show 2 * 0 + _ + _ ≤ _; omega)
  have e1 : copied (vp_cell (g.cy 0) (n1, .inl (fun j => mI (S r1 j)))) (vp_cell (g.cy 0) (n2, .inl (fun j => mI (S r2 j)))) (mI 0) (mI 0) (mI n) = vp_cell (g.cy 0) (n2, .inl (va_cpy (fun j => mI (S r1 j)) (fun j => mI (S r2 j)) (mI 0).toNatClampNeg (mI 0).toNatClampNeg (mI n).toNatClampNeg)) := va_copied (fun z => .int z) (g.cy 0) (g.cy 0) (n0 := n1) (n1 := n2) (sp := (mI 0).toNatClampNeg) (dp := (mI 0).toNatClampNeg) (n := (mI n).toNatClampNeg) (fun j => mI (S r1 j)) (fun j => mI (S r2 j)) (by rw [hz, hn']; omega)
  rw [e1] at X' step
  have hl : b + r2 < H.size := (Array.getElem?_eq_some_iff.mp hc2).1
  generalize hcell : vp_cell (g.cy 0) (n2, .inl (va_cpy (fun j => mI (S r1 j)) (fun j => mI (S r2 j)) (mI 0).toNatClampNeg (mI 0).toNatClampNeg (mI n).toNatClampNeg)) = cell at X' step
  have hheap : ((T.setVm vm').setCell (b + r2) cell).heap = H.setIfInBounds (b + r2) cell := by rw [← hT]; rfl
  have oq : ∀ q : Nat, q ≠ b + r2 → (H.setIfInBounds (b + r2) cell)[q]? = H[q]? := fun q hq => by simp [Array.getElem?_setIfInBounds, Ne.symm hq]
  have hA : mA b K s.heap.size (b + r2) := mA_put (t := 1) (by rw [hk2]) (by decide)
  have hcl : ∀ r, mCl g b K r (mcp S r1 r2 n r) (H.setIfInBounds (b + r2) cell) := by
    intro r
    by_cases er : r = r2
    · rw [er]
      unfold mCl
      rw [hk2]
      show (H.setIfInBounds (b + r2) cell)[b + r2]? = _
      rw [show (H.setIfInBounds (b + r2) cell)[b + r2]? = some cell by simp [Array.getElem?_setIfInBounds, hl], ← hcell, vp_cell_i]
      refine congrArg some (congrArg (arrV (g.cy 0) n2) (funext fun j => ?_))
      unfold va_cpy
      rw [hz, hn']
      by_cases hj : (j : Int) < n
      · rw [if_pos (by omega), mcp_in S r1 r2 (by omega) hj, Nat.sub_zero, Nat.zero_add]
      · rw [if_neg (by omega)]
        unfold mcp
        rw [if_neg (by omega)]
    · have e9 : mcp S r1 r2 n r = S r := by funext i; exact mcp_r S r1 n i er
      rw [e9]
      have h := hW.2.2 r
      have ha : (H.setIfInBounds (b + r2) cell)[b + r]? = H[b + r]? := oq _ (by omega)
      unfold mCl at h ⊢
      split at h <;> first | exact ⟨h.1.kept ha, h.2⟩ | exact ha.trans h | exact ⟨ha.trans h.1, h.2⟩ | trivial
  obtain ⟨t, a1, b1⟩ := k _ _ _ rfl ⟨hW.1, okS_cp hW.2.1, hcl⟩ ⟨by simp; exact hS.1, fun q g1 g2 => by
      rw [oq q (fun e => g2 (by rw [e]; exact hA))]
      exact hS.2.1 q g1 g2, fun q hq => by
      rcases List.mem_append.mp hq with h | h
      · exact hS.2.2 q h
      · obtain ⟨z, -, hz⟩ := List.mem_map.mp h
        rw [← hz]
        exact hA⟩ _ hheap X'
  exact ⟨t, step t a1, b1⟩
/-! tokens -/
theorem m_lo (hK : mKg g s) (hW : mW g b K S H) : ∀ q, mA b K s.heap.size q → mLo g q := mA_lo hW.1 hK.2.1
theorem m_token (X : mX p s m args c cc own) (hK : mKg g s) (hW : mW g b K S H) (hS : va_S (mA b K s.heap.size) s.heap H locs) {index : Nat} {nmT : String} (t : Nat) (ht : t < 36) (hn : tkN.getD t "" = nmT) (hl : Cond.fieldLink own index "MoonWash$Token" nmT "LMoonWash$Token;" ∈ wsG) (d : decode cc pc = .ok (.getstatic index, 3)) (k : W p l e R s m args below meth c H locs cells slots Q (F0 m (pc + 3) ls (.ref (g.ad t) :: rest))) : W p l e R s m args below meth c H locs cells slots Q (F0 m pc ls rest) := by
  subst hn
  exact va_gets X.1 X.2.1 ((hK.2.2.1.2.2.1.1 t ht).1.narrow (m_lo hK hW)) hS X.2.2.1 (X.2.2.2 _ hl) (fun _ h => h) d k
theorem m_tokens (X : mX p s m args c cc own) (hK : mKg g s) (hW : mW g b K S H) (hS : va_S (mA b K s.heap.size) s.heap H locs) {index : Nat} (hl : Cond.fieldLink own index "MoonWash$Token" "ALL" "[LMoonWash$Token;" ∈ wsG) (d : decode cc pc = .ok (.getstatic index, 3)) (k : W p l e R s m args below meth c H locs cells slots Q (F0 m (pc + 3) ls (.ref g.al :: rest))) : W p l e R s m args below meth c H locs cells slots Q (F0 m pc ls rest) :=
  va_gets X.1 X.2.1 (hK.2.2.1.2.2.2.2.1.narrow (m_lo hK hW)) hS X.2.2.1 (X.2.2.2 _ hl) (fun _ h => h) d k
theorem m_all (hK : mKg g s) (hW : mW g b K S H) (hS : va_S (mA b K s.heap.size) s.heap H locs) : ∃ cell : Cell, H[g.al]? = some cell ∧ s.isArrayOf cell (.object "MoonWash$Token") ∧ cell.vm ≠ .unknown ∧ 36 ≤ cell.slots.size ∧ cell.slots.size.toInt32 = Int32.ofNat 36 ∧ ∀ j : Nat, j < 36 → cell.slots[j]? = some (.ref (g.ad j)) := by
  obtain ⟨cell, h1, h2, h3, h4, h5, h6, -⟩ := (hK.2.2.1.2.2.2.2.2.1.narrow (m_lo hK hW)).kept hS.2.1
  exact ⟨cell, h1, h2, h3, h4, h5, h6⟩
theorem m_alenT (X : mX p s m args c cc own) (hK : mKg g s) (hW : mW g b K S H) (hS : va_S (mA b K s.heap.size) s.heap H locs) (d : decode cc pc = .ok (.arraylength, 1)) (k : W p l e R s m args below meth c H locs cells slots Q (F0 m (pc + 1) ls (.int (mI 36) :: rest))) : W p l e R s m args below meth c H locs cells slots Q (F0 m pc ls (.ref g.al :: rest)) := by
  obtain ⟨cell, h1, h2, h3, h4, h5, h6⟩ := m_all hK hW hS
  exact W.alen X.1 X.2.1 h1 h2 h5 rfl rfl d k
theorem m_aaldT (X : mX p s m args c cc own) (hK : mKg g s) (hW : mW g b K S H) (hS : va_S (mA b K s.heap.size) s.heap H locs) {i : Int} (hi : okI i) (h0 : 0 ≤ i) (h1 : i < 36) (d : decode cc pc = .ok (.aaload, 1)) (k : ∀ t : Nat, (t : Int) = i → t < 36 → W p l e R s m args below meth c H locs cells slots Q (F0 m (pc + 1) ls (.ref (g.ad t) :: rest))) : W p l e R s m args below meth c H locs cells slots Q (F0 m pc ls (.int (mI i) :: .ref g.al :: rest)) := by
  obtain ⟨cell, e1, e2, e3, e4, e5, e6⟩ := m_all hK hW hS
  have hni := mI_not (n := 36) hi h0 (by omega)
  refine W.aald X.1 X.2.1 e1 e2 rfl e3 (fun q => hni (q.imp id fun z => Nat.le_trans e4 z)) (v := .ref (g.ad i.toNat)) ?_ rfl rfl d (k _ (by omega) (by omega))
  rw [mI_cl hi]
  exact e6 _ (by omega)
theorem m_tobj (hK : mKg g s) (hW : mW g b K S H) (hS : va_S (mA b K s.heap.size) s.heap H locs) {t : Nat} (ht : t < 36) : ∃ cell : Cell, H[g.ad t]? = some cell ∧ cell.vm.isStatics = false ∧ s.vm.findClass "MoonWash$Token" = some cell.cls := by
  obtain ⟨cell, h1, h2, h3, -⟩ := ((hK.2.2.1.2.2.1.1 t ht).2.1.narrow (m_lo hK hW)).kept hS.2.1
  exact ⟨cell, h1, h2, h3⟩
theorem m_aastT (X : mX p s m args c cc own) (hK : mKg g s) (hW : mW g b K S H) (hS : va_S (mA b K s.heap.size) s.heap H locs) {r n t : Nat} (hk : K r = (5, n, 0)) (ht : t < 36) {i : Int} (hi : okI i) (h0 : 0 ≤ i) (h1 : i < n) (d : decode cc pc = .ok (.aastore, 1)) (k : ∀ (S1 : mSt) (H1 : Heap) (locs1 : List Loc), S1 = mup S r i (t : Int) → mW g b K S1 H1 → va_S (mA b K s.heap.size) s.heap H1 locs1 → W p l e R s m args below meth c H1 locs1 cells slots Q (F0 m (pc + 1) ls rest)) : W p l e R s m args below meth c H locs cells slots Q (F0 m pc ls (.ref (g.ad t) :: .int (mI i) :: .ref (b + r) :: rest)) := by
  have hc := mW_cl hW hk
  obtain ⟨cv, g1, g2, g3⟩ := m_tobj hK hW hS ht
  obtain ⟨kA, comp, k1, k2, k3, -⟩ := (hK.1.2 4 _ rfl).2
  have hcls := (hK.1.1 6 _ rfl).2
  have hcomp : comp = cv.cls := Option.some.inj (k3.symm.trans g3)
  have hcv : cv.cls = g.D.1 6 := Option.some.inj (g3.symm.trans hcls.1)
  subst hcomp
  obtain ⟨kC, hkC, -⟩ := hcls.2
  rw [← hcv] at hkC
  have hni := mI_not (n := n) hi h0 h1
  have has : s.vm.assignable cv.cls cv.cls = true := by rw [hcv]; exact va_assign hcls
  refine W.aast X.1 X.2.1 hc.1 (fun q h => by cases h) (fun h => by cases h) k1 k2 rfl hkC ⟨fun q => hni (Or.inl q), by show _ < (arrV _ _ _).slots.size; rw [arrV_size]; exact Nat.not_le.mp fun q => hni (Or.inr q)⟩ g1 (fun q h => by rw [h] at g2; cases g2) hkC has rfl rfl d (fun H1 e1 e2 e3 => k _ H1 _ rfl ⟨hW.1, okS_up hW.2.1 (by omega), mCl_up hW.2.2 ?_ e3⟩ (hS.put e2 e3 (mA_put (t := 5) (by rw [hk]) (by decide))))
  unfold mCl
  rw [hk]
  refine ⟨e1.trans (congrArg some ?_), fun j hj => ?_⟩
  · have h9 := arr_up (S := S) (cI := g.cy 4) (n := n) (r := r) (v := (t : Int)) (mk := fun x => .ref (g.ad x.toNat)) hi h0
    exact h9
  · rw [mup_at]
    split
    · omega
    · exact hc.2 j hj
theorem m_tterm (X : mX p s m args c cc own) (hK : mKg g s) (hW : mW g b K S H) (hS : va_S (mA b K s.heap.size) s.heap H locs) {index t : Nat} (ht : t < 36) (hl : Cond.fieldLink own index "MoonWash$Token" "term" "I" ∈ wsG) (d : decode cc pc = .ok (.getfield index, 3)) (k : W p l e R s m args below meth c H locs cells slots Q (F0 m (pc + 3) ls (.int (mI (tkV t)) :: rest))) : W p l e R s m args below meth c H locs cells slots Q (F0 m pc ls (.ref (g.ad t) :: rest)) :=
  va_getE X.1 X.2.1 (hK.2.2.1.2.2.1.narrow (m_lo hK hW)) ht hS X.2.2.1 (q := ("MoonWash$Token", "term", "I", tkT)) List.mem_cons_self (X.2.2.2 _ hl) (fun _ h => h) d (m_num (mI_of _).symm k)
theorem m_ttext (X : mX p s m args c cc own) (hK : mKg g s) (hW : mW g b K S H) (hS : va_S (mA b K s.heap.size) s.heap H locs) {index t : Nat} (ht : t < 36) (hl : Cond.fieldLink own index "MoonWash$Token" "text" "Ljava/lang/String;" ∈ wsG) (d : decode cc pc = .ok (.getfield index, 3)) (k : W p l e R s m args below meth c H locs cells slots Q (F0 m (pc + 3) ls (.ref (g.sa (tkS.getD t 0)) :: rest))) : W p l e R s m args below meth c H locs cells slots Q (F0 m pc ls (.ref (g.ad t) :: rest)) :=
  va_getX (v := fun k => .ref (g.sa (tkS.getD k 0))) X.1 X.2.1 (hK.2.2.1.2.2.2.1.narrow (m_lo hK hW)) ht hS X.2.2.1 (X.2.2.2 _ hl) (fun _ h => h) d k
theorem m_tinj (hK : mKg g s) {t u : Nat} (ht : t < 36) (hu : u < 36) : some (g.ad t) = some (g.ad u) ↔ t = u := ⟨fun h => hK.2.2.1.2.2.1.2 t u ht hu (Option.some.inj h), fun h => by rw [h]⟩
theorem m_acmp_ne (X : mX p s m args c cc own) (hK : mKg g s) {t u : Nat} (ht : t < 36) (hu : u < 36) {off : Int} {tgt : Nat} (d : decode cc pc = .ok (.if_acmp .ne off, 3)) (hg : (pc : Int) + off = (tgt : Int)) (kt : t ≠ u → W p l e R s m args below meth c H locs cells slots Q (F0 m tgt ls rest)) (kf : t = u → W p l e R s m args below meth c H locs cells slots Q (F0 m (pc + 3) ls rest)) : W p l e R s m args below meth c H locs cells slots Q (F0 m pc ls (.ref (g.ad u) :: .ref (g.ad t) :: rest)) :=
  lv_acmp_ne (rx := some (g.ad t)) (ry := some (g.ad u)) X.1 X.2.1 d hg (fun h => kt fun q => h ((m_tinj hK ht hu).mpr q)) (fun h => kf ((m_tinj hK ht hu).mp h))
theorem m_acmp_eq (X : mX p s m args c cc own) (hK : mKg g s) {t u : Nat} (ht : t < 36) (hu : u < 36) {off : Int} {tgt : Nat} (d : decode cc pc = .ok (.if_acmp .eq off, 3)) (hg : (pc : Int) + off = (tgt : Int)) (kt : t = u → W p l e R s m args below meth c H locs cells slots Q (F0 m tgt ls rest)) (kf : t ≠ u → W p l e R s m args below meth c H locs cells slots Q (F0 m (pc + 3) ls rest)) : W p l e R s m args below meth c H locs cells slots Q (F0 m pc ls (.ref (g.ad u) :: .ref (g.ad t) :: rest)) :=
  lv_acmp_eq (rx := some (g.ad t)) (ry := some (g.ad u)) X.1 X.2.1 d hg (fun h => kt ((m_tinj hK ht hu).mp h)) (fun h => kf fun q => h ((m_tinj hK ht hu).mpr q))
theorem m_ldcS (X : mX p s m args c cc "MoonWashModel") (hK : mKg g s) {index j : Nat} {tx : String} (hm : (index, tx, j) ∈ mRf) (d : decode cc pc = .ok (.ldc index, 2)) (k : W p l e R s m args below meth c H locs cells slots Q (F0 m (pc + 2) ls (.ref (g.sa j) :: rest))) : W p l e R s m args below meth c H locs cells slots Q (F0 m pc ls rest) := va_ldcS X.1 X.2.1 X.2.2.1 (hK.2.2.2.1 _ hm) d k
end mMore
