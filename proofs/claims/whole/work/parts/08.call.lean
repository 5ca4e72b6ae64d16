/-! ===== contracts over the world of a part; ends; calls ===== -/
abbrev mPc (g : mG) (b : Nat) (K : Nat → mK) (S : mSt) (av : List Value) (sz : Nat) : Array Value → State → Prop := va_Pc av (fun U => U.heap.size = sz ∧ mW g b K S U.heap ∧ mKg g U)
abbrev mQi (g : mG) (b : Nat) (K : Nat → mK) (Q : mSt → Int → Prop) (A : Nat → Prop) : Array Value → State → Outcome → State → Prop := va_Qi (fun (r : Int32) (u : mSt × Int) => r = mI u.2 ∧ okI u.2 ∧ Q u.1 u.2) (fun u t => mW g b K u.1 t.heap) A
abbrev mQv (g : mG) (b : Nat) (K : Nat → mK) (Q : mSt → Prop) (A : Nat → Prop) : Array Value → State → Outcome → State → Prop := va_Qv (fun u : mSt => Q u) (fun u t => mW g b K u t.heap) A
abbrev mQt (g : mG) (b : Nat) (K : Nat → mK) (Q : mSt → Nat → Prop) (A : Nat → Prop) : Array Value → State → Outcome → State → Prop := va_Qr (fun u : mSt × Nat => u.2 < 36 ∧ Q u.1 u.2) (fun u a t => a = g.ad u.2 ∧ mW g b K u.1 t.heap) A
abbrev mEx (g : mG) (b : Nat) (K : Nat → mK) (E : String → mSt → Prop) (A : Nat → Prop) : String → State → State → Prop := vx_X (fun _ : mSt => True) (fun En u t => E En u ∧ mW g b K u t.heap) A
theorem mPc_blind {g : mG} {b : Nat} {K : Nat → mK} {S : mSt} {av : List Value} {sz : Nat} : FrameBlind (mPc g b K S av sz) := fun _ _ _ _ q => ⟨q.1, q.2.1, q.2.2.1, q.2.2.2.call⟩
theorem mCl_kept {g : mG} {b r : Nat} {K : Nat → mK} {f : Int → Int} {H H1 : Heap} (h : mCl g b K r f H) (hq : ∀ q : Nat, q < H.size → H1[q]? = H[q]?) : mCl g b K r f H1 := by
  have hk : ∀ {x : Cell}, H[b + r]? = some x → H1[b + r]? = H[b + r]? := fun hx => hq _ (Array.getElem?_eq_some_iff.mp hx).1
  unfold mCl at h ⊢
  split at h <;> first | exact (hk h).trans h | exact ⟨(hk h.1).trans h.1, h.2⟩ | (obtain ⟨⟨cell, q1, q2⟩, h2⟩ := h; exact ⟨⟨cell, (hk q1).trans q1, q2⟩, h2⟩) | trivial
theorem mW.kept {g : mG} {b : Nat} {K : Nat → mK} {S : mSt} {H H1 : Heap} (h : mW g b K S H) (hq : ∀ q : Nat, q < H.size → H1[q]? = H[q]?) : mW g b K S H1 := ⟨h.1, h.2.1, fun r => mCl_kept (h.2.2 r) hq⟩
/-- a method's proof begins -/
theorem m_of {l : Launch} {y : MethodName} {cc : ByteArray} {maxL : Nat} {ret : Option FieldType} {rm : Room} {av : List Value} {g : mG} {b : Nat} {K : Nat → mK} {S : mSt} {Qf : (Nat → Prop) → Array Value → State → Outcome → State → Prop} {Xf : (Nat → Prop) → String → State → State → Prop} {mc ms : Nat} (hy : plainName y.cls = true) (hlen : (lg_sl av).length ≤ maxL)
    (body : ∀ (p : Program) (e : Env) (s : State) (m : MethodId) (args : Array Value) (below : List Frame) (meth : Method) (c : Code) (ls : Array Slot), mX p s m args c cc y.cls → mKg g s → c.maxLocals = maxL → meth.sig.returnType = ret → meth.locks = false → (∀ x ∈ c.exceptionTable.toList, False) → meth.name = y.name → mW g b K S s.heap → lv_has ls maxL (lv_args 0 av) →
      W p l e rm s m args below meth c s.heap [] 0 0 (vx_MQ below (Qf (mA b K s.heap.size)) (Xf (mA b K s.heap.size)) args s mc ms (mA b K s.heap.size)) (F0 m 0 ls [])) (sz : Nat) :
    vx_Met l y (Cond.code y cc maxL ret :: wsG) rm (mPc g b K S av sz) (Qf (mA b K sz)) (Xf (mA b K sz)) mc ms (mA b K sz) := by
  refine vx_ofW (cc := cc) (maxL := maxL) (ret := ret) hy rfl ?_
  intro p e s m args below meth c s₁ B hml ht hv
  obtain ⟨rfl, hsz, hW, hK⟩ := hv
  subst hsz
  have hts := atoms_spec (ws := Cond.code y cc maxL ret :: wsG) B.pre
  have hl := lv_entry av hlen
  rw [lg_entry_eq]
  exact body p e s m _ below meth c _ ⟨B.exec, B.bytes, findClass_of_methodNamed B.named, fun w hw => hts w (List.mem_cons_of_mem _ hw)⟩ hK hml B.returns B.notSynchronized ht (name_of_methodNamed B.named B.method).1 hW hl
section mEnds
variable {p : Program} {l : Launch} {e : Env} {R : Room} {s : State} {m : MethodId} {args : Array Value} {below : List Frame} {meth : Method} {c : Code} {H : Heap} {locs : List Loc} {cells slots mc ms : Nat} {XC : String → State → State → Prop}
variable {cc : ByteArray} {pc : Nat} {ls : Array Slot} {rest : List Value} {own : String} {g : mG} {b : Nat} {K : Nat → mK} {S : mSt} {A : Nat → Prop}
theorem m_iret (X : mX p s m args c cc own) (hr : meth.sig.returnType = some .int) (hlk : meth.locks = false) (hW : mW g b K S H) (hS : va_S A s.heap H locs) {Q : mSt → Int → Prop} {v : Int} (hv : okI v) (hq : Q S v) (hc : cells ≤ mc) (hs : slots ≤ ms) (d : decode cc pc = .ok (.ireturn, 1)) : W p l e R s m args below meth c H locs cells slots (vx_MQ below (mQi g b K Q A) XC args s mc ms A) (F0 m pc ls [.int (mI v)]) :=
  W.widen hc hs (vx_ret (W.iret X.1 X.2.1 hr (fun t ht hWm => ⟨⟨mI v, (S, v), rfl, ⟨rfl, hv, hq⟩, (show mW g b K S t.heap by rw [ht]; exact hW)⟩, hS.F ht⟩) hS.2.2 d hlk))
theorem m_zret (X : mX p s m args c cc own) (hr : meth.sig.returnType = some .boolean) (hlk : meth.locks = false) (hW : mW g b K S H) (hS : va_S A s.heap H locs) {Q : mSt → Int → Prop} {v : Int} (hv : v = 0 ∨ v = 1) (hq : Q S v) (hc : cells ≤ mc) (hs : slots ≤ ms) (d : decode cc pc = .ok (.ireturn, 1)) : W p l e R s m args below meth c H locs cells slots (vx_MQ below (mQi g b K Q A) XC args s mc ms A) (F0 m pc ls [.int (mI v)]) :=
  have hv' : okI v := by rcases hv with rfl | rfl <;> decide
  W.widen hc hs (vx_ret (W.zret X.1 X.2.1 hr (by rcases hv with rfl | rfl <;> decide +kernel) (fun t ht hWm => ⟨⟨mI v, (S, v), rfl, ⟨rfl, hv', hq⟩, (show mW g b K S t.heap by rw [ht]; exact hW)⟩, hS.F ht⟩) hS.2.2 d hlk))
theorem m_vret (X : mX p s m args c cc own) (hr : meth.sig.returnType = none) (hlk : meth.locks = false) (hW : mW g b K S H) (hS : va_S A s.heap H locs) {Q : mSt → Prop} (hq : Q S) (hc : cells ≤ mc) (hs : slots ≤ ms) (d : decode cc pc = .ok (.return_, 1)) : W p l e R s m args below meth c H locs cells slots (vx_MQ below (mQv g b K Q A) XC args s mc ms A) (F0 m pc ls []) :=
  W.widen hc hs (vx_ret (W.vret X.1 X.2.1 hr (fun t ht hWm => ⟨⟨S, rfl, hq, (show mW g b K S t.heap by rw [ht]; exact hW)⟩, hS.F ht⟩) hS.2.2 d hlk))
theorem m_aret (X : mX p s m args c cc own) {rt : FieldType} (hr : meth.sig.returnType = some rt) (hrt : ∃ n, rt = .object n) (hlk : meth.locks = false) (hW : mW g b K S H) (hS : va_S A s.heap H locs) {Q : mSt → Nat → Prop} {t : Nat} (ht : t < 36) (hq : Q S t) (hc : cells ≤ mc) (hs : slots ≤ ms) (d : decode cc pc = .ok (.areturn, 1)) : W p l e R s m args below meth c H locs cells slots (vx_MQ below (mQt g b K Q A) XC args s mc ms A) (F0 m pc ls [.ref (g.ad t)]) :=
  W.widen hc hs (vx_ret (W.aret X.1 X.2.1 hr (Or.inl hrt) (Or.inr ⟨_, rfl⟩) (fun u hu hWm => ⟨⟨(S, t), g.ad t, rfl, ⟨ht, hq⟩, rfl, (show mW g b K S u.heap by rw [hu]; exact hW)⟩, hS.F hu⟩) hS.2.2 d hlk))
theorem m_hat {own X : String} {ic : Nat} {names : List String} (h : (vx_at0 own ic X names).all (fun w => decide (w ∈ wsG) || decide (w ∈ wsN)) = true) (hG : ∀ w ∈ wsG, w.before args s = true) (hN : ∀ w ∈ wsN, va_Nw w s) : ∀ w ∈ vx_at0 own ic X names, w.before args s = true := by
  intro w hw
  have h1 := List.all_eq_true.mp h w hw
  rcases (Bool.or_eq_true _ _).mp h1 with h2 | h2
  · exact hG w (of_decide_eq_true h2)
  · have h3 := of_decide_eq_true h2
    have hn : isN w = true := (List.mem_filter.mp h3).2
    have h4 := hN w h3
    cases w <;> first | exact va_Nw.use rfl h4 | (simp [isN] at hn)
theorem m_throw (X : mX p s m args c cc own) (hl : l.stackTraces = false) (hK : mKg g s) (hW : mW g b K S H) (hS : va_S (mA b K s.heap.size) s.heap H locs) {cls : String} {names : List String} {ik ic : Nat} {Qc : Array Value → State → Outcome → State → Prop} {E : String → mSt → Prop} (hcls : Bundle.fit cls = true) (hnames : ∀ n ∈ names, Bundle.fit n = true) (hk : Cond.classLink own ik cls ∈ wsG) (hi : Cond.initialized cls ∈ wsG)
    (hat : (vx_at0 own ic cls names).all (fun w => decide (w ∈ wsG) || decide (w ∈ wsN)) = true) (hgood : (Cond.classLink own ik cls :: Cond.initialized cls :: vx_at0 own ic cls names).all vx_ot = true) (hsize : ls.size = c.maxLocals)
    (d0 : decode cc pc = .ok (.new ik, 3)) (d3 : decode cc (pc + 3) = .ok (.dup, 1)) (d4 : decode cc (pc + 4) = .ok (.invokespecial ic, 3)) (d7 : decode cc (pc + 7) = .ok (.athrow, 1)) (hout : ∀ x ∈ c.exceptionTable.toList, False) (hlk : meth.locks = false)
    (hRf : names.length + 3 < R.frames) (hRl : (rest.map fun v => v.category).sum + (13 * (names.length + 1) + 42) ≤ R.locals) (hRc : cells + 1 ≤ R.cells) (hRs : slots + 6 ≤ R.slots) (hq : E cls S) (hc : cells + 1 ≤ mc) (hs : slots + 6 ≤ ms) :
    W p l e R s m args below meth c H locs cells slots (vx_MQ below Qc (mEx g b K E (mA b K s.heap.size)) args s mc ms (mA b K s.heap.size)) (F0 m pc ls rest) := by
  have hlo := mA_lo (sz := s.heap.size) (K := K) hW.1 hK.2.1
  refine vx_throw0 X.1 X.2.1 hl X.2.2.1 hcls hnames (X.2.2.2 _ hk) (X.2.2.2 _ hi) (m_hat hat X.2.2.2 hK.2.2.2.2.1) (List.all_eq_true.mp hgood) (hK.2.2.1.1.narrow hlo) (hK.2.2.1.2.1.narrow hlo) hS hsize d0 d3 d4 d7 (fun x hx => (hout x hx).elim) hRf hRl hRc hRs hlk (fun t _ h1 h2 => ?_) hS.2.2 hc hs
  exact ⟨S, trivial, ⟨hq, hW.kept h2⟩, Nat.le_trans hS.1 h1, fun q h3 h4 => (h2 q (Nat.lt_of_lt_of_le h3 hS.1)).trans (hS.2.1 q h3 h4)⟩
end mEnds
