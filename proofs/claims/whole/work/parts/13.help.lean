/-! ===== methods with handlers; the law's row of one long ===== -/
abbrev mCH (p : Program) (l : Launch) (s : State) (m : MethodId) (args : Array Value) (meth : Method) (c : Code) (cc : ByteArray) (own : String) (nL : Nat) (ret : Option FieldType) (g : mG) (hh : List (Nat × Nat × Nat × Nat)) : Prop := mX p s m args c cc own ∧ mKg g s ∧ c.maxLocals = nL ∧ meth.sig.returnType = ret ∧ meth.locks = false ∧ c.exceptionTable.toList = tableOf hh ∧ l.stackTraces = false
theorem m_ofH {l : Launch} {y : MethodName} {cc : ByteArray} {maxL : Nat} {ret : Option FieldType} {hh : List (Nat × Nat × Nat × Nat)} {rm : Room} {av : List Value} {g : mG} {b : Nat} {K : Nat → mK} {S : mSt} {Qf : (Nat → Prop) → Array Value → State → Outcome → State → Prop} {Xf : (Nat → Prop) → String → State → State → Prop} {mc ms : Nat} (hl0 : l.stackTraces = false) (hy : plainName y.cls = true) (hlen : (lg_sl av).length ≤ maxL)
    (body : ∀ (p : Program) (e : Env) (s : State) (m : MethodId) (args : Array Value) (below : List Frame) (meth : Method) (c : Code) (ls : Array Slot), mCH p l s m args meth c cc y.cls maxL ret g hh → mW g b K S s.heap → lv_has ls maxL (lv_args 0 av) →
      W p l e rm s m args below meth c s.heap [] 0 0 (vx_MQ below (Qf (mA b K s.heap.size)) (Xf (mA b K s.heap.size)) args s mc ms (mA b K s.heap.size)) (F0 m 0 ls [])) (sz : Nat) :
    vx_Met l y (Cond.codeWith y cc maxL ret hh :: wsG) rm (mPc g b K S av sz) (Qf (mA b K sz)) (Xf (mA b K sz)) mc ms (mA b K sz) := by
  refine vx_ofWH (cc := cc) (maxL := maxL) (ret := ret) (hh := hh) hy rfl ?_
  intro p e s m args below meth c s₁ B hml hv
  obtain ⟨rfl, hsz, hW, hK⟩ := hv
  subst hsz
  have hts := atoms_spec (ws := Cond.codeWith y cc maxL ret hh :: wsG) B.pre
  have hT := vx_table (x := y) B (hts _ List.mem_cons_self)
  have hl := lv_entry av hlen
  rw [lg_entry_eq]
  exact body p e s m _ below meth c _ ⟨⟨B.exec, B.bytes, findClass_of_methodNamed B.named, fun w hw => hts w (List.mem_cons_of_mem _ hw)⟩, hK, hml, B.returns, B.notSynchronized, hT, hl0⟩ hW hl
theorem mI_long {x : Int} (h : okI x) : (mI x).toInt64 = Int64.ofInt x := by
  apply Int64.toInt_inj.mp
  rw [Int32.toInt_toInt64, mI_ok h, Int64.toInt_ofInt_of_le (by unfold okI at h; omega) (by unfold okI at h; omega)]
section mHelp
variable {p : Program} {l : Launch} {e : Env} {R : Room} {s : State} {m : MethodId} {args : Array Value} {below : List Frame} {meth : Method} {c : Code} {H : Heap} {locs : List Loc} {cells slots : Nat} {Q : State → Prop}
variable {cc : ByteArray} {pc nL : Nat} {ret : Option FieldType} {ls : Array Slot} {rest : List Value} {own : String} {g : mG} {b : Nat} {K : Nat → mK} {S : mSt} {hh : List (Nat × Nat × Nat × Nat)}
theorem m_i2l (X : mX p s m args c cc own) {x : Int} (hx : okI x) (d : decode cc pc = .ok (.i2l, 1)) (k : W p l e R s m args below meth c H locs cells slots Q (F0 m (pc + 1) ls (.long (Int64.ofInt x) :: rest))) : W p l e R s m args below meth c H locs cells slots Q (F0 m pc ls (.int (mI x) :: rest)) := lv_i2l X.1 X.2.1 d (mI_long hx) k
theorem m_lconst (X : mX p s m args c cc own) {n : Fin 2} {x : Int} (hv : Int64.ofNat (n : Nat) = Int64.ofInt x) (d : decode cc pc = .ok (.lconst n, 1)) (k : W p l e R s m args below meth c H locs cells slots Q (F0 m (pc + 1) ls (.long (Int64.ofInt x) :: rest))) : W p l e R s m args below meth c H locs cells slots Q (F0 m pc ls rest) := lv_lconst X.1 X.2.1 d hv k
theorem m_last (X : mX p s m args c cc own) (hK : mKg g s) (hW : mW g b K S H) (hS : va_S (mA b K s.heap.size) s.heap H locs) {r n : Nat} (hk : K r = (6, n, 0)) {i v : Int} (hi : okI i) (hv : okI v) (h0 : 0 ≤ i) (h1 : i < n) (d : decode cc pc = .ok (.lastore, 1)) (k : ∀ (S1 : mSt) (H1 : Heap) (locs1 : List Loc), S1 = mup S r i v → mW g b K S1 H1 → va_S (mA b K s.heap.size) s.heap H1 locs1 → W p l e R s m args below meth c H1 locs1 cells slots Q (F0 m (pc + 1) ls rest)) : W p l e R s m args below meth c H locs cells slots Q (F0 m pc ls (.long (Int64.ofInt v) :: .int (mI i) :: .ref (b + r) :: rest)) := by
  have hc := mW_cl hW hk
  refine W.last X.1 X.2.1 hc ((hK.1.2 5 _ rfl).1 n _) (arrV_none _ _ _) (by rw [arrV_size]; exact mI_not hi h0 h1) rfl rfl d (fun H1 e1 e2 e3 => k _ H1 _ rfl ⟨hW.1, okS_up hW.2.1 hv, mCl_up hW.2.2 ?_ e3⟩ (hS.put e2 e3 (mA_put (t := 6) (by rw [hk]) (by decide))))
  unfold mCl
  rw [hk]
  exact e1.trans (congrArg some (arr_up (mk := fun x => .long (Int64.ofInt x)) hi h0))
/-- caught: the handler at place i of the table -/
theorem m_catch (C : mCH p l s m args meth c cc own nL ret g hh) {E : String} {ce : Cell} {q9 : Addr} (i : Nat) {fr to hpc ct : Nat} (hi : hh[i]? = some (fr, to, hpc, ct)) (hpass : ∀ z ∈ tableOf (hh.take i), z.catchType ≠ 0 ∧ ∃ nm : String, Cond.classLink own z.catchType nm ∈ wsG ∧ (E, nm) ∈ mNcL) (hx : covers ⟨fr, to, hpc, ct⟩ pc = true) (h0 : ct ≠ 0) (hl : Cond.classLink own ct E ∈ wsG) (hcast : Cond.castable E E ∈ wsN) (h1 : H[q9]? = some ce) (h2 : ce.vm = .none) (h3 : s.vm.findClass E = some ce.cls)
    (k : W p l e R s m args below meth c H locs cells slots Q (F0 m hpc ls [.ref q9])) : vx_W p l e R s m args below meth c H locs cells slots Q (F0 m pc ls rest) q9 := by
  have hsplit : hh = hh.take i ++ (fr, to, hpc, ct) :: hh.drop (i + 1) := by
    obtain ⟨hlt, he⟩ := List.getElem?_eq_some_iff.mp hi
    conv => lhs; rw [← List.take_append_drop i hh]
    rw [List.drop_eq_getElem_cons hlt, he]
  refine vx_catch C.1.2.2.1 (tableOf (hh.take i)) ⟨fr, to, hpc, ct⟩ (tableOf (hh.drop (i + 1))) ?_ ?_ hx h0 (C.1.2.2.2 _ hl) (va_Nw.use rfl (C.2.1.2.2.2.2.1 _ hcast)) h1 h2 h3 k
  · rw [C.2.2.2.2.2.1]
    conv => lhs; rw [hsplit]
    simp [tableOf]
  · intro z hz
    obtain ⟨a1, nm, a2, a3⟩ := hpass z hz
    exact Or.inr ⟨a1, nm, C.1.2.2.2 _ a2, C.2.1.2.2.2.2.2 _ a3⟩
end mHelp
