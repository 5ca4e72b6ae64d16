set_option maxHeartbeats 4000000
/-! ===== BEGIN a constructor that throws (launches without stack traces) ===== -/
section VXIA
variable {p : Program} {l : Launch} {e : Env} {R : Room} {s : State} {m : MethodId} {args : Array Value} {below : List Frame} {meth : Method} {c : Code} {T : State} {locs : List Loc} {cells slots : Nat}
theorem vx_callI (X : Stand p l e R s m args below meth c T locs cells slots) (hexec : p.tables.exec = Jvm.exec) {own : String} {index : Nat} {y : MethodName} {bytes : ByteArray} {maxL : Nat}
    (hown : s.vm.findClass own = some m.cls) (hy1 : y.name = "<init>") (hlink : (Cond.methodLink own index y).before args s = true) (hinst : (Cond.instanceMethod y).before args s = true)
    (hcode : (Cond.code y bytes maxL none).before args s = true) (hy : y.cls ≠ "java/lang/invoke/MethodHandle" ∧ y.cls ≠ "java/lang/invoke/VarHandle")
    {W9 : Nat} {Pre : Pt → Array Value → Prop} {Post : Pt → Array Value → Option Value → Pt → Prop} {PostX : Pt → Array Value → Addr → Pt → Prop} (hK : vx_Back l R p e below s args y 3 W9 Pre Post PostX)
    {g : JFrame} (hg : g.method = m) (hsize : g.locals.size = c.maxLocals) {a : Addr} {argsL rest : List Value} (hlen : ∀ sig, parseMethodDescriptor y.desc = some sig → argsL.length = sig.parameters.length)
    (hstack : g.stack = argsL.reverse ++ .ref a :: rest) (hW : 2 * g.monitorRoom + (rest.map fun v => v.category).sum ≤ W9) (hdg : decode c.code g.pc = .ok (.invokespecial index, 3))
    (hpre : ∀ vm₁, s.WarmedH vm₁ → Pre ⟨T.setVm vm₁, locs, cells, slots⟩ (Value.ref a :: argsL).toArray) :
    (∃ (v : Option Value) (vm₁ : Vm) (B : Pt), s.WarmedH vm₁ ∧ Stand p l e R s m args below meth c B.U B.locs B.cells B.slots ∧ Post ⟨T.setVm vm₁, locs, cells, slots⟩ (Value.ref a :: argsL).toArray v B ∧
      ∀ target, Steps p.tables e below (B.U.setTop { g with pc := g.pc + 3, stack := v.toList ++ rest }) target → Steps p.tables e below (T.setTop g) target) ∨
    (∃ (q : Addr) (vm₁ : Vm) (B : Pt), s.WarmedH vm₁ ∧ Stand p l e R s m args below meth c B.U B.locs B.cells B.slots ∧ PostX ⟨T.setVm vm₁, locs, cells, slots⟩ (Value.ref a :: argsL).toArray q B ∧
      Steps p.tables e below (T.setTop g) ((B.U.setTop { g with stack := rest }).pushFrame (.throwing q))) := by
  subst hg
  have hpl : e.platform.magicAccessors = ({} : Platform).magicAccessors := by rw [X.admits.platform]
  obtain ⟨mk, methM, cM, kP, vm₁, hnamed, hmethM, hcodeM, -, hlocalsM, -, hkP, -, hW₁, hstep₁⟩ := Steps.initColdArgs (e := e) X.here hexec X.warmed hpl hown hy1 hy hlink hinst hcode (f := g) rfl hlen hstack hdg
  have X₁ := X.noted hW₁
  rcases hK g.method meth c ⟨T.setVm vm₁, locs, cells, slots⟩ { g with stack := rest } (.invokespecial index) mk (Value.ref a :: argsL).toArray X₁ rfl hsize hdg hW (X₁.named hnamed) (hpre vm₁ X₁.warmed) with ⟨v, B, X', hpost, hsteps⟩ | ⟨q, B, X', hpost, hsteps⟩
  · exact Or.inl ⟨v, vm₁, B, X₁.warmed, X', hpost, fun target h => hstep₁ _ fun acts => by rw [doInvoke_state]; exact hsteps.trans h⟩
  · exact Or.inr ⟨q, vm₁, B, X₁.warmed, X', hpost, hstep₁ _ fun acts => by rw [doInvoke_state]; exact hsteps⟩
end VXIA
section VXIB
variable {p : Program} {l : Launch} {e : Env} {R : Room} {s : State} {m : MethodId} {args : Array Value} {below : List Frame} {meth : Method} {c : Code} {H : Heap} {locs : List Loc} {cells slots : Nat}
variable {y : MethodName} {bytes cc : ByteArray} {maxL nL mc ms n index : Nat} {ret : Option FieldType} {ws : List Cond} {rm : Room} {Pc : Array Value → State → Prop} {Qc : Array Value → State → Outcome → State → Prop} {XC : String → State → State → Prop} {free : Addr → Prop} {Ts : List Cond} {own C : String} {b : Addr} {As rest : List Value} {g : JFrame}
theorem vx_runI (S : CallFix p m c cc nL s args Ts own) (hM : vx_Met l y ws rm Pc Qc XC mc ms free) (cw : CallB R s args own index y bytes maxL none ws rm mc ms n ∧ y.name = "<init>" ∧ (Cond.instanceMethod y).before args s = true) (hp : PreS s H Pc (.ref b :: As))
    (hg : g.method = m) (hn : As.length = n) (hsize : g.locals.size = nL) (hstack : g.stack = As.reverse ++ .ref b :: rest) (hW : 2 * g.monitorRoom + (rest.map fun v => v.category).sum ≤ 8) (hdg : decode cc g.pc = .ok (.invokespecial index, 3)) (hf : cells + mc ≤ R.cells ∧ slots + ms ≤ R.slots) :
    vx_Run p l e R s m args below meth c H locs cells slots mc ms g rest (Qc (Value.ref b :: As).toArray) XC free := by
  have hK : vx_Back l R p e below s args y 3 8 (PreOf R mc ms Pc) (PostOf Qc mc ms free) (vx_Post XC mc ms free) := vx_callBack cw.1 hM hp.1
  obtain ⟨⟨-, -, -, -, -, -, hcode, -, hy, hlen, hl⟩, hy1, hin⟩ := cw
  obtain ⟨hx, hb, hml, ho, -⟩ := S
  have hPc := hp.2
  intro T hT X
  rcases vx_callI X hx (bytes := bytes) (maxL := maxL) ho hy1 hl hin hcode hy hK hg (hsize.trans hml.symm) (a := b) (argsL := As) (rest := rest) (fun sig h => hn.trans (hlen sig h)) hstack hW (by rw [hb]; exact hdg)
    (fun vm₁ hW₁ => ⟨hf.1, hf.2, hPc (T.setVm vm₁) hT hW₁⟩) with ⟨v, vm₁, ⟨U', l2, c2, s2⟩, hW₁, X', ⟨g', mk, t, L, e1, e2, hq, h1, hL, h2, h3⟩, st⟩ | ⟨q, vm₁, ⟨U', l2, c2, s2⟩, hW₁, X', ⟨g', mk, t, L, E, ce, e1, e2, hq, hce, hcv, hcl, h1, hL, h2, h3⟩, st⟩
  · dsimp only [Pt.U, Pt.locs, Pt.cells, Pt.slots] at X' e1 e2 h1 h2 h3 st
    subst h1; subst h2; subst h3
    exact Or.inl ⟨v, (T.setVm vm₁).calling g' mk (Value.ref b :: As).toArray, t, U', L, hT, X', hL, e1, e2, hq, st⟩
  · dsimp only [Pt.U, Pt.locs, Pt.cells, Pt.slots] at X' e1 e2 h1 h2 h3 st hcl
    subst h1; subst h2; subst h3
    exact Or.inr ⟨q, (T.setVm vm₁).calling g' mk (Value.ref b :: As).toArray, t, U', L, E, ce, hT, X', hL, e1, e2, hq, hce, hcv, vx_cls hW₁ hcl, st⟩
end VXIB
/-! ===== END ===== -/
/-! ===== BEGIN a private constructor of a nest mate that throws ===== -/
section VXIC
variable {p : Program} {l : Launch} {e : Env} {R : Room} {s : State} {m : MethodId} {args : Array Value} {below : List Frame} {meth : Method} {c : Code} {T : State} {locs : List Loc} {cells slots : Nat}
theorem vx_callIN (X : Stand p l e R s m args below meth c T locs cells slots) (hexec : p.tables.exec = Jvm.exec) {own : String} {index : Nat} {host : String} {y : MethodName} {bytes : ByteArray} {maxL : Nat}
    (hown : s.vm.findClass own = some m.cls) (hy1 : y.name = "<init>") (hlink : (Cond.methodLinkNest own index y host).before args s = true) (hinst : (Cond.instanceMethod y).before args s = true)
    (hcode : (Cond.code y bytes maxL none).before args s = true) (hy : y.cls ≠ "java/lang/invoke/MethodHandle" ∧ y.cls ≠ "java/lang/invoke/VarHandle")
    {W9 : Nat} {Pre : Pt → Array Value → Prop} {Post : Pt → Array Value → Option Value → Pt → Prop} {PostX : Pt → Array Value → Addr → Pt → Prop} (hK : vx_Back l R p e below s args y 3 W9 Pre Post PostX)
    {g : JFrame} (hg : g.method = m) (hsize : g.locals.size = c.maxLocals) {a : Addr} {argsL rest : List Value} (hlen : ∀ sig, parseMethodDescriptor y.desc = some sig → argsL.length = sig.parameters.length)
    (hstack : g.stack = argsL.reverse ++ .ref a :: rest) (hW : 2 * g.monitorRoom + (rest.map fun v => v.category).sum ≤ W9) (hdg : decode c.code g.pc = .ok (.invokespecial index, 3))
    (hpre : ∀ vm₁, s.WarmedH vm₁ → Pre ⟨T.setVm vm₁, locs, cells, slots⟩ (Value.ref a :: argsL).toArray) :
    (∃ (v : Option Value) (vm₁ : Vm) (B : Pt), s.WarmedH vm₁ ∧ Stand p l e R s m args below meth c B.U B.locs B.cells B.slots ∧ Post ⟨T.setVm vm₁, locs, cells, slots⟩ (Value.ref a :: argsL).toArray v B ∧
      ∀ target, Steps p.tables e below (B.U.setTop { g with pc := g.pc + 3, stack := v.toList ++ rest }) target → Steps p.tables e below (T.setTop g) target) ∨
    (∃ (q : Addr) (vm₁ : Vm) (B : Pt), s.WarmedH vm₁ ∧ Stand p l e R s m args below meth c B.U B.locs B.cells B.slots ∧ PostX ⟨T.setVm vm₁, locs, cells, slots⟩ (Value.ref a :: argsL).toArray q B ∧
      Steps p.tables e below (T.setTop g) ((B.U.setTop { g with stack := rest }).pushFrame (.throwing q))) := by
  subst hg
  have hpl : e.platform.magicAccessors = ({} : Platform).magicAccessors := by rw [X.admits.platform]
  obtain ⟨mk, methM, cM, kP, vm₁, hnamed, hmethM, hcodeM, -, hlocalsM, -, hkP, -, hW₁, hstep₁⟩ := Steps.initColdArgsNest (e := e) X.here hexec X.warmed hpl hown hy1 hy hlink hinst hcode (f := g) rfl hlen hstack hdg
  have X₁ := X.noted hW₁
  rcases hK g.method meth c ⟨T.setVm vm₁, locs, cells, slots⟩ { g with stack := rest } (.invokespecial index) mk (Value.ref a :: argsL).toArray X₁ rfl hsize hdg hW (X₁.named hnamed) (hpre vm₁ X₁.warmed) with ⟨v, B, X', hpost, hsteps⟩ | ⟨q, B, X', hpost, hsteps⟩
  · exact Or.inl ⟨v, vm₁, B, X₁.warmed, X', hpost, fun target h => hstep₁ _ fun acts => by rw [doInvoke_state]; exact hsteps.trans h⟩
  · exact Or.inr ⟨q, vm₁, B, X₁.warmed, X', hpost, hstep₁ _ fun acts => by rw [doInvoke_state]; exact hsteps⟩
end VXIC
section VXID
variable {p : Program} {l : Launch} {e : Env} {R : Room} {s : State} {m : MethodId} {args : Array Value} {below : List Frame} {meth : Method} {c : Code} {H : Heap} {locs : List Loc} {cells slots : Nat}
theorem vx_runIN {y : MethodName} {bytes cc : ByteArray} {maxL nL mc ms n index : Nat} {ws : List Cond} {rm : Room} {Pc : Array Value → State → Prop} {Qc : Array Value → State → Outcome → State → Prop} {XC : String → State → State → Prop} {free : Addr → Prop} {Ts : List Cond} {own host : String} {b : Addr} {As rest : List Value} {g : JFrame}
    (S : CallFix p m c cc nL s args Ts own) (hM : vx_Met l y ws rm Pc Qc XC mc ms free) (cw : va_CN R s args own index y host bytes maxL none ws rm mc ms n ∧ y.name = "<init>" ∧ (Cond.instanceMethod y).before args s = true) (hp : PreS s H Pc (.ref b :: As))
    (hg : g.method = m) (hn : As.length = n) (hsize : g.locals.size = nL) (hstack : g.stack = As.reverse ++ .ref b :: rest) (hW : 2 * g.monitorRoom + (rest.map fun v => v.category).sum ≤ 8) (hdg : decode cc g.pc = .ok (.invokespecial index, 3)) (hf : cells + mc ≤ R.cells ∧ slots + ms ≤ R.slots) :
    vx_Run p l e R s m args below meth c H locs cells slots mc ms g rest (Qc (Value.ref b :: As).toArray) XC free := by
  obtain ⟨⟨⟨hrc, hrs, hfr, hlo, hws, hcw⟩, hcode, hini, hy, hlen, hl⟩, hx1, hx2⟩ := cw
  have hK : vx_Back l R p e below s args y 3 8 (PreOf R mc ms Pc) (PostOf Qc mc ms free) (vx_Post XC mc ms free) := vx_back (bytes := bytes) (maxL := maxL) (ret := none) hM hp.1 hrc hrs hfr hlo hws hcw (fun a' U hW => word_at hW (Or.inl (by first | rfl | simp [Cond.onTables, Cond.keeps, Cond.steady])) hini)
  obtain ⟨hx, hb, hml, ho, -⟩ := S
  have hPc := hp.2
  intro T hT X
  rcases vx_callIN X hx (bytes := bytes) (maxL := maxL) ho hx1 hl hx2 hcode hy hK hg (hsize.trans hml.symm) (a := b) (argsL := As) (rest := rest) (fun sig h => hn.trans (hlen sig h)) hstack hW (by rw [hb]; exact hdg)
    (fun vm₁ hW₁ => ⟨hf.1, hf.2, hPc (T.setVm vm₁) hT hW₁⟩) with ⟨v, vm₁, ⟨U', l2, c2, s2⟩, hW₁, X', ⟨g', mk, t, L, e1, e2, hq, h1, hL, h2, h3⟩, st⟩ | ⟨q, vm₁, ⟨U', l2, c2, s2⟩, hW₁, X', ⟨g', mk, t, L, E, ce, e1, e2, hq, hce, hcv, hcl, h1, hL, h2, h3⟩, st⟩
  · dsimp only [Pt.U, Pt.locs, Pt.cells, Pt.slots] at X' e1 e2 h1 h2 h3 st
    subst h1; subst h2; subst h3
    exact Or.inl ⟨v, (T.setVm vm₁).calling g' mk (Value.ref b :: As).toArray, t, U', L, hT, X', hL, e1, e2, hq, st⟩
  · dsimp only [Pt.U, Pt.locs, Pt.cells, Pt.slots] at X' e1 e2 h1 h2 h3 st hcl
    subst h1; subst h2; subst h3
    exact Or.inr ⟨q, (T.setVm vm₁).calling g' mk (Value.ref b :: As).toArray, t, U', L, E, ce, hT, X', hL, e1, e2, hq, hce, hcv, vx_cls hW₁ hcl, st⟩
end VXID
/-! ===== END ===== -/
/-! ===== constructors: a world in the making ===== -/
def mz (S : mSt) (n : Nat) : mSt := fun r i => if r = n then 0 else S r i
theorem mz_at (S : mSt) (n : Nat) (i : Int) : mz S n n i = 0 := if_pos rfl
theorem mz_ne (S : mSt) {n r : Nat} (h : r ≠ n) : mz S n r = S r := by funext i; exact if_neg h
theorem mup_ne (S : mSt) {r r' : Nat} (i v : Int) (h : r' ≠ r) : mup S r i v r' = S r' := by funext i'; exact mup_r S i v i' h
theorem okS_z {S : mSt} {n : Nat} (h : okS S) : okS (mz S n) := fun r i => by
  unfold mz; split
  · decide
  · exact h r i
def cAr (U : State) : Prop := va_AO "MoonWash$Laundry" U ∧ va_AO "MoonWash$Token" U ∧ (Cond.arrayOver (.array .int)).before #[] U = true
theorem cAr.moved {u U : State} (hvm : u.vm.Alike U.vm) (h : cAr u) : cAr U := by
  refine ⟨h.1.moved hvm, h.2.1.moved hvm, ?_⟩
  obtain ⟨comp, c, k, h1, h2, h3, h4, h5⟩ := arrayOverA_spec (args := #[]) (first := u) (s := u) (o := none) (idx := []) (t := .int) h.2.2
  obtain ⟨k', hk', he⟩ := hvm.2.2 _ _ h3
  have hb : U.vm.bare = u.vm.bare := by first | exact hvm.bare_eq | exact hvm.bare_eq.symm
  have hi : (U.vm.classes.findIdx? fun (x : Class) => match x.kind with | .array component _ => component == comp | _ => false) = some c := by
    refine Eq.trans (va_idx_bare U.vm comp).symm ?_
    rw [hb]
    exact (va_idx_bare u.vm comp).trans h2
  have hkind : k'.kind = .array comp (.array .int) := by rw [he]; exact h4
  have f1 : U.vm.findClass (FieldType.array .int).toString = some comp := by rw [hvm.findClass]; exact h1
  have f2 : U.vm.findClass ("[" ++ (FieldType.array .int).toString) = some c := by rw [hvm.findClass]; exact h5
  unfold Cond.before Cond.holds
  simp only [Cond.value]
  rw [f1, Option.bind_some]
  refine (congrArg (fun o : Option Nat => (o.bind (fun c => (U.vm.classes[c]?).map fun (k : Class) => match k.kind with | .array _ ty => decide (ty = FieldType.array .int) && decide (U.vm.findClass ("[" ++ (FieldType.array .int).toString) = some c) | _ => false) == some true)) hi).trans ?_
  simp [hk', hkind, f2]
theorem arrV_congr {cA : ClassId} {N : Nat} {f f' : Nat → Value} (h : ∀ j, j < N → f j = f' j) : arrV cA N f = arrV cA N f' := by
  unfold arrV
  congr 1
  apply congrArg
  funext j
  exact h j.val j.isLt
/-- an object in the making: the fields of dn have their values, the other references are null -/
def gOb (g : mG) (b : Nat) (K : Nat → mK) (r ci : Nat) (dn : List Nat) (f : Int → Int) (H : Heap) : Prop :=
  t_OB (b + r) (g.D.1 ci) (nf ci) (g.D.2 ci) H (fun j => if (fk ci j).1 = 0 ∨ j ∈ dn then mvl b r (fk ci j) (f j) else .null) ∧ ∀ j, j ∈ dn → j < nf ci → (fk ci j).1 = 2 → 0 ≤ f j ∧ K (f j).toNat = (0, (fk ci j).2, 0)
theorem gOb.kept {g : mG} {b : Nat} {K : Nat → mK} {r ci : Nat} {dn : List Nat} {f : Int → Int} {H H1 : Heap} (h : gOb g b K r ci dn f H) (ha : H1[b + r]? = H[b + r]?) : gOb g b K r ci dn f H1 := ⟨h.1.kept ha, h.2⟩
def gW (g : mG) (b : Nat) (K : Nat → mK) (S0 S : mSt) (r ho n ci : Nat) (dn : List Nat) (H : Heap) : Prop :=
  g.lo ≤ b ∧ okS S ∧ H.size = b + n ∧ r < n ∧ gOb g b K r ci dn (S r) H ∧ (∀ r', r < r' → r' < n → r' ≠ ho → mCl g b K r' (S r') H) ∧ ∀ r', r' < r ∨ n ≤ r' → S r' = S0 r'
abbrev gA (b r : Nat) : Nat → Prop := fun q => b + r ≤ q
theorem gW.grow {g : mG} {b : Nat} {K : Nat → mK} {S0 S S1 : mSt} {r ho n n1 ci : Nat} {dn : List Nat} {H H1 : Heap} (h : gW g b K S0 S r ho n ci dn H) (hn : n ≤ n1) (hok : okS S1) (hz : H1.size = b + n1) (hq : ∀ q : Nat, q < b + n → H1[q]? = H[q]?) (hs : ∀ r', r' < n ∨ n1 ≤ r' → S1 r' = S r') (hnew : ∀ r', n ≤ r' → r' < n1 → r' ≠ ho → mCl g b K r' (S1 r') H1) : gW g b K S0 S1 r ho n1 ci dn H1 := by
  obtain ⟨a1, a2, a3, a4, a5, a6, a7⟩ := h
  refine ⟨a1, hok, hz, by omega, ?_, fun r' h1 h2 h3 => ?_, fun r' h1 => ?_⟩
  · rw [hs r (Or.inl a4)]; exact a5.kept (hq _ (by omega))
  · by_cases e : r' < n
    · rw [hs r' (Or.inl e)]; exact mCl_same (a6 r' h1 e h3) (hq _ (by omega))
    · exact hnew r' (by omega) h2 h3
  · rw [hs r' (by omega)]; exact a7 r' (by omega)
theorem gW.write {g : mG} {b : Nat} {K : Nat → mK} {S0 S : mSt} {r ho n ci r1 : Nat} {i v : Int} {dn : List Nat} {H H1 : Heap} (h : gW g b K S0 S r ho n ci dn H) (h1 : r < r1) (h2 : r1 < n) (hv : okI v) (hz : H1.size = H.size) (hq : ∀ q : Nat, q ≠ b + r1 → H1[q]? = H[q]?) (hnew : r1 ≠ ho → mCl g b K r1 (mup S r1 i v r1) H1) : gW g b K S0 (mup S r1 i v) r ho n ci dn H1 := by
  obtain ⟨a1, a2, a3, a4, a5, a6, a7⟩ := h
  refine ⟨a1, okS_up a2 hv, hz.trans a3, a4, ?_, fun r' b1 b2 b3 => ?_, fun r' b1 => ?_⟩
  · rw [mup_ne S i v (by omega)]; exact a5.kept (hq _ (by omega))
  · by_cases e : r' = r1
    · subst e; exact hnew b3
    · rw [mup_ne S i v e]; exact mCl_same (a6 r' b1 b2 b3) (hq _ (by omega))
  · rw [mup_ne S i v (by omega)]; exact a7 r' b1
abbrev cPc (g : mG) (b : Nat) (K : Nat → mK) (r ci : Nat) (S : mSt) : Array Value → State → Prop := va_Pc [.ref (b + r)] (fun U => U.heap.size = b + r + 1 ∧ gOb g b K r ci [] (fun _ => 0) U.heap ∧ g.lo ≤ b ∧ okS S ∧ mKg g U ∧ cAr U)
abbrev cQv (g : mG) (b : Nat) (K : Nat → mK) (r n : Nat) (S : mSt) (Q : mSt → Prop) : Array Value → State → Outcome → State → Prop := va_Qv (fun u : mSt => (∀ r', r' < r ∨ n ≤ r' → u r' = S r') ∧ Q u) (fun u t => t.heap.size = b + n ∧ okS u ∧ ∀ r', r ≤ r' → r' < n → mCl g b K r' (u r') t.heap) (gA b r)
abbrev cEx (A : Nat → Prop) : String → State → State → Prop := vx_X (fun _ : Unit => True) (fun _ _ _ => False) A
theorem cPc_blind {g : mG} {b : Nat} {K : Nat → mK} {r ci : Nat} {S : mSt} : FrameBlind (cPc g b K r ci S) := fun _ U g1 mk q => ⟨q.1, q.2.1, q.2.2.1, q.2.2.2.1, q.2.2.2.2.1, q.2.2.2.2.2.1.call, cAr.moved (u := U) (Vm.Alike.refl U.vm) q.2.2.2.2.2.2⟩
theorem q_OI : Cond.code ⟨"java/lang/Object", "<init>", "()V"⟩ object_method_1_code 1 none ∈ wsG := wsG_in 117 (by decide +kernel) rfl
theorem mGI {y : MethodName} {bytes : ByteArray} {maxL : Nat} {ret : Option FieldType} (w5 : Cond.code y bytes maxL ret ∈ wsG) : GoodIn wsG (Cond.code y bytes maxL ret :: wsG) := fun w hw => by
  have h : w ∈ wsG := (List.mem_cons.mp hw).elim (fun e => e ▸ w5) id
  exact ⟨h, wsG_good w h⟩
section cRows
variable {p : Program} {l : Launch} {e : Env} {R : Room} {s : State} {m : MethodId} {args : Array Value} {below : List Frame} {meth : Method} {c : Code} {H : Heap} {locs : List Loc} {cells slots : Nat} {Q : State → Prop}
variable {cc : ByteArray} {pc nL : Nat} {ls : Array Slot} {rest : List Value} {own : String} {g : mG} {b : Nat} {K : Nat → mK} {S0 S : mSt} {r ho n ci : Nat} {dn : List Nat} {A0 : Nat → Prop}
theorem c_obj (X : mX p s m args c cc own) (hml : c.maxLocals = nL) (hls : ls.size = nL) {index : Nat} {q : Nat} (w1 : Cond.methodLink own index ⟨"java/lang/Object", "<init>", "()V"⟩ ∈ wsG) (hR : 1 ≤ R.frames ∧ 20 ≤ R.locals) (hst : (rest.map fun v => v.category).sum ≤ 8) (d : decode cc pc = .ok (.invokespecial index, 3)) (k : W p l e R s m args below meth c H locs cells slots Q (F0 m (pc + 3) ls rest)) : W p l e R s m args below meth c H locs cells slots Q (F0 m pc ls (.ref q :: rest)) :=
  W.objInit X.1 X.2.1 X.2.2.1 (X.2.2.2 _ w1) (X.2.2.2 _ q_116) (X.2.2.2 _ q_OI) rfl (hls.trans hml.symm) rfl d hR.1 (by have := lv_room (m := m) (pc := pc) (ls := ls) (rest := .ref q :: rest) hst; omega) k
theorem c_newa {atype : ArrayType} {t N : Nat} {x : Int} (X : mX p s m args c cc own) (hK : mKg g s) (hG : gW g b K S0 S r ho n ci dn H) (hS : va_S A0 s.heap H locs) (hk : K n = (t, N, 0)) (ht : (t = 1 ∧ atype = .int) ∨ (t = 2 ∧ atype = .boolean)) (hx : okI x) (hxn : x = N) (hN : N ≤ 100000) (w : Cond.arrayClass (newarray.typeOf atype) ∈ wsG) (d : decode cc pc = .ok (.newarray atype, 2)) (hc : cells + 1 ≤ R.cells) (hs : slots + N ≤ R.slots) (k : ∀ (S1 : mSt) (H1 : Heap), S1 = mz S n → gW g b K S0 S1 r ho (n + 1) ci dn H1 → (∀ q : Nat, q < b + n → H1[q]? = H[q]?) → va_S A0 s.heap H1 locs → W p l e R s m args below meth c H1 locs (cells + 1) (slots + N) Q (F0 m (pc + 2) ls (.ref (b + n) :: rest))) : W p l e R s m args below meth c H locs cells slots Q (F0 m pc ls (.int (mI x) :: rest)) := by
  have hsz := hG.2.2.1
  have hle : s.heap.size ≤ b + n := by have := hS.1; omega
  have hneg : ¬ mI x < 0 := fun h => by have := (mI_lt hx (b := 0) (by decide)).mp h; omega
  have hcl : (mI x).toNatClampNeg = N := by rw [mI_cl hx]; omega
  rcases ht with ⟨rfl, rfl⟩ | ⟨rfl, rfl⟩
  · refine va_newaK X.1 X.2.1 (X.2.2.2 _ w) rfl d rfl hneg hcl (by show N * 4 ≤ _; omega) hc hs hsz (fun H1 cA e1 z1 o1 _ hNm => ?_)
    have hcA : cA = g.cy 0 := Option.some.inj (hNm.symm.trans (hK.1.2 0 _ rfl).2)
    subst hcA
    refine k _ H1 rfl (hG.grow (by omega) (okS_z hG.2.1) (by omega) o1 (fun r' h => mz_ne S (by omega)) (fun r' h1 h2 _ => ?_)) o1 ⟨Nat.le_trans hS.1 (by omega), fun q h1 h2 => (o1 q (by omega)).trans (hS.2.1 q h1 h2), hS.2.2⟩
    have e : r' = n := by omega
    subst e
    unfold mCl
    rw [hk]
    exact e1.trans (congrArg some (arrV_congr fun j _ => by rw [mz_at]; rfl))
  · refine va_newaK X.1 X.2.1 (X.2.2.2 _ w) rfl d rfl hneg hcl (by show N * 1 ≤ _; omega) hc hs hsz (fun H1 cA e1 z1 o1 _ hNm => ?_)
    have hcA : cA = g.cy 1 := Option.some.inj (hNm.symm.trans (hK.1.2 1 _ rfl).2)
    subst hcA
    refine k _ H1 rfl (hG.grow (by omega) (okS_z hG.2.1) (by omega) o1 (fun r' h => mz_ne S (by omega)) (fun r' h1 h2 _ => ?_)) o1 ⟨Nat.le_trans hS.1 (by omega), fun q h1 h2 => (o1 q (by omega)).trans (hS.2.1 q h1 h2), hS.2.2⟩
    have e : r' = n := by omega
    subst e
    unfold mCl
    rw [hk]
    exact e1.trans (congrArg some (arrV_congr fun j _ => by rw [mz_at]; rfl))
theorem c_put (X : mX p s m args c cc own) (hK : mKg g s) (hG : gW g b K S0 S r ho n ci dn H) (hS : va_S (gA b r) s.heap H locs) {C ref : String} {T : u_T} {N index : Nat} (hin : ∀ w ∈ u_ws C T N, w ∈ wsG) (ty0 : Nat → FieldType) (hty : ∀ k, k < N → parseFieldDescriptor (T k).2.2.1 = some (ty0 k)) (hnm : ∀ a, a < N → ∀ b, b < N → a ≠ b → (T a).2.1 ≠ (T b).2.1) (hc : vwCl[ci]? = some (C, T, N)) (hn : nf ci = N) (j : Nat) (hj : j < N) (hin2 : meth.name = "<init>") (hown : (T j).1 = own) (hl : Cond.fieldLink own index ref (T j).2.1 (T j).2.2.1 ∈ wsG) (hr : (T j).1 = ref) {ty : FieldType} {v : Value} (hd : parseFieldDescriptor (T j).2.2.1 = some ty) (hnr : narrow ty v = v) (hfit : fits ty v = true) {S1 : mSt} (hok : okS S1) (h1 : ∀ r', r' ≠ r → S1 r' = S r') (h2 : ∀ i : Nat, i ≠ j → S1 r i = S r i) (hv : mvl b r (fk ci j) (S1 r j) = v) (hp : (fk ci j).1 = 2 → 0 ≤ S1 r j ∧ K (S1 r j).toNat = (0, (fk ci j).2, 0)) (d : decode cc pc = .ok (.putfield index, 3)) (k : ∀ (H1 : Heap) (locs1 : List Loc), gW g b K S0 S1 r ho n ci (j :: dn) H1 → (∀ q : Nat, q ≠ b + r → H1[q]? = H[q]?) → va_S (gA b r) s.heap H1 locs1 → W p l e R s m args below meth c H1 locs1 cells slots Q (F0 m (pc + 3) ls rest)) : W p l e R s m args below meth c H locs cells slots Q (F0 m pc ls (v :: .ref (b + r) :: rest)) := by
  have hap := va_apart (own := own) X.2.2.2 hin ty0 hty hnm hK.1 hc
  obtain ⟨a1, a2, a3, a4, ⟨⟨cell, q1, q2, q3, q4⟩, hpt⟩, a6, a7⟩ := hG
  obtain ⟨hS9, hfc, kC, hkC, hkind⟩ := hK.1.1 ci _ hc
  obtain ⟨cf, kf, fi, f, hi, hsl⟩ := hS9 j hj
  have hlay := X.2.2.2 _ (hin _ (u_in_lay hj))
  unfold u_lay at hlay
  have hst := (u_facts hfc hkC (u_lays X.2.2.2 hin hj) hi).1
  subst hr
  rw [hn] at q4
  have fin : ∀ H1 : Heap, H1[b + r]? = some (cell.setSlot (g.D.2 ci j) v) → H1.size = H.size → (∀ q : Nat, q ≠ b + r → H1[q]? = H[q]?) → gW g b K S0 S1 r ho n ci (j :: dn) H1 := by
    intro H1 e1 e2 e3
    refine ⟨a1, hok, e2.trans a3, a4, ⟨t_OB.to (V := updV (fun j => if (fk ci j).1 = 0 ∨ j ∈ dn then mvl b r (fk ci j) (S r j) else .null) j v) ⟨_, e1, q2, q3, by rw [hn]; exact t_set q4 hap hj v⟩ (fun i _ => ?_), fun i hi2 hi3 hf2 => ?_⟩, fun r' b1 b2 b3 => ?_, fun r' b1 => ?_⟩
    · unfold updV
      by_cases e : i = j
      · subst e; rw [if_pos rfl, if_pos (Or.inr List.mem_cons_self)]; exact hv.symm
      · rw [if_neg e, h2 i e]
        show (if (fk ci i).1 = 0 ∨ i ∈ dn then mvl b r (fk ci i) (S r i) else Value.null) = _
        by_cases e2 : (fk ci i).1 = 0 ∨ i ∈ dn
        · rw [if_pos e2, if_pos (e2.imp id (List.mem_cons_of_mem _))]
        · rw [if_neg e2, if_neg (fun q => e2 (q.imp id (fun z => (List.mem_cons.mp z).resolve_left e)))]
    · by_cases e : i = j
      · subst e; exact hp hf2
      · rw [h2 i e]; exact hpt i ((List.mem_cons.mp hi2).resolve_left e) hi3 hf2
    · rw [h1 r' (by omega)]; exact mCl_same (a6 r' b1 b2 b3) (e3 _ (by omega))
    · rw [h1 r' (by omega)]; exact a7 r' b1
  by_cases hfin : (T j).2.2.2 = true
  · rw [if_pos hfin] at hlay
    have hcf : m.cls = cf := by
      obtain ⟨_, _, c', _, _, _, -, -, hf', -, -, -, hown2, -⟩ := Cond.laysFinal_spec hlay
      have e1 : c' = cf := by have := hi.symm.trans hf'; simp at this; exact this.1.symm
      rw [hown] at hown2
      rw [← e1]; exact Option.some.inj (X.2.2.1.symm.trans hown2)
    have h6 := u_fits hfc hkC hkind (Or.inr hlay) hi hd hnr hfit
    refine W.putFinK X.1 X.2.1 X.2.2.1 (X.2.2.2 _ hl) hi hst hcf hin2 (by rw [q2]; exact h6) q1 q3 (by rw [hsl]; exact k2_hasslot (q4 j hj)) rfl rfl d fun H1 e1 e2 e3 => ?_
    rw [hsl] at e1 ⊢
    exact k H1 _ (fin H1 e1 e2 e3) e3 (hS.put e2 e3 (Nat.le_refl _))
  · rw [if_neg hfin] at hlay
    have h6 := u_store hfc hkC hkind hlay hi hd hnr hfit
    refine W.putK X.1 X.2.1 (f := f) ⟨X.2.2.1, X.2.2.2 _ hl, ⟨_, _, _, hi⟩, hst⟩ (by rw [q2]; exact h6) q1 q3 (by rw [hsl]; exact k2_hasslot (q4 j hj)) rfl rfl d fun H1 e1 e2 e3 => ?_
    rw [hsl] at e1 ⊢
    exact k H1 _ (fin H1 e1 e2 e3) e3 (hS.put e2 e3 (Nat.le_refl _))
theorem c_puti (X : mX p s m args c cc own) (hK : mKg g s) (hG : gW g b K S0 S r ho n ci dn H) (hS : va_S (gA b r) s.heap H locs) {C ref : String} {T : u_T} {N index : Nat} (hin : ∀ w ∈ u_ws C T N, w ∈ wsG) (ty0 : Nat → FieldType) (hty : ∀ k, k < N → parseFieldDescriptor (T k).2.2.1 = some (ty0 k)) (hnm : ∀ a, a < N → ∀ b, b < N → a ≠ b → (T a).2.1 ≠ (T b).2.1) (hc : vwCl[ci]? = some (C, T, N)) (hn : nf ci = N) (j : Nat) (hj : j < N) (hin2 : meth.name = "<init>") (hown : (T j).1 = own) (hl : Cond.fieldLink own index ref (T j).2.1 (T j).2.2.1 ∈ wsG) (hr : (T j).1 = ref) (hf : fk ci j = (0, 0)) (hd : (T j).2.2.1 = "I") {x : Int} (hx : okI x) (d : decode cc pc = .ok (.putfield index, 3)) (k : ∀ (S1 : mSt) (H1 : Heap) (locs1 : List Loc), S1 = mup S r j x → gW g b K S0 S1 r ho n ci (j :: dn) H1 → (∀ q : Nat, q ≠ b + r → H1[q]? = H[q]?) → va_S (gA b r) s.heap H1 locs1 → W p l e R s m args below meth c H1 locs1 cells slots Q (F0 m (pc + 3) ls rest)) : W p l e R s m args below meth c H locs cells slots Q (F0 m pc ls (.int (mI x) :: .ref (b + r) :: rest)) :=
  c_put X hK hG hS hin ty0 hty hnm hc hn j hj hin2 hown hl hr (ty := .int) (by rw [hd]; decide +kernel) rfl rfl (S1 := mup S r j x) (okS_up hG.2.1 hx) (fun r' h => mup_ne S _ _ h) (fun i h => by rw [mup_at, if_neg (by omega)]) (by rw [hf, mup_same]; rfl) (by rw [hf]; intro h; cases h) d (fun H1 locs1 => k _ H1 locs1 rfl)
theorem c_putr (X : mX p s m args c cc own) (hK : mKg g s) (hG : gW g b K S0 S r ho n ci dn H) (hS : va_S (gA b r) s.heap H locs) {C ref : String} {T : u_T} {N index : Nat} (hin : ∀ w ∈ u_ws C T N, w ∈ wsG) (ty0 : Nat → FieldType) (hty : ∀ k, k < N → parseFieldDescriptor (T k).2.2.1 = some (ty0 k)) (hnm : ∀ a, a < N → ∀ b, b < N → a ≠ b → (T a).2.1 ≠ (T b).2.1) (hc : vwCl[ci]? = some (C, T, N)) (hn : nf ci = N) (j : Nat) (hj : j < N) (hin2 : meth.name = "<init>") (hown : (T j).1 = own) (hl : Cond.fieldLink own index ref (T j).2.1 (T j).2.2.1 ∈ wsG) (hr : (T j).1 = ref) {q o : Nat} (hf : fk ci j = (1, o)) (hq : q = r + o) {ty : FieldType} (hd : parseFieldDescriptor (T j).2.2.1 = some ty) (hnr : narrow ty (.ref (b + q)) = .ref (b + q)) (hfit : fits ty (.ref (b + q)) = true) (d : decode cc pc = .ok (.putfield index, 3)) (k : ∀ (H1 : Heap) (locs1 : List Loc), gW g b K S0 S r ho n ci (j :: dn) H1 → (∀ q : Nat, q ≠ b + r → H1[q]? = H[q]?) → va_S (gA b r) s.heap H1 locs1 → W p l e R s m args below meth c H1 locs1 cells slots Q (F0 m (pc + 3) ls rest)) : W p l e R s m args below meth c H locs cells slots Q (F0 m pc ls (.ref (b + q) :: .ref (b + r) :: rest)) := by
  subst hq
  exact c_put X hK hG hS hin ty0 hty hnm hc hn j hj hin2 hown hl hr hd hnr hfit (S1 := S) hG.2.1 (fun _ _ => rfl) (fun _ _ => rfl) (by rw [hf]; rfl) (by rw [hf]; intro h; cases h) d k
theorem c_putp (X : mX p s m args c cc own) (hK : mKg g s) (hG : gW g b K S0 S r ho n ci dn H) (hS : va_S (gA b r) s.heap H locs) {C ref : String} {T : u_T} {N index : Nat} (hin : ∀ w ∈ u_ws C T N, w ∈ wsG) (ty0 : Nat → FieldType) (hty : ∀ k, k < N → parseFieldDescriptor (T k).2.2.1 = some (ty0 k)) (hnm : ∀ a, a < N → ∀ b, b < N → a ≠ b → (T a).2.1 ≠ (T b).2.1) (hc : vwCl[ci]? = some (C, T, N)) (hn : nf ci = N) (j : Nat) (hj : j < N) (hin2 : meth.name = "<init>") (hown : (T j).1 = own) (hl : Cond.fieldLink own index ref (T j).2.1 (T j).2.2.1 ∈ wsG) (hr : (T j).1 = ref) {q o : Nat} (hf : fk ci j = (2, o)) (hq : K q = (0, o, 0)) (hx : okI (q : Int)) {ty : FieldType} (hd : parseFieldDescriptor (T j).2.2.1 = some ty) (hnr : narrow ty (.ref (b + q)) = .ref (b + q)) (hfit : fits ty (.ref (b + q)) = true) (d : decode cc pc = .ok (.putfield index, 3)) (k : ∀ (S1 : mSt) (H1 : Heap) (locs1 : List Loc), S1 = mup S r j (q : Int) → gW g b K S0 S1 r ho n ci (j :: dn) H1 → (∀ q : Nat, q ≠ b + r → H1[q]? = H[q]?) → va_S (gA b r) s.heap H1 locs1 → W p l e R s m args below meth c H1 locs1 cells slots Q (F0 m (pc + 3) ls rest)) : W p l e R s m args below meth c H locs cells slots Q (F0 m pc ls (.ref (b + q) :: .ref (b + r) :: rest)) :=
  c_put X hK hG hS hin ty0 hty hnm hc hn j hj hin2 hown hl hr hd hnr hfit (S1 := mup S r j (q : Int)) (okS_up hG.2.1 hx) (fun r' h => mup_ne S _ _ h) (fun i h => by rw [mup_at, if_neg (by omega)]) (by rw [hf, mup_same]; rfl) (by rw [hf, mup_same]; intro _; exact ⟨by omega, hq⟩) d (fun H1 locs1 => k _ H1 locs1 rfl)
theorem c_getr (X : mX p s m args c cc own) (hK : mKg g s) (hG : gW g b K S0 S r ho n ci dn H) {C ref : String} {T : u_T} {N index : Nat} (hin : ∀ w ∈ u_ws C T N, w ∈ wsG) (hc : vwCl[ci]? = some (C, T, N)) (hn : nf ci = N) (j : Nat) (hj : j < N) (hdn : j ∈ dn) (hl : Cond.fieldLink own index ref (T j).2.1 (T j).2.2.1 ∈ wsG) (hr : (T j).1 = ref) {o : Nat} (hf : fk ci j = (1, o)) (d : decode cc pc = .ok (.getfield index, 3)) (k : W p l e R s m args below meth c H locs cells slots Q (F0 m (pc + 3) ls (.ref (b + (r + o)) :: rest))) : W p l e R s m args below meth c H locs cells slots Q (F0 m pc ls (.ref (b + r) :: rest)) := by
  obtain ⟨a1, a2, a3, a4, ⟨⟨cell, q1, q2, q3, q4⟩, hpt⟩, a6, a7⟩ := hG
  obtain ⟨hS, hfc, kC, hkC, hkind⟩ := hK.1.1 ci _ hc
  obtain ⟨cf, kf, fi, f, hi, hsl⟩ := hS j hj
  subst hr
  refine W.getf X.1 X.2.1 X.2.2.1 (X.2.2.2 _ hl) hi (u_facts hfc hkC (u_lays X.2.2.2 hin hj) hi).1 q1 (by rw [q3]; exact fun h => by cases h) (v := .ref (b + (r + o))) ?_ rfl rfl d k
  rw [hsl, q4 j (by omega)]
  show some (if (fk ci j).1 = 0 ∨ j ∈ dn then mvl b r (fk ci j) (S r j) else Value.null) = _
  rw [if_pos (Or.inr hdn), hf]
  rfl
theorem c_iast (X : mX p s m args c cc own) (hK : mKg g s) (hG : gW g b K S0 S r ho n ci dn H) (hS : va_S (gA b r) s.heap H locs) {r1 N : Nat} (h1 : r < r1) (h2 : r1 < n) (h3 : r1 ≠ ho) (hk : K r1 = (1, N, 0)) {i v : Int} (hi : okI i) (hv : okI v) (hi0 : 0 ≤ i) (hi1 : i < N) (d : decode cc pc = .ok (.iastore, 1)) (k : ∀ (S1 : mSt) (H1 : Heap) (locs1 : List Loc), S1 = mup S r1 i v → gW g b K S0 S1 r ho n ci dn H1 → va_S (gA b r) s.heap H1 locs1 → W p l e R s m args below meth c H1 locs1 cells slots Q (F0 m (pc + 1) ls rest)) : W p l e R s m args below meth c H locs cells slots Q (F0 m pc ls (.int (mI v) :: .int (mI i) :: .ref (b + r1) :: rest)) := by
  have hc := hG.2.2.2.2.2.1 r1 h1 h2 h3
  unfold mCl at hc
  rw [hk] at hc
  refine W.iast X.1 X.2.1 hc ((hK.1.2 0 _ rfl).1 N _) (arrV_none _ _ _) (by rw [arrV_size]; exact mI_not hi hi0 hi1) rfl rfl d (fun H1 e1 e2 e3 => k _ H1 _ rfl (hG.write h1 h2 hv e2 e3 (fun _ => ?_)) (hS.put e2 e3 (by show b + r ≤ b + r1; omega)))
  unfold mCl
  rw [hk]
  exact e1.trans (congrArg some (arr_up (mk := fun x => .int (mI x)) hi hi0))
/-- 'new C(): made, its constructor run -/
theorem c_make0 (X : mX p s m args c cc own) (hml : c.maxLocals = nL) (hls : ls.size = nL) (hK : mKg g s) (hA : cAr s) (hlo : g.lo ≤ b) (hok : okS S) (hsz : H.size = b + n) (hS : va_S A0 s.heap H locs) (hA0 : ∀ q, A0 q → g.lo ≤ q) (hA1 : ∀ q, b + n ≤ q → A0 q) {C : String} {T : u_T} {N ic is ci1 n1 mc ms maxL : Nat} {y : MethodName} {bytes : ByteArray} {rm : Room} {Qp : mSt → Prop} (hin : ∀ w ∈ u_ws C T N, w ∈ wsG) (ty : Nat → FieldType) (hty : ∀ k, k < N → parseFieldDescriptor (T k).2.2.1 = some (ty k)) (hc : vwCl[ci1]? = some (C, T, N)) (hn : nf ci1 = N) (hdef : ∀ j, j < N → defaultValue (ty j) = if (fk ci1 j).1 = 0 then .int (mI 0) else .null) (hcl : Cond.classLink own ic C ∈ wsG) (hinst : Cond.instantiable C N ∈ wsG) (hini : Cond.initialized C ∈ wsG) (hyc : y.cls = C) (hy1 : y.name = "<init>") (hM : vx_Met l y (Cond.code y bytes maxL none :: wsG) rm (cPc g b K n ci1 S) (cQv g b K n n1 S Qp) (cEx (gA b n)) mc ms (gA b n)) (hln : Cond.methodLink own is y ∈ wsG ∨ ∃ host, Cond.methodLinkNest own is y host ∈ wsN) (w2 : Cond.instanceMethod y ∈ wsG) (w5 : Cond.code y bytes maxL none ∈ wsG) (hd : mPl y 0) (hR : mRm rm R maxL (cells + 1) (slots + N) mc ms) (hcs : cells + 1 ≤ R.cells ∧ slots + N ≤ R.slots) (hst : ((Value.ref (b + n) :: rest).map fun v => v.category).sum ≤ 8) (d0 : decode cc pc = .ok (.new ic, 3)) (d3 : decode cc (pc + 3) = .ok (.dup, 1)) (d4 : decode cc (pc + 4) = .ok (.invokespecial is, 3)) (kk : ∀ (S1 : mSt) (H1 : Heap) (locs1 : List Loc), Qp S1 → okS S1 → H1.size = b + n1 → (∀ r', r' < n ∨ n1 ≤ r' → S1 r' = S r') → (∀ r', n ≤ r' → r' < n1 → mCl g b K r' (S1 r') H1) → (∀ q : Nat, q < b + n → H1[q]? = H[q]?) → va_S A0 s.heap H1 locs1 → W p l e R s m args below meth c H1 locs1 (cells + 1 + mc) (slots + N + ms) Q (F0 m (pc + 7) ls (.ref (b + n) :: rest))) : W p l e R s m args below meth c H locs cells slots Q (F0 m pc ls rest) := by
  have hKn := hK.1.1 ci1 _ hc
  refine W.newcK X.1 X.2.1 X.2.2.1 (X.2.2.2 _ hcl) (X.2.2.2 _ hinst) (X.2.2.2 _ hini) rfl d0 hcs.1 hcs.2 hKn.2.1 hsz fun H1 kC hkC e1 z1 o1 => ?_
  have hob := u_born ty X.2.2.2 hin hKn hkC e1 hty
  have hS1 : va_S A0 s.heap H1 locs := ⟨Nat.le_trans hS.1 (by omega), fun q h1 h2 => (o1 q (by have := hS.1; omega)).trans (hS.2.1 q h1 h2), hS.2.2⟩
  have hG1 : gOb g b K n ci1 [] (fun _ => 0) H1 := by
    refine ⟨?_, fun j hj => absurd hj List.not_mem_nil⟩
    rw [hn]
    refine hob.to (fun j hj => ?_)
    rw [hdef j hj]
    by_cases e : (fk ci1 j).1 = 0
    · rw [if_pos e, if_pos (Or.inl e)]
      unfold mvl
      rw [e]
      rfl
    · rw [if_neg e, if_neg (fun q => q.elim e (fun z => absurd z List.not_mem_nil))]
  refine lv_dup X.1 X.2.1 d3 rfl ?_
  have hPre : PreS s H1 (cPc g b K n ci1 S) (.ref (b + n) :: []) := ⟨cPc_blind, fun U hU hWm => ⟨rfl, by rw [hU]; exact z1, by rw [hU]; exact hG1, hlo, hok, hK.to hWm hU hS1 hA0, hA.moved hWm.alike⟩⟩
  have hrun : vx_Run p l e R s m args below meth c H1 locs (cells + 1) (slots + N) mc ms (F0 m (pc + 4) ls (.ref (b + n) :: .ref (b + n) :: rest)) (.ref (b + n) :: rest) (cQv g b K n n1 S Qp (Value.ref (b + n) :: ([] : List Value)).toArray) (cEx (gA b n)) (gA b n) := by
    rcases hln with hln | ⟨host, hln⟩
    · exact vx_runI (nL := nL) (As := []) (rest := .ref (b + n) :: rest) ⟨X.1, X.2.1, hml, X.2.2.1, X.2.2.2⟩ hM (cwI 0 X.2.2.2 (mGI w5) rfl hR.1 hR.2.1 (by rw [hyc]; exact X.2.2.2 _ hini) (X.2.2.2 _ hln) (X.2.2.2 _ w2) hy1 hd ⟨hR.2.2.1, hR.2.2.2.1⟩) hPre rfl rfl hls rfl (lv_room hst) d4 ⟨hR.2.2.2.2.1, hR.2.2.2.2.2⟩
    · exact vx_runIN (nL := nL) (As := []) (rest := .ref (b + n) :: rest) ⟨X.1, X.2.1, hml, X.2.2.1, X.2.2.2⟩ hM ⟨va_cnB 0 X.2.2.2 (mGI w5) rfl hR.1 hR.2.1 (hK.2.2.2.2.1 _ hln) (by rw [hyc]; exact X.2.2.2 _ hini) hd ⟨hR.2.2.1, hR.2.2.2.1⟩, hy1, X.2.2.2 _ w2⟩ hPre rfl rfl hls rfl (lv_room hst) d4 ⟨hR.2.2.2.2.1, hR.2.2.2.2.2⟩
  refine vx_callv (A1 := gA b n) (AX := gA b n) hrun hS1 (fun q _ h => hA1 q h) (fun q h => hA1 q h) (fun q _ h => hA1 q h) (fun _ _ _ _ _ _ _ _ _ _ hf => hf.elim) (fun u t H2 locs2 ht _ hq hw _ hk2 hS2 => ?_)
  subst ht
  exact kk u _ locs2 hq.2 hw.2.1 hw.1 hq.1 hw.2.2 (fun q h => (hk2 q (by omega) (by show ¬ (b + n ≤ q); omega)).trans (o1 q h)) hS2
theorem c_make (X : mX p s m args c cc own) (hml : c.maxLocals = nL) (hls : ls.size = nL) (hK : mKg g s) (hA : cAr s) (hG : gW g b K S0 S r ho n ci dn H) (hho : ho < n) (hS : va_S (gA b r) s.heap H locs) {C : String} {T : u_T} {N ic is ci1 n1 mc ms maxL : Nat} {y : MethodName} {bytes : ByteArray} {rm : Room} {Qp : mSt → Prop} (hin : ∀ w ∈ u_ws C T N, w ∈ wsG) (ty : Nat → FieldType) (hty : ∀ k, k < N → parseFieldDescriptor (T k).2.2.1 = some (ty k)) (hc : vwCl[ci1]? = some (C, T, N)) (hn : nf ci1 = N) (hdef : ∀ j, j < N → defaultValue (ty j) = if (fk ci1 j).1 = 0 then .int (mI 0) else .null) (hcl : Cond.classLink own ic C ∈ wsG) (hinst : Cond.instantiable C N ∈ wsG) (hini : Cond.initialized C ∈ wsG) (hyc : y.cls = C) (hy1 : y.name = "<init>") (hM : vx_Met l y (Cond.code y bytes maxL none :: wsG) rm (cPc g b K n ci1 S) (cQv g b K n n1 S Qp) (cEx (gA b n)) mc ms (gA b n)) (hn1 : n ≤ n1) (hln : Cond.methodLink own is y ∈ wsG ∨ ∃ host, Cond.methodLinkNest own is y host ∈ wsN) (w2 : Cond.instanceMethod y ∈ wsG) (w5 : Cond.code y bytes maxL none ∈ wsG) (hd : mPl y 0) (hR : mRm rm R maxL (cells + 1) (slots + N) mc ms) (hcs : cells + 1 ≤ R.cells ∧ slots + N ≤ R.slots) (hst : ((Value.ref (b + n) :: rest).map fun v => v.category).sum ≤ 8) (d0 : decode cc pc = .ok (.new ic, 3)) (d3 : decode cc (pc + 3) = .ok (.dup, 1)) (d4 : decode cc (pc + 4) = .ok (.invokespecial is, 3)) (kk : ∀ (S1 : mSt) (H1 : Heap) (locs1 : List Loc), Qp S1 → gW g b K S0 S1 r ho n1 ci dn H1 → (∀ q : Nat, q < b + n → H1[q]? = H[q]?) → va_S (gA b r) s.heap H1 locs1 → W p l e R s m args below meth c H1 locs1 (cells + 1 + mc) (slots + N + ms) Q (F0 m (pc + 7) ls (.ref (b + n) :: rest))) : W p l e R s m args below meth c H locs cells slots Q (F0 m pc ls rest) :=
  c_make0 X hml hls hK hA hG.1 hG.2.1 hG.2.2.1 hS (fun q h => Nat.le_trans hG.1 (Nat.le_trans (Nat.le_add_right _ _) h)) (fun q h => by have := hG.2.2.2.1; show b + r ≤ q; omega) hin ty hty hc hn hdef hcl hinst hini hyc hy1 hM hln w2 w5 hd hR hcs hst d0 d3 d4 (fun S1 H1 locs1 h1 h2 h3 h4 h5 h6 h7 => kk S1 H1 locs1 h1 (hG.grow hn1 h2 h3 h6 h4 (fun r' a1 a2 _ => h5 r' a1 a2)) h6 h7)
theorem gW.done {g : mG} {b : Nat} {K : Nat → mK} {S0 S : mSt} {r n ci : Nat} {dn : List Nat} {H : Heap} (h : gW g b K S0 S r r n ci dn H) (hk : K r = (0, ci, 0)) (hdn : ∀ j, j < nf ci → (fk ci j).1 = 0 ∨ j ∈ dn) : ∀ r', r ≤ r' → r' < n → mCl g b K r' (S r') H := by
  intro r' h1 h2
  by_cases e : r' = r
  · subst e
    unfold mCl
    rw [hk]
    refine ⟨h.2.2.2.2.1.1.to (fun j hj => ?_), fun j hj hf => ?_⟩
    · rw [if_pos (hdn j hj)]
    · refine h.2.2.2.2.1.2 j ((hdn j hj).resolve_left (fun q => by have e1 : (fk ci j).1 = 2 := hf; omega)) hj hf
  · exact h.2.2.2.2.2.1 r' (by omega) h2 (by omega)
theorem c_ret {XC : String → State → State → Prop} {mc ms : Nat} {Qp : mSt → Prop} (X : mX p s m args c cc own) (hr : meth.sig.returnType = none) (hlk : meth.locks = false) (hG : gW g b K S0 S r r n ci dn H) (hS : va_S (gA b r) s.heap H locs) (hk : K r = (0, ci, 0)) (hdn : ∀ j, j < nf ci → (fk ci j).1 = 0 ∨ j ∈ dn) (hq : Qp S) (hc : cells ≤ mc) (hs : slots ≤ ms) (d : decode cc pc = .ok (.return_, 1)) : W p l e R s m args below meth c H locs cells slots (vx_MQ below (cQv g b K r n S0 Qp) XC args s mc ms (gA b r)) (F0 m pc ls []) :=
  W.widen hc hs (vx_ret (W.vret X.1 X.2.1 hr (fun t ht _ => ⟨⟨S, rfl, ⟨hG.2.2.2.2.2.2, hq⟩, by rw [ht]; exact hG.2.2.1, hG.2.1, fun r' h1 h2 => by rw [ht]; exact hG.done hk hdn r' h1 h2⟩, hS.F ht⟩) hS.2.2 d hlk))
end cRows
/-- a constructor's proof begins -/
theorem c_of {l : Launch} {y : MethodName} {cc : ByteArray} {maxL : Nat} {rm : Room} {g : mG} {b r ci n : Nat} {K : Nat → mK} {S : mSt} {Qp : mSt → Prop} {mc ms : Nat} (hy : plainName y.cls = true) (hm1 : 1 ≤ maxL) (hyn : y.name = "<init>")
    (body : ∀ (p : Program) (e : Env) (s : State) (m : MethodId) (args : Array Value) (below : List Frame) (meth : Method) (c : Code) (ls : Array Slot), mX p s m args c cc y.cls → mKg g s → cAr s → c.maxLocals = maxL → meth.sig.returnType = none → meth.locks = false → meth.name = "<init>" → gW g b K S (mz S r) r r (r + 1) ci [] s.heap → lv_has ls maxL [(0, .ref (b + r))] →
      W p l e rm s m args below meth c s.heap [] 0 0 (vx_MQ below (cQv g b K r n S Qp) (cEx (gA b r)) args s mc ms (gA b r)) (F0 m 0 ls [])) :
    vx_Met l y (Cond.code y cc maxL none :: wsG) rm (cPc g b K r ci S) (cQv g b K r n S Qp) (cEx (gA b r)) mc ms (gA b r) := by
  refine vx_ofW (cc := cc) (maxL := maxL) (ret := none) hy rfl ?_
  intro p e s m args below meth c s₁ B hml ht hv
  obtain ⟨rfl, hsz, hob, hlo, hok, hK, hA⟩ := hv
  have hts := atoms_spec (ws := Cond.code y cc maxL none :: wsG) B.pre
  have hl := lv_entry (n := maxL) [Value.ref (b + r)] (show (lg_sl [Value.ref (b + r)]).length ≤ maxL from hm1)
  rw [lg_entry_eq]
  refine body p e s m _ below meth c _ ⟨B.exec, B.bytes, findClass_of_methodNamed B.named, fun w hw => hts w (List.mem_cons_of_mem _ hw)⟩ hK hA hml B.returns B.notSynchronized ((name_of_methodNamed B.named B.method).1.trans hyn) ⟨hlo, okS_z hok, hsz, by omega, ?_, fun r' h1 h2 => by omega, fun r' h1 => mz_ne S (by omega)⟩ hl
  have e : mz S r r = fun _ => 0 := funext fun i => mz_at S r i
  rw [e]
  exact hob
