def mvl (b r : Nat) (q : Nat × Nat) (x : Int) : Value := match q.1 with
  | 0 => .int (mI x)
  | 1 => .ref (b + (r + q.2))
  | _ => .ref (b + x.toNat)
/-- a region's cell -/
def mCl (g : mG) (b : Nat) (K : Nat → mK) (r : Nat) (f : Int → Int) (H : Heap) : Prop := match (K r).1 with
  | 0 => t_OB (b + r) (g.D.1 (K r).2.1) (nf (K r).2.1) (g.D.2 (K r).2.1) H (fun j => mvl b r (fk (K r).2.1 j) (f j)) ∧ ∀ j, j < nf (K r).2.1 → (fk (K r).2.1 j).1 = 2 → 0 ≤ f j ∧ K (f j).toNat = (0, (fk (K r).2.1 j).2, 0)
  | 1 => H[b + r]? = some (arrV (g.cy 0) (K r).2.1 (fun j => .int (mI (f j))))
  | 2 => H[b + r]? = some (arrV (g.cy 1) (K r).2.1 (fun j => .int (mI (f j))))
  | 3 => H[b + r]? = some (arrV (g.cy 2) (K r).2.1 (fun j => .ref (b + (r + 1 + 11 * j))))
  | 4 => H[b + r]? = some (arrV (g.cy 3) (K r).2.1 (fun j => .ref (b + (r + 1 + j))))
  | 5 => H[b + r]? = some (arrV (g.cy 4) (K r).2.1 (fun j => .ref (g.ad (f j).toNat))) ∧ ∀ j : Nat, j < (K r).2.1 → 0 ≤ f j ∧ f j < 36
  | 6 => H[b + r]? = some (arrV (g.cy 5) (K r).2.1 (fun j => .long (Int64.ofInt (f j))))
  | _ => True
/-- the world of a part -/
def mW (g : mG) (b : Nat) (K : Nat → mK) (S : mSt) (H : Heap) : Prop := g.lo ≤ b ∧ okS S ∧ ∀ r : Nat, mCl g b K r (S r) H
/-- what a method of the part may change -/
def mA (b : Nat) (K : Nat → mK) (sz : Nat) : Nat → Prop := fun q => (∃ r, q = b + r ∧ (K r).1 < 7) ∨ sz ≤ q
def mTy (g : mG) : List (ClassId × FieldType) := [(g.cy 0, .int), (g.cy 1, .boolean), (g.cy 2, .object "MoonWash$Laundry"), (g.cy 3, .array .int), (g.cy 4, .object "MoonWash$Token"), (g.cy 5, .long)]
abbrev mLo (g : mG) : Nat → Prop := fun q => g.lo ≤ q
def mRf : List (Nat × String × Nat) := [(112, "water", 8), (118, "rough", 9), (120, "takes", 10), (126, "grey", 12), (128, "thin", 13), (130, "stains", 15), (132, "light", 20), (134, "soap", 7), (139, "part", 11), (144, "wind", 16), (150, "due", 19), (155, "spring", 21), (157, "wolves", 22), (159, "thieves", 23), (190, "wet", 14), (192, "damp", 17), (194, "night", 18), (198, "full", 32), (204, "hung", 33), (212, "not", 31), (224, "and", 30), (229, "or", 29), (231, "shine", 24), (233, "dull", 25), (235, "dry", 26), (237, "soil", 27), (239, "if", 28)]
def mCn (g : mG) (U : State) (H : Heap) : Prop :=
  vx_Zq Bundle.tN "UNASSIGNED_STACK" Bundle.steD (mLo g) U H ∧ vx_Zq Bundle.tN "SUPPRESSED_SENTINEL" Bundle.listD (mLo g) U H ∧
  va_En "MoonWash$Token" "LMoonWash$Token;" tkN [("MoonWash$Token", "term", "I", tkT)] g.ad (mLo g) U H ∧
  va_Ef 36 "MoonWash$Token" "text" "Ljava/lang/String;" (fun k => .ref (g.sa (tkS.getD k 0))) g.ad (mLo g) U H ∧
  va_Z "MoonWash$Token" "ALL" "[LMoonWash$Token;" (.ref g.al) (mLo g) U H ∧
  va_T (.object "MoonWash$Token") g.al 36 (fun k => .ref (g.ad k)) (mLo g) U H ∧
  vk_S nJS lenJS bytJS g.sa g.sv (mLo g) U H ∧
  va_Z "java/lang/String" "COMPACT_STRINGS" "Z" (.int 1) (mLo g) U H ∧ va_Zq "jdk/internal/util/Preconditions" "SIOOBE_FORMATTER" "Ljava/util/function/BiFunction;" (mLo g) U H
def mNcL : List (String × String) := [("java/lang/UnsupportedOperationException", "java/lang/IllegalArgumentException"), ("java/util/NoSuchElementException", "java/lang/IndexOutOfBoundsException"), ("java/lang/IllegalStateException", "java/lang/IndexOutOfBoundsException"), ("java/lang/IllegalArgumentException", "java/lang/IndexOutOfBoundsException"), ("java/util/NoSuchElementException", "java/lang/IllegalArgumentException")]
def mKg (g : mG) (U : State) : Prop := va_K g.D vwCl (mTy g) U ∧ g.lo ≤ U.heap.size ∧ mCn g U U.heap ∧ (∀ q ∈ mRf, vk_R "MoonWashModel" q.1 q.2.1 (g.sa q.2.2) U) ∧ (∀ w ∈ wsN, va_Nw w U) ∧ ∀ q ∈ mNcL, va_Nc q.1 q.2 U
theorem wsN_warm {s U : State} (hW : s.WarmedH U.vm) (h : ∀ w ∈ wsN, va_Nw w s) : ∀ w ∈ wsN, va_Nw w U := by
  intro w hw
  have hn : isN w = true := (List.mem_filter.mp hw).2
  have h1 := h w hw
  cases w <;> first | exact va_Nw.warmD hW h1 | exact va_Nw.warmC hW h1 | exact va_Nw.warmM hW h1 | (simp [isN] at hn)
theorem wsN_same {s U : State} (hv : s.vm = U.vm) (h : ∀ w ∈ wsN, va_Nw w s) : ∀ w ∈ wsN, va_Nw w U := by
  intro w hw
  have hn : isN w = true := (List.mem_filter.mp hw).2
  have h1 := h w hw
  cases w <;> first | exact va_Nw.same rfl hv h1 | (simp [isN] at hn)
theorem mCn.moved {g : mG} {u U : State} {H : Heap} (hvm : u.vm.Alike U.vm) (h : mCn g u H) : mCn g U H := by
  obtain ⟨h1, h2, h3, h4, h5, h6, h7, h8, h9⟩ := h
  exact ⟨vx_Zq.moved hvm h1, vx_Zq.moved hvm h2, va_En.moved hvm h3, va_Ef.moved hvm h4, va_Z.moved hvm h5, va_T.moved hvm h6, vk_S.moved hvm h7, va_Z.moved hvm h8, va_Zq.moved hvm h9⟩
theorem mCn.kept {g : mG} {U : State} {H H1 : Heap} (h : mCn g U H) (hq : ∀ a : Nat, a < H.size → ¬ mLo g a → H1[a]? = H[a]?) : mCn g U H1 := by
  obtain ⟨h1, h2, h3, h4, h5, h6, h7, h8, h9⟩ := h
  exact ⟨h1.kept hq, h2.kept hq, h3.kept hq, h4.kept hq, h5.kept hq, h6.kept hq, h7.kept hq, h8.kept hq, h9.kept hq⟩
theorem mA_lo {g : mG} {b sz : Nat} {K : Nat → mK} (h1 : g.lo ≤ b) (h2 : g.lo ≤ sz) : ∀ q, mA b K sz q → mLo g q := by
  intro q h
  rcases h with ⟨r, h, -⟩ | h <;> (show g.lo ≤ q; omega)
/-- what never changes, at a callee's start -/
theorem mKg.to {g : mG} {s U : State} {A : Nat → Prop} {H : Heap} {locs : List Loc} (h : mKg g s) (hW : s.WarmedH U.vm) (hU : U.heap = H) (hS : va_S A s.heap H locs) (hA : ∀ q, A q → mLo g q) : mKg g U := by
  obtain ⟨h1, h2, h3, h4, h5, h6⟩ := h
  refine ⟨va_K.moved hW.alike h1, by rw [hU]; exact Nat.le_trans h2 hS.1, ?_, fun q hq => (h4 q hq).warm hW, wsN_warm hW h5, fun q hq => va_Nc.moved hW.alike (h6 q hq)⟩
  rw [hU]
  exact (mCn.moved hW.alike h3).kept (fun a h7 h8 => hS.2.1 a h7 (fun z => h8 (hA a z)))
theorem mKg.call {g : mG} {U : State} {gg : JFrame} {mk : MethodId} {a : Array Value} (h : mKg g U) : mKg g (U.calling gg mk a) := by
  obtain ⟨h1, h2, h3, h4, h5, h6⟩ := h
  exact ⟨va_K.moved (u := U) (U := U.calling gg mk a) (Vm.Alike.refl U.vm) h1, h2, mCn.moved (u := U) (U := U.calling gg mk a) (Vm.Alike.refl U.vm) h3, fun q hq => (h4 q hq).same rfl, wsN_same (s := U) (U := U.calling gg mk a) rfl h5, fun q hq => va_Nc.moved (u := U) (U := U.calling gg mk a) (Vm.Alike.refl U.vm) (h6 q hq)⟩
theorem mCl_up {g : mG} {b r : Nat} {K : Nat → mK} {S : mSt} {i v : Int} {H H1 : Heap} (hw : ∀ r', mCl g b K r' (S r') H) (hr : mCl g b K r (mup S r i v r) H1) (ho : ∀ q : Nat, q ≠ b + r → H1[q]? = H[q]?) : ∀ r', mCl g b K r' (mup S r i v r') H1 := by
  intro r'
  by_cases e : r' = r
  · rw [e]; exact hr
  · have e1 : mup S r i v r' = S r' := by funext i'; exact mup_r S i v i' e
    rw [e1]
    have h := hw r'
    have ha : H1[b + r']? = H[b + r']? := ho _ (by omega)
    unfold mCl at h ⊢
    split at h <;> first | exact ⟨h.1.kept ha, h.2⟩ | exact ha.trans h | exact ⟨ha.trans h.1, h.2⟩ | trivial

