/-! ===== regions: kinds, the world of a part, what never changes ===== -/
abbrev mK : Type := Nat × Nat × Nat
/-- the classes and slots, the array classes, the bound of what never changes, the tokens, the texts, their bytes, the row of all tokens -/
abbrev mG : Type := va_G × (Nat → ClassId) × Nat × (Nat → Nat) × (Nat → Nat) × (Nat → Nat) × Nat
abbrev mG.D (g : mG) : va_G := g.1
abbrev mG.cy (g : mG) : Nat → ClassId := g.2.1
abbrev mG.lo (g : mG) : Nat := g.2.2.1
abbrev mG.ad (g : mG) : Nat → Nat := g.2.2.2.1
abbrev mG.sa (g : mG) : Nat → Nat := g.2.2.2.2.1
abbrev mG.sv (g : mG) : Nat → Nat := g.2.2.2.2.2.1
abbrev mG.al (g : mG) : Nat := g.2.2.2.2.2.2
def nf (c : Nat) : Nat := match c with
  | 0 => 4
  | 1 => 13
  | 2 => 8
  | 3 => 9
  | 4 => 3
  | 5 => 2
  | 6 => 0
  | 7 => 4
  | 8 => 7
  | 9 => 13
  | 10 => 26
  | _ => 0
def fk (c j : Nat) : Nat × Nat := match c, j with
  | 0, 0 => (1, 1)
  | 0, 1 => (1, 12)
  | 0, 2 => (1, 19)
  | 1, 0 => (1, 1)
  | 1, 1 => (1, 8)
  | 1, 3 => (1, 9)
  | 1, 11 => (1, 10)
  | 2, 1 => (1, 1)
  | 2, 2 => (1, 2)
  | 2, 3 => (1, 3)
  | 2, 4 => (1, 4)
  | 2, 6 => (1, 5)
  | 2, 7 => (1, 6)
  | 3, 0 => (1, 1)
  | 3, 1 => (1, 2)
  | 3, 2 => (1, 3)
  | 3, 3 => (1, 4)
  | 3, 4 => (1, 5)
  | 3, 5 => (1, 6)
  | 4, 0 => (1, 1)
  | 5, 0 => (1, 1)
  | 5, 1 => (1, 10)
  | 7, 0 => (1, 1)
  | 7, 1 => (1, 10)
  | 7, 3 => (1, 11)
  | 8, 0 => (1, 1)
  | 8, 1 => (1, 2)
  | 8, 2 => (1, 3)
  | 8, 3 => (1, 4)
  | 8, 4 => (1, 5)
  | 9, 0 => (1, 1)
  | 9, 3 => (2, 1)
  | 9, 4 => (2, 1)
  | 9, 5 => (2, 2)
  | 9, 6 => (2, 2)
  | 9, 7 => (1, 38)
  | 9, 8 => (1, 44)
  | 9, 9 => (1, 178)
  | 9, 10 => (1, 198)
  | 9, 11 => (1, 205)
  | 9, 12 => (1, 226)
  | 10, 1 => (1, 1)
  | 10, 2 => (1, 2)
  | 10, 3 => (1, 3)
  | 10, 5 => (1, 4)
  | 10, 6 => (1, 5)
  | 10, 8 => (1, 6)
  | 10, 15 => (1, 7)
  | 10, 21 => (1, 8)
  | 10, 22 => (1, 9)
  | 10, 23 => (1, 10)
  | 10, 24 => (1, 11)
  | 10, 25 => (1, 12)
  | _, _ => (0, 0)
def kxl : List mK := [(0, 9, 0), (1, 400, 0), (0, 1, 0), (0, 3, 0), (1, 8, 0), (1, 8, 0), (1, 8, 0), (1, 8, 0), (1, 8, 0), (1, 8, 0), (1, 24, 0), (1, 16, 0), (1, 240, 0), (0, 1, 0), (0, 3, 0), (1, 8, 0), (1, 8, 0), (1, 8, 0), (1, 8, 0), (1, 8, 0), (1, 8, 0), (1, 24, 0), (1, 16, 0), (1, 240, 0), (0, 2, 0), (1, 12, 0), (1, 12, 0), (1, 12, 0), (1, 400, 0), (1, 10, 0), (1, 32, 0), (0, 2, 0), (1, 12, 0), (1, 12, 0), (1, 12, 0), (1, 400, 0), (1, 10, 0), (1, 32, 0), (0, 8, 0), (1, 400, 0), (5, 401, 0), (1, 401, 0), (1, 401, 0), (1, 401, 0), (0, 4, 0), (3, 12, 0), (0, 1, 0), (0, 3, 0), (1, 8, 0), (1, 8, 0), (1, 8, 0), (1, 8, 0), (1, 8, 0), (1, 8, 0), (1, 24, 0), (1, 16, 0), (1, 240, 0), (0, 1, 0), (0, 3, 0), (1, 8, 0), (1, 8, 0), (1, 8, 0), (1, 8, 0), (1, 8, 0), (1, 8, 0), (1, 24, 0), (1, 16, 0), (1, 240, 0), (0, 1, 0), (0, 3, 0), (1, 8, 0), (1, 8, 0), (1, 8, 0), (1, 8, 0), (1, 8, 0), (1, 8, 0), (1, 24, 0), (1, 16, 0), (1, 240, 0), (0, 1, 0), (0, 3, 0), (1, 8, 0), (1, 8, 0), (1, 8, 0), (1, 8, 0), (1, 8, 0), (1, 8, 0), (1, 24, 0), (1, 16, 0), (1, 240, 0), (0, 1, 0), (0, 3, 0), (1, 8, 0), (1, 8, 0), (1, 8, 0), (1, 8, 0), (1, 8, 0), (1, 8, 0), (1, 24, 0), (1, 16, 0), (1, 240, 0), (0, 1, 0), (0, 3, 0), (1, 8, 0), (1, 8, 0), (1, 8, 0), (1, 8, 0), (1, 8, 0), (1, 8, 0), (1, 24, 0), (1, 16, 0), (1, 240, 0), (0, 1, 0), (0, 3, 0), (1, 8, 0), (1, 8, 0), (1, 8, 0), (1, 8, 0), (1, 8, 0), (1, 8, 0), (1, 24, 0), (1, 16, 0), (1, 240, 0), (0, 1, 0), (0, 3, 0), (1, 8, 0), (1, 8, 0), (1, 8, 0), (1, 8, 0), (1, 8, 0), (1, 8, 0), (1, 24, 0), (1, 16, 0), (1, 240, 0), (0, 1, 0), (0, 3, 0), (1, 8, 0), (1, 8, 0), (1, 8, 0), (1, 8, 0), (1, 8, 0), (1, 8, 0), (1, 24, 0), (1, 16, 0), (1, 240, 0), (0, 1, 0), (0, 3, 0), (1, 8, 0), (1, 8, 0), (1, 8, 0), (1, 8, 0), (1, 8, 0), (1, 8, 0), (1, 24, 0), (1, 16, 0), (1, 240, 0), (0, 1, 0), (0, 3, 0), (1, 8, 0), (1, 8, 0), (1, 8, 0), (1, 8, 0), (1, 8, 0), (1, 8, 0), (1, 24, 0), (1, 16, 0), (1, 240, 0), (0, 1, 0), (0, 3, 0), (1, 8, 0), (1, 8, 0), (1, 8, 0), (1, 8, 0), (1, 8, 0), (1, 8, 0), (1, 24, 0), (1, 16, 0), (1, 240, 0), (0, 0, 0), (0, 1, 0), (0, 3, 0), (1, 8, 0), (1, 8, 0), (1, 8, 0), (1, 8, 0), (1, 8, 0), (1, 8, 0), (1, 24, 0), (1, 16, 0), (1, 240, 0), (0, 2, 0), (1, 12, 0), (1, 12, 0), (1, 12, 0), (1, 400, 0), (1, 10, 0), (1, 32, 0), (1, 8, 0), (0, 3, 0), (1, 8, 0), (1, 8, 0), (1, 8, 0), (1, 8, 0), (1, 8, 0), (1, 8, 0), (0, 7, 0), (4, 8, 7), (1, 7, 0), (1, 7, 0), (1, 7, 0), (1, 7, 0), (1, 7, 0), (1, 7, 0), (1, 7, 0), (1, 7, 0), (1, 7, 0), (4, 9, 161), (1, 161, 0), (1, 161, 0), (1, 161, 0), (1, 161, 0), (1, 161, 0), (1, 161, 0), (1, 161, 0), (1, 161, 0), (1, 161, 0), (0, 5, 0), (4, 8, 8), (1, 8, 0), (1, 8, 0), (1, 8, 0), (1, 8, 0), (1, 8, 0), (1, 8, 0), (1, 8, 0), (1, 8, 0), (1, 256, 0)]
def kml : List mK := [(0, 10, 0), (1, 750, 0), (1, 750, 0), (1, 750, 0), (1, 350, 0), (1, 4200, 0), (1, 400, 0), (1, 8, 0), (1, 56, 0), (1, 1449, 0), (1, 64, 0), (2, 32, 0), (1, 8, 0)]
def KX (r : Nat) : mK := kxl.getD r (9, 0, 0)
def KM (r : Nat) : mK := kml.getD r (9, 0, 0)
def tkN : List String := ["END", "NUMBER", "OTHER", "SEMICOLON", "OPEN", "CLOSE", "PLUS", "LESS", "MORE", "SOAP", "WATER", "ROUGH", "TAKES", "PART", "GREY", "THIN", "WET", "STAINS", "WIND", "DAMP", "NIGHT", "DUE", "LIGHT", "SPRING", "WOLVES", "THIEVES", "SHINE", "DULL", "DRY", "SOIL", "IF", "OR", "AND", "NOT", "FULL", "HUNG"]
def tkT : List Int32 := [-1, -1, -1, -1, -1, -1, -1, -1, -1, -1, -1, -1, -1, 1000, 1001, 1002, 1003, 1004, 1005, 1006, 1007, -1, -1, -1, -1, -1, -1, -1, -1, -1, -1, -1, -1, -1, -1, -1]
def tkS : List Nat := [0, 0, 0, 1, 2, 3, 4, 5, 6, 7, 8, 9, 10, 11, 12, 13, 14, 15, 16, 17, 18, 19, 20, 21, 22, 23, 24, 25, 26, 27, 28, 29, 30, 31, 32, 33]
def lenJS : List Nat := [0, 1, 1, 1, 1, 1, 1, 4, 5, 5, 5, 4, 4, 4, 3, 6, 4, 4, 5, 3, 5, 6, 6, 7, 5, 4, 3, 4, 2, 2, 3, 3, 4, 4]
def bytJS : List (List Int32) := [[], [59], [40], [41], [43], [60], [62], [115, 111, 97, 112], [119, 97, 116, 101, 114], [114, 111, 117, 103, 104], [116, 97, 107, 101, 115], [112, 97, 114, 116], [103, 114, 101, 121], [116, 104, 105, 110], [119, 101, 116], [115, 116, 97, 105, 110, 115], [119, 105, 110, 100], [100, 97, 109, 112], [110, 105, 103, 104, 116], [100, 117, 101], [108, 105, 103, 104, 116], [115, 112, 114, 105, 110, 103], [119, 111, 108, 118, 101, 115], [116, 104, 105, 101, 118, 101, 115], [115, 104, 105, 110, 101], [100, 117, 108, 108], [100, 114, 121], [115, 111, 105, 108], [105, 102], [111, 114], [97, 110, 100], [110, 111, 116], [102, 117, 108, 108], [104, 117, 110, 103]]
def nJS : Nat := 34
def mvl (b r : Nat) (q : Nat × Nat) (x : Int) : Value := match q.1 with
  | 0 => .int (mI x)
  | 1 => .ref (b + (r + q.2))
  | _ => .ref (b + x.toNat)
/-- a region's cell -/
def mCl (g : mG) (b : Nat) (K : Nat → mK) (r : Nat) (f : Int → Int) (H : Heap) : Prop := match (K r).1 with
  | 0 => t_OB (b + r) (g.D.1 (K r).2.1) (nf (K r).2.1) (g.D.2 (K r).2.1) H (fun j => mvl b r (fk (K r).2.1 j) (f j)) ∧ ∀ j, j < nf (K r).2.1 → (fk (K r).2.1 j).1 = 2 → 0 ≤ f j ∧ K (f j).toNat = (0, (fk (K r).2.1 j).2, 0)
  | 1 => H[b + r]? = some (arrV (g.cy 0) (K r).2.1 (fun j => .int (mI (f j))))
  | 2 => H[b + r]? = some (arrV (g.cy 1) (K r).2.1 (fun j => .int (mI (f j))))
  | 3 => H[b + r]? = some (arrV (g.cy 2) (K r).2.1 (fun j => .ref (b + (r + 1 + 11 * j))))
  | 4 => H[b + r]? = some (arrV (g.cy 3) (K r).2.1 (fun j => .ref (b + (r + 1 + j))))
  | 5 => H[b + r]? = some (arrV (g.cy 4) (K r).2.1 (fun j => .ref (g.ad (f j).toNat))) ∧ ∀ j : Nat, j < (K r).2.1 → 0 ≤ f j ∧ f j < 36
  | _ => True
/-- the world of a part -/
def mW (g : mG) (b : Nat) (K : Nat → mK) (S : mSt) (H : Heap) : Prop := g.lo ≤ b ∧ okS S ∧ ∀ r : Nat, mCl g b K r (S r) H
/-- what a method of the part may change -/
def mA (b : Nat) (K : Nat → mK) (sz : Nat) : Nat → Prop := fun q => (∃ r, q = b + r ∧ (K r).1 < 6) ∨ sz ≤ q
def mTy (g : mG) : List (ClassId × FieldType) := [(g.cy 0, .int), (g.cy 1, .boolean), (g.cy 2, .object "MoonWash$Laundry"), (g.cy 3, .array .int), (g.cy 4, .object "MoonWash$Token"), (g.cy 5, .long)]
abbrev mLo (g : mG) : Nat → Prop := fun q => g.lo ≤ q
def mRf : List (Nat × String × Nat) := [(112, "water", 8), (118, "rough", 9), (120, "takes", 10), (126, "grey", 12), (128, "thin", 13), (130, "stains", 15), (132, "light", 20), (134, "soap", 7), (139, "part", 11), (144, "wind", 16), (150, "due", 19), (155, "spring", 21), (157, "wolves", 22), (159, "thieves", 23), (190, "wet", 14), (192, "damp", 17), (194, "night", 18), (198, "full", 32), (204, "hung", 33), (212, "not", 31), (224, "and", 30), (229, "or", 29), (231, "shine", 24), (233, "dull", 25), (235, "dry", 26), (237, "soil", 27), (239, "if", 28)]
def mCn (g : mG) (U : State) (H : Heap) : Prop :=
  vx_Zq Bundle.tN "UNASSIGNED_STACK" Bundle.steD (mLo g) U H ∧ vx_Zq Bundle.tN "SUPPRESSED_SENTINEL" Bundle.listD (mLo g) U H ∧
  va_En "MoonWash$Token" "LMoonWash$Token;" tkN [("MoonWash$Token", "term", "I", tkT)] g.ad (mLo g) U H ∧
  va_Ef 36 "MoonWash$Token" "text" "Ljava/lang/String;" (fun k => .ref (g.sa (tkS.getD k 0))) g.ad (mLo g) U H ∧
  va_Z "MoonWash$Token" "ALL" "[LMoonWash$Token;" (.ref g.al) (mLo g) U H ∧
  va_T (.object "MoonWash$Token") g.al 36 (fun k => .ref (g.ad k)) (mLo g) U H ∧
  vk_S nJS lenJS bytJS g.sa g.sv (mLo g) U H
def isN : Cond → Bool
  | .declares _ => true
  | .castable _ _ => true
  | .methodLinkNest _ _ _ _ => true
  | _ => false
def wsN : List Cond := tables_1.filter isN
theorem wsN_in {w : Cond} (i : Nat) (h : tables_1[i]? = some w) (hg : isN w = true) : w ∈ wsN := List.mem_filter.mpr ⟨List.mem_of_getElem? h, hg⟩
def mNcL : List (String × String) := [("java/lang/UnsupportedOperationException", "java/lang/IllegalArgumentException"), ("java/util/NoSuchElementException", "java/lang/IndexOutOfBoundsException"), ("java/lang/IllegalStateException", "java/lang/IndexOutOfBoundsException"), ("java/lang/IllegalArgumentException", "java/lang/IndexOutOfBoundsException"), ("java/util/NoSuchElementException", "java/lang/IllegalArgumentException")]
def mKg (g : mG) (U : State) : Prop := va_K g.D vwCl (mTy g) U ∧ g.lo ≤ U.heap.size ∧ mCn g U U.heap ∧ (∀ q ∈ mRf, vk_R "MoonWashModel" q.1 q.2.1 (g.sa q.2.2) U) ∧ (∀ w ∈ wsN, va_Nw w U) ∧ ∀ q ∈ mNcL, va_Nc q.1 q.2 U
theorem wsN_warm {s U : State} (hW : s.WarmedH U.vm) (h : ∀ w ∈ wsN, va_Nw w s) : ∀ w ∈ wsN, va_Nw w U := by
  intro w hw
  have hn : isN w = true := (List.mem_filter.mp hw).2
  have h1 := h w hw
  cases w <;> first | exact va_Nw.warmD hW h1 | exact va_Nw.warmC hW h1 | exact va_Nw.warmM hW h1 | (simp [isN] at hn)
theorem wsN_same {s U : State} (hv : s.vm = U.vm) (h : ∀ w ∈ wsN, va_Nw w s) : ∀ w ∈ wsN, va_Nw w U := by
  intro w hw
  have hn : isN w = true := (List.mem_filter.mp hw).2
  have h1 := h w hw
  cases w <;> first | exact va_Nw.same rfl hv h1 | (simp [isN] at hn)
theorem mCn.moved {g : mG} {u U : State} {H : Heap} (hvm : u.vm.Alike U.vm) (h : mCn g u H) : mCn g U H := by
  obtain ⟨h1, h2, h3, h4, h5, h6, h7⟩ := h
  exact ⟨vx_Zq.moved hvm h1, vx_Zq.moved hvm h2, va_En.moved hvm h3, va_Ef.moved hvm h4, va_Z.moved hvm h5, va_T.moved hvm h6, vk_S.moved hvm h7⟩
theorem mCn.kept {g : mG} {U : State} {H H1 : Heap} (h : mCn g U H) (hq : ∀ a : Nat, a < H.size → ¬ mLo g a → H1[a]? = H[a]?) : mCn g U H1 := by
  obtain ⟨h1, h2, h3, h4, h5, h6, h7⟩ := h
  exact ⟨h1.kept hq, h2.kept hq, h3.kept hq, h4.kept hq, h5.kept hq, h6.kept hq, h7.kept hq⟩
theorem mA_lo {g : mG} {b sz : Nat} {K : Nat → mK} (h1 : g.lo ≤ b) (h2 : g.lo ≤ sz) : ∀ q, mA b K sz q → mLo g q := by
  intro q h
  rcases h with ⟨r, h, -⟩ | h <;> (show g.lo ≤ q; omega)
/-- what never changes, at a callee's start -/
theorem mKg.to {g : mG} {s U : State} {A : Nat → Prop} {H : Heap} {locs : List Loc} (h : mKg g s) (hW : s.WarmedH U.vm) (hU : U.heap = H) (hS : va_S A s.heap H locs) (hA : ∀ q, A q → mLo g q) : mKg g U := by
  obtain ⟨h1, h2, h3, h4, h5, h6⟩ := h
  refine ⟨va_K.moved hW.alike h1, by rw [hU]; exact Nat.le_trans h2 hS.1, ?_, fun q hq => (h4 q hq).warm hW, wsN_warm hW h5, fun q hq => va_Nc.moved hW.alike (h6 q hq)⟩
  rw [hU]
  exact (mCn.moved hW.alike h3).kept (fun a h7 h8 => hS.2.1 a h7 (fun z => h8 (hA a z)))
theorem mKg.call {g : mG} {U : State} {gg : JFrame} {mk : MethodId} {a : Array Value} (h : mKg g U) : mKg g (U.calling gg mk a) := by
  obtain ⟨h1, h2, h3, h4, h5, h6⟩ := h
  exact ⟨va_K.moved (u := U) (U := U.calling gg mk a) (Vm.Alike.refl U.vm) h1, h2, mCn.moved (u := U) (U := U.calling gg mk a) (Vm.Alike.refl U.vm) h3, fun q hq => (h4 q hq).same rfl, wsN_same (s := U) (U := U.calling gg mk a) rfl h5, fun q hq => va_Nc.moved (u := U) (U := U.calling gg mk a) (Vm.Alike.refl U.vm) (h6 q hq)⟩
theorem mCl_up {g : mG} {b r : Nat} {K : Nat → mK} {S : mSt} {i v : Int} {H H1 : Heap} (hw : ∀ r', mCl g b K r' (S r') H) (hr : mCl g b K r (mup S r i v r) H1) (ho : ∀ q : Nat, q ≠ b + r → H1[q]? = H[q]?) : ∀ r', mCl g b K r' (mup S r i v r') H1 := by
  intro r'
  by_cases e : r' = r
  · rw [e]; exact hr
  · have e1 : mup S r i v r' = S r' := by funext i'; exact mup_r S i v i' e
    rw [e1]
    have h := hw r'
    have ha : H1[b + r']? = H[b + r']? := ho _ (by omega)
    unfold mCl at h ⊢
    split at h <;> first | exact ⟨h.1.kept ha, h.2⟩ | exact ha.trans h | exact ⟨ha.trans h.1, h.2⟩ | trivial

