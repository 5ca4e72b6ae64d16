set_option maxHeartbeats 4000000
set_option maxRecDepth 20000
section
variable {p : Program} {l : Launch} {e : Env} {s : State} {m : MethodId} {args : Array Value} {below : List Frame} {meth : Method} {c : Code} {g : mG} {b : Nat}
def w_X12_soaps_101 (N : Nat) (Q : mSt → Int → Prop) (ko64 : Nat → Int → Int → Int → Int → Int → mSt → Prop) (r0 : Nat) (x2 : Int) (x3 : Int) (x4 : Int) (x6 : Int) (xs0 : Int) (xs1 : Int) (S : mSt) : Prop :=
  ∀ v1 : Int, v1 = (bAnd xs1 xs0) → ∀ v2 : Int, v2 = nm (x6 + 1) → ko64 r0 x2 x3 x4 v1 v2 S
theorem W_X12_soaps_101 (C : mC p l s m args meth c cX12_soaps "MoonWashModel" 7 (some FieldType.int) g) (N : Nat) {Q : mSt → Int → Prop} {ko64 : Nat → Int → Int → Int → Int → Int → mSt → Prop} (hko64 : ∀ (r0 : Nat) (kr0 : KM r0 = (0, 10, 0)) (x2 : Int) (ox2 : okI x2) (x3 : Int) (ox3 : okI x3) (x4 : Int) (ox4 : okI x4) (x5 : Int) (ox5 : okI x5) (x6 : Int) (ox6 : okI x6) (S : mSt) (H : Heap) (locs : List Loc) (ls : Array Slot), lv_has ls 7 [(0, .ref (b + r0)), (2, .int (mI x2)), (3, .int (mI x3)), (4, .int (mI x4)), (5, .int (mI x5)), (6, .int (mI x6))] → mW g b KM S H → va_S (mA b KM s.heap.size) s.heap H locs → ko64 r0 x2 x3 x4 x5 x6 S → W p l e { frames := 2, cells := 0, slots := 0, locals := 45 } s m args below meth c H locs 0 0 (vx_MQ below (mQi g b KM Q (mA b KM s.heap.size)) (mEx g b KM (fun _ _ => False) (mA b KM s.heap.size)) args s 0 0 (mA b KM s.heap.size)) (F0 m 64 ls [])) (r0 : Nat) (kr0 : KM r0 = (0, 10, 0)) (x2 : Int) (ox2 : okI x2) (x3 : Int) (ox3 : okI x3) (x4 : Int) (ox4 : okI x4) (x6 : Int) (ox6 : okI x6) (xs0 : Int) (oxs0 : okI xs0) (xs1 : Int) (oxs1 : okI xs1) (S : mSt) (H : Heap) (locs : List Loc) (ls : Array Slot) (hl : lv_has ls 7 [(0, .ref (b + r0)), (2, .int (mI x2)), (3, .int (mI x3)), (4, .int (mI x4)), (6, .int (mI x6))]) (hW : mW g b KM S H) (hS : va_S (mA b KM s.heap.size) s.heap H locs) (h : w_X12_soaps_101 N Q ko64 r0 x2 x3 x4 x6 xs0 xs1 S) : W p l e { frames := 2, cells := 0, slots := 0, locals := 45 } s m args below meth c H locs 0 0 (vx_MQ below (mQi g b KM Q (mA b KM s.heap.size)) (mEx g b KM (fun _ _ => False) (mA b KM s.heap.size)) args s 0 0 (mA b KM s.heap.size)) (F0 m 101 ls [.int (mI xs0), .int (mI xs1)]) := by
  unfold w_X12_soaps_101 at h
  refine m_iand (pc := 101) C.1 dX12_soaps_101 ?_
  refine m_istore (pc := 102) C.1 dX12_soaps_102 hl (by decide) (fun v => [(5, .int v), (0, .ref (b + r0)), (2, .int (mI x2)), (3, .int (mI x3)), (4, .int (mI x4)), (6, .int (mI x6))]) (fun _ => rfl) (bAnd_ok _ _) (fun v1 ls ev1 ov1 hl => ?_)
  replace h := h v1 ev1
  refine m_iinc (pc := 104) C.1 dX12_soaps_104 hl (by decide) (q0 := 5) rfl (fun v => [(6, .int v), (5, .int (mI v1)), (0, .ref (b + r0)), (2, .int (mI x2)), (3, .int (mI x3)), (4, .int (mI x4))]) (fun _ => rfl) (fun v2 ls ev2 ov2 hl => ?_)
  replace h := h v2 ev2
  refine m_goto (pc := 107) (tgt := 64) C.1 dX12_soaps_107 (by decide) ?_
  exact hko64 r0 kr0 x2 ox2 x3 ox3 x4 ox4 v1 ov1 v2 ov2 S _ _ _ (lv_sub hl [2, 3, 4, 5, 1, 0] rfl) hW hS h
def w_X12_soaps_64b (N : Nat) (Q : mSt → Int → Prop) (ko64 : Nat → Int → Int → Int → Int → Int → mSt → Prop) (ko110 : Nat → Int → Int → Int → Int → mSt → Prop) (r0 : Nat) (x2 : Int) (x3 : Int) (x4 : Int) (x5 : Int) (x6 : Int) (S : mSt) : Prop :=
  (((S (r0 + 1) 3) ≤ x6 → ko110 r0 x2 x3 x4 x5 S) ∧ (x6 < (S (r0 + 1) 3) → w_X12_isOf N x4 x6 S (fun (S1 : mSt) (v1 : Int) => ((v1 = 0 → w_X12_soaps_101 N Q ko64 r0 x2 x3 x4 x6 31 x5 S1) ∧ (v1 ≠ 0 → w_X12_ofSoap N r0 x6 3 S1 (fun (S2 : mSt) (v2 : Int) => w_X12_soaps_101 N Q ko64 r0 x2 x3 x4 x6 (bXor v2 (-1)) x5 S2))))))
theorem W_X12_soaps_64b (C : mC p l s m args meth c cX12_soaps "MoonWashModel" 7 (some FieldType.int) g) (N : Nat) {Q : mSt → Int → Prop} {ko64 : Nat → Int → Int → Int → Int → Int → mSt → Prop} {ko110 : Nat → Int → Int → Int → Int → mSt → Prop} (hko64 : ∀ (r0 : Nat) (kr0 : KM r0 = (0, 10, 0)) (x2 : Int) (ox2 : okI x2) (x3 : Int) (ox3 : okI x3) (x4 : Int) (ox4 : okI x4) (x5 : Int) (ox5 : okI x5) (x6 : Int) (ox6 : okI x6) (S : mSt) (H : Heap) (locs : List Loc) (ls : Array Slot), lv_has ls 7 [(0, .ref (b + r0)), (2, .int (mI x2)), (3, .int (mI x3)), (4, .int (mI x4)), (5, .int (mI x5)), (6, .int (mI x6))] → mW g b KM S H → va_S (mA b KM s.heap.size) s.heap H locs → ko64 r0 x2 x3 x4 x5 x6 S → W p l e { frames := 2, cells := 0, slots := 0, locals := 45 } s m args below meth c H locs 0 0 (vx_MQ below (mQi g b KM Q (mA b KM s.heap.size)) (mEx g b KM (fun _ _ => False) (mA b KM s.heap.size)) args s 0 0 (mA b KM s.heap.size)) (F0 m 64 ls [])) (hko110 : ∀ (r0 : Nat) (kr0 : KM r0 = (0, 10, 0)) (x2 : Int) (ox2 : okI x2) (x3 : Int) (ox3 : okI x3) (x4 : Int) (ox4 : okI x4) (x5 : Int) (ox5 : okI x5) (S : mSt) (H : Heap) (locs : List Loc) (ls : Array Slot), lv_has ls 7 [(0, .ref (b + r0)), (2, .int (mI x2)), (3, .int (mI x3)), (4, .int (mI x4)), (5, .int (mI x5))] → mW g b KM S H → va_S (mA b KM s.heap.size) s.heap H locs → ko110 r0 x2 x3 x4 x5 S → W p l e { frames := 2, cells := 0, slots := 0, locals := 45 } s m args below meth c H locs 0 0 (vx_MQ below (mQi g b KM Q (mA b KM s.heap.size)) (mEx g b KM (fun _ _ => False) (mA b KM s.heap.size)) args s 0 0 (mA b KM s.heap.size)) (F0 m 110 ls [])) (r0 : Nat) (kr0 : KM r0 = (0, 10, 0)) (x2 : Int) (ox2 : okI x2) (x3 : Int) (ox3 : okI x3) (x4 : Int) (ox4 : okI x4) (x5 : Int) (ox5 : okI x5) (x6 : Int) (ox6 : okI x6) (S : mSt) (H : Heap) (locs : List Loc) (ls : Array Slot) (hl : lv_has ls 7 [(0, .ref (b + r0)), (2, .int (mI x2)), (3, .int (mI x3)), (4, .int (mI x4)), (5, .int (mI x5)), (6, .int (mI x6))]) (hW : mW g b KM S H) (hS : va_S (mA b KM s.heap.size) s.heap H locs) (h : w_X12_soaps_64b N Q ko64 ko110 r0 x2 x3 x4 x5 x6 S) : W p l e { frames := 2, cells := 0, slots := 0, locals := 45 } s m args below meth c H locs 0 0 (vx_MQ below (mQi g b KM Q (mA b KM s.heap.size)) (mEx g b KM (fun _ _ => False) (mA b KM s.heap.size)) args s 0 0 (mA b KM s.heap.size)) (F0 m 64 ls []) := by
  unfold w_X12_soaps_64b at h
  refine m_iload (pc := 64) C.1 dX12_soaps_64 hl 5 rfl ?_
  refine m_aload_n (pc := 66) C.1 dX12_soaps_66 rfl hl 0 rfl ?_
  refine g_10_1 (pc := 67) C hW kr0 q_1384 dX12_soaps_67 ?_
  refine m_iconst (pc := 70) C.1 dX12_soaps_70 ?_
  refine m_iald (pc := 71) C.1 C.2.1 hW (k_10_1 kr0) (by decide : okI 3) (by decide) (by decide) dX12_soaps_71 ?_
  refine m_icmp_ge (pc := 72) (tgt := 110) C.1 ox6 (hW.2.1 _ _) dX12_soaps_72 (by decide) (fun hc => ?_) (fun hc => ?_)
  · replace h := h.1 hc
    exact hko110 r0 kr0 x2 ox2 x3 ox3 x4 ox4 x5 ox5 S _ _ _ (lv_sub hl [0, 1, 2, 3, 4] rfl) hW hS h
  · replace h := h.2 hc
    refine m_iload (pc := 75) C.1 dX12_soaps_75 hl 4 rfl ?_
    refine m_iload (pc := 77) C.1 dX12_soaps_77 hl 3 rfl ?_
    refine m_iload (pc := 79) C.1 dX12_soaps_79 hl 5 rfl ?_
    refine m_callSi (pc := 81) C.1 C.2.2.1 hl.1 C.2.1 hW hS (As := [.int (mI x4), .int (mI x6)]) (rest := [.int (mI x5)]) (T_X12_isOf C.2.2.2.2.2.2 N x4 ox4 x6 ox6 h) q_1590 q_1591 q_92 q_1592 pl_X12_isOf (by decide) (Nat.le_of_ble_eq_true rfl) dX12_soaps_81 (fun v1 S1 H locs ov1 h hW1 hS => ?_)
    refine m_if_eq (pc := 84) (tgt := 99) C.1 ov1 dX12_soaps_84 (by decide) (fun hc => ?_) (fun hc => ?_)
    · replace h := h.1 hc
      refine m_bipush (pc := 99) C.1 dX12_soaps_99 rfl ?_
      exact W_X12_soaps_101 C N hko64 r0 kr0 x2 ox2 x3 ox3 x4 ox4 x6 ox6 31 (by decide : okI 31) x5 ox5 S1 _ _ _ (lv_sub hl [0, 1, 2, 3, 5] rfl) hW1 hS h
    · replace h := h.2 hc
      refine m_aload_n (pc := 87) C.1 dX12_soaps_87 rfl hl 0 rfl ?_
      refine m_iload (pc := 88) C.1 dX12_soaps_88 hl 5 rfl ?_
      refine m_iconst (pc := 90) C.1 dX12_soaps_90 ?_
      refine m_callVi (pc := 91) C.1 C.2.2.1 hl.1 C.2.1 hW1 hS (As := [.int (mI x6), .int (mI 3)]) (rest := [.int (mI x5)]) (r := r0) (T_X12_ofSoap C.2.2.2.2.2.2 N r0 kr0 x6 ox6 3 (by decide : okI 3) h) kr0 rfl q_1671 q_1673 q_56 q_92 q_1674 pl_X12_ofSoap (by decide) (Nat.le_of_ble_eq_true rfl) dX12_soaps_91 (fun v2 S2 H locs ov2 h hW2 hS => ?_)
      refine m_iconst (pc := 94) C.1 dX12_soaps_94 ?_
      refine m_ixor (pc := 95) C.1 dX12_soaps_95 ?_
      refine m_goto (pc := 96) (tgt := 101) C.1 dX12_soaps_96 (by decide) ?_
      exact W_X12_soaps_101 C N hko64 r0 kr0 x2 ox2 x3 ox3 x4 ox4 x6 ox6 (bXor v2 (-1)) (bXor_ok _ _) x5 ox5 S2 _ _ _ (lv_sub hl [0, 1, 2, 3, 5] rfl) hW2 hS h
def w_X12_soaps_64 (N : Nat) (Q : mSt → Int → Prop) (ko110 : Nat → Int → Int → Int → Int → mSt → Prop) : Nat → Nat → Int → Int → Int → Int → Int → mSt → Prop
  | 0 => fun _ _ _ _ _ _ _ => False
  | k + 1 => w_X12_soaps_64b N Q (w_X12_soaps_64 N Q ko110 k) ko110
theorem W_X12_soaps_64 (C : mC p l s m args meth c cX12_soaps "MoonWashModel" 7 (some FieldType.int) g) (N : Nat) {Q : mSt → Int → Prop} {ko110 : Nat → Int → Int → Int → Int → mSt → Prop} (hko110 : ∀ (r0 : Nat) (kr0 : KM r0 = (0, 10, 0)) (x2 : Int) (ox2 : okI x2) (x3 : Int) (ox3 : okI x3) (x4 : Int) (ox4 : okI x4) (x5 : Int) (ox5 : okI x5) (S : mSt) (H : Heap) (locs : List Loc) (ls : Array Slot), lv_has ls 7 [(0, .ref (b + r0)), (2, .int (mI x2)), (3, .int (mI x3)), (4, .int (mI x4)), (5, .int (mI x5))] → mW g b KM S H → va_S (mA b KM s.heap.size) s.heap H locs → ko110 r0 x2 x3 x4 x5 S → W p l e { frames := 2, cells := 0, slots := 0, locals := 45 } s m args below meth c H locs 0 0 (vx_MQ below (mQi g b KM Q (mA b KM s.heap.size)) (mEx g b KM (fun _ _ => False) (mA b KM s.heap.size)) args s 0 0 (mA b KM s.heap.size)) (F0 m 110 ls [])) : ∀ (k : Nat) (r0 : Nat) (kr0 : KM r0 = (0, 10, 0)) (x2 : Int) (ox2 : okI x2) (x3 : Int) (ox3 : okI x3) (x4 : Int) (ox4 : okI x4) (x5 : Int) (ox5 : okI x5) (x6 : Int) (ox6 : okI x6) (S : mSt) (H : Heap) (locs : List Loc) (ls : Array Slot) (hl : lv_has ls 7 [(0, .ref (b + r0)), (2, .int (mI x2)), (3, .int (mI x3)), (4, .int (mI x4)), (5, .int (mI x5)), (6, .int (mI x6))]) (hW : mW g b KM S H) (hS : va_S (mA b KM s.heap.size) s.heap H locs) (h : w_X12_soaps_64 N Q ko110 k r0 x2 x3 x4 x5 x6 S), W p l e { frames := 2, cells := 0, slots := 0, locals := 45 } s m args below meth c H locs 0 0 (vx_MQ below (mQi g b KM Q (mA b KM s.heap.size)) (mEx g b KM (fun _ _ => False) (mA b KM s.heap.size)) args s 0 0 (mA b KM s.heap.size)) (F0 m 64 ls []) := by
  intro k
  induction k with
  | zero => intro r0 kr0 x2 ox2 x3 ox3 x4 ox4 x5 ox5 x6 ox6 S H locs ls hl hW hS h; exact False.elim h
  | succ k ih => intro r0 kr0 x2 ox2 x3 ox3 x4 ox4 x5 ox5 x6 ox6 S H locs ls hl hW hS h; exact W_X12_soaps_64b C N ih hko110 r0 kr0 x2 ox2 x3 ox3 x4 ox4 x5 ox5 x6 ox6 S H locs ls hl hW hS h
def w_X12_soaps_135 (N : Nat) (Q : mSt → Int → Prop) (ko45 : Nat → Int → Int → Int → mSt → Prop) (r0 : Nat) (x2 : Int) (x3 : Int) (x4 : Int) (S : mSt) : Prop :=
  ∀ v1 : Int, v1 = nm (x4 + 1) → ko45 r0 x2 x3 v1 S
theorem W_X12_soaps_135 (C : mC p l s m args meth c cX12_soaps "MoonWashModel" 7 (some FieldType.int) g) (N : Nat) {Q : mSt → Int → Prop} {ko45 : Nat → Int → Int → Int → mSt → Prop} (hko45 : ∀ (r0 : Nat) (kr0 : KM r0 = (0, 10, 0)) (x2 : Int) (ox2 : okI x2) (x3 : Int) (ox3 : okI x3) (x4 : Int) (ox4 : okI x4) (S : mSt) (H : Heap) (locs : List Loc) (ls : Array Slot), lv_has ls 7 [(0, .ref (b + r0)), (2, .int (mI x2)), (3, .int (mI x3)), (4, .int (mI x4))] → mW g b KM S H → va_S (mA b KM s.heap.size) s.heap H locs → ko45 r0 x2 x3 x4 S → W p l e { frames := 2, cells := 0, slots := 0, locals := 45 } s m args below meth c H locs 0 0 (vx_MQ below (mQi g b KM Q (mA b KM s.heap.size)) (mEx g b KM (fun _ _ => False) (mA b KM s.heap.size)) args s 0 0 (mA b KM s.heap.size)) (F0 m 45 ls [])) (r0 : Nat) (kr0 : KM r0 = (0, 10, 0)) (x2 : Int) (ox2 : okI x2) (x3 : Int) (ox3 : okI x3) (x4 : Int) (ox4 : okI x4) (S : mSt) (H : Heap) (locs : List Loc) (ls : Array Slot) (hl : lv_has ls 7 [(0, .ref (b + r0)), (2, .int (mI x2)), (3, .int (mI x3)), (4, .int (mI x4))]) (hW : mW g b KM S H) (hS : va_S (mA b KM s.heap.size) s.heap H locs) (h : w_X12_soaps_135 N Q ko45 r0 x2 x3 x4 S) : W p l e { frames := 2, cells := 0, slots := 0, locals := 45 } s m args below meth c H locs 0 0 (vx_MQ below (mQi g b KM Q (mA b KM s.heap.size)) (mEx g b KM (fun _ _ => False) (mA b KM s.heap.size)) args s 0 0 (mA b KM s.heap.size)) (F0 m 135 ls []) := by
  unfold w_X12_soaps_135 at h
  refine m_iinc (pc := 135) C.1 dX12_soaps_135 hl (by decide) (q0 := 3) rfl (fun v => [(4, .int v), (0, .ref (b + r0)), (2, .int (mI x2)), (3, .int (mI x3))]) (fun _ => rfl) (fun v1 ls ev1 ov1 hl => ?_)
  replace h := h v1 ev1
  refine m_goto (pc := 138) (tgt := 45) C.1 dX12_soaps_138 (by decide) ?_
  exact hko45 r0 kr0 x2 ox2 x3 ox3 v1 ov1 S _ _ _ (lv_sub hl [1, 2, 3, 0] rfl) hW hS h
def w_X12_soaps_132 (N : Nat) (Q : mSt → Int → Prop) (ko45 : Nat → Int → Int → Int → mSt → Prop) (r0 : Nat) (x2 : Int) (x4 : Int) (S : mSt) : Prop :=
  ∀ v1 : Int, v1 = x4 → w_X12_soaps_135 N Q ko45 r0 x2 v1 x4 S
theorem W_X12_soaps_132 (C : mC p l s m args meth c cX12_soaps "MoonWashModel" 7 (some FieldType.int) g) (N : Nat) {Q : mSt → Int → Prop} {ko45 : Nat → Int → Int → Int → mSt → Prop} (hko45 : ∀ (r0 : Nat) (kr0 : KM r0 = (0, 10, 0)) (x2 : Int) (ox2 : okI x2) (x3 : Int) (ox3 : okI x3) (x4 : Int) (ox4 : okI x4) (S : mSt) (H : Heap) (locs : List Loc) (ls : Array Slot), lv_has ls 7 [(0, .ref (b + r0)), (2, .int (mI x2)), (3, .int (mI x3)), (4, .int (mI x4))] → mW g b KM S H → va_S (mA b KM s.heap.size) s.heap H locs → ko45 r0 x2 x3 x4 S → W p l e { frames := 2, cells := 0, slots := 0, locals := 45 } s m args below meth c H locs 0 0 (vx_MQ below (mQi g b KM Q (mA b KM s.heap.size)) (mEx g b KM (fun _ _ => False) (mA b KM s.heap.size)) args s 0 0 (mA b KM s.heap.size)) (F0 m 45 ls [])) (r0 : Nat) (kr0 : KM r0 = (0, 10, 0)) (x2 : Int) (ox2 : okI x2) (x4 : Int) (ox4 : okI x4) (S : mSt) (H : Heap) (locs : List Loc) (ls : Array Slot) (hl : lv_has ls 7 [(0, .ref (b + r0)), (2, .int (mI x2)), (4, .int (mI x4))]) (hW : mW g b KM S H) (hS : va_S (mA b KM s.heap.size) s.heap H locs) (h : w_X12_soaps_132 N Q ko45 r0 x2 x4 S) : W p l e { frames := 2, cells := 0, slots := 0, locals := 45 } s m args below meth c H locs 0 0 (vx_MQ below (mQi g b KM Q (mA b KM s.heap.size)) (mEx g b KM (fun _ _ => False) (mA b KM s.heap.size)) args s 0 0 (mA b KM s.heap.size)) (F0 m 132 ls []) := by
  unfold w_X12_soaps_132 at h
  refine m_iload (pc := 132) C.1 dX12_soaps_132 hl 2 rfl ?_
  refine m_istore_n (pc := 134) C.1 dX12_soaps_134 rfl hl (by decide) (fun v => [(3, .int v), (0, .ref (b + r0)), (2, .int (mI x2)), (4, .int (mI x4))]) (fun _ => rfl) ox4 (fun v1 ls ev1 ov1 hl => ?_)
  replace h := h v1 ev1
  exact W_X12_soaps_135 C N hko45 r0 kr0 x2 ox2 v1 ov1 x4 ox4 S _ _ _ (lv_sub hl [1, 2, 0, 3] rfl) hW hS h
def w_X12_soaps_45b (N : Nat) (Q : mSt → Int → Prop) (ko45 : Nat → Int → Int → Int → mSt → Prop) (ko141 : Int → mSt → Prop) (r0 : Nat) (x2 : Int) (x3 : Int) (x4 : Int) (S : mSt) : Prop :=
  (((bShl 1 (S (r0 + 1) 3)) ≤ x4 → ko141 x3 S) ∧ (x4 < (bShl 1 (S (r0 + 1) 3)) → ∀ v1 : Int, v1 = x2 → ∀ v2 : Int, v2 = 0 → w_X12_soaps_64 N Q (fun (r0_3 : Nat) (x2_3 : Int) (x3_3 : Int) (x4_3 : Int) (x5_3 : Int) (S_3 : mSt) => ((x5_3 ≠ 0 → w_X12_soaps_135 N Q ko45 r0_3 x2_3 x3_3 x4_3 S_3) ∧ (x5_3 = 0 → ((x3_3 = (-1) → w_X12_soaps_132 N Q ko45 r0_3 x2_3 x4_3 S_3) ∧ (x3_3 ≠ (-1) → w_X12_bits N x4_3 S_3 (fun (S4 : mSt) (v4 : Int) => w_X12_bits N x3_3 S4 (fun (S5 : mSt) (v5 : Int) => ((v5 ≤ v4 → w_X12_soaps_135 N Q ko45 r0_3 x2_3 x3_3 x4_3 S5) ∧ (v4 < v5 → w_X12_soaps_132 N Q ko45 r0_3 x2_3 x4_3 S5))))))))) N r0 x2 x3 x4 v1 v2 S))
theorem W_X12_soaps_45b (C : mC p l s m args meth c cX12_soaps "MoonWashModel" 7 (some FieldType.int) g) (N : Nat) {Q : mSt → Int → Prop} {ko45 : Nat → Int → Int → Int → mSt → Prop} {ko141 : Int → mSt → Prop} (hko45 : ∀ (r0 : Nat) (kr0 : KM r0 = (0, 10, 0)) (x2 : Int) (ox2 : okI x2) (x3 : Int) (ox3 : okI x3) (x4 : Int) (ox4 : okI x4) (S : mSt) (H : Heap) (locs : List Loc) (ls : Array Slot), lv_has ls 7 [(0, .ref (b + r0)), (2, .int (mI x2)), (3, .int (mI x3)), (4, .int (mI x4))] → mW g b KM S H → va_S (mA b KM s.heap.size) s.heap H locs → ko45 r0 x2 x3 x4 S → W p l e { frames := 2, cells := 0, slots := 0, locals := 45 } s m args below meth c H locs 0 0 (vx_MQ below (mQi g b KM Q (mA b KM s.heap.size)) (mEx g b KM (fun _ _ => False) (mA b KM s.heap.size)) args s 0 0 (mA b KM s.heap.size)) (F0 m 45 ls [])) (hko141 : ∀ (x3 : Int) (ox3 : okI x3) (S : mSt) (H : Heap) (locs : List Loc) (ls : Array Slot), lv_has ls 7 [(3, .int (mI x3))] → mW g b KM S H → va_S (mA b KM s.heap.size) s.heap H locs → ko141 x3 S → W p l e { frames := 2, cells := 0, slots := 0, locals := 45 } s m args below meth c H locs 0 0 (vx_MQ below (mQi g b KM Q (mA b KM s.heap.size)) (mEx g b KM (fun _ _ => False) (mA b KM s.heap.size)) args s 0 0 (mA b KM s.heap.size)) (F0 m 141 ls [])) (r0 : Nat) (kr0 : KM r0 = (0, 10, 0)) (x2 : Int) (ox2 : okI x2) (x3 : Int) (ox3 : okI x3) (x4 : Int) (ox4 : okI x4) (S : mSt) (H : Heap) (locs : List Loc) (ls : Array Slot) (hl : lv_has ls 7 [(0, .ref (b + r0)), (2, .int (mI x2)), (3, .int (mI x3)), (4, .int (mI x4))]) (hW : mW g b KM S H) (hS : va_S (mA b KM s.heap.size) s.heap H locs) (h : w_X12_soaps_45b N Q ko45 ko141 r0 x2 x3 x4 S) : W p l e { frames := 2, cells := 0, slots := 0, locals := 45 } s m args below meth c H locs 0 0 (vx_MQ below (mQi g b KM Q (mA b KM s.heap.size)) (mEx g b KM (fun _ _ => False) (mA b KM s.heap.size)) args s 0 0 (mA b KM s.heap.size)) (F0 m 45 ls []) := by
  unfold w_X12_soaps_45b at h
  refine m_iload (pc := 45) C.1 dX12_soaps_45 hl 3 rfl ?_
  refine m_iconst (pc := 47) C.1 dX12_soaps_47 ?_
  refine m_aload_n (pc := 48) C.1 dX12_soaps_48 rfl hl 0 rfl ?_
  refine g_10_1 (pc := 49) C hW kr0 q_1384 dX12_soaps_49 ?_
  refine m_iconst (pc := 52) C.1 dX12_soaps_52 ?_
  refine m_iald (pc := 53) C.1 C.2.1 hW (k_10_1 kr0) (by decide : okI 3) (by decide) (by decide) dX12_soaps_53 ?_
  refine m_ishl (pc := 54) C.1 dX12_soaps_54 ?_
  refine m_icmp_ge (pc := 55) (tgt := 141) C.1 ox4 (bShl_ok _ _) dX12_soaps_55 (by decide) (fun hc => ?_) (fun hc => ?_)
  · replace h := h.1 hc
    exact hko141 x3 ox3 S _ _ _ (lv_sub hl [2] rfl) hW hS h
  · replace h := h.2 hc
    refine m_iload_n (pc := 58) C.1 dX12_soaps_58 rfl hl 1 rfl ?_
    refine m_istore (pc := 59) C.1 dX12_soaps_59 hl (by decide) (fun v => [(5, .int v), (0, .ref (b + r0)), (2, .int (mI x2)), (3, .int (mI x3)), (4, .int (mI x4))]) (fun _ => rfl) ox2 (fun v1 ls ev1 ov1 hl => ?_)
    replace h := h v1 ev1
    refine m_iconst (pc := 61) C.1 dX12_soaps_61 ?_
    refine m_istore (pc := 62) C.1 dX12_soaps_62 hl (by decide) (fun v => [(6, .int v), (5, .int (mI v1)), (0, .ref (b + r0)), (2, .int (mI x2)), (3, .int (mI x3)), (4, .int (mI x4))]) (fun _ => rfl) (by decide : okI 0) (fun v2 ls ev2 ov2 hl => ?_)
    replace h := h v2 ev2
    refine W_X12_soaps_64 C N ?_ N r0 kr0 x2 ox2 x3 ox3 x4 ox4 v1 ov1 v2 ov2 S _ _ _ (lv_sub hl [2, 3, 4, 5, 1, 0] rfl) hW hS h
    · intro r0_3 kr0_3 x2_3 ox2_3 x3_3 ox3_3 x4_3 ox4_3 x5_3 ox5_3 S_3 H locs ls hl hW_3 hS h
      refine m_iload (pc := 110) C.1 dX12_soaps_110 hl 4 rfl ?_
      refine m_if_ne (pc := 112) (tgt := 135) C.1 ox5_3 dX12_soaps_112 (by decide) (fun hc => ?_) (fun hc => ?_)
      · replace h := h.1 hc
        exact W_X12_soaps_135 C N hko45 r0_3 kr0_3 x2_3 ox2_3 x3_3 ox3_3 x4_3 ox4_3 S_3 _ _ _ (lv_sub hl [0, 1, 2, 3] rfl) hW_3 hS h
      · replace h := h.2 hc
        refine m_iload_n (pc := 115) C.1 dX12_soaps_115 rfl hl 2 rfl ?_
        refine m_iconst (pc := 116) C.1 dX12_soaps_116 ?_
        refine m_icmp_eq (pc := 117) (tgt := 132) C.1 ox3_3 (by decide : okI (-1)) dX12_soaps_117 (by decide) (fun hc => ?_) (fun hc => ?_)
        · replace h := h.1 hc
          exact W_X12_soaps_132 C N hko45 r0_3 kr0_3 x2_3 ox2_3 x4_3 ox4_3 S_3 _ _ _ (lv_sub hl [0, 1, 3] rfl) hW_3 hS h
        · replace h := h.2 hc
          refine m_iload (pc := 120) C.1 dX12_soaps_120 hl 3 rfl ?_
          refine m_callSi (pc := 122) C.1 C.2.2.1 hl.1 C.2.1 hW_3 hS (As := [.int (mI x4_3)]) (rest := []) (T_X12_bits C.2.2.2.2.2.2 N x4_3 ox4_3 h) q_1646 q_1647 q_92 q_1648 pl_X12_bits (by decide) (Nat.le_of_ble_eq_true rfl) dX12_soaps_122 (fun v4 S4 H locs ov4 h hW4 hS => ?_)
          refine m_iload_n (pc := 125) C.1 dX12_soaps_125 rfl hl 2 rfl ?_
          refine m_callSi (pc := 126) C.1 C.2.2.1 hl.1 C.2.1 hW4 hS (As := [.int (mI x3_3)]) (rest := [.int (mI v4)]) (T_X12_bits C.2.2.2.2.2.2 N x3_3 ox3_3 h) q_1646 q_1647 q_92 q_1648 pl_X12_bits (by decide) (Nat.le_of_ble_eq_true rfl) dX12_soaps_126 (fun v5 S5 H locs ov5 h hW5 hS => ?_)
          refine m_icmp_ge (pc := 129) (tgt := 135) C.1 ov4 ov5 dX12_soaps_129 (by decide) (fun hc => ?_) (fun hc => ?_)
          · replace h := h.1 hc
            exact W_X12_soaps_135 C N hko45 r0_3 kr0_3 x2_3 ox2_3 x3_3 ox3_3 x4_3 ox4_3 S5 _ _ _ (lv_sub hl [0, 1, 2, 3] rfl) hW5 hS h
          · replace h := h.2 hc
            exact W_X12_soaps_132 C N hko45 r0_3 kr0_3 x2_3 ox2_3 x4_3 ox4_3 S5 _ _ _ (lv_sub hl [0, 1, 3] rfl) hW5 hS h
def w_X12_soaps_45 (N : Nat) (Q : mSt → Int → Prop) (ko141 : Int → mSt → Prop) : Nat → Nat → Int → Int → Int → mSt → Prop
  | 0 => fun _ _ _ _ _ => False
  | k + 1 => w_X12_soaps_45b N Q (w_X12_soaps_45 N Q ko141 k) ko141
theorem W_X12_soaps_45 (C : mC p l s m args meth c cX12_soaps "MoonWashModel" 7 (some FieldType.int) g) (N : Nat) {Q : mSt → Int → Prop} {ko141 : Int → mSt → Prop} (hko141 : ∀ (x3 : Int) (ox3 : okI x3) (S : mSt) (H : Heap) (locs : List Loc) (ls : Array Slot), lv_has ls 7 [(3, .int (mI x3))] → mW g b KM S H → va_S (mA b KM s.heap.size) s.heap H locs → ko141 x3 S → W p l e { frames := 2, cells := 0, slots := 0, locals := 45 } s m args below meth c H locs 0 0 (vx_MQ below (mQi g b KM Q (mA b KM s.heap.size)) (mEx g b KM (fun _ _ => False) (mA b KM s.heap.size)) args s 0 0 (mA b KM s.heap.size)) (F0 m 141 ls [])) : ∀ (k : Nat) (r0 : Nat) (kr0 : KM r0 = (0, 10, 0)) (x2 : Int) (ox2 : okI x2) (x3 : Int) (ox3 : okI x3) (x4 : Int) (ox4 : okI x4) (S : mSt) (H : Heap) (locs : List Loc) (ls : Array Slot) (hl : lv_has ls 7 [(0, .ref (b + r0)), (2, .int (mI x2)), (3, .int (mI x3)), (4, .int (mI x4))]) (hW : mW g b KM S H) (hS : va_S (mA b KM s.heap.size) s.heap H locs) (h : w_X12_soaps_45 N Q ko141 k r0 x2 x3 x4 S), W p l e { frames := 2, cells := 0, slots := 0, locals := 45 } s m args below meth c H locs 0 0 (vx_MQ below (mQi g b KM Q (mA b KM s.heap.size)) (mEx g b KM (fun _ _ => False) (mA b KM s.heap.size)) args s 0 0 (mA b KM s.heap.size)) (F0 m 45 ls []) := by
  intro k
  induction k with
  | zero => intro r0 kr0 x2 ox2 x3 ox3 x4 ox4 S H locs ls hl hW hS h; exact False.elim h
  | succ k ih => intro r0 kr0 x2 ox2 x3 ox3 x4 ox4 S H locs ls hl hW hS h; exact W_X12_soaps_45b C N ih hko141 r0 kr0 x2 ox2 x3 ox3 x4 ox4 S H locs ls hl hW hS h
def w_X12_soaps_13 (N : Nat) (Q : mSt → Int → Prop)  (r0 : Nat) (x1 : Int) (xs0 : Int) (rs1 : Nat) (S : mSt) : Prop :=
  ∀ S1 : mSt, S1 = mup S rs1 0 xs0 → (((S1 r0 0) ≤ 0 → w_X12_of N r0 x1 3 S1 (fun (S2 : mSt) (v2 : Int) => w_X12_never N r0 x1 S2 (fun (S3 : mSt) (v3 : Int) => ∀ v4 : Int, v4 = (bAnd v2 (bXor v3 (-1))) → ∀ v5 : Int, v5 = (-1) → ∀ v6 : Int, v6 = 0 → w_X12_soaps_45 N Q (fun (x3_7 : Int) (S_7 : mSt) => Q S_7 x3_7) N r0 v4 v5 v6 S3))) ∧ (0 < (S1 r0 0) → Q S1 0))
theorem W_X12_soaps_13 (C : mC p l s m args meth c cX12_soaps "MoonWashModel" 7 (some FieldType.int) g) (N : Nat) {Q : mSt → Int → Prop}   (r0 : Nat) (kr0 : KM r0 = (0, 10, 0)) (x1 : Int) (ox1 : okI x1) (xs0 : Int) (oxs0 : okI xs0) (rs1 : Nat) (krs1 : KM rs1 = (0, 10, 0)) (S : mSt) (H : Heap) (locs : List Loc) (ls : Array Slot) (hl : lv_has ls 7 [(0, .ref (b + r0)), (1, .int (mI x1))]) (hW : mW g b KM S H) (hS : va_S (mA b KM s.heap.size) s.heap H locs) (h : w_X12_soaps_13 N Q  r0 x1 xs0 rs1 S) : W p l e { frames := 2, cells := 0, slots := 0, locals := 45 } s m args below meth c H locs 0 0 (vx_MQ below (mQi g b KM Q (mA b KM s.heap.size)) (mEx g b KM (fun _ _ => False) (mA b KM s.heap.size)) args s 0 0 (mA b KM s.heap.size)) (F0 m 13 ls [.int (mI xs0), .ref (b + rs1)]) := by
  unfold w_X12_soaps_13 at h
  refine p_10_0 (pc := 13) C hW hS krs1 q_1383 oxs0 dX12_soaps_13 (fun S1 H locs e1 hW1 hS => ?_)
  replace h := h S1 e1
  refine m_aload_n (pc := 16) C.1 dX12_soaps_16 rfl hl 0 rfl ?_
  refine g_10_0 (pc := 17) C hW1 kr0 q_1383 dX12_soaps_17 ?_
  refine m_if_le (pc := 20) (tgt := 25) C.1 (hW1.2.1 _ _) dX12_soaps_20 (by decide) (fun hc => ?_) (fun hc => ?_)
  · replace h := h.1 hc
    refine m_aload_n (pc := 25) C.1 dX12_soaps_25 rfl hl 0 rfl ?_
    refine m_iload_n (pc := 26) C.1 dX12_soaps_26 rfl hl 1 rfl ?_
    refine m_iconst (pc := 27) C.1 dX12_soaps_27 ?_
    refine m_callVi (pc := 28) C.1 C.2.2.1 hl.1 C.2.1 hW1 hS (As := [.int (mI x1), .int (mI 3)]) (rest := []) (r := r0) (T_X12_of C.2.2.2.2.2.2 N r0 kr0 x1 ox1 3 (by decide : okI 3) h) kr0 rfl q_1630 q_1632 q_48 q_92 q_1633 pl_X12_of (by decide) (Nat.le_of_ble_eq_true rfl) dX12_soaps_28 (fun v2 S2 H locs ov2 h hW2 hS => ?_)
    refine m_aload_n (pc := 31) C.1 dX12_soaps_31 rfl hl 0 rfl ?_
    refine m_iload_n (pc := 32) C.1 dX12_soaps_32 rfl hl 1 rfl ?_
    refine m_callVi (pc := 33) C.1 C.2.2.1 hl.1 C.2.1 hW2 hS (As := [.int (mI x1)]) (rest := [.int (mI v2)]) (r := r0) (T_X12_never C.2.2.2.2.2.2 N r0 kr0 x1 ox1 h) kr0 rfl q_1667 q_1669 q_55 q_92 q_1670 pl_X12_never (by decide) (Nat.le_of_ble_eq_true rfl) dX12_soaps_33 (fun v3 S3 H locs ov3 h hW3 hS => ?_)
    refine m_iconst (pc := 36) C.1 dX12_soaps_36 ?_
    refine m_ixor (pc := 37) C.1 dX12_soaps_37 ?_
    refine m_iand (pc := 38) C.1 dX12_soaps_38 ?_
    refine m_istore_n (pc := 39) C.1 dX12_soaps_39 rfl hl (by decide) (fun v => [(2, .int v), (0, .ref (b + r0)), (1, .int (mI x1))]) (fun _ => rfl) (bAnd_ok _ _) (fun v4 ls ev4 ov4 hl => ?_)
    replace h := h v4 ev4
    refine m_iconst (pc := 40) C.1 dX12_soaps_40 ?_
    refine m_istore_n (pc := 41) C.1 dX12_soaps_41 rfl hl (by decide) (fun v => [(3, .int v), (2, .int (mI v4)), (0, .ref (b + r0)), (1, .int (mI x1))]) (fun _ => rfl) (by decide : okI (-1)) (fun v5 ls ev5 ov5 hl => ?_)
    replace h := h v5 ev5
    refine m_iconst (pc := 42) C.1 dX12_soaps_42 ?_
    refine m_istore (pc := 43) C.1 dX12_soaps_43 hl (by decide) (fun v => [(4, .int v), (3, .int (mI v5)), (2, .int (mI v4)), (0, .ref (b + r0)), (1, .int (mI x1))]) (fun _ => rfl) (by decide : okI 0) (fun v6 ls ev6 ov6 hl => ?_)
    replace h := h v6 ev6
    refine W_X12_soaps_45 C N ?_ N r0 kr0 v4 ov4 v5 ov5 v6 ov6 S3 _ _ _ (lv_sub hl [3, 2, 1, 0] rfl) hW3 hS h
    · intro x3_7 ox3_7 S_7 H locs ls hl hW_7 hS h
      refine m_iload_n (pc := 141) C.1 dX12_soaps_141 rfl hl 0 rfl ?_
      exact m_iret (pc := 142) C.1 C.2.2.2.1 C.2.2.2.2.1 hW_7 hS ox3_7 h (by decide) (by decide) dX12_soaps_142
  · replace h := h.2 hc
    refine m_iconst (pc := 23) C.1 dX12_soaps_23 ?_
    exact m_iret (pc := 24) C.1 C.2.2.2.1 C.2.2.2.2.1 hW1 hS (by decide : okI 0) h (by decide) (by decide) dX12_soaps_24
end
def w_X12_soaps (N : Nat) (r0 : Nat) (x1 : Int) (S : mSt) (Q : mSt → Int → Prop) : Prop :=
  w_X12_isPart N x1 S (fun (S1 : mSt) (v1 : Int) => ((v1 ≠ 0 → w_X12_soaps_13 N Q  r0 x1 0 r0 S1) ∧ (v1 = 0 → w_X12_soaps_13 N Q  r0 x1 1 r0 S1)))
theorem T_X12_soaps {l : Launch} (hl0 : l.stackTraces = false) {g : mG} {b : Nat} (N : Nat) (r0 : Nat) (kr0 : KM r0 = (0, 10, 0)) (x1 : Int) (ox1 : okI x1) {S : mSt} {Q : mSt → Int → Prop} (h : w_X12_soaps N r0 x1 S Q) (sz : Nat) : vx_Met l yX12_soaps (Cond.code yX12_soaps cX12_soaps 7 (some FieldType.int) :: wsG) { frames := 2, cells := 0, slots := 0, locals := 45 } (mPc g b KM S [.ref (b + r0), .int (mI x1)] sz) (mQi g b KM Q (mA b KM sz)) (mEx g b KM (fun _ _ => False) (mA b KM sz)) 0 0 (mA b KM sz) :=
  m_of (av := [.ref (b + r0), .int (mI x1)]) (Qf := fun A => mQi g b KM Q A) (Xf := fun A => mEx g b KM (fun _ _ => False) A) (by decide) (Nat.le_of_ble_eq_true rfl) (fun p e s m args below meth c ls X hK hml hr hlk hout hnm hW hl => by
    have C : mC p l s m args meth c cX12_soaps "MoonWashModel" 7 (some FieldType.int) g := ⟨X, hK, hml, hr, hlk, hout, hl0⟩
    have hS : va_S (mA b KM s.heap.size) s.heap s.heap [] := va_S.rf
    have hl : lv_has ls 7 [(0, .ref (b + r0)), (1, .int (mI x1))] := hl
    unfold w_X12_soaps at h
    refine m_aload_n (pc := 0) C.1 dX12_soaps_0 rfl hl 0 rfl ?_
    refine m_iload_n (pc := 1) C.1 dX12_soaps_1 rfl hl 1 rfl ?_
    refine m_callSi (pc := 2) C.1 C.2.2.1 hl.1 C.2.1 hW hS (As := [.int (mI x1)]) (rest := [.ref (b + r0)]) (T_X12_isPart C.2.2.2.2.2.2 N x1 ox1 h) q_1627 q_1628 q_92 q_1629 pl_X12_isPart (by decide) (Nat.le_of_ble_eq_true rfl) dX12_soaps_2 (fun v1 S1 H locs ov1 h hW1 hS => ?_)
    refine m_if_ne (pc := 5) (tgt := 12) C.1 ov1 dX12_soaps_5 (by decide) (fun hc => ?_) (fun hc => ?_)
    · replace h := h.1 hc
      refine m_iconst (pc := 12) C.1 dX12_soaps_12 ?_
      exact W_X12_soaps_13 C N  r0 kr0 x1 ox1 0 (by decide : okI 0) r0 kr0 S1 _ _ _ (lv_sub hl [0, 1] rfl) hW1 hS h
    · replace h := h.2 hc
      refine m_iconst (pc := 8) C.1 dX12_soaps_8 ?_
      refine m_goto (pc := 9) (tgt := 13) C.1 dX12_soaps_9 (by decide) ?_
      exact W_X12_soaps_13 C N  r0 kr0 x1 ox1 1 (by decide : okI 1) r0 kr0 S1 _ _ _ (lv_sub hl [0, 1] rfl) hW1 hS h) sz
section
variable {p : Program} {l : Launch} {e : Env} {s : State} {m : MethodId} {args : Array Value} {below : List Frame} {meth : Method} {c : Code} {g : mG} {b : Nat}
end
def w_X12_rounded (N : Nat) (x0 : Int) (x1 : Int) (S : mSt) (Q : mSt → Int → Prop) : Prop :=
  (x1 ≠ 0 ∧ Q S (iDiv (nm ((nm (x0 + x1)) - 1)) x1))
theorem T_X12_rounded {l : Launch} (hl0 : l.stackTraces = false) {g : mG} {b : Nat} (N : Nat) (x0 : Int) (ox0 : okI x0) (x1 : Int) (ox1 : okI x1) {S : mSt} {Q : mSt → Int → Prop} (h : w_X12_rounded N x0 x1 S Q) (sz : Nat) : vx_Met l yX12_rounded (Cond.code yX12_rounded cX12_rounded 2 (some FieldType.int) :: wsG) { frames := 0, cells := 0, slots := 0, locals := 0 } (mPc g b KM S [.int (mI x0), .int (mI x1)] sz) (mQi g b KM Q (mA b KM sz)) (mEx g b KM (fun _ _ => False) (mA b KM sz)) 0 0 (mA b KM sz) :=
  m_of (av := [.int (mI x0), .int (mI x1)]) (Qf := fun A => mQi g b KM Q A) (Xf := fun A => mEx g b KM (fun _ _ => False) A) (by decide) (Nat.le_of_ble_eq_true rfl) (fun p e s m args below meth c ls X hK hml hr hlk hout hnm hW hl => by
    have C : mC p l s m args meth c cX12_rounded "MoonWashModel" 2 (some FieldType.int) g := ⟨X, hK, hml, hr, hlk, hout, hl0⟩
    have hS : va_S (mA b KM s.heap.size) s.heap s.heap [] := va_S.rf
    have hl : lv_has ls 2 [(0, .int (mI x0)), (1, .int (mI x1))] := hl
    unfold w_X12_rounded at h
    refine m_iload_n (pc := 0) C.1 dX12_rounded_0 rfl hl 0 rfl ?_
    refine m_iload_n (pc := 1) C.1 dX12_rounded_1 rfl hl 1 rfl ?_
    refine m_iadd (pc := 2) C.1 dX12_rounded_2 ?_
    refine m_iconst (pc := 3) C.1 dX12_rounded_3 ?_
    refine m_isub (pc := 4) C.1 dX12_rounded_4 ?_
    refine m_iload_n (pc := 5) C.1 dX12_rounded_5 rfl hl 1 rfl ?_
    obtain ⟨hz1, h⟩ := h
    refine m_idiv (pc := 6) C.1 ox1 hz1 dX12_rounded_6 ?_
    exact m_iret (pc := 7) C.1 C.2.2.2.1 C.2.2.2.2.1 hW hS (iDiv_ok _ _) h (by decide) (by decide) dX12_rounded_7) sz
section
variable {p : Program} {l : Launch} {e : Env} {s : State} {m : MethodId} {args : Array Value} {below : List Frame} {meth : Method} {c : Code} {g : mG} {b : Nat}
def w_X12_washes_21 (N : Nat) (Q : mSt → Int → Prop)  (r0 : Nat) (x1 : Int) (x2 : Int) (xs0 : Int) (rs1 : Nat) (S : mSt) : Prop :=
  ∀ S1 : mSt, S1 = mup S rs1 0 xs0 → ((0 < (S1 r0 0) → Q S1 0) ∧ ((S1 r0 0) ≤ 0 → w_X12_of N r0 x1 0 S1 (fun (S2 : mSt) (v2 : Int) => ((v2 ≠ 0 → w_X12_ofSoap N r0 x2 0 S2 (fun (S3 : mSt) (v3 : Int) => ((v3 ≠ 0 → w_X12_of N r0 x1 0 S3 (fun (S4 : mSt) (v4 : Int) => w_X12_ofSoap N r0 x2 0 S4 (fun (S5 : mSt) (v5 : Int) => w_X12_rounded N v4 v5 S5 (fun (S6 : mSt) (v6 : Int) => Q S6 v6)))) ∧ (v3 = 0 → Q S3 (-1))))) ∧ (v2 = 0 → Q S2 0)))))
theorem W_X12_washes_21 (C : mC p l s m args meth c cX12_washes "MoonWashModel" 3 (some FieldType.int) g) (N : Nat) {Q : mSt → Int → Prop}   (r0 : Nat) (kr0 : KM r0 = (0, 10, 0)) (x1 : Int) (ox1 : okI x1) (x2 : Int) (ox2 : okI x2) (xs0 : Int) (oxs0 : okI xs0) (rs1 : Nat) (krs1 : KM rs1 = (0, 10, 0)) (S : mSt) (H : Heap) (locs : List Loc) (ls : Array Slot) (hl : lv_has ls 3 [(0, .ref (b + r0)), (1, .int (mI x1)), (2, .int (mI x2))]) (hW : mW g b KM S H) (hS : va_S (mA b KM s.heap.size) s.heap H locs) (h : w_X12_washes_21 N Q  r0 x1 x2 xs0 rs1 S) : W p l e { frames := 2, cells := 0, slots := 0, locals := 43 } s m args below meth c H locs 0 0 (vx_MQ below (mQi g b KM Q (mA b KM s.heap.size)) (mEx g b KM (fun _ _ => False) (mA b KM s.heap.size)) args s 0 0 (mA b KM s.heap.size)) (F0 m 21 ls [.int (mI xs0), .ref (b + rs1)]) := by
  unfold w_X12_washes_21 at h
  refine p_10_0 (pc := 21) C hW hS krs1 q_1383 oxs0 dX12_washes_21 (fun S1 H locs e1 hW1 hS => ?_)
  replace h := h S1 e1
  refine m_aload_n (pc := 24) C.1 dX12_washes_24 rfl hl 0 rfl ?_
  refine g_10_0 (pc := 25) C hW1 kr0 q_1383 dX12_washes_25 ?_
  refine m_if_gt (pc := 28) (tgt := 40) C.1 (hW1.2.1 _ _) dX12_washes_28 (by decide) (fun hc => ?_) (fun hc => ?_)
  · replace h := h.1 hc
    refine m_iconst (pc := 40) C.1 dX12_washes_40 ?_
    exact m_iret (pc := 41) C.1 C.2.2.2.1 C.2.2.2.2.1 hW1 hS (by decide : okI 0) h (by decide) (by decide) dX12_washes_41
  · replace h := h.2 hc
    refine m_aload_n (pc := 31) C.1 dX12_washes_31 rfl hl 0 rfl ?_
    refine m_iload_n (pc := 32) C.1 dX12_washes_32 rfl hl 1 rfl ?_
    refine m_iconst (pc := 33) C.1 dX12_washes_33 ?_
    refine m_callVi (pc := 34) C.1 C.2.2.1 hl.1 C.2.1 hW1 hS (As := [.int (mI x1), .int (mI 0)]) (rest := []) (r := r0) (T_X12_of C.2.2.2.2.2.2 N r0 kr0 x1 ox1 0 (by decide : okI 0) h) kr0 rfl q_1630 q_1632 q_48 q_92 q_1633 pl_X12_of (by decide) (Nat.le_of_ble_eq_true rfl) dX12_washes_34 (fun v2 S2 H locs ov2 h hW2 hS => ?_)
    refine m_if_ne (pc := 37) (tgt := 42) C.1 ov2 dX12_washes_37 (by decide) (fun hc => ?_) (fun hc => ?_)
    · replace h := h.1 hc
      refine m_aload_n (pc := 42) C.1 dX12_washes_42 rfl hl 0 rfl ?_
      refine m_iload_n (pc := 43) C.1 dX12_washes_43 rfl hl 2 rfl ?_
      refine m_iconst (pc := 44) C.1 dX12_washes_44 ?_
      refine m_callVi (pc := 45) C.1 C.2.2.1 hl.1 C.2.1 hW2 hS (As := [.int (mI x2), .int (mI 0)]) (rest := []) (r := r0) (T_X12_ofSoap C.2.2.2.2.2.2 N r0 kr0 x2 ox2 0 (by decide : okI 0) h) kr0 rfl q_1671 q_1673 q_56 q_92 q_1674 pl_X12_ofSoap (by decide) (Nat.le_of_ble_eq_true rfl) dX12_washes_45 (fun v3 S3 H locs ov3 h hW3 hS => ?_)
      refine m_if_ne (pc := 48) (tgt := 55) C.1 ov3 dX12_washes_48 (by decide) (fun hc => ?_) (fun hc => ?_)
      · replace h := h.1 hc
        refine m_aload_n (pc := 55) C.1 dX12_washes_55 rfl hl 0 rfl ?_
        refine m_iload_n (pc := 56) C.1 dX12_washes_56 rfl hl 1 rfl ?_
        refine m_iconst (pc := 57) C.1 dX12_washes_57 ?_
        refine m_callVi (pc := 58) C.1 C.2.2.1 hl.1 C.2.1 hW3 hS (As := [.int (mI x1), .int (mI 0)]) (rest := []) (r := r0) (T_X12_of C.2.2.2.2.2.2 N r0 kr0 x1 ox1 0 (by decide : okI 0) h) kr0 rfl q_1630 q_1632 q_48 q_92 q_1633 pl_X12_of (by decide) (Nat.le_of_ble_eq_true rfl) dX12_washes_58 (fun v4 S4 H locs ov4 h hW4 hS => ?_)
        refine m_aload_n (pc := 61) C.1 dX12_washes_61 rfl hl 0 rfl ?_
        refine m_iload_n (pc := 62) C.1 dX12_washes_62 rfl hl 2 rfl ?_
        refine m_iconst (pc := 63) C.1 dX12_washes_63 ?_
        refine m_callVi (pc := 64) C.1 C.2.2.1 hl.1 C.2.1 hW4 hS (As := [.int (mI x2), .int (mI 0)]) (rest := [.int (mI v4)]) (r := r0) (T_X12_ofSoap C.2.2.2.2.2.2 N r0 kr0 x2 ox2 0 (by decide : okI 0) h) kr0 rfl q_1671 q_1673 q_56 q_92 q_1674 pl_X12_ofSoap (by decide) (Nat.le_of_ble_eq_true rfl) dX12_washes_64 (fun v5 S5 H locs ov5 h hW5 hS => ?_)
        refine m_callSi (pc := 67) C.1 C.2.2.1 hl.1 C.2.1 hW5 hS (As := [.int (mI v4), .int (mI v5)]) (rest := []) (T_X12_rounded C.2.2.2.2.2.2 N v4 ov4 v5 ov5 h) q_1801 q_1802 q_92 q_1803 pl_X12_rounded (by decide) (Nat.le_of_ble_eq_true rfl) dX12_washes_67 (fun v6 S6 H locs ov6 h hW6 hS => ?_)
        exact m_iret (pc := 70) C.1 C.2.2.2.1 C.2.2.2.2.1 hW6 hS ov6 h (by decide) (by decide) dX12_washes_70
      · replace h := h.2 hc
        refine m_iconst (pc := 51) C.1 dX12_washes_51 ?_
        refine m_goto (pc := 52) (tgt := 70) C.1 dX12_washes_52 (by decide) ?_
        exact m_iret (pc := 70) C.1 C.2.2.2.1 C.2.2.2.2.1 hW3 hS (by decide : okI (-1)) h (by decide) (by decide) dX12_washes_70
    · replace h := h.2 hc
      refine m_iconst (pc := 40) C.1 dX12_washes_40 ?_
      exact m_iret (pc := 41) C.1 C.2.2.2.1 C.2.2.2.2.1 hW2 hS (by decide : okI 0) h (by decide) (by decide) dX12_washes_41
def w_X12_washes_16 (N : Nat) (Q : mSt → Int → Prop)  (r0 : Nat) (x1 : Int) (x2 : Int) (rs0 : Nat) (S : mSt) : Prop :=
  w_X12_washes_21 N Q  r0 x1 x2 1 rs0 S
theorem W_X12_washes_16 (C : mC p l s m args meth c cX12_washes "MoonWashModel" 3 (some FieldType.int) g) (N : Nat) {Q : mSt → Int → Prop}   (r0 : Nat) (kr0 : KM r0 = (0, 10, 0)) (x1 : Int) (ox1 : okI x1) (x2 : Int) (ox2 : okI x2) (rs0 : Nat) (krs0 : KM rs0 = (0, 10, 0)) (S : mSt) (H : Heap) (locs : List Loc) (ls : Array Slot) (hl : lv_has ls 3 [(0, .ref (b + r0)), (1, .int (mI x1)), (2, .int (mI x2))]) (hW : mW g b KM S H) (hS : va_S (mA b KM s.heap.size) s.heap H locs) (h : w_X12_washes_16 N Q  r0 x1 x2 rs0 S) : W p l e { frames := 2, cells := 0, slots := 0, locals := 43 } s m args below meth c H locs 0 0 (vx_MQ below (mQi g b KM Q (mA b KM s.heap.size)) (mEx g b KM (fun _ _ => False) (mA b KM s.heap.size)) args s 0 0 (mA b KM s.heap.size)) (F0 m 16 ls [.ref (b + rs0)]) := by
  unfold w_X12_washes_16 at h
  refine m_iconst (pc := 16) C.1 dX12_washes_16 ?_
  refine m_goto (pc := 17) (tgt := 21) C.1 dX12_washes_17 (by decide) ?_
  exact W_X12_washes_21 C N  r0 kr0 x1 ox1 x2 ox2 1 (by decide : okI 1) rs0 krs0 S _ _ _ (lv_sub hl [0, 1, 2] rfl) hW hS h
end
def w_X12_washes (N : Nat) (r0 : Nat) (x1 : Int) (x2 : Int) (S : mSt) (Q : mSt → Int → Prop) : Prop :=
  w_X12_isPart N x1 S (fun (S1 : mSt) (v1 : Int) => ((v1 = 0 → w_X12_washes_16 N Q  r0 x1 x2 r0 S1) ∧ (v1 ≠ 0 → w_X12_isSoap N r0 x2 S1 (fun (S2 : mSt) (v2 : Int) => ((v2 ≠ 0 → w_X12_washes_21 N Q  r0 x1 x2 0 r0 S2) ∧ (v2 = 0 → w_X12_washes_16 N Q  r0 x1 x2 r0 S2))))))
theorem T_X12_washes {l : Launch} (hl0 : l.stackTraces = false) {g : mG} {b : Nat} (N : Nat) (r0 : Nat) (kr0 : KM r0 = (0, 10, 0)) (x1 : Int) (ox1 : okI x1) (x2 : Int) (ox2 : okI x2) {S : mSt} {Q : mSt → Int → Prop} (h : w_X12_washes N r0 x1 x2 S Q) (sz : Nat) : vx_Met l yX12_washes (Cond.code yX12_washes cX12_washes 3 (some FieldType.int) :: wsG) { frames := 2, cells := 0, slots := 0, locals := 43 } (mPc g b KM S [.ref (b + r0), .int (mI x1), .int (mI x2)] sz) (mQi g b KM Q (mA b KM sz)) (mEx g b KM (fun _ _ => False) (mA b KM sz)) 0 0 (mA b KM sz) :=
  m_of (av := [.ref (b + r0), .int (mI x1), .int (mI x2)]) (Qf := fun A => mQi g b KM Q A) (Xf := fun A => mEx g b KM (fun _ _ => False) A) (by decide) (Nat.le_of_ble_eq_true rfl) (fun p e s m args below meth c ls X hK hml hr hlk hout hnm hW hl => by
    have C : mC p l s m args meth c cX12_washes "MoonWashModel" 3 (some FieldType.int) g := ⟨X, hK, hml, hr, hlk, hout, hl0⟩
    have hS : va_S (mA b KM s.heap.size) s.heap s.heap [] := va_S.rf
    have hl : lv_has ls 3 [(0, .ref (b + r0)), (1, .int (mI x1)), (2, .int (mI x2))] := hl
    unfold w_X12_washes at h
    refine m_aload_n (pc := 0) C.1 dX12_washes_0 rfl hl 0 rfl ?_
    refine m_iload_n (pc := 1) C.1 dX12_washes_1 rfl hl 1 rfl ?_
    refine m_callSi (pc := 2) C.1 C.2.2.1 hl.1 C.2.1 hW hS (As := [.int (mI x1)]) (rest := [.ref (b + r0)]) (T_X12_isPart C.2.2.2.2.2.2 N x1 ox1 h) q_1627 q_1628 q_92 q_1629 pl_X12_isPart (by decide) (Nat.le_of_ble_eq_true rfl) dX12_washes_2 (fun v1 S1 H locs ov1 h hW1 hS => ?_)
    refine m_if_eq (pc := 5) (tgt := 16) C.1 ov1 dX12_washes_5 (by decide) (fun hc => ?_) (fun hc => ?_)
    · replace h := h.1 hc
      exact W_X12_washes_16 C N  r0 kr0 x1 ox1 x2 ox2 r0 kr0 S1 _ _ _ (lv_sub hl [0, 1, 2] rfl) hW1 hS h
    · replace h := h.2 hc
      refine m_aload_n (pc := 8) C.1 dX12_washes_8 rfl hl 0 rfl ?_
      refine m_iload_n (pc := 9) C.1 dX12_washes_9 rfl hl 2 rfl ?_
      refine m_callVi (pc := 10) C.1 C.2.2.1 hl.1 C.2.1 hW1 hS (As := [.int (mI x2)]) (rest := [.ref (b + r0)]) (r := r0) (T_X12_isSoap C.2.2.2.2.2.2 N r0 kr0 x2 ox2 h) kr0 rfl q_1679 q_1681 q_57 q_92 q_1682 pl_X12_isSoap (by decide) (Nat.le_of_ble_eq_true rfl) dX12_washes_10 (fun v2 S2 H locs ov2 h hW2 hS => ?_)
      refine m_if_ne (pc := 13) (tgt := 20) C.1 ov2 dX12_washes_13 (by decide) (fun hc => ?_) (fun hc => ?_)
      · replace h := h.1 hc
        refine m_iconst (pc := 20) C.1 dX12_washes_20 ?_
        exact W_X12_washes_21 C N  r0 kr0 x1 ox1 x2 ox2 0 (by decide : okI 0) r0 kr0 S2 _ _ _ (lv_sub hl [0, 1, 2] rfl) hW2 hS h
      · replace h := h.2 hc
        exact W_X12_washes_16 C N  r0 kr0 x1 ox1 x2 ox2 r0 kr0 S2 _ _ _ (lv_sub hl [0, 1, 2] rfl) hW2 hS h) sz
section
variable {p : Program} {l : Launch} {e : Env} {s : State} {m : MethodId} {args : Array Value} {below : List Frame} {meth : Method} {c : Code} {g : mG} {b : Nat}
def w_X12_wears_21 (N : Nat) (Q : mSt → Int → Prop)  (r0 : Nat) (x1 : Int) (x2 : Int) (xs0 : Int) (rs1 : Nat) (S : mSt) : Prop :=
  ∀ S1 : mSt, S1 = mup S rs1 0 xs0 → (((S1 r0 0) ≤ 0 → w_X12_of N r0 x1 1 S1 (fun (S2 : mSt) (v2 : Int) => w_X12_ofSoap N r0 x2 2 S2 (fun (S3 : mSt) (v3 : Int) => w_X12_rounded N (nm (9 - v2)) (nm (1 + v3)) S3 (fun (S4 : mSt) (v4 : Int) => Q S4 v4)))) ∧ (0 < (S1 r0 0) → Q S1 0))
theorem W_X12_wears_21 (C : mC p l s m args meth c cX12_wears "MoonWashModel" 3 (some FieldType.int) g) (N : Nat) {Q : mSt → Int → Prop}   (r0 : Nat) (kr0 : KM r0 = (0, 10, 0)) (x1 : Int) (ox1 : okI x1) (x2 : Int) (ox2 : okI x2) (xs0 : Int) (oxs0 : okI xs0) (rs1 : Nat) (krs1 : KM rs1 = (0, 10, 0)) (S : mSt) (H : Heap) (locs : List Loc) (ls : Array Slot) (hl : lv_has ls 3 [(0, .ref (b + r0)), (1, .int (mI x1)), (2, .int (mI x2))]) (hW : mW g b KM S H) (hS : va_S (mA b KM s.heap.size) s.heap H locs) (h : w_X12_wears_21 N Q  r0 x1 x2 xs0 rs1 S) : W p l e { frames := 2, cells := 0, slots := 0, locals := 43 } s m args below meth c H locs 0 0 (vx_MQ below (mQi g b KM Q (mA b KM s.heap.size)) (mEx g b KM (fun _ _ => False) (mA b KM s.heap.size)) args s 0 0 (mA b KM s.heap.size)) (F0 m 21 ls [.int (mI xs0), .ref (b + rs1)]) := by
  unfold w_X12_wears_21 at h
  refine p_10_0 (pc := 21) C hW hS krs1 q_1383 oxs0 dX12_wears_21 (fun S1 H locs e1 hW1 hS => ?_)
  replace h := h S1 e1
  refine m_aload_n (pc := 24) C.1 dX12_wears_24 rfl hl 0 rfl ?_
  refine g_10_0 (pc := 25) C hW1 kr0 q_1383 dX12_wears_25 ?_
  refine m_if_le (pc := 28) (tgt := 35) C.1 (hW1.2.1 _ _) dX12_wears_28 (by decide) (fun hc => ?_) (fun hc => ?_)
  · replace h := h.1 hc
    refine m_bipush (pc := 35) C.1 dX12_wears_35 rfl ?_
    refine m_aload_n (pc := 37) C.1 dX12_wears_37 rfl hl 0 rfl ?_
    refine m_iload_n (pc := 38) C.1 dX12_wears_38 rfl hl 1 rfl ?_
    refine m_iconst (pc := 39) C.1 dX12_wears_39 ?_
    refine m_callVi (pc := 40) C.1 C.2.2.1 hl.1 C.2.1 hW1 hS (As := [.int (mI x1), .int (mI 1)]) (rest := [.int (mI 9)]) (r := r0) (T_X12_of C.2.2.2.2.2.2 N r0 kr0 x1 ox1 1 (by decide : okI 1) h) kr0 rfl q_1630 q_1632 q_48 q_92 q_1633 pl_X12_of (by decide) (Nat.le_of_ble_eq_true rfl) dX12_wears_40 (fun v2 S2 H locs ov2 h hW2 hS => ?_)
    refine m_isub (pc := 43) C.1 dX12_wears_43 ?_
    refine m_iconst (pc := 44) C.1 dX12_wears_44 ?_
    refine m_aload_n (pc := 45) C.1 dX12_wears_45 rfl hl 0 rfl ?_
    refine m_iload_n (pc := 46) C.1 dX12_wears_46 rfl hl 2 rfl ?_
    refine m_iconst (pc := 47) C.1 dX12_wears_47 ?_
    refine m_callVi (pc := 48) C.1 C.2.2.1 hl.1 C.2.1 hW2 hS (As := [.int (mI x2), .int (mI 2)]) (rest := [.int (mI 1), .int (mI (nm (9 - v2)))]) (r := r0) (T_X12_ofSoap C.2.2.2.2.2.2 N r0 kr0 x2 ox2 2 (by decide : okI 2) h) kr0 rfl q_1671 q_1673 q_56 q_92 q_1674 pl_X12_ofSoap (by decide) (Nat.le_of_ble_eq_true rfl) dX12_wears_48 (fun v3 S3 H locs ov3 h hW3 hS => ?_)
    refine m_iadd (pc := 51) C.1 dX12_wears_51 ?_
    refine m_callSi (pc := 52) C.1 C.2.2.1 hl.1 C.2.1 hW3 hS (As := [.int (mI (nm (9 - v2))), .int (mI (nm (1 + v3)))]) (rest := []) (T_X12_rounded C.2.2.2.2.2.2 N (nm (9 - v2)) (nm_ok _) (nm (1 + v3)) (nm_ok _) h) q_1801 q_1802 q_92 q_1803 pl_X12_rounded (by decide) (Nat.le_of_ble_eq_true rfl) dX12_wears_52 (fun v4 S4 H locs ov4 h hW4 hS => ?_)
    exact m_iret (pc := 55) C.1 C.2.2.2.1 C.2.2.2.2.1 hW4 hS ov4 h (by decide) (by decide) dX12_wears_55
  · replace h := h.2 hc
    refine m_iconst (pc := 31) C.1 dX12_wears_31 ?_
    refine m_goto (pc := 32) (tgt := 55) C.1 dX12_wears_32 (by decide) ?_
    exact m_iret (pc := 55) C.1 C.2.2.2.1 C.2.2.2.2.1 hW1 hS (by decide : okI 0) h (by decide) (by decide) dX12_wears_55
def w_X12_wears_16 (N : Nat) (Q : mSt → Int → Prop)  (r0 : Nat) (x1 : Int) (x2 : Int) (rs0 : Nat) (S : mSt) : Prop :=
  w_X12_wears_21 N Q  r0 x1 x2 1 rs0 S
theorem W_X12_wears_16 (C : mC p l s m args meth c cX12_wears "MoonWashModel" 3 (some FieldType.int) g) (N : Nat) {Q : mSt → Int → Prop}   (r0 : Nat) (kr0 : KM r0 = (0, 10, 0)) (x1 : Int) (ox1 : okI x1) (x2 : Int) (ox2 : okI x2) (rs0 : Nat) (krs0 : KM rs0 = (0, 10, 0)) (S : mSt) (H : Heap) (locs : List Loc) (ls : Array Slot) (hl : lv_has ls 3 [(0, .ref (b + r0)), (1, .int (mI x1)), (2, .int (mI x2))]) (hW : mW g b KM S H) (hS : va_S (mA b KM s.heap.size) s.heap H locs) (h : w_X12_wears_16 N Q  r0 x1 x2 rs0 S) : W p l e { frames := 2, cells := 0, slots := 0, locals := 43 } s m args below meth c H locs 0 0 (vx_MQ below (mQi g b KM Q (mA b KM s.heap.size)) (mEx g b KM (fun _ _ => False) (mA b KM s.heap.size)) args s 0 0 (mA b KM s.heap.size)) (F0 m 16 ls [.ref (b + rs0)]) := by
  unfold w_X12_wears_16 at h
  refine m_iconst (pc := 16) C.1 dX12_wears_16 ?_
  refine m_goto (pc := 17) (tgt := 21) C.1 dX12_wears_17 (by decide) ?_
  exact W_X12_wears_21 C N  r0 kr0 x1 ox1 x2 ox2 1 (by decide : okI 1) rs0 krs0 S _ _ _ (lv_sub hl [0, 1, 2] rfl) hW hS h
end
def w_X12_wears (N : Nat) (r0 : Nat) (x1 : Int) (x2 : Int) (S : mSt) (Q : mSt → Int → Prop) : Prop :=
  w_X12_isPart N x1 S (fun (S1 : mSt) (v1 : Int) => ((v1 = 0 → w_X12_wears_16 N Q  r0 x1 x2 r0 S1) ∧ (v1 ≠ 0 → w_X12_isSoap N r0 x2 S1 (fun (S2 : mSt) (v2 : Int) => ((v2 ≠ 0 → w_X12_wears_21 N Q  r0 x1 x2 0 r0 S2) ∧ (v2 = 0 → w_X12_wears_16 N Q  r0 x1 x2 r0 S2))))))
theorem T_X12_wears {l : Launch} (hl0 : l.stackTraces = false) {g : mG} {b : Nat} (N : Nat) (r0 : Nat) (kr0 : KM r0 = (0, 10, 0)) (x1 : Int) (ox1 : okI x1) (x2 : Int) (ox2 : okI x2) {S : mSt} {Q : mSt → Int → Prop} (h : w_X12_wears N r0 x1 x2 S Q) (sz : Nat) : vx_Met l yX12_wears (Cond.code yX12_wears cX12_wears 3 (some FieldType.int) :: wsG) { frames := 2, cells := 0, slots := 0, locals := 43 } (mPc g b KM S [.ref (b + r0), .int (mI x1), .int (mI x2)] sz) (mQi g b KM Q (mA b KM sz)) (mEx g b KM (fun _ _ => False) (mA b KM sz)) 0 0 (mA b KM sz) :=
  m_of (av := [.ref (b + r0), .int (mI x1), .int (mI x2)]) (Qf := fun A => mQi g b KM Q A) (Xf := fun A => mEx g b KM (fun _ _ => False) A) (by decide) (Nat.le_of_ble_eq_true rfl) (fun p e s m args below meth c ls X hK hml hr hlk hout hnm hW hl => by
    have C : mC p l s m args meth c cX12_wears "MoonWashModel" 3 (some FieldType.int) g := ⟨X, hK, hml, hr, hlk, hout, hl0⟩
    have hS : va_S (mA b KM s.heap.size) s.heap s.heap [] := va_S.rf
    have hl : lv_has ls 3 [(0, .ref (b + r0)), (1, .int (mI x1)), (2, .int (mI x2))] := hl
    unfold w_X12_wears at h
    refine m_aload_n (pc := 0) C.1 dX12_wears_0 rfl hl 0 rfl ?_
    refine m_iload_n (pc := 1) C.1 dX12_wears_1 rfl hl 1 rfl ?_
    refine m_callSi (pc := 2) C.1 C.2.2.1 hl.1 C.2.1 hW hS (As := [.int (mI x1)]) (rest := [.ref (b + r0)]) (T_X12_isPart C.2.2.2.2.2.2 N x1 ox1 h) q_1627 q_1628 q_92 q_1629 pl_X12_isPart (by decide) (Nat.le_of_ble_eq_true rfl) dX12_wears_2 (fun v1 S1 H locs ov1 h hW1 hS => ?_)
    refine m_if_eq (pc := 5) (tgt := 16) C.1 ov1 dX12_wears_5 (by decide) (fun hc => ?_) (fun hc => ?_)
    · replace h := h.1 hc
      exact W_X12_wears_16 C N  r0 kr0 x1 ox1 x2 ox2 r0 kr0 S1 _ _ _ (lv_sub hl [0, 1, 2] rfl) hW1 hS h
    · replace h := h.2 hc
      refine m_aload_n (pc := 8) C.1 dX12_wears_8 rfl hl 0 rfl ?_
      refine m_iload_n (pc := 9) C.1 dX12_wears_9 rfl hl 2 rfl ?_
      refine m_callVi (pc := 10) C.1 C.2.2.1 hl.1 C.2.1 hW1 hS (As := [.int (mI x2)]) (rest := [.ref (b + r0)]) (r := r0) (T_X12_isSoap C.2.2.2.2.2.2 N r0 kr0 x2 ox2 h) kr0 rfl q_1679 q_1681 q_57 q_92 q_1682 pl_X12_isSoap (by decide) (Nat.le_of_ble_eq_true rfl) dX12_wears_10 (fun v2 S2 H locs ov2 h hW2 hS => ?_)
      refine m_if_ne (pc := 13) (tgt := 20) C.1 ov2 dX12_wears_13 (by decide) (fun hc => ?_) (fun hc => ?_)
      · replace h := h.1 hc
        refine m_iconst (pc := 20) C.1 dX12_wears_20 ?_
        exact W_X12_wears_21 C N  r0 kr0 x1 ox1 x2 ox2 0 (by decide : okI 0) r0 kr0 S2 _ _ _ (lv_sub hl [0, 1, 2] rfl) hW2 hS h
      · replace h := h.2 hc
        exact W_X12_wears_16 C N  r0 kr0 x1 ox1 x2 ox2 r0 kr0 S2 _ _ _ (lv_sub hl [0, 1, 2] rfl) hW2 hS h) sz
section
variable {p : Program} {l : Launch} {e : Env} {s : State} {m : MethodId} {args : Array Value} {below : List Frame} {meth : Method} {c : Code} {g : mG} {b : Nat}
def w_X12_drySoon_37 (N : Nat) (Q : mSt → Int → Prop) (ko11 : Nat → Int → Int → Int → Int → mSt → Prop) (r0 : Nat) (x1 : Int) (x2 : Int) (x3 : Int) (x4 : Int) (S : mSt) : Prop :=
  ∀ S1 : mSt, S1 = mup S (r0 + 1) 10 x2 → w_X12_dries N r0 x1 S1 (fun (S2 : mSt) (v2 : Int) => ∀ v3 : Int, v3 = v2 → w_X12_passes N r0 S2 (fun (S4 : mSt) => ∀ v5 : Int, v5 = nm (x4 + 1) → ko11 r0 x1 x2 x3 v5 S4))
theorem W_X12_drySoon_37 (C : mC p l s m args meth c cX12_drySoon "MoonWashModel" 6 (some FieldType.int) g) (N : Nat) {Q : mSt → Int → Prop} {ko11 : Nat → Int → Int → Int → Int → mSt → Prop} (hko11 : ∀ (r0 : Nat) (kr0 : KM r0 = (0, 10, 0)) (x1 : Int) (ox1 : okI x1) (x2 : Int) (ox2 : okI x2) (x3 : Int) (ox3 : okI x3) (x4 : Int) (ox4 : okI x4) (S : mSt) (H : Heap) (locs : List Loc) (ls : Array Slot), lv_has ls 6 [(0, .ref (b + r0)), (1, .int (mI x1)), (2, .int (mI x2)), (3, .int (mI x3)), (4, .int (mI x4))] → mW g b KM S H → va_S (mA b KM s.heap.size) s.heap H locs → ko11 r0 x1 x2 x3 x4 S → W p l e { frames := 121, cells := 0, slots := 0, locals := 3184 } s m args below meth c H locs 0 0 (vx_MQ below (mQi g b KM Q (mA b KM s.heap.size)) (mEx g b KM (fun _ _ => False) (mA b KM s.heap.size)) args s 0 0 (mA b KM s.heap.size)) (F0 m 11 ls [])) (r0 : Nat) (kr0 : KM r0 = (0, 10, 0)) (x1 : Int) (ox1 : okI x1) (x2 : Int) (ox2 : okI x2) (x3 : Int) (ox3 : okI x3) (x4 : Int) (ox4 : okI x4) (S : mSt) (H : Heap) (locs : List Loc) (ls : Array Slot) (hl : lv_has ls 6 [(0, .ref (b + r0)), (1, .int (mI x1)), (2, .int (mI x2)), (3, .int (mI x3)), (4, .int (mI x4))]) (hW : mW g b KM S H) (hS : va_S (mA b KM s.heap.size) s.heap H locs) (h : w_X12_drySoon_37 N Q ko11 r0 x1 x2 x3 x4 S) : W p l e { frames := 121, cells := 0, slots := 0, locals := 3184 } s m args below meth c H locs 0 0 (vx_MQ below (mQi g b KM Q (mA b KM s.heap.size)) (mEx g b KM (fun _ _ => False) (mA b KM s.heap.size)) args s 0 0 (mA b KM s.heap.size)) (F0 m 37 ls []) := by
  unfold w_X12_drySoon_37 at h
  refine m_aload_n (pc := 37) C.1 dX12_drySoon_37 rfl hl 0 rfl ?_
  refine g_10_1 (pc := 38) C hW kr0 q_1384 dX12_drySoon_38 ?_
  refine m_bipush (pc := 41) C.1 dX12_drySoon_41 rfl ?_
  refine m_iload_n (pc := 43) C.1 dX12_drySoon_43 rfl hl 2 rfl ?_
  refine m_iast (pc := 44) C.1 C.2.1 hW hS (k_10_1 kr0) (by decide : okI 10) ox2 (by decide) (by decide) dX12_drySoon_44 (fun S1 H locs e1 hW1 hS => ?_)
  replace h := h S1 e1
  refine m_aload_n (pc := 45) C.1 dX12_drySoon_45 rfl hl 0 rfl ?_
  refine m_iload_n (pc := 46) C.1 dX12_drySoon_46 rfl hl 1 rfl ?_
  refine m_callVi (pc := 47) C.1 C.2.2.1 hl.1 C.2.1 hW1 hS (As := [.int (mI x1)]) (rest := []) (r := r0) (T_X12_dries C.2.2.2.2.2.2 N r0 kr0 x1 ox1 h) kr0 rfl q_1744 q_1746 q_65 q_92 q_1747 pl_X12_dries (by decide) (Nat.le_of_ble_eq_true rfl) dX12_drySoon_47 (fun v2 S2 H locs ov2 h hW2 hS => ?_)
  refine m_istore (pc := 50) C.1 dX12_drySoon_50 hl (by decide) (fun v => [(5, .int v), (0, .ref (b + r0)), (1, .int (mI x1)), (2, .int (mI x2)), (3, .int (mI x3)), (4, .int (mI x4))]) (fun _ => rfl) ov2 (fun v3 ls ev3 ov3 hl => ?_)
  replace h := h v3 ev3
  refine m_aload_n (pc := 52) C.1 dX12_drySoon_52 rfl hl 1 rfl ?_
  refine m_callVv (pc := 53) C.1 C.2.2.1 hl.1 C.2.1 hW2 hS (As := []) (rest := []) (r := r0) (T_X12_passes C.2.2.2.2.2.2 N r0 kr0 h) kr0 rfl q_1748 q_1750 q_66 q_92 q_1751 pl_X12_passes (by decide) (Nat.le_of_ble_eq_true rfl) dX12_drySoon_53 (fun S4 H locs h hW4 hS => ?_)
  refine m_iinc (pc := 56) C.1 dX12_drySoon_56 hl (by decide) (q0 := 5) rfl (fun v => [(4, .int v), (5, .int (mI v3)), (0, .ref (b + r0)), (1, .int (mI x1)), (2, .int (mI x2)), (3, .int (mI x3))]) (fun _ => rfl) (fun v5 ls ev5 ov5 hl => ?_)
  replace h := h v5 ev5
  refine m_goto (pc := 59) (tgt := 11) C.1 dX12_drySoon_59 (by decide) ?_
  exact hko11 r0 kr0 x1 ox1 x2 ox2 x3 ox3 v5 ov5 S4 _ _ _ (lv_sub hl [2, 3, 4, 5, 0] rfl) hW4 hS h
def w_X12_drySoon_11b (N : Nat) (Q : mSt → Int → Prop) (ko11 : Nat → Int → Int → Int → Int → mSt → Prop) (ko62 : Nat → Int → mSt → Prop) (r0 : Nat) (x1 : Int) (x2 : Int) (x3 : Int) (x4 : Int) (S : mSt) : Prop :=
  ((40 < x4 → ko62 r0 x3 S) ∧ (x4 ≤ 40 → ((x3 ≠ 2000000000 → ko62 r0 x3 S) ∧ (x3 = 2000000000 → w_X12_of N r0 x1 2 S (fun (S1 : mSt) (v1 : Int) => ((v1 ≠ 0 → w_X12_drySoon_37 N Q ko11 r0 x1 x2 x3 x4 S1) ∧ (v1 = 0 → ∀ v2 : Int, v2 = x4 → w_X12_drySoon_37 N Q ko11 r0 x1 x2 v2 x4 S1)))))))
theorem W_X12_drySoon_11b (C : mC p l s m args meth c cX12_drySoon "MoonWashModel" 6 (some FieldType.int) g) (N : Nat) {Q : mSt → Int → Prop} {ko11 : Nat → Int → Int → Int → Int → mSt → Prop} {ko62 : Nat → Int → mSt → Prop} (hko11 : ∀ (r0 : Nat) (kr0 : KM r0 = (0, 10, 0)) (x1 : Int) (ox1 : okI x1) (x2 : Int) (ox2 : okI x2) (x3 : Int) (ox3 : okI x3) (x4 : Int) (ox4 : okI x4) (S : mSt) (H : Heap) (locs : List Loc) (ls : Array Slot), lv_has ls 6 [(0, .ref (b + r0)), (1, .int (mI x1)), (2, .int (mI x2)), (3, .int (mI x3)), (4, .int (mI x4))] → mW g b KM S H → va_S (mA b KM s.heap.size) s.heap H locs → ko11 r0 x1 x2 x3 x4 S → W p l e { frames := 121, cells := 0, slots := 0, locals := 3184 } s m args below meth c H locs 0 0 (vx_MQ below (mQi g b KM Q (mA b KM s.heap.size)) (mEx g b KM (fun _ _ => False) (mA b KM s.heap.size)) args s 0 0 (mA b KM s.heap.size)) (F0 m 11 ls [])) (hko62 : ∀ (r0 : Nat) (kr0 : KM r0 = (0, 10, 0)) (x3 : Int) (ox3 : okI x3) (S : mSt) (H : Heap) (locs : List Loc) (ls : Array Slot), lv_has ls 6 [(0, .ref (b + r0)), (3, .int (mI x3))] → mW g b KM S H → va_S (mA b KM s.heap.size) s.heap H locs → ko62 r0 x3 S → W p l e { frames := 121, cells := 0, slots := 0, locals := 3184 } s m args below meth c H locs 0 0 (vx_MQ below (mQi g b KM Q (mA b KM s.heap.size)) (mEx g b KM (fun _ _ => False) (mA b KM s.heap.size)) args s 0 0 (mA b KM s.heap.size)) (F0 m 62 ls [])) (r0 : Nat) (kr0 : KM r0 = (0, 10, 0)) (x1 : Int) (ox1 : okI x1) (x2 : Int) (ox2 : okI x2) (x3 : Int) (ox3 : okI x3) (x4 : Int) (ox4 : okI x4) (S : mSt) (H : Heap) (locs : List Loc) (ls : Array Slot) (hl : lv_has ls 6 [(0, .ref (b + r0)), (1, .int (mI x1)), (2, .int (mI x2)), (3, .int (mI x3)), (4, .int (mI x4))]) (hW : mW g b KM S H) (hS : va_S (mA b KM s.heap.size) s.heap H locs) (h : w_X12_drySoon_11b N Q ko11 ko62 r0 x1 x2 x3 x4 S) : W p l e { frames := 121, cells := 0, slots := 0, locals := 3184 } s m args below meth c H locs 0 0 (vx_MQ below (mQi g b KM Q (mA b KM s.heap.size)) (mEx g b KM (fun _ _ => False) (mA b KM s.heap.size)) args s 0 0 (mA b KM s.heap.size)) (F0 m 11 ls []) := by
  unfold w_X12_drySoon_11b at h
  refine m_iload (pc := 11) C.1 dX12_drySoon_11 hl 4 rfl ?_
  refine m_bipush (pc := 13) C.1 dX12_drySoon_13 rfl ?_
  refine m_icmp_gt (pc := 15) (tgt := 62) C.1 ox4 (by decide : okI 40) dX12_drySoon_15 (by decide) (fun hc => ?_) (fun hc => ?_)
  · replace h := h.1 hc
    exact hko62 r0 kr0 x3 ox3 S _ _ _ (lv_sub hl [0, 3] rfl) hW hS h
  · replace h := h.2 hc
    refine m_iload_n (pc := 18) C.1 dX12_drySoon_18 rfl hl 3 rfl ?_
    refine m_ldcw (pc := 19) (n := 2000000000) C.1 q_1780 rfl dX12_drySoon_19 ?_
    refine m_icmp_ne (pc := 22) (tgt := 62) C.1 ox3 (by decide : okI 2000000000) dX12_drySoon_22 (by decide) (fun hc => ?_) (fun hc => ?_)
    · replace h := h.1 hc
      exact hko62 r0 kr0 x3 ox3 S _ _ _ (lv_sub hl [0, 3] rfl) hW hS h
    · replace h := h.2 hc
      refine m_aload_n (pc := 25) C.1 dX12_drySoon_25 rfl hl 0 rfl ?_
      refine m_iload_n (pc := 26) C.1 dX12_drySoon_26 rfl hl 1 rfl ?_
      refine m_iconst (pc := 27) C.1 dX12_drySoon_27 ?_
      refine m_callVi (pc := 28) C.1 C.2.2.1 hl.1 C.2.1 hW hS (As := [.int (mI x1), .int (mI 2)]) (rest := []) (r := r0) (T_X12_of C.2.2.2.2.2.2 N r0 kr0 x1 ox1 2 (by decide : okI 2) h) kr0 rfl q_1630 q_1632 q_48 q_92 q_1633 pl_X12_of (by decide) (Nat.le_of_ble_eq_true rfl) dX12_drySoon_28 (fun v1 S1 H locs ov1 h hW1 hS => ?_)
      refine m_if_ne (pc := 31) (tgt := 37) C.1 ov1 dX12_drySoon_31 (by decide) (fun hc => ?_) (fun hc => ?_)
      · replace h := h.1 hc
        exact W_X12_drySoon_37 C N hko11 r0 kr0 x1 ox1 x2 ox2 x3 ox3 x4 ox4 S1 _ _ _ (lv_sub hl [0, 1, 2, 3, 4] rfl) hW1 hS h
      · replace h := h.2 hc
        refine m_iload (pc := 34) C.1 dX12_drySoon_34 hl 4 rfl ?_
        refine m_istore_n (pc := 36) C.1 dX12_drySoon_36 rfl hl (by decide) (fun v => [(3, .int v), (0, .ref (b + r0)), (1, .int (mI x1)), (2, .int (mI x2)), (4, .int (mI x4))]) (fun _ => rfl) ox4 (fun v2 ls ev2 ov2 hl => ?_)
        replace h := h v2 ev2
        exact W_X12_drySoon_37 C N hko11 r0 kr0 x1 ox1 x2 ox2 v2 ov2 x4 ox4 S1 _ _ _ (lv_sub hl [1, 2, 3, 0, 4] rfl) hW1 hS h
def w_X12_drySoon_11 (N : Nat) (Q : mSt → Int → Prop) (ko62 : Nat → Int → mSt → Prop) : Nat → Nat → Int → Int → Int → Int → mSt → Prop
  | 0 => fun _ _ _ _ _ _ => False
  | k + 1 => w_X12_drySoon_11b N Q (w_X12_drySoon_11 N Q ko62 k) ko62
theorem W_X12_drySoon_11 (C : mC p l s m args meth c cX12_drySoon "MoonWashModel" 6 (some FieldType.int) g) (N : Nat) {Q : mSt → Int → Prop} {ko62 : Nat → Int → mSt → Prop} (hko62 : ∀ (r0 : Nat) (kr0 : KM r0 = (0, 10, 0)) (x3 : Int) (ox3 : okI x3) (S : mSt) (H : Heap) (locs : List Loc) (ls : Array Slot), lv_has ls 6 [(0, .ref (b + r0)), (3, .int (mI x3))] → mW g b KM S H → va_S (mA b KM s.heap.size) s.heap H locs → ko62 r0 x3 S → W p l e { frames := 121, cells := 0, slots := 0, locals := 3184 } s m args below meth c H locs 0 0 (vx_MQ below (mQi g b KM Q (mA b KM s.heap.size)) (mEx g b KM (fun _ _ => False) (mA b KM s.heap.size)) args s 0 0 (mA b KM s.heap.size)) (F0 m 62 ls [])) : ∀ (k : Nat) (r0 : Nat) (kr0 : KM r0 = (0, 10, 0)) (x1 : Int) (ox1 : okI x1) (x2 : Int) (ox2 : okI x2) (x3 : Int) (ox3 : okI x3) (x4 : Int) (ox4 : okI x4) (S : mSt) (H : Heap) (locs : List Loc) (ls : Array Slot) (hl : lv_has ls 6 [(0, .ref (b + r0)), (1, .int (mI x1)), (2, .int (mI x2)), (3, .int (mI x3)), (4, .int (mI x4))]) (hW : mW g b KM S H) (hS : va_S (mA b KM s.heap.size) s.heap H locs) (h : w_X12_drySoon_11 N Q ko62 k r0 x1 x2 x3 x4 S), W p l e { frames := 121, cells := 0, slots := 0, locals := 3184 } s m args below meth c H locs 0 0 (vx_MQ below (mQi g b KM Q (mA b KM s.heap.size)) (mEx g b KM (fun _ _ => False) (mA b KM s.heap.size)) args s 0 0 (mA b KM s.heap.size)) (F0 m 11 ls []) := by
  intro k
  induction k with
  | zero => intro r0 kr0 x1 ox1 x2 ox2 x3 ox3 x4 ox4 S H locs ls hl hW hS h; exact False.elim h
  | succ k ih => intro r0 kr0 x1 ox1 x2 ox2 x3 ox3 x4 ox4 S H locs ls hl hW hS h; exact W_X12_drySoon_11b C N ih hko62 r0 kr0 x1 ox1 x2 ox2 x3 ox3 x4 ox4 S H locs ls hl hW hS h
def w_X12_drySoon_62 (N : Nat) (Q : mSt → Int → Prop)  (r0 : Nat) (x3 : Int) (S : mSt) : Prop :=
  w_X12_comesBack N r0 S (fun (S1 : mSt) => Q S1 x3)
theorem W_X12_drySoon_62 (C : mC p l s m args meth c cX12_drySoon "MoonWashModel" 6 (some FieldType.int) g) (N : Nat) {Q : mSt → Int → Prop}   (r0 : Nat) (kr0 : KM r0 = (0, 10, 0)) (x3 : Int) (ox3 : okI x3) (S : mSt) (H : Heap) (locs : List Loc) (ls : Array Slot) (hl : lv_has ls 6 [(0, .ref (b + r0)), (3, .int (mI x3))]) (hW : mW g b KM S H) (hS : va_S (mA b KM s.heap.size) s.heap H locs) (h : w_X12_drySoon_62 N Q  r0 x3 S) : W p l e { frames := 121, cells := 0, slots := 0, locals := 3184 } s m args below meth c H locs 0 0 (vx_MQ below (mQi g b KM Q (mA b KM s.heap.size)) (mEx g b KM (fun _ _ => False) (mA b KM s.heap.size)) args s 0 0 (mA b KM s.heap.size)) (F0 m 62 ls []) := by
  unfold w_X12_drySoon_62 at h
  refine m_aload_n (pc := 62) C.1 dX12_drySoon_62 rfl hl 0 rfl ?_
  refine m_callVv (pc := 63) C.1 C.2.2.1 hl.1 C.2.1 hW hS (As := []) (rest := []) (r := r0) (T_X12_comesBack C.2.2.2.2.2.2 N r0 kr0 h) kr0 rfl q_1610 q_1612 q_47 q_92 q_1613 pl_X12_comesBack (by decide) (Nat.le_of_ble_eq_true rfl) dX12_drySoon_63 (fun S1 H locs h hW1 hS => ?_)
  refine m_iload_n (pc := 66) C.1 dX12_drySoon_66 rfl hl 1 rfl ?_
  exact m_iret (pc := 67) C.1 C.2.2.2.1 C.2.2.2.2.1 hW1 hS ox3 h (by decide) (by decide) dX12_drySoon_67
end
def w_X12_drySoon (N : Nat) (r0 : Nat) (x1 : Int) (x2 : Int) (S : mSt) (Q : mSt → Int → Prop) : Prop :=
  w_X12_putsAside N r0 S (fun (S1 : mSt) => ∀ v2 : Int, v2 = 2000000000 → ∀ v3 : Int, v3 = 0 → w_X12_drySoon_11 N Q (fun (r0_4 : Nat) (x3_4 : Int) (S_4 : mSt) => w_X12_drySoon_62 N Q  r0_4 x3_4 S_4) N r0 x1 x2 v2 v3 S1)
theorem T_X12_drySoon {l : Launch} (hl0 : l.stackTraces = false) {g : mG} {b : Nat} (N : Nat) (r0 : Nat) (kr0 : KM r0 = (0, 10, 0)) (x1 : Int) (ox1 : okI x1) (x2 : Int) (ox2 : okI x2) {S : mSt} {Q : mSt → Int → Prop} (h : w_X12_drySoon N r0 x1 x2 S Q) (sz : Nat) : vx_Met l yX12_drySoon (Cond.code yX12_drySoon cX12_drySoon 6 (some FieldType.int) :: wsG) { frames := 121, cells := 0, slots := 0, locals := 3184 } (mPc g b KM S [.ref (b + r0), .int (mI x1), .int (mI x2)] sz) (mQi g b KM Q (mA b KM sz)) (mEx g b KM (fun _ _ => False) (mA b KM sz)) 0 0 (mA b KM sz) :=
  m_of (av := [.ref (b + r0), .int (mI x1), .int (mI x2)]) (Qf := fun A => mQi g b KM Q A) (Xf := fun A => mEx g b KM (fun _ _ => False) A) (by decide) (Nat.le_of_ble_eq_true rfl) (fun p e s m args below meth c ls X hK hml hr hlk hout hnm hW hl => by
    have C : mC p l s m args meth c cX12_drySoon "MoonWashModel" 6 (some FieldType.int) g := ⟨X, hK, hml, hr, hlk, hout, hl0⟩
    have hS : va_S (mA b KM s.heap.size) s.heap s.heap [] := va_S.rf
    have hl : lv_has ls 6 [(0, .ref (b + r0)), (1, .int (mI x1)), (2, .int (mI x2))] := hl
    unfold w_X12_drySoon at h
    refine m_aload_n (pc := 0) C.1 dX12_drySoon_0 rfl hl 0 rfl ?_
    refine m_callVv (pc := 1) C.1 C.2.2.1 hl.1 C.2.1 hW hS (As := []) (rest := []) (r := r0) (T_X12_putsAside C.2.2.2.2.2.2 N r0 kr0 h) kr0 rfl q_1482 q_1484 q_23 q_92 q_1485 pl_X12_putsAside (by decide) (Nat.le_of_ble_eq_true rfl) dX12_drySoon_1 (fun S1 H locs h hW1 hS => ?_)
    refine m_ldcw (pc := 4) (n := 2000000000) C.1 q_1780 rfl dX12_drySoon_4 ?_
    refine m_istore_n (pc := 7) C.1 dX12_drySoon_7 rfl hl (by decide) (fun v => [(3, .int v), (0, .ref (b + r0)), (1, .int (mI x1)), (2, .int (mI x2))]) (fun _ => rfl) (by decide : okI 2000000000) (fun v2 ls ev2 ov2 hl => ?_)
    replace h := h v2 ev2
    refine m_iconst (pc := 8) C.1 dX12_drySoon_8 ?_
    refine m_istore (pc := 9) C.1 dX12_drySoon_9 hl (by decide) (fun v => [(4, .int v), (3, .int (mI v2)), (0, .ref (b + r0)), (1, .int (mI x1)), (2, .int (mI x2))]) (fun _ => rfl) (by decide : okI 0) (fun v3 ls ev3 ov3 hl => ?_)
    replace h := h v3 ev3
    refine W_X12_drySoon_11 C N ?_ N r0 kr0 x1 ox1 x2 ox2 v2 ov2 v3 ov3 S1 _ _ _ (lv_sub hl [2, 3, 4, 1, 0] rfl) hW1 hS h
    · intro r0_4 kr0_4 x3_4 ox3_4 S_4 H locs ls hl hW_4 hS h
      exact W_X12_drySoon_62 C N  r0_4 kr0_4 x3_4 ox3_4 S_4 _ _ _ (lv_sub hl [0, 1] rfl) hW_4 hS h) sz
section
variable {p : Program} {l : Launch} {e : Env} {s : State} {m : MethodId} {args : Array Value} {below : List Frame} {meth : Method} {c : Code} {g : mG} {b : Nat}
def w_X12_dried_27 (N : Nat) (Q : mSt → Int → Prop)  (r0 : Nat) (x1 : Int) (x2 : Int) (xs0 : Int) (rs1 : Nat) (S : mSt) : Prop :=
  ∀ S1 : mSt, S1 = mup S rs1 0 xs0 → (((S1 r0 0) ≤ 0 → w_X12_drySoon N r0 x1 x2 S1 (fun (S2 : mSt) (v2 : Int) => ∀ v3 : Int, v3 = v2 → ((v3 ≠ 2000000000 → Q S2 v3) ∧ (v3 = 2000000000 → Q S2 (-1))))) ∧ (0 < (S1 r0 0) → Q S1 0))
theorem W_X12_dried_27 (C : mC p l s m args meth c cX12_dried "MoonWashModel" 4 (some FieldType.int) g) (N : Nat) {Q : mSt → Int → Prop}   (r0 : Nat) (kr0 : KM r0 = (0, 10, 0)) (x1 : Int) (ox1 : okI x1) (x2 : Int) (ox2 : okI x2) (xs0 : Int) (oxs0 : okI xs0) (rs1 : Nat) (krs1 : KM rs1 = (0, 10, 0)) (S : mSt) (H : Heap) (locs : List Loc) (ls : Array Slot) (hl : lv_has ls 4 [(0, .ref (b + r0)), (1, .int (mI x1)), (2, .int (mI x2))]) (hW : mW g b KM S H) (hS : va_S (mA b KM s.heap.size) s.heap H locs) (h : w_X12_dried_27 N Q  r0 x1 x2 xs0 rs1 S) : W p l e { frames := 122, cells := 0, slots := 0, locals := 3209 } s m args below meth c H locs 0 0 (vx_MQ below (mQi g b KM Q (mA b KM s.heap.size)) (mEx g b KM (fun _ _ => False) (mA b KM s.heap.size)) args s 0 0 (mA b KM s.heap.size)) (F0 m 27 ls [.int (mI xs0), .ref (b + rs1)]) := by
  unfold w_X12_dried_27 at h
  refine p_10_0 (pc := 27) C hW hS krs1 q_1383 oxs0 dX12_dried_27 (fun S1 H locs e1 hW1 hS => ?_)
  replace h := h S1 e1
  refine m_aload_n (pc := 30) C.1 dX12_dried_30 rfl hl 0 rfl ?_
  refine g_10_0 (pc := 31) C hW1 kr0 q_1383 dX12_dried_31 ?_
  refine m_if_le (pc := 34) (tgt := 39) C.1 (hW1.2.1 _ _) dX12_dried_34 (by decide) (fun hc => ?_) (fun hc => ?_)
  · replace h := h.1 hc
    refine m_aload_n (pc := 39) C.1 dX12_dried_39 rfl hl 0 rfl ?_
    refine m_iload_n (pc := 40) C.1 dX12_dried_40 rfl hl 1 rfl ?_
    refine m_iload_n (pc := 41) C.1 dX12_dried_41 rfl hl 2 rfl ?_
    refine m_callVi (pc := 42) C.1 C.2.2.1 hl.1 C.2.1 hW1 hS (As := [.int (mI x1), .int (mI x2)]) (rest := []) (r := r0) (T_X12_drySoon C.2.2.2.2.2.2 N r0 kr0 x1 ox1 x2 ox2 h) kr0 rfl q_1812 q_1814 q_72 q_92 q_1815 pl_X12_drySoon (by decide) (Nat.le_of_ble_eq_true rfl) dX12_dried_42 (fun v2 S2 H locs ov2 h hW2 hS => ?_)
    refine m_istore_n (pc := 45) C.1 dX12_dried_45 rfl hl (by decide) (fun v => [(3, .int v), (0, .ref (b + r0)), (1, .int (mI x1)), (2, .int (mI x2))]) (fun _ => rfl) ov2 (fun v3 ls ev3 ov3 hl => ?_)
    replace h := h v3 ev3
    refine m_iload_n (pc := 46) C.1 dX12_dried_46 rfl hl 0 rfl ?_
    refine m_ldcw (pc := 47) (n := 2000000000) C.1 q_1780 rfl dX12_dried_47 ?_
    refine m_icmp_ne (pc := 50) (tgt := 57) C.1 ov3 (by decide : okI 2000000000) dX12_dried_50 (by decide) (fun hc => ?_) (fun hc => ?_)
    · replace h := h.1 hc
      refine m_iload_n (pc := 57) C.1 dX12_dried_57 rfl hl 0 rfl ?_
      exact m_iret (pc := 58) C.1 C.2.2.2.1 C.2.2.2.2.1 hW2 hS ov3 h (by decide) (by decide) dX12_dried_58
    · replace h := h.2 hc
      refine m_iconst (pc := 53) C.1 dX12_dried_53 ?_
      refine m_goto (pc := 54) (tgt := 58) C.1 dX12_dried_54 (by decide) ?_
      exact m_iret (pc := 58) C.1 C.2.2.2.1 C.2.2.2.2.1 hW2 hS (by decide : okI (-1)) h (by decide) (by decide) dX12_dried_58
  · replace h := h.2 hc
    refine m_iconst (pc := 37) C.1 dX12_dried_37 ?_
    exact m_iret (pc := 38) C.1 C.2.2.2.1 C.2.2.2.2.1 hW1 hS (by decide : okI 0) h (by decide) (by decide) dX12_dried_38
end
def w_X12_dried (N : Nat) (r0 : Nat) (x1 : Int) (x2 : Int) (S : mSt) (Q : mSt → Int → Prop) : Prop :=
  w_X12_isPart N x1 S (fun (S1 : mSt) (v1 : Int) => ((v1 ≠ 0 → w_X12_isIn N x2 0 9 S1 (fun (S2 : mSt) (v2 : Int) => ((v2 ≠ 0 → w_X12_dried_27 N Q  r0 x1 x2 0 r0 S2) ∧ (v2 = 0 → w_X12_dried_27 N Q  r0 x1 x2 2 r0 S2)))) ∧ (v1 = 0 → w_X12_dried_27 N Q  r0 x1 x2 1 r0 S1)))
theorem T_X12_dried {l : Launch} (hl0 : l.stackTraces = false) {g : mG} {b : Nat} (N : Nat) (r0 : Nat) (kr0 : KM r0 = (0, 10, 0)) (x1 : Int) (ox1 : okI x1) (x2 : Int) (ox2 : okI x2) {S : mSt} {Q : mSt → Int → Prop} (h : w_X12_dried N r0 x1 x2 S Q) (sz : Nat) : vx_Met l yX12_dried (Cond.code yX12_dried cX12_dried 4 (some FieldType.int) :: wsG) { frames := 122, cells := 0, slots := 0, locals := 3209 } (mPc g b KM S [.ref (b + r0), .int (mI x1), .int (mI x2)] sz) (mQi g b KM Q (mA b KM sz)) (mEx g b KM (fun _ _ => False) (mA b KM sz)) 0 0 (mA b KM sz) :=
  m_of (av := [.ref (b + r0), .int (mI x1), .int (mI x2)]) (Qf := fun A => mQi g b KM Q A) (Xf := fun A => mEx g b KM (fun _ _ => False) A) (by decide) (Nat.le_of_ble_eq_true rfl) (fun p e s m args below meth c ls X hK hml hr hlk hout hnm hW hl => by
    have C : mC p l s m args meth c cX12_dried "MoonWashModel" 4 (some FieldType.int) g := ⟨X, hK, hml, hr, hlk, hout, hl0⟩
    have hS : va_S (mA b KM s.heap.size) s.heap s.heap [] := va_S.rf
    have hl : lv_has ls 4 [(0, .ref (b + r0)), (1, .int (mI x1)), (2, .int (mI x2))] := hl
    unfold w_X12_dried at h
    refine m_aload_n (pc := 0) C.1 dX12_dried_0 rfl hl 0 rfl ?_
    refine m_iload_n (pc := 1) C.1 dX12_dried_1 rfl hl 1 rfl ?_
    refine m_callSi (pc := 2) C.1 C.2.2.1 hl.1 C.2.1 hW hS (As := [.int (mI x1)]) (rest := [.ref (b + r0)]) (T_X12_isPart C.2.2.2.2.2.2 N x1 ox1 h) q_1627 q_1628 q_92 q_1629 pl_X12_isPart (by decide) (Nat.le_of_ble_eq_true rfl) dX12_dried_2 (fun v1 S1 H locs ov1 h hW1 hS => ?_)
    refine m_if_ne (pc := 5) (tgt := 12) C.1 ov1 dX12_dried_5 (by decide) (fun hc => ?_) (fun hc => ?_)
    · replace h := h.1 hc
      refine m_iload_n (pc := 12) C.1 dX12_dried_12 rfl hl 2 rfl ?_
      refine m_iconst (pc := 13) C.1 dX12_dried_13 ?_
      refine m_bipush (pc := 14) C.1 dX12_dried_14 rfl ?_
      refine m_callSi (pc := 16) C.1 C.2.2.1 hl.1 C.2.1 hW1 hS (As := [.int (mI x2), .int (mI 0), .int (mI 9)]) (rest := [.ref (b + r0)]) (T_X12_isIn C.2.2.2.2.2.2 N x2 ox2 0 (by decide : okI 0) 9 (by decide : okI 9) h) q_1475 q_1476 q_92 q_1477 pl_X12_isIn (by decide) (Nat.le_of_ble_eq_true rfl) dX12_dried_16 (fun v2 S2 H locs ov2 h hW2 hS => ?_)
      refine m_if_ne (pc := 19) (tgt := 26) C.1 ov2 dX12_dried_19 (by decide) (fun hc => ?_) (fun hc => ?_)
      · replace h := h.1 hc
        refine m_iconst (pc := 26) C.1 dX12_dried_26 ?_
        exact W_X12_dried_27 C N  r0 kr0 x1 ox1 x2 ox2 0 (by decide : okI 0) r0 kr0 S2 _ _ _ (lv_sub hl [0, 1, 2] rfl) hW2 hS h
      · replace h := h.2 hc
        refine m_iconst (pc := 22) C.1 dX12_dried_22 ?_
        refine m_goto (pc := 23) (tgt := 27) C.1 dX12_dried_23 (by decide) ?_
        exact W_X12_dried_27 C N  r0 kr0 x1 ox1 x2 ox2 2 (by decide : okI 2) r0 kr0 S2 _ _ _ (lv_sub hl [0, 1, 2] rfl) hW2 hS h
    · replace h := h.2 hc
      refine m_iconst (pc := 8) C.1 dX12_dried_8 ?_
      refine m_goto (pc := 9) (tgt := 27) C.1 dX12_dried_9 (by decide) ?_
      exact W_X12_dried_27 C N  r0 kr0 x1 ox1 x2 ox2 1 (by decide : okI 1) r0 kr0 S1 _ _ _ (lv_sub hl [0, 1, 2] rfl) hW1 hS h) sz
section
variable {p : Program} {l : Launch} {e : Env} {s : State} {m : MethodId} {args : Array Value} {below : List Frame} {meth : Method} {c : Code} {g : mG} {b : Nat}
def w_X12_find_62 (N : Nat) (F : Nat → Int → Int → Int → mSt → (mSt → Int → Prop) → Prop) (Q : mSt → Int → Prop) (ko11 : Nat → Int → Int → Int → Int → mSt → Prop) (r0 : Nat) (x1 : Int) (x2 : Int) (x3 : Int) (x4 : Int) (S : mSt) : Prop :=
  ∀ v1 : Int, v1 = nm (x4 + 1) → ko11 r0 x1 x2 x3 v1 S
theorem W_X12_find_62 (C : mC p l s m args meth c cX12_find "MoonWashModel" 5 (some FieldType.boolean) g) (N : Nat) {fr lo : Nat} {F : Nat → Int → Int → Int → mSt → (mSt → Int → Prop) → Prop} (hF : ∀ (r0 : Nat) (kr0 : KM r0 = (0, 10, 0)) (x1 : Int) (ox1 : okI x1) (x2 : Int) (ox2 : okI x2) (x3 : Int) (ox3 : okI x3) {S : mSt} {Q : mSt → Int → Prop}, F r0 x1 x2 x3 S Q → ∀ sz : Nat, vx_Met l yX12_find (Cond.code yX12_find cX12_find 5 (some FieldType.boolean) :: wsG) { frames := fr, cells := 0, slots := 0, locals := lo } (mPc g b KM S [.ref (b + r0), .int (mI x1), .int (mI x2), .int (mI x3)] sz) (mQi g b KM Q (mA b KM sz)) (mEx g b KM (fun _ _ => False) (mA b KM sz)) 0 0 (mA b KM sz)) {Q : mSt → Int → Prop} {ko11 : Nat → Int → Int → Int → Int → mSt → Prop} (hko11 : ∀ (r0 : Nat) (kr0 : KM r0 = (0, 10, 0)) (x1 : Int) (ox1 : okI x1) (x2 : Int) (ox2 : okI x2) (x3 : Int) (ox3 : okI x3) (x4 : Int) (ox4 : okI x4) (S : mSt) (H : Heap) (locs : List Loc) (ls : Array Slot), lv_has ls 5 [(0, .ref (b + r0)), (1, .int (mI x1)), (2, .int (mI x2)), (3, .int (mI x3)), (4, .int (mI x4))] → mW g b KM S H → va_S (mA b KM s.heap.size) s.heap H locs → ko11 r0 x1 x2 x3 x4 S → W p l e { frames := fr + 1, cells := 0, slots := 0, locals := lo + 24 } s m args below meth c H locs 0 0 (vx_MQ below (mQi g b KM Q (mA b KM s.heap.size)) (mEx g b KM (fun _ _ => False) (mA b KM s.heap.size)) args s 0 0 (mA b KM s.heap.size)) (F0 m 11 ls [])) (r0 : Nat) (kr0 : KM r0 = (0, 10, 0)) (x1 : Int) (ox1 : okI x1) (x2 : Int) (ox2 : okI x2) (x3 : Int) (ox3 : okI x3) (x4 : Int) (ox4 : okI x4) (S : mSt) (H : Heap) (locs : List Loc) (ls : Array Slot) (hl : lv_has ls 5 [(0, .ref (b + r0)), (1, .int (mI x1)), (2, .int (mI x2)), (3, .int (mI x3)), (4, .int (mI x4))]) (hW : mW g b KM S H) (hS : va_S (mA b KM s.heap.size) s.heap H locs) (h : w_X12_find_62 N F Q ko11 r0 x1 x2 x3 x4 S) : W p l e { frames := fr + 1, cells := 0, slots := 0, locals := lo + 24 } s m args below meth c H locs 0 0 (vx_MQ below (mQi g b KM Q (mA b KM s.heap.size)) (mEx g b KM (fun _ _ => False) (mA b KM s.heap.size)) args s 0 0 (mA b KM s.heap.size)) (F0 m 62 ls []) := by
  unfold w_X12_find_62 at h
  refine m_iinc (pc := 62) C.1 dX12_find_62 hl (by decide) (q0 := 4) rfl (fun v => [(4, .int v), (0, .ref (b + r0)), (1, .int (mI x1)), (2, .int (mI x2)), (3, .int (mI x3))]) (fun _ => rfl) (fun v1 ls ev1 ov1 hl => ?_)
  replace h := h v1 ev1
  refine m_goto (pc := 65) (tgt := 11) C.1 dX12_find_65 (by decide) ?_
  exact hko11 r0 kr0 x1 ox1 x2 ox2 x3 ox3 v1 ov1 S _ _ _ (lv_sub hl [1, 2, 3, 4, 0] rfl) hW hS h
def w_X12_find_11b (N : Nat) (F : Nat → Int → Int → Int → mSt → (mSt → Int → Prop) → Prop) (Q : mSt → Int → Prop) (ko11 : Nat → Int → Int → Int → Int → mSt → Prop) (ko68 : mSt → Prop) (r0 : Nat) (x1 : Int) (x2 : Int) (x3 : Int) (x4 : Int) (S : mSt) : Prop :=
  ((8 ≤ x4 → ko68 S) ∧ (x4 < 8 → w_X12_isOf N x2 x4 S (fun (S1 : mSt) (v1 : Int) => ((v1 ≠ 0 → w_X12_find_62 N F Q ko11 r0 x1 x2 x3 x4 S1) ∧ (v1 = 0 → (0 ≤ (nm ((nm (8 * x1)) + x4)) ∧ (nm ((nm (8 * x1)) + x4)) < 64 ∧ ((x3 < (S1 (r0 + 10) (nm ((nm (8 * x1)) + x4))) → w_X12_find_62 N F Q ko11 r0 x1 x2 x3 x4 S1) ∧ ((S1 (r0 + 10) (nm ((nm (8 * x1)) + x4))) ≤ x3 → F r0 (nm (x1 + 1)) (bOr x2 (bShl 1 x4)) x3 S1 (fun (S3 : mSt) (v3 : Int) => ((v3 = 0 → w_X12_find_62 N F Q ko11 r0 x1 x2 x3 x4 S3) ∧ (v3 ≠ 0 → Q S3 1)))))))))))
theorem W_X12_find_11b (C : mC p l s m args meth c cX12_find "MoonWashModel" 5 (some FieldType.boolean) g) (N : Nat) {fr lo : Nat} {F : Nat → Int → Int → Int → mSt → (mSt → Int → Prop) → Prop} (hF : ∀ (r0 : Nat) (kr0 : KM r0 = (0, 10, 0)) (x1 : Int) (ox1 : okI x1) (x2 : Int) (ox2 : okI x2) (x3 : Int) (ox3 : okI x3) {S : mSt} {Q : mSt → Int → Prop}, F r0 x1 x2 x3 S Q → ∀ sz : Nat, vx_Met l yX12_find (Cond.code yX12_find cX12_find 5 (some FieldType.boolean) :: wsG) { frames := fr, cells := 0, slots := 0, locals := lo } (mPc g b KM S [.ref (b + r0), .int (mI x1), .int (mI x2), .int (mI x3)] sz) (mQi g b KM Q (mA b KM sz)) (mEx g b KM (fun _ _ => False) (mA b KM sz)) 0 0 (mA b KM sz)) {Q : mSt → Int → Prop} {ko11 : Nat → Int → Int → Int → Int → mSt → Prop} {ko68 : mSt → Prop} (hko11 : ∀ (r0 : Nat) (kr0 : KM r0 = (0, 10, 0)) (x1 : Int) (ox1 : okI x1) (x2 : Int) (ox2 : okI x2) (x3 : Int) (ox3 : okI x3) (x4 : Int) (ox4 : okI x4) (S : mSt) (H : Heap) (locs : List Loc) (ls : Array Slot), lv_has ls 5 [(0, .ref (b + r0)), (1, .int (mI x1)), (2, .int (mI x2)), (3, .int (mI x3)), (4, .int (mI x4))] → mW g b KM S H → va_S (mA b KM s.heap.size) s.heap H locs → ko11 r0 x1 x2 x3 x4 S → W p l e { frames := fr + 1, cells := 0, slots := 0, locals := lo + 24 } s m args below meth c H locs 0 0 (vx_MQ below (mQi g b KM Q (mA b KM s.heap.size)) (mEx g b KM (fun _ _ => False) (mA b KM s.heap.size)) args s 0 0 (mA b KM s.heap.size)) (F0 m 11 ls [])) (hko68 : ∀  (S : mSt) (H : Heap) (locs : List Loc) (ls : Array Slot), lv_has ls 5 [] → mW g b KM S H → va_S (mA b KM s.heap.size) s.heap H locs → ko68 S → W p l e { frames := fr + 1, cells := 0, slots := 0, locals := lo + 24 } s m args below meth c H locs 0 0 (vx_MQ below (mQi g b KM Q (mA b KM s.heap.size)) (mEx g b KM (fun _ _ => False) (mA b KM s.heap.size)) args s 0 0 (mA b KM s.heap.size)) (F0 m 68 ls [])) (r0 : Nat) (kr0 : KM r0 = (0, 10, 0)) (x1 : Int) (ox1 : okI x1) (x2 : Int) (ox2 : okI x2) (x3 : Int) (ox3 : okI x3) (x4 : Int) (ox4 : okI x4) (S : mSt) (H : Heap) (locs : List Loc) (ls : Array Slot) (hl : lv_has ls 5 [(0, .ref (b + r0)), (1, .int (mI x1)), (2, .int (mI x2)), (3, .int (mI x3)), (4, .int (mI x4))]) (hW : mW g b KM S H) (hS : va_S (mA b KM s.heap.size) s.heap H locs) (h : w_X12_find_11b N F Q ko11 ko68 r0 x1 x2 x3 x4 S) : W p l e { frames := fr + 1, cells := 0, slots := 0, locals := lo + 24 } s m args below meth c H locs 0 0 (vx_MQ below (mQi g b KM Q (mA b KM s.heap.size)) (mEx g b KM (fun _ _ => False) (mA b KM s.heap.size)) args s 0 0 (mA b KM s.heap.size)) (F0 m 11 ls []) := by
  unfold w_X12_find_11b at h
  refine m_iload (pc := 11) C.1 dX12_find_11 hl 4 rfl ?_
  refine m_bipush (pc := 13) C.1 dX12_find_13 rfl ?_
  refine m_icmp_ge (pc := 15) (tgt := 68) C.1 ox4 (by decide : okI 8) dX12_find_15 (by decide) (fun hc => ?_) (fun hc => ?_)
  · replace h := h.1 hc
    exact hko68  S _ _ _ (lv_sub hl [] rfl) hW hS h
  · replace h := h.2 hc
    refine m_iload_n (pc := 18) C.1 dX12_find_18 rfl hl 2 rfl ?_
    refine m_iload (pc := 19) C.1 dX12_find_19 hl 4 rfl ?_
    refine m_callSi (pc := 21) C.1 C.2.2.1 hl.1 C.2.1 hW hS (As := [.int (mI x2), .int (mI x4)]) (rest := []) (T_X12_isOf C.2.2.2.2.2.2 N x2 ox2 x4 ox4 h) q_1590 q_1591 q_92 q_1592 pl_X12_isOf (by dsimp only [mRm]; omega) (Nat.le_of_ble_eq_true rfl) dX12_find_21 (fun v1 S1 H locs ov1 h hW1 hS => ?_)
    refine m_if_ne (pc := 24) (tgt := 62) C.1 ov1 dX12_find_24 (by decide) (fun hc => ?_) (fun hc => ?_)
    · replace h := h.1 hc
      exact W_X12_find_62 C N hF hko11 r0 kr0 x1 ox1 x2 ox2 x3 ox3 x4 ox4 S1 _ _ _ (lv_sub hl [0, 1, 2, 3, 4] rfl) hW1 hS h
    · replace h := h.2 hc
      refine m_aload_n (pc := 27) C.1 dX12_find_27 rfl hl 0 rfl ?_
      refine g_10_23 (pc := 28) C hW1 kr0 q_1406 dX12_find_28 ?_
      refine m_bipush (pc := 31) C.1 dX12_find_31 rfl ?_
      refine m_iload_n (pc := 33) C.1 dX12_find_33 rfl hl 1 rfl ?_
      refine m_imul (pc := 34) C.1 dX12_find_34 ?_
      refine m_iload (pc := 35) C.1 dX12_find_35 hl 4 rfl ?_
      refine m_iadd (pc := 37) C.1 dX12_find_37 ?_
      obtain ⟨hb2a, hb2b, h⟩ := h
      refine m_iald (pc := 38) C.1 C.2.1 hW1 (k_10_23 kr0) (nm_ok _) hb2a hb2b dX12_find_38 ?_
      refine m_iload_n (pc := 39) C.1 dX12_find_39 rfl hl 3 rfl ?_
      refine m_icmp_gt (pc := 40) (tgt := 62) C.1 (hW1.2.1 _ _) ox3 dX12_find_40 (by decide) (fun hc => ?_) (fun hc => ?_)
      · replace h := h.1 hc
        exact W_X12_find_62 C N hF hko11 r0 kr0 x1 ox1 x2 ox2 x3 ox3 x4 ox4 S1 _ _ _ (lv_sub hl [0, 1, 2, 3, 4] rfl) hW1 hS h
      · replace h := h.2 hc
        refine m_aload_n (pc := 43) C.1 dX12_find_43 rfl hl 0 rfl ?_
        refine m_iload_n (pc := 44) C.1 dX12_find_44 rfl hl 1 rfl ?_
        refine m_iconst (pc := 45) C.1 dX12_find_45 ?_
        refine m_iadd (pc := 46) C.1 dX12_find_46 ?_
        refine m_iload_n (pc := 47) C.1 dX12_find_47 rfl hl 2 rfl ?_
        refine m_iconst (pc := 48) C.1 dX12_find_48 ?_
        refine m_iload (pc := 49) C.1 dX12_find_49 hl 4 rfl ?_
        refine m_ishl (pc := 51) C.1 dX12_find_51 ?_
        refine m_ior (pc := 52) C.1 dX12_find_52 ?_
        refine m_iload_n (pc := 53) C.1 dX12_find_53 rfl hl 3 rfl ?_
        refine m_callVi (pc := 54) C.1 C.2.2.1 hl.1 C.2.1 hW1 hS (As := [.int (mI (nm (x1 + 1))), .int (mI (bOr x2 (bShl 1 x4))), .int (mI x3)]) (rest := []) (r := r0) (hF r0 kr0 (nm (x1 + 1)) (nm_ok _) (bOr x2 (bShl 1 x4)) (bOr_ok _ _) x3 ox3 h) kr0 rfl q_1820 q_1822 q_73 q_92 q_1823 pl_X12_find (by dsimp only [mRm]; omega) (Nat.le_of_ble_eq_true rfl) dX12_find_54 (fun v3 S3 H locs ov3 h hW3 hS => ?_)
        refine m_if_eq (pc := 57) (tgt := 62) C.1 ov3 dX12_find_57 (by decide) (fun hc => ?_) (fun hc => ?_)
        · replace h := h.1 hc
          exact W_X12_find_62 C N hF hko11 r0 kr0 x1 ox1 x2 ox2 x3 ox3 x4 ox4 S3 _ _ _ (lv_sub hl [0, 1, 2, 3, 4] rfl) hW3 hS h
        · replace h := h.2 hc
          refine m_iconst (pc := 60) C.1 dX12_find_60 ?_
          exact m_zret (pc := 61) C.1 C.2.2.2.1 C.2.2.2.2.1 hW3 hS (by decide) h (by decide) (by decide) dX12_find_61
def w_X12_find_11 (N : Nat) (F : Nat → Int → Int → Int → mSt → (mSt → Int → Prop) → Prop) (Q : mSt → Int → Prop) (ko68 : mSt → Prop) : Nat → Nat → Int → Int → Int → Int → mSt → Prop
  | 0 => fun _ _ _ _ _ _ => False
  | k + 1 => w_X12_find_11b N F Q (w_X12_find_11 N F Q ko68 k) ko68
theorem W_X12_find_11 (C : mC p l s m args meth c cX12_find "MoonWashModel" 5 (some FieldType.boolean) g) (N : Nat) {fr lo : Nat} {F : Nat → Int → Int → Int → mSt → (mSt → Int → Prop) → Prop} (hF : ∀ (r0 : Nat) (kr0 : KM r0 = (0, 10, 0)) (x1 : Int) (ox1 : okI x1) (x2 : Int) (ox2 : okI x2) (x3 : Int) (ox3 : okI x3) {S : mSt} {Q : mSt → Int → Prop}, F r0 x1 x2 x3 S Q → ∀ sz : Nat, vx_Met l yX12_find (Cond.code yX12_find cX12_find 5 (some FieldType.boolean) :: wsG) { frames := fr, cells := 0, slots := 0, locals := lo } (mPc g b KM S [.ref (b + r0), .int (mI x1), .int (mI x2), .int (mI x3)] sz) (mQi g b KM Q (mA b KM sz)) (mEx g b KM (fun _ _ => False) (mA b KM sz)) 0 0 (mA b KM sz)) {Q : mSt → Int → Prop} {ko68 : mSt → Prop} (hko68 : ∀  (S : mSt) (H : Heap) (locs : List Loc) (ls : Array Slot), lv_has ls 5 [] → mW g b KM S H → va_S (mA b KM s.heap.size) s.heap H locs → ko68 S → W p l e { frames := fr + 1, cells := 0, slots := 0, locals := lo + 24 } s m args below meth c H locs 0 0 (vx_MQ below (mQi g b KM Q (mA b KM s.heap.size)) (mEx g b KM (fun _ _ => False) (mA b KM s.heap.size)) args s 0 0 (mA b KM s.heap.size)) (F0 m 68 ls [])) : ∀ (k : Nat) (r0 : Nat) (kr0 : KM r0 = (0, 10, 0)) (x1 : Int) (ox1 : okI x1) (x2 : Int) (ox2 : okI x2) (x3 : Int) (ox3 : okI x3) (x4 : Int) (ox4 : okI x4) (S : mSt) (H : Heap) (locs : List Loc) (ls : Array Slot) (hl : lv_has ls 5 [(0, .ref (b + r0)), (1, .int (mI x1)), (2, .int (mI x2)), (3, .int (mI x3)), (4, .int (mI x4))]) (hW : mW g b KM S H) (hS : va_S (mA b KM s.heap.size) s.heap H locs) (h : w_X12_find_11 N F Q ko68 k r0 x1 x2 x3 x4 S), W p l e { frames := fr + 1, cells := 0, slots := 0, locals := lo + 24 } s m args below meth c H locs 0 0 (vx_MQ below (mQi g b KM Q (mA b KM s.heap.size)) (mEx g b KM (fun _ _ => False) (mA b KM s.heap.size)) args s 0 0 (mA b KM s.heap.size)) (F0 m 11 ls []) := by
  intro k
  induction k with
  | zero => intro r0 kr0 x1 ox1 x2 ox2 x3 ox3 x4 ox4 S H locs ls hl hW hS h; exact False.elim h
  | succ k ih => intro r0 kr0 x1 ox1 x2 ox2 x3 ox3 x4 ox4 S H locs ls hl hW hS h; exact W_X12_find_11b C N hF ih hko68 r0 kr0 x1 ox1 x2 ox2 x3 ox3 x4 ox4 S H locs ls hl hW hS h
end
def w_X12_find_b (N : Nat) (F : Nat → Int → Int → Int → mSt → (mSt → Int → Prop) → Prop) (r0 : Nat) (x1 : Int) (x2 : Int) (x3 : Int) (S : mSt) (Q : mSt → Int → Prop) : Prop :=
  ((x1 ≠ 8 → ∀ v1 : Int, v1 = 0 → w_X12_find_11 N F Q (fun  (S_2 : mSt) => Q S_2 0) N r0 x1 x2 x3 v1 S) ∧ (x1 = 8 → Q S 1))
theorem T_X12_find_b {l : Launch} (hl0 : l.stackTraces = false) {g : mG} {b : Nat} (N : Nat) {fr lo : Nat} {F : Nat → Int → Int → Int → mSt → (mSt → Int → Prop) → Prop} (hF : ∀ (r0 : Nat) (kr0 : KM r0 = (0, 10, 0)) (x1 : Int) (ox1 : okI x1) (x2 : Int) (ox2 : okI x2) (x3 : Int) (ox3 : okI x3) {S : mSt} {Q : mSt → Int → Prop}, F r0 x1 x2 x3 S Q → ∀ sz : Nat, vx_Met l yX12_find (Cond.code yX12_find cX12_find 5 (some FieldType.boolean) :: wsG) { frames := fr, cells := 0, slots := 0, locals := lo } (mPc g b KM S [.ref (b + r0), .int (mI x1), .int (mI x2), .int (mI x3)] sz) (mQi g b KM Q (mA b KM sz)) (mEx g b KM (fun _ _ => False) (mA b KM sz)) 0 0 (mA b KM sz)) (r0 : Nat) (kr0 : KM r0 = (0, 10, 0)) (x1 : Int) (ox1 : okI x1) (x2 : Int) (ox2 : okI x2) (x3 : Int) (ox3 : okI x3) {S : mSt} {Q : mSt → Int → Prop} (h : w_X12_find_b N F r0 x1 x2 x3 S Q) (sz : Nat) : vx_Met l yX12_find (Cond.code yX12_find cX12_find 5 (some FieldType.boolean) :: wsG) { frames := fr + 1, cells := 0, slots := 0, locals := lo + 24 } (mPc g b KM S [.ref (b + r0), .int (mI x1), .int (mI x2), .int (mI x3)] sz) (mQi g b KM Q (mA b KM sz)) (mEx g b KM (fun _ _ => False) (mA b KM sz)) 0 0 (mA b KM sz) :=
  m_of (av := [.ref (b + r0), .int (mI x1), .int (mI x2), .int (mI x3)]) (Qf := fun A => mQi g b KM Q A) (Xf := fun A => mEx g b KM (fun _ _ => False) A) (by decide) (Nat.le_of_ble_eq_true rfl) (fun p e s m args below meth c ls X hK hml hr hlk hout hnm hW hl => by
    have C : mC p l s m args meth c cX12_find "MoonWashModel" 5 (some FieldType.boolean) g := ⟨X, hK, hml, hr, hlk, hout, hl0⟩
    have hS : va_S (mA b KM s.heap.size) s.heap s.heap [] := va_S.rf
    have hl : lv_has ls 5 [(0, .ref (b + r0)), (1, .int (mI x1)), (2, .int (mI x2)), (3, .int (mI x3))] := hl
    unfold w_X12_find_b at h
    refine m_iload_n (pc := 0) C.1 dX12_find_0 rfl hl 1 rfl ?_
    refine m_bipush (pc := 1) C.1 dX12_find_1 rfl ?_
    refine m_icmp_ne (pc := 3) (tgt := 8) C.1 ox1 (by decide : okI 8) dX12_find_3 (by decide) (fun hc => ?_) (fun hc => ?_)
    · replace h := h.1 hc
      refine m_iconst (pc := 8) C.1 dX12_find_8 ?_
      refine m_istore (pc := 9) C.1 dX12_find_9 hl (by decide) (fun v => [(4, .int v), (0, .ref (b + r0)), (1, .int (mI x1)), (2, .int (mI x2)), (3, .int (mI x3))]) (fun _ => rfl) (by decide : okI 0) (fun v1 ls ev1 ov1 hl => ?_)
      replace h := h v1 ev1
      refine W_X12_find_11 C N hF ?_ N r0 kr0 x1 ox1 x2 ox2 x3 ox3 v1 ov1 S _ _ _ (lv_sub hl [1, 2, 3, 4, 0] rfl) hW hS h
      · intro S_2 H locs ls hl hW_2 hS h
        refine m_iconst (pc := 68) C.1 dX12_find_68 ?_
        exact m_zret (pc := 69) C.1 C.2.2.2.1 C.2.2.2.2.1 hW_2 hS (by decide) h (by decide) (by decide) dX12_find_69
    · replace h := h.2 hc
      refine m_iconst (pc := 6) C.1 dX12_find_6 ?_
      exact m_zret (pc := 7) C.1 C.2.2.2.1 C.2.2.2.2.1 hW hS (by decide) h (by decide) (by decide) dX12_find_7) sz
def w_X12_find (N : Nat) : Nat → Nat → Int → Int → Int → mSt → (mSt → Int → Prop) → Prop
  | 0 => fun _ _ _ _ _ _ => False
  | d + 1 => w_X12_find_b N (w_X12_find N d)
theorem T_X12_find {l : Launch} (hl0 : l.stackTraces = false) {g : mG} {b : Nat} (N : Nat) : ∀ (d : Nat) (r0 : Nat) (kr0 : KM r0 = (0, 10, 0)) (x1 : Int) (ox1 : okI x1) (x2 : Int) (ox2 : okI x2) (x3 : Int) (ox3 : okI x3) {S : mSt} {Q : mSt → Int → Prop}, w_X12_find N d r0 x1 x2 x3 S Q → ∀ sz : Nat, vx_Met l yX12_find (Cond.code yX12_find cX12_find 5 (some FieldType.boolean) :: wsG) { frames := 1 * d, cells := 0, slots := 0, locals := 24 * d } (mPc g b KM S [.ref (b + r0), .int (mI x1), .int (mI x2), .int (mI x3)] sz) (mQi g b KM Q (mA b KM sz)) (mEx g b KM (fun _ _ => False) (mA b KM sz)) 0 0 (mA b KM sz) := by
  intro d
  induction d with
  | zero => intro r0 kr0 x1 ox1 x2 ox2 x3 ox3 S Q h; exact False.elim h
  | succ d ih => intro r0 kr0 x1 ox1 x2 ox2 x3 ox3 S Q h sz; exact T_X12_find_b hl0 N (fun r0 kr0 x1 ox1 x2 ox2 x3 ox3 => fun hh => ih r0 kr0 x1 ox1 x2 ox2 x3 ox3 hh) r0 kr0 x1 ox1 x2 ox2 x3 ox3 h sz
section
variable {p : Program} {l : Launch} {e : Env} {s : State} {m : MethodId} {args : Array Value} {below : List Frame} {meth : Method} {c : Code} {g : mG} {b : Nat}
def w_X12_soonest_108 (N : Nat) (Q : mSt → Int → Prop) (ko63 : Nat → Int → Int → Int → Int → Int → mSt → Prop) (r0 : Nat) (x1 : Int) (x2 : Int) (x3 : Int) (x4 : Int) (x5 : Int) (xs0 : Int) (xs1 : Int) (rs2 : Nat) (S : mSt) : Prop :=
  (0 ≤ xs1 ∧ xs1 < 64 ∧ ∀ S2 : mSt, S2 = mup S rs2 xs1 xs0 → ∀ v3 : Int, v3 = nm (x5 + 1) → ko63 r0 x1 x2 x3 x4 v3 S2)
theorem W_X12_soonest_108 (C : mC p l s m args meth c cX12_soonest "MoonWashModel" 7 (some FieldType.int) g) (N : Nat) {Q : mSt → Int → Prop} {ko63 : Nat → Int → Int → Int → Int → Int → mSt → Prop} (hko63 : ∀ (r0 : Nat) (kr0 : KM r0 = (0, 10, 0)) (x1 : Int) (ox1 : okI x1) (x2 : Int) (ox2 : okI x2) (x3 : Int) (ox3 : okI x3) (x4 : Int) (ox4 : okI x4) (x5 : Int) (ox5 : okI x5) (S : mSt) (H : Heap) (locs : List Loc) (ls : Array Slot), lv_has ls 7 [(0, .ref (b + r0)), (1, .int (mI x1)), (2, .int (mI x2)), (3, .int (mI x3)), (4, .int (mI x4)), (5, .int (mI x5))] → mW g b KM S H → va_S (mA b KM s.heap.size) s.heap H locs → ko63 r0 x1 x2 x3 x4 x5 S → W p l e { frames := 122, cells := 0, slots := 0, locals := 3209 } s m args below meth c H locs 0 0 (vx_MQ below (mQi g b KM Q (mA b KM s.heap.size)) (mEx g b KM (fun _ _ => False) (mA b KM s.heap.size)) args s 0 0 (mA b KM s.heap.size)) (F0 m 63 ls [])) (r0 : Nat) (kr0 : KM r0 = (0, 10, 0)) (x1 : Int) (ox1 : okI x1) (x2 : Int) (ox2 : okI x2) (x3 : Int) (ox3 : okI x3) (x4 : Int) (ox4 : okI x4) (x5 : Int) (ox5 : okI x5) (xs0 : Int) (oxs0 : okI xs0) (xs1 : Int) (oxs1 : okI xs1) (rs2 : Nat) (krs2 : KM rs2 = (1, 64, 0)) (S : mSt) (H : Heap) (locs : List Loc) (ls : Array Slot) (hl : lv_has ls 7 [(0, .ref (b + r0)), (1, .int (mI x1)), (2, .int (mI x2)), (3, .int (mI x3)), (4, .int (mI x4)), (5, .int (mI x5))]) (hW : mW g b KM S H) (hS : va_S (mA b KM s.heap.size) s.heap H locs) (h : w_X12_soonest_108 N Q ko63 r0 x1 x2 x3 x4 x5 xs0 xs1 rs2 S) : W p l e { frames := 122, cells := 0, slots := 0, locals := 3209 } s m args below meth c H locs 0 0 (vx_MQ below (mQi g b KM Q (mA b KM s.heap.size)) (mEx g b KM (fun _ _ => False) (mA b KM s.heap.size)) args s 0 0 (mA b KM s.heap.size)) (F0 m 108 ls [.int (mI xs0), .int (mI xs1), .ref (b + rs2)]) := by
  unfold w_X12_soonest_108 at h
  obtain ⟨hb1a, hb1b, h⟩ := h
  refine m_iast (pc := 108) C.1 C.2.1 hW hS krs2 oxs1 oxs0 hb1a hb1b dX12_soonest_108 (fun S2 H locs e2 hW2 hS => ?_)
  replace h := h S2 e2
  refine m_iinc (pc := 109) C.1 dX12_soonest_109 hl (by decide) (q0 := 5) rfl (fun v => [(5, .int v), (0, .ref (b + r0)), (1, .int (mI x1)), (2, .int (mI x2)), (3, .int (mI x3)), (4, .int (mI x4))]) (fun _ => rfl) (fun v3 ls ev3 ov3 hl => ?_)
  replace h := h v3 ev3
  refine m_goto (pc := 112) (tgt := 63) C.1 dX12_soonest_112 (by decide) ?_
  exact hko63 r0 kr0 x1 ox1 x2 ox2 x3 ox3 x4 ox4 v3 ov3 S2 _ _ _ (lv_sub hl [1, 2, 3, 4, 5, 0] rfl) hW2 hS h
def w_X12_soonest_63b (N : Nat) (Q : mSt → Int → Prop) (ko63 : Nat → Int → Int → Int → Int → Int → mSt → Prop) (ko115 : Nat → Int → Int → Int → Int → mSt → Prop) (r0 : Nat) (x1 : Int) (x2 : Int) (x3 : Int) (x4 : Int) (x5 : Int) (S : mSt) : Prop :=
  ((8 ≤ x5 → ko115 r0 x1 x2 x3 x4 S) ∧ (x5 < 8 → w_X12_has N r0 x3 5 x5 S (fun (S1 : mSt) => w_X12_of N r0 x3 4 S1 (fun (S2 : mSt) (v2 : Int) => ((v2 ≠ 0 → w_X12_drySoon N r0 x3 x1 S2 (fun (S3 : mSt) (v3 : Int) => w_X12_soonest_108 N Q ko63 r0 x1 x2 x3 x4 x5 v3 (nm ((nm (8 * x3)) + x5)) (r0 + 10) S3)) ∧ (v2 = 0 → w_X12_soonest_108 N Q ko63 r0 x1 x2 x3 x4 x5 0 (nm ((nm (8 * x3)) + x5)) (r0 + 10) S2))))))
theorem W_X12_soonest_63b (C : mC p l s m args meth c cX12_soonest "MoonWashModel" 7 (some FieldType.int) g) (N : Nat) {Q : mSt → Int → Prop} {ko63 : Nat → Int → Int → Int → Int → Int → mSt → Prop} {ko115 : Nat → Int → Int → Int → Int → mSt → Prop} (hko63 : ∀ (r0 : Nat) (kr0 : KM r0 = (0, 10, 0)) (x1 : Int) (ox1 : okI x1) (x2 : Int) (ox2 : okI x2) (x3 : Int) (ox3 : okI x3) (x4 : Int) (ox4 : okI x4) (x5 : Int) (ox5 : okI x5) (S : mSt) (H : Heap) (locs : List Loc) (ls : Array Slot), lv_has ls 7 [(0, .ref (b + r0)), (1, .int (mI x1)), (2, .int (mI x2)), (3, .int (mI x3)), (4, .int (mI x4)), (5, .int (mI x5))] → mW g b KM S H → va_S (mA b KM s.heap.size) s.heap H locs → ko63 r0 x1 x2 x3 x4 x5 S → W p l e { frames := 122, cells := 0, slots := 0, locals := 3209 } s m args below meth c H locs 0 0 (vx_MQ below (mQi g b KM Q (mA b KM s.heap.size)) (mEx g b KM (fun _ _ => False) (mA b KM s.heap.size)) args s 0 0 (mA b KM s.heap.size)) (F0 m 63 ls [])) (hko115 : ∀ (r0 : Nat) (kr0 : KM r0 = (0, 10, 0)) (x1 : Int) (ox1 : okI x1) (x2 : Int) (ox2 : okI x2) (x3 : Int) (ox3 : okI x3) (x4 : Int) (ox4 : okI x4) (S : mSt) (H : Heap) (locs : List Loc) (ls : Array Slot), lv_has ls 7 [(0, .ref (b + r0)), (1, .int (mI x1)), (2, .int (mI x2)), (3, .int (mI x3)), (4, .int (mI x4))] → mW g b KM S H → va_S (mA b KM s.heap.size) s.heap H locs → ko115 r0 x1 x2 x3 x4 S → W p l e { frames := 122, cells := 0, slots := 0, locals := 3209 } s m args below meth c H locs 0 0 (vx_MQ below (mQi g b KM Q (mA b KM s.heap.size)) (mEx g b KM (fun _ _ => False) (mA b KM s.heap.size)) args s 0 0 (mA b KM s.heap.size)) (F0 m 115 ls [])) (r0 : Nat) (kr0 : KM r0 = (0, 10, 0)) (x1 : Int) (ox1 : okI x1) (x2 : Int) (ox2 : okI x2) (x3 : Int) (ox3 : okI x3) (x4 : Int) (ox4 : okI x4) (x5 : Int) (ox5 : okI x5) (S : mSt) (H : Heap) (locs : List Loc) (ls : Array Slot) (hl : lv_has ls 7 [(0, .ref (b + r0)), (1, .int (mI x1)), (2, .int (mI x2)), (3, .int (mI x3)), (4, .int (mI x4)), (5, .int (mI x5))]) (hW : mW g b KM S H) (hS : va_S (mA b KM s.heap.size) s.heap H locs) (h : w_X12_soonest_63b N Q ko63 ko115 r0 x1 x2 x3 x4 x5 S) : W p l e { frames := 122, cells := 0, slots := 0, locals := 3209 } s m args below meth c H locs 0 0 (vx_MQ below (mQi g b KM Q (mA b KM s.heap.size)) (mEx g b KM (fun _ _ => False) (mA b KM s.heap.size)) args s 0 0 (mA b KM s.heap.size)) (F0 m 63 ls []) := by
  unfold w_X12_soonest_63b at h
  refine m_iload (pc := 63) C.1 dX12_soonest_63 hl 5 rfl ?_
  refine m_bipush (pc := 65) C.1 dX12_soonest_65 rfl ?_
  refine m_icmp_ge (pc := 67) (tgt := 115) C.1 ox5 (by decide : okI 8) dX12_soonest_67 (by decide) (fun hc => ?_) (fun hc => ?_)
  · replace h := h.1 hc
    exact hko115 r0 kr0 x1 ox1 x2 ox2 x3 ox3 x4 ox4 S _ _ _ (lv_sub hl [0, 1, 2, 3, 4] rfl) hW hS h
  · replace h := h.2 hc
    refine m_aload_n (pc := 70) C.1 dX12_soonest_70 rfl hl 0 rfl ?_
    refine m_iload_n (pc := 71) C.1 dX12_soonest_71 rfl hl 3 rfl ?_
    refine m_iconst (pc := 72) C.1 dX12_soonest_72 ?_
    refine m_iload (pc := 73) C.1 dX12_soonest_73 hl 5 rfl ?_
    refine m_callVv (pc := 75) C.1 C.2.2.1 hl.1 C.2.1 hW hS (As := [.int (mI x3), .int (mI 5), .int (mI x5)]) (rest := []) (r := r0) (T_X12_has C.2.2.2.2.2.2 N r0 kr0 x3 ox3 5 (by decide : okI 5) x5 ox5 h) kr0 rfl q_1379 q_1381 q_22 q_92 q_1382 pl_X12_has (by decide) (Nat.le_of_ble_eq_true rfl) dX12_soonest_75 (fun S1 H locs h hW1 hS => ?_)
    refine m_aload_n (pc := 78) C.1 dX12_soonest_78 rfl hl 0 rfl ?_
    refine g_10_23 (pc := 79) C hW1 kr0 q_1406 dX12_soonest_79 ?_
    refine m_bipush (pc := 82) C.1 dX12_soonest_82 rfl ?_
    refine m_iload_n (pc := 84) C.1 dX12_soonest_84 rfl hl 3 rfl ?_
    refine m_imul (pc := 85) C.1 dX12_soonest_85 ?_
    refine m_iload (pc := 86) C.1 dX12_soonest_86 hl 5 rfl ?_
    refine m_iadd (pc := 88) C.1 dX12_soonest_88 ?_
    refine m_aload_n (pc := 89) C.1 dX12_soonest_89 rfl hl 0 rfl ?_
    refine m_iload_n (pc := 90) C.1 dX12_soonest_90 rfl hl 3 rfl ?_
    refine m_iconst (pc := 91) C.1 dX12_soonest_91 ?_
    refine m_callVi (pc := 92) C.1 C.2.2.1 hl.1 C.2.1 hW1 hS (As := [.int (mI x3), .int (mI 4)]) (rest := [.int (mI (nm ((nm (8 * x3)) + x5))), .ref (b + (r0 + 10))]) (r := r0) (T_X12_of C.2.2.2.2.2.2 N r0 kr0 x3 ox3 4 (by decide : okI 4) h) kr0 rfl q_1630 q_1632 q_48 q_92 q_1633 pl_X12_of (by decide) (Nat.le_of_ble_eq_true rfl) dX12_soonest_92 (fun v2 S2 H locs ov2 h hW2 hS => ?_)
    refine m_if_ne (pc := 95) (tgt := 102) C.1 ov2 dX12_soonest_95 (by decide) (fun hc => ?_) (fun hc => ?_)
    · replace h := h.1 hc
      refine m_aload_n (pc := 102) C.1 dX12_soonest_102 rfl hl 0 rfl ?_
      refine m_iload_n (pc := 103) C.1 dX12_soonest_103 rfl hl 3 rfl ?_
      refine m_iload_n (pc := 104) C.1 dX12_soonest_104 rfl hl 1 rfl ?_
      refine m_callVi (pc := 105) C.1 C.2.2.1 hl.1 C.2.1 hW2 hS (As := [.int (mI x3), .int (mI x1)]) (rest := [.int (mI (nm ((nm (8 * x3)) + x5))), .ref (b + (r0 + 10))]) (r := r0) (T_X12_drySoon C.2.2.2.2.2.2 N r0 kr0 x3 ox3 x1 ox1 h) kr0 rfl q_1812 q_1814 q_72 q_92 q_1815 pl_X12_drySoon (by decide) (Nat.le_of_ble_eq_true rfl) dX12_soonest_105 (fun v3 S3 H locs ov3 h hW3 hS => ?_)
      exact W_X12_soonest_108 C N hko63 r0 kr0 x1 ox1 x2 ox2 x3 ox3 x4 ox4 x5 ox5 v3 ov3 (nm ((nm (8 * x3)) + x5)) (nm_ok _) (r0 + 10) (k_10_23 kr0) S3 _ _ _ (lv_sub hl [0, 1, 2, 3, 4, 5] rfl) hW3 hS h
    · replace h := h.2 hc
      refine m_iconst (pc := 98) C.1 dX12_soonest_98 ?_
      refine m_goto (pc := 99) (tgt := 108) C.1 dX12_soonest_99 (by decide) ?_
      exact W_X12_soonest_108 C N hko63 r0 kr0 x1 ox1 x2 ox2 x3 ox3 x4 ox4 x5 ox5 0 (by decide : okI 0) (nm ((nm (8 * x3)) + x5)) (nm_ok _) (r0 + 10) (k_10_23 kr0) S2 _ _ _ (lv_sub hl [0, 1, 2, 3, 4, 5] rfl) hW2 hS h
def w_X12_soonest_63 (N : Nat) (Q : mSt → Int → Prop) (ko115 : Nat → Int → Int → Int → Int → mSt → Prop) : Nat → Nat → Int → Int → Int → Int → Int → mSt → Prop
  | 0 => fun _ _ _ _ _ _ _ => False
  | k + 1 => w_X12_soonest_63b N Q (w_X12_soonest_63 N Q ko115 k) ko115
theorem W_X12_soonest_63 (C : mC p l s m args meth c cX12_soonest "MoonWashModel" 7 (some FieldType.int) g) (N : Nat) {Q : mSt → Int → Prop} {ko115 : Nat → Int → Int → Int → Int → mSt → Prop} (hko115 : ∀ (r0 : Nat) (kr0 : KM r0 = (0, 10, 0)) (x1 : Int) (ox1 : okI x1) (x2 : Int) (ox2 : okI x2) (x3 : Int) (ox3 : okI x3) (x4 : Int) (ox4 : okI x4) (S : mSt) (H : Heap) (locs : List Loc) (ls : Array Slot), lv_has ls 7 [(0, .ref (b + r0)), (1, .int (mI x1)), (2, .int (mI x2)), (3, .int (mI x3)), (4, .int (mI x4))] → mW g b KM S H → va_S (mA b KM s.heap.size) s.heap H locs → ko115 r0 x1 x2 x3 x4 S → W p l e { frames := 122, cells := 0, slots := 0, locals := 3209 } s m args below meth c H locs 0 0 (vx_MQ below (mQi g b KM Q (mA b KM s.heap.size)) (mEx g b KM (fun _ _ => False) (mA b KM s.heap.size)) args s 0 0 (mA b KM s.heap.size)) (F0 m 115 ls [])) : ∀ (k : Nat) (r0 : Nat) (kr0 : KM r0 = (0, 10, 0)) (x1 : Int) (ox1 : okI x1) (x2 : Int) (ox2 : okI x2) (x3 : Int) (ox3 : okI x3) (x4 : Int) (ox4 : okI x4) (x5 : Int) (ox5 : okI x5) (S : mSt) (H : Heap) (locs : List Loc) (ls : Array Slot) (hl : lv_has ls 7 [(0, .ref (b + r0)), (1, .int (mI x1)), (2, .int (mI x2)), (3, .int (mI x3)), (4, .int (mI x4)), (5, .int (mI x5))]) (hW : mW g b KM S H) (hS : va_S (mA b KM s.heap.size) s.heap H locs) (h : w_X12_soonest_63 N Q ko115 k r0 x1 x2 x3 x4 x5 S), W p l e { frames := 122, cells := 0, slots := 0, locals := 3209 } s m args below meth c H locs 0 0 (vx_MQ below (mQi g b KM Q (mA b KM s.heap.size)) (mEx g b KM (fun _ _ => False) (mA b KM s.heap.size)) args s 0 0 (mA b KM s.heap.size)) (F0 m 63 ls []) := by
  intro k
  induction k with
  | zero => intro r0 kr0 x1 ox1 x2 ox2 x3 ox3 x4 ox4 x5 ox5 S H locs ls hl hW hS h; exact False.elim h
  | succ k ih => intro r0 kr0 x1 ox1 x2 ox2 x3 ox3 x4 ox4 x5 ox5 S H locs ls hl hW hS h; exact W_X12_soonest_63b C N ih hko115 r0 kr0 x1 ox1 x2 ox2 x3 ox3 x4 ox4 x5 ox5 S H locs ls hl hW hS h
def w_X12_soonest_46b (N : Nat) (Q : mSt → Int → Prop) (ko46 : Nat → Int → Int → Int → mSt → Prop) (ko129 : Nat → Int → mSt → Prop) (r0 : Nat) (x1 : Int) (x2 : Int) (x3 : Int) (S : mSt) : Prop :=
  ((8 ≤ x3 → ko129 r0 x2 S) ∧ (x3 < 8 → w_X12_of N r0 x3 5 S (fun (S1 : mSt) (v1 : Int) => ∀ v2 : Int, v2 = v1 → ∀ v3 : Int, v3 = 0 → w_X12_soonest_63 N Q (fun (r0_4 : Nat) (x1_4 : Int) (x2_4 : Int) (x3_4 : Int) (x4_4 : Int) (S_4 : mSt) => w_X12_has N r0_4 x3_4 5 x4_4 S_4 (fun (S5 : mSt) => ∀ v6 : Int, v6 = nm (x3_4 + 1) → ko46 r0_4 x1_4 x2_4 v6 S5)) N r0 x1 x2 x3 v2 v3 S1)))
theorem W_X12_soonest_46b (C : mC p l s m args meth c cX12_soonest "MoonWashModel" 7 (some FieldType.int) g) (N : Nat) {Q : mSt → Int → Prop} {ko46 : Nat → Int → Int → Int → mSt → Prop} {ko129 : Nat → Int → mSt → Prop} (hko46 : ∀ (r0 : Nat) (kr0 : KM r0 = (0, 10, 0)) (x1 : Int) (ox1 : okI x1) (x2 : Int) (ox2 : okI x2) (x3 : Int) (ox3 : okI x3) (S : mSt) (H : Heap) (locs : List Loc) (ls : Array Slot), lv_has ls 7 [(0, .ref (b + r0)), (1, .int (mI x1)), (2, .int (mI x2)), (3, .int (mI x3))] → mW g b KM S H → va_S (mA b KM s.heap.size) s.heap H locs → ko46 r0 x1 x2 x3 S → W p l e { frames := 122, cells := 0, slots := 0, locals := 3209 } s m args below meth c H locs 0 0 (vx_MQ below (mQi g b KM Q (mA b KM s.heap.size)) (mEx g b KM (fun _ _ => False) (mA b KM s.heap.size)) args s 0 0 (mA b KM s.heap.size)) (F0 m 46 ls [])) (hko129 : ∀ (r0 : Nat) (kr0 : KM r0 = (0, 10, 0)) (x2 : Int) (ox2 : okI x2) (S : mSt) (H : Heap) (locs : List Loc) (ls : Array Slot), lv_has ls 7 [(0, .ref (b + r0)), (2, .int (mI x2))] → mW g b KM S H → va_S (mA b KM s.heap.size) s.heap H locs → ko129 r0 x2 S → W p l e { frames := 122, cells := 0, slots := 0, locals := 3209 } s m args below meth c H locs 0 0 (vx_MQ below (mQi g b KM Q (mA b KM s.heap.size)) (mEx g b KM (fun _ _ => False) (mA b KM s.heap.size)) args s 0 0 (mA b KM s.heap.size)) (F0 m 129 ls [])) (r0 : Nat) (kr0 : KM r0 = (0, 10, 0)) (x1 : Int) (ox1 : okI x1) (x2 : Int) (ox2 : okI x2) (x3 : Int) (ox3 : okI x3) (S : mSt) (H : Heap) (locs : List Loc) (ls : Array Slot) (hl : lv_has ls 7 [(0, .ref (b + r0)), (1, .int (mI x1)), (2, .int (mI x2)), (3, .int (mI x3))]) (hW : mW g b KM S H) (hS : va_S (mA b KM s.heap.size) s.heap H locs) (h : w_X12_soonest_46b N Q ko46 ko129 r0 x1 x2 x3 S) : W p l e { frames := 122, cells := 0, slots := 0, locals := 3209 } s m args below meth c H locs 0 0 (vx_MQ below (mQi g b KM Q (mA b KM s.heap.size)) (mEx g b KM (fun _ _ => False) (mA b KM s.heap.size)) args s 0 0 (mA b KM s.heap.size)) (F0 m 46 ls []) := by
  unfold w_X12_soonest_46b at h
  refine m_iload_n (pc := 46) C.1 dX12_soonest_46 rfl hl 3 rfl ?_
  refine m_bipush (pc := 47) C.1 dX12_soonest_47 rfl ?_
  refine m_icmp_ge (pc := 49) (tgt := 129) C.1 ox3 (by decide : okI 8) dX12_soonest_49 (by decide) (fun hc => ?_) (fun hc => ?_)
  · replace h := h.1 hc
    exact hko129 r0 kr0 x2 ox2 S _ _ _ (lv_sub hl [0, 2] rfl) hW hS h
  · replace h := h.2 hc
    refine m_aload_n (pc := 52) C.1 dX12_soonest_52 rfl hl 0 rfl ?_
    refine m_iload_n (pc := 53) C.1 dX12_soonest_53 rfl hl 3 rfl ?_
    refine m_iconst (pc := 54) C.1 dX12_soonest_54 ?_
    refine m_callVi (pc := 55) C.1 C.2.2.1 hl.1 C.2.1 hW hS (As := [.int (mI x3), .int (mI 5)]) (rest := []) (r := r0) (T_X12_of C.2.2.2.2.2.2 N r0 kr0 x3 ox3 5 (by decide : okI 5) h) kr0 rfl q_1630 q_1632 q_48 q_92 q_1633 pl_X12_of (by decide) (Nat.le_of_ble_eq_true rfl) dX12_soonest_55 (fun v1 S1 H locs ov1 h hW1 hS => ?_)
    refine m_istore (pc := 58) C.1 dX12_soonest_58 hl (by decide) (fun v => [(4, .int v), (0, .ref (b + r0)), (1, .int (mI x1)), (2, .int (mI x2)), (3, .int (mI x3))]) (fun _ => rfl) ov1 (fun v2 ls ev2 ov2 hl => ?_)
    replace h := h v2 ev2
    refine m_iconst (pc := 60) C.1 dX12_soonest_60 ?_
    refine m_istore (pc := 61) C.1 dX12_soonest_61 hl (by decide) (fun v => [(5, .int v), (4, .int (mI v2)), (0, .ref (b + r0)), (1, .int (mI x1)), (2, .int (mI x2)), (3, .int (mI x3))]) (fun _ => rfl) (by decide : okI 0) (fun v3 ls ev3 ov3 hl => ?_)
    replace h := h v3 ev3
    refine W_X12_soonest_63 C N ?_ N r0 kr0 x1 ox1 x2 ox2 x3 ox3 v2 ov2 v3 ov3 S1 _ _ _ (lv_sub hl [2, 3, 4, 5, 1, 0] rfl) hW1 hS h
    · intro r0_4 kr0_4 x1_4 ox1_4 x2_4 ox2_4 x3_4 ox3_4 x4_4 ox4_4 S_4 H locs ls hl hW_4 hS h
      refine m_aload_n (pc := 115) C.1 dX12_soonest_115 rfl hl 0 rfl ?_
      refine m_iload_n (pc := 116) C.1 dX12_soonest_116 rfl hl 3 rfl ?_
      refine m_iconst (pc := 117) C.1 dX12_soonest_117 ?_
      refine m_iload (pc := 118) C.1 dX12_soonest_118 hl 4 rfl ?_
      refine m_callVv (pc := 120) C.1 C.2.2.1 hl.1 C.2.1 hW_4 hS (As := [.int (mI x3_4), .int (mI 5), .int (mI x4_4)]) (rest := []) (r := r0_4) (T_X12_has C.2.2.2.2.2.2 N r0_4 kr0_4 x3_4 ox3_4 5 (by decide : okI 5) x4_4 ox4_4 h) kr0_4 rfl q_1379 q_1381 q_22 q_92 q_1382 pl_X12_has (by decide) (Nat.le_of_ble_eq_true rfl) dX12_soonest_120 (fun S5 H locs h hW5 hS => ?_)
      refine m_iinc (pc := 123) C.1 dX12_soonest_123 hl (by decide) (q0 := 3) rfl (fun v => [(3, .int v), (0, .ref (b + r0_4)), (1, .int (mI x1_4)), (2, .int (mI x2_4)), (4, .int (mI x4_4))]) (fun _ => rfl) (fun v6 ls ev6 ov6 hl => ?_)
      replace h := h v6 ev6
      refine m_goto (pc := 126) (tgt := 46) C.1 dX12_soonest_126 (by decide) ?_
      exact hko46 r0_4 kr0_4 x1_4 ox1_4 x2_4 ox2_4 v6 ov6 S5 _ _ _ (lv_sub hl [1, 2, 3, 0] rfl) hW5 hS h
def w_X12_soonest_46 (N : Nat) (Q : mSt → Int → Prop) (ko129 : Nat → Int → mSt → Prop) : Nat → Nat → Int → Int → Int → mSt → Prop
  | 0 => fun _ _ _ _ _ => False
  | k + 1 => w_X12_soonest_46b N Q (w_X12_soonest_46 N Q ko129 k) ko129
theorem W_X12_soonest_46 (C : mC p l s m args meth c cX12_soonest "MoonWashModel" 7 (some FieldType.int) g) (N : Nat) {Q : mSt → Int → Prop} {ko129 : Nat → Int → mSt → Prop} (hko129 : ∀ (r0 : Nat) (kr0 : KM r0 = (0, 10, 0)) (x2 : Int) (ox2 : okI x2) (S : mSt) (H : Heap) (locs : List Loc) (ls : Array Slot), lv_has ls 7 [(0, .ref (b + r0)), (2, .int (mI x2))] → mW g b KM S H → va_S (mA b KM s.heap.size) s.heap H locs → ko129 r0 x2 S → W p l e { frames := 122, cells := 0, slots := 0, locals := 3209 } s m args below meth c H locs 0 0 (vx_MQ below (mQi g b KM Q (mA b KM s.heap.size)) (mEx g b KM (fun _ _ => False) (mA b KM s.heap.size)) args s 0 0 (mA b KM s.heap.size)) (F0 m 129 ls [])) : ∀ (k : Nat) (r0 : Nat) (kr0 : KM r0 = (0, 10, 0)) (x1 : Int) (ox1 : okI x1) (x2 : Int) (ox2 : okI x2) (x3 : Int) (ox3 : okI x3) (S : mSt) (H : Heap) (locs : List Loc) (ls : Array Slot) (hl : lv_has ls 7 [(0, .ref (b + r0)), (1, .int (mI x1)), (2, .int (mI x2)), (3, .int (mI x3))]) (hW : mW g b KM S H) (hS : va_S (mA b KM s.heap.size) s.heap H locs) (h : w_X12_soonest_46 N Q ko129 k r0 x1 x2 x3 S), W p l e { frames := 122, cells := 0, slots := 0, locals := 3209 } s m args below meth c H locs 0 0 (vx_MQ below (mQi g b KM Q (mA b KM s.heap.size)) (mEx g b KM (fun _ _ => False) (mA b KM s.heap.size)) args s 0 0 (mA b KM s.heap.size)) (F0 m 46 ls []) := by
  intro k
  induction k with
  | zero => intro r0 kr0 x1 ox1 x2 ox2 x3 ox3 S H locs ls hl hW hS h; exact False.elim h
  | succ k ih => intro r0 kr0 x1 ox1 x2 ox2 x3 ox3 S H locs ls hl hW hS h; exact W_X12_soonest_46b C N ih hko129 r0 kr0 x1 ox1 x2 ox2 x3 ox3 S H locs ls hl hW hS h
def w_X12_soonest_131b (N : Nat) (Q : mSt → Int → Prop) (ko131 : Nat → Int → Int → mSt → Prop) (ko153 : Nat → Int → Int → mSt → Prop) (r0 : Nat) (x2 : Int) (x3 : Int) (S : mSt) : Prop :=
  ((40 < x3 → ko153 r0 x2 x3 S) ∧ (x3 ≤ 40 → w_X12_find N 12 r0 0 0 x3 S (fun (S1 : mSt) (v1 : Int) => ((v1 ≠ 0 → ko153 r0 x2 x3 S1) ∧ (v1 = 0 → ∀ v2 : Int, v2 = nm (x3 + 1) → ko131 r0 x2 v2 S1)))))
theorem W_X12_soonest_131b (C : mC p l s m args meth c cX12_soonest "MoonWashModel" 7 (some FieldType.int) g) (N : Nat) {Q : mSt → Int → Prop} {ko131 : Nat → Int → Int → mSt → Prop} {ko153 : Nat → Int → Int → mSt → Prop} (hko131 : ∀ (r0 : Nat) (kr0 : KM r0 = (0, 10, 0)) (x2 : Int) (ox2 : okI x2) (x3 : Int) (ox3 : okI x3) (S : mSt) (H : Heap) (locs : List Loc) (ls : Array Slot), lv_has ls 7 [(0, .ref (b + r0)), (2, .int (mI x2)), (3, .int (mI x3))] → mW g b KM S H → va_S (mA b KM s.heap.size) s.heap H locs → ko131 r0 x2 x3 S → W p l e { frames := 122, cells := 0, slots := 0, locals := 3209 } s m args below meth c H locs 0 0 (vx_MQ below (mQi g b KM Q (mA b KM s.heap.size)) (mEx g b KM (fun _ _ => False) (mA b KM s.heap.size)) args s 0 0 (mA b KM s.heap.size)) (F0 m 131 ls [])) (hko153 : ∀ (r0 : Nat) (kr0 : KM r0 = (0, 10, 0)) (x2 : Int) (ox2 : okI x2) (x3 : Int) (ox3 : okI x3) (S : mSt) (H : Heap) (locs : List Loc) (ls : Array Slot), lv_has ls 7 [(0, .ref (b + r0)), (2, .int (mI x2)), (3, .int (mI x3))] → mW g b KM S H → va_S (mA b KM s.heap.size) s.heap H locs → ko153 r0 x2 x3 S → W p l e { frames := 122, cells := 0, slots := 0, locals := 3209 } s m args below meth c H locs 0 0 (vx_MQ below (mQi g b KM Q (mA b KM s.heap.size)) (mEx g b KM (fun _ _ => False) (mA b KM s.heap.size)) args s 0 0 (mA b KM s.heap.size)) (F0 m 153 ls [])) (r0 : Nat) (kr0 : KM r0 = (0, 10, 0)) (x2 : Int) (ox2 : okI x2) (x3 : Int) (ox3 : okI x3) (S : mSt) (H : Heap) (locs : List Loc) (ls : Array Slot) (hl : lv_has ls 7 [(0, .ref (b + r0)), (2, .int (mI x2)), (3, .int (mI x3))]) (hW : mW g b KM S H) (hS : va_S (mA b KM s.heap.size) s.heap H locs) (h : w_X12_soonest_131b N Q ko131 ko153 r0 x2 x3 S) : W p l e { frames := 122, cells := 0, slots := 0, locals := 3209 } s m args below meth c H locs 0 0 (vx_MQ below (mQi g b KM Q (mA b KM s.heap.size)) (mEx g b KM (fun _ _ => False) (mA b KM s.heap.size)) args s 0 0 (mA b KM s.heap.size)) (F0 m 131 ls []) := by
  unfold w_X12_soonest_131b at h
  refine m_iload_n (pc := 131) C.1 dX12_soonest_131 rfl hl 2 rfl ?_
  refine m_bipush (pc := 132) C.1 dX12_soonest_132 rfl ?_
  refine m_icmp_gt (pc := 134) (tgt := 153) C.1 ox3 (by decide : okI 40) dX12_soonest_134 (by decide) (fun hc => ?_) (fun hc => ?_)
  · replace h := h.1 hc
    exact hko153 r0 kr0 x2 ox2 x3 ox3 S _ _ _ (lv_sub hl [0, 1, 2] rfl) hW hS h
  · replace h := h.2 hc
    refine m_aload_n (pc := 137) C.1 dX12_soonest_137 rfl hl 0 rfl ?_
    refine m_iconst (pc := 138) C.1 dX12_soonest_138 ?_
    refine m_iconst (pc := 139) C.1 dX12_soonest_139 ?_
    refine m_iload_n (pc := 140) C.1 dX12_soonest_140 rfl hl 2 rfl ?_
    refine m_callVi (pc := 141) C.1 C.2.2.1 hl.1 C.2.1 hW hS (As := [.int (mI 0), .int (mI 0), .int (mI x3)]) (rest := []) (r := r0) (T_X12_find C.2.2.2.2.2.2 N 12 r0 kr0 0 (by decide : okI 0) 0 (by decide : okI 0) x3 ox3 h) kr0 rfl q_1820 q_1822 q_73 q_92 q_1823 pl_X12_find (by decide) (Nat.le_of_ble_eq_true rfl) dX12_soonest_141 (fun v1 S1 H locs ov1 h hW1 hS => ?_)
    refine m_if_ne (pc := 144) (tgt := 153) C.1 ov1 dX12_soonest_144 (by decide) (fun hc => ?_) (fun hc => ?_)
    · replace h := h.1 hc
      exact hko153 r0 kr0 x2 ox2 x3 ox3 S1 _ _ _ (lv_sub hl [0, 1, 2] rfl) hW1 hS h
    · replace h := h.2 hc
      refine m_iinc (pc := 147) C.1 dX12_soonest_147 hl (by decide) (q0 := 2) rfl (fun v => [(3, .int v), (0, .ref (b + r0)), (2, .int (mI x2))]) (fun _ => rfl) (fun v2 ls ev2 ov2 hl => ?_)
      replace h := h v2 ev2
      refine m_goto (pc := 150) (tgt := 131) C.1 dX12_soonest_150 (by decide) ?_
      exact hko131 r0 kr0 x2 ox2 v2 ov2 S1 _ _ _ (lv_sub hl [1, 2, 0] rfl) hW1 hS h
def w_X12_soonest_131 (N : Nat) (Q : mSt → Int → Prop) (ko153 : Nat → Int → Int → mSt → Prop) : Nat → Nat → Int → Int → mSt → Prop
  | 0 => fun _ _ _ _ => False
  | k + 1 => w_X12_soonest_131b N Q (w_X12_soonest_131 N Q ko153 k) ko153
theorem W_X12_soonest_131 (C : mC p l s m args meth c cX12_soonest "MoonWashModel" 7 (some FieldType.int) g) (N : Nat) {Q : mSt → Int → Prop} {ko153 : Nat → Int → Int → mSt → Prop} (hko153 : ∀ (r0 : Nat) (kr0 : KM r0 = (0, 10, 0)) (x2 : Int) (ox2 : okI x2) (x3 : Int) (ox3 : okI x3) (S : mSt) (H : Heap) (locs : List Loc) (ls : Array Slot), lv_has ls 7 [(0, .ref (b + r0)), (2, .int (mI x2)), (3, .int (mI x3))] → mW g b KM S H → va_S (mA b KM s.heap.size) s.heap H locs → ko153 r0 x2 x3 S → W p l e { frames := 122, cells := 0, slots := 0, locals := 3209 } s m args below meth c H locs 0 0 (vx_MQ below (mQi g b KM Q (mA b KM s.heap.size)) (mEx g b KM (fun _ _ => False) (mA b KM s.heap.size)) args s 0 0 (mA b KM s.heap.size)) (F0 m 153 ls [])) : ∀ (k : Nat) (r0 : Nat) (kr0 : KM r0 = (0, 10, 0)) (x2 : Int) (ox2 : okI x2) (x3 : Int) (ox3 : okI x3) (S : mSt) (H : Heap) (locs : List Loc) (ls : Array Slot) (hl : lv_has ls 7 [(0, .ref (b + r0)), (2, .int (mI x2)), (3, .int (mI x3))]) (hW : mW g b KM S H) (hS : va_S (mA b KM s.heap.size) s.heap H locs) (h : w_X12_soonest_131 N Q ko153 k r0 x2 x3 S), W p l e { frames := 122, cells := 0, slots := 0, locals := 3209 } s m args below meth c H locs 0 0 (vx_MQ below (mQi g b KM Q (mA b KM s.heap.size)) (mEx g b KM (fun _ _ => False) (mA b KM s.heap.size)) args s 0 0 (mA b KM s.heap.size)) (F0 m 131 ls []) := by
  intro k
  induction k with
  | zero => intro r0 kr0 x2 ox2 x3 ox3 S H locs ls hl hW hS h; exact False.elim h
  | succ k ih => intro r0 kr0 x2 ox2 x3 ox3 S H locs ls hl hW hS h; exact W_X12_soonest_131b C N ih hko153 r0 kr0 x2 ox2 x3 ox3 S H locs ls hl hW hS h
def w_X12_soonest_232 (N : Nat) (Q : mSt → Int → Prop) (ko186 : Nat → Int → Int → Int → Int → Int → mSt → Prop) (r0 : Nat) (x2 : Int) (x3 : Int) (x4 : Int) (x5 : Int) (x6 : Int) (S : mSt) : Prop :=
  ∀ v1 : Int, v1 = nm (x5 + 1) → ko186 r0 x2 x3 x4 v1 x6 S
theorem W_X12_soonest_232 (C : mC p l s m args meth c cX12_soonest "MoonWashModel" 7 (some FieldType.int) g) (N : Nat) {Q : mSt → Int → Prop} {ko186 : Nat → Int → Int → Int → Int → Int → mSt → Prop} (hko186 : ∀ (r0 : Nat) (kr0 : KM r0 = (0, 10, 0)) (x2 : Int) (ox2 : okI x2) (x3 : Int) (ox3 : okI x3) (x4 : Int) (ox4 : okI x4) (x5 : Int) (ox5 : okI x5) (x6 : Int) (ox6 : okI x6) (S : mSt) (H : Heap) (locs : List Loc) (ls : Array Slot), lv_has ls 7 [(0, .ref (b + r0)), (2, .int (mI x2)), (3, .int (mI x3)), (4, .int (mI x4)), (5, .int (mI x5)), (6, .int (mI x6))] → mW g b KM S H → va_S (mA b KM s.heap.size) s.heap H locs → ko186 r0 x2 x3 x4 x5 x6 S → W p l e { frames := 122, cells := 0, slots := 0, locals := 3209 } s m args below meth c H locs 0 0 (vx_MQ below (mQi g b KM Q (mA b KM s.heap.size)) (mEx g b KM (fun _ _ => False) (mA b KM s.heap.size)) args s 0 0 (mA b KM s.heap.size)) (F0 m 186 ls [])) (r0 : Nat) (kr0 : KM r0 = (0, 10, 0)) (x2 : Int) (ox2 : okI x2) (x3 : Int) (ox3 : okI x3) (x4 : Int) (ox4 : okI x4) (x5 : Int) (ox5 : okI x5) (x6 : Int) (ox6 : okI x6) (S : mSt) (H : Heap) (locs : List Loc) (ls : Array Slot) (hl : lv_has ls 7 [(0, .ref (b + r0)), (2, .int (mI x2)), (3, .int (mI x3)), (4, .int (mI x4)), (5, .int (mI x5)), (6, .int (mI x6))]) (hW : mW g b KM S H) (hS : va_S (mA b KM s.heap.size) s.heap H locs) (h : w_X12_soonest_232 N Q ko186 r0 x2 x3 x4 x5 x6 S) : W p l e { frames := 122, cells := 0, slots := 0, locals := 3209 } s m args below meth c H locs 0 0 (vx_MQ below (mQi g b KM Q (mA b KM s.heap.size)) (mEx g b KM (fun _ _ => False) (mA b KM s.heap.size)) args s 0 0 (mA b KM s.heap.size)) (F0 m 232 ls []) := by
  unfold w_X12_soonest_232 at h
  refine m_iinc (pc := 232) C.1 dX12_soonest_232 hl (by decide) (q0 := 4) rfl (fun v => [(5, .int v), (0, .ref (b + r0)), (2, .int (mI x2)), (3, .int (mI x3)), (4, .int (mI x4)), (6, .int (mI x6))]) (fun _ => rfl) (fun v1 ls ev1 ov1 hl => ?_)
  replace h := h v1 ev1
  refine m_goto (pc := 235) (tgt := 186) C.1 dX12_soonest_235 (by decide) ?_
  exact hko186 r0 kr0 x2 ox2 x3 ox3 x4 ox4 v1 ov1 x6 ox6 S _ _ _ (lv_sub hl [1, 2, 3, 4, 0, 5] rfl) hW hS h
def w_X12_soonest_186b (N : Nat) (Q : mSt → Int → Prop) (ko186 : Nat → Int → Int → Int → Int → Int → mSt → Prop) (ko238 : Nat → Int → Int → Int → Int → Int → mSt → Prop) (r0 : Nat) (x2 : Int) (x3 : Int) (x4 : Int) (x5 : Int) (x6 : Int) (S : mSt) : Prop :=
  w_X12_isOf N x4 x5 S (fun (S1 : mSt) (v1 : Int) => ((v1 ≠ 0 → w_X12_soonest_232 N Q ko186 r0 x2 x3 x4 x5 x6 S1) ∧ (v1 = 0 → (0 ≤ (nm ((nm (8 * x6)) + x5)) ∧ (nm ((nm (8 * x6)) + x5)) < 64 ∧ ((x3 < (S1 (r0 + 10) (nm ((nm (8 * x6)) + x5))) → w_X12_soonest_232 N Q ko186 r0 x2 x3 x4 x5 x6 S1) ∧ ((S1 (r0 + 10) (nm ((nm (8 * x6)) + x5))) ≤ x3 → w_X12_find N 12 r0 (nm (x6 + 1)) (bOr x4 (bShl 1 x5)) x3 S1 (fun (S3 : mSt) (v3 : Int) => ((v3 ≠ 0 → ko238 r0 x2 x3 x4 x5 x6 S3) ∧ (v3 = 0 → w_X12_soonest_232 N Q ko186 r0 x2 x3 x4 x5 x6 S3)))))))))
theorem W_X12_soonest_186b (C : mC p l s m args meth c cX12_soonest "MoonWashModel" 7 (some FieldType.int) g) (N : Nat) {Q : mSt → Int → Prop} {ko186 : Nat → Int → Int → Int → Int → Int → mSt → Prop} {ko238 : Nat → Int → Int → Int → Int → Int → mSt → Prop} (hko186 : ∀ (r0 : Nat) (kr0 : KM r0 = (0, 10, 0)) (x2 : Int) (ox2 : okI x2) (x3 : Int) (ox3 : okI x3) (x4 : Int) (ox4 : okI x4) (x5 : Int) (ox5 : okI x5) (x6 : Int) (ox6 : okI x6) (S : mSt) (H : Heap) (locs : List Loc) (ls : Array Slot), lv_has ls 7 [(0, .ref (b + r0)), (2, .int (mI x2)), (3, .int (mI x3)), (4, .int (mI x4)), (5, .int (mI x5)), (6, .int (mI x6))] → mW g b KM S H → va_S (mA b KM s.heap.size) s.heap H locs → ko186 r0 x2 x3 x4 x5 x6 S → W p l e { frames := 122, cells := 0, slots := 0, locals := 3209 } s m args below meth c H locs 0 0 (vx_MQ below (mQi g b KM Q (mA b KM s.heap.size)) (mEx g b KM (fun _ _ => False) (mA b KM s.heap.size)) args s 0 0 (mA b KM s.heap.size)) (F0 m 186 ls [])) (hko238 : ∀ (r0 : Nat) (kr0 : KM r0 = (0, 10, 0)) (x2 : Int) (ox2 : okI x2) (x3 : Int) (ox3 : okI x3) (x4 : Int) (ox4 : okI x4) (x5 : Int) (ox5 : okI x5) (x6 : Int) (ox6 : okI x6) (S : mSt) (H : Heap) (locs : List Loc) (ls : Array Slot), lv_has ls 7 [(0, .ref (b + r0)), (2, .int (mI x2)), (3, .int (mI x3)), (4, .int (mI x4)), (5, .int (mI x5)), (6, .int (mI x6))] → mW g b KM S H → va_S (mA b KM s.heap.size) s.heap H locs → ko238 r0 x2 x3 x4 x5 x6 S → W p l e { frames := 122, cells := 0, slots := 0, locals := 3209 } s m args below meth c H locs 0 0 (vx_MQ below (mQi g b KM Q (mA b KM s.heap.size)) (mEx g b KM (fun _ _ => False) (mA b KM s.heap.size)) args s 0 0 (mA b KM s.heap.size)) (F0 m 238 ls [])) (r0 : Nat) (kr0 : KM r0 = (0, 10, 0)) (x2 : Int) (ox2 : okI x2) (x3 : Int) (ox3 : okI x3) (x4 : Int) (ox4 : okI x4) (x5 : Int) (ox5 : okI x5) (x6 : Int) (ox6 : okI x6) (S : mSt) (H : Heap) (locs : List Loc) (ls : Array Slot) (hl : lv_has ls 7 [(0, .ref (b + r0)), (2, .int (mI x2)), (3, .int (mI x3)), (4, .int (mI x4)), (5, .int (mI x5)), (6, .int (mI x6))]) (hW : mW g b KM S H) (hS : va_S (mA b KM s.heap.size) s.heap H locs) (h : w_X12_soonest_186b N Q ko186 ko238 r0 x2 x3 x4 x5 x6 S) : W p l e { frames := 122, cells := 0, slots := 0, locals := 3209 } s m args below meth c H locs 0 0 (vx_MQ below (mQi g b KM Q (mA b KM s.heap.size)) (mEx g b KM (fun _ _ => False) (mA b KM s.heap.size)) args s 0 0 (mA b KM s.heap.size)) (F0 m 186 ls []) := by
  unfold w_X12_soonest_186b at h
  refine m_iload (pc := 186) C.1 dX12_soonest_186 hl 3 rfl ?_
  refine m_iload (pc := 188) C.1 dX12_soonest_188 hl 4 rfl ?_
  refine m_callSi (pc := 190) C.1 C.2.2.1 hl.1 C.2.1 hW hS (As := [.int (mI x4), .int (mI x5)]) (rest := []) (T_X12_isOf C.2.2.2.2.2.2 N x4 ox4 x5 ox5 h) q_1590 q_1591 q_92 q_1592 pl_X12_isOf (by decide) (Nat.le_of_ble_eq_true rfl) dX12_soonest_190 (fun v1 S1 H locs ov1 h hW1 hS => ?_)
  refine m_if_ne (pc := 193) (tgt := 232) C.1 ov1 dX12_soonest_193 (by decide) (fun hc => ?_) (fun hc => ?_)
  · replace h := h.1 hc
    exact W_X12_soonest_232 C N hko186 r0 kr0 x2 ox2 x3 ox3 x4 ox4 x5 ox5 x6 ox6 S1 _ _ _ (lv_sub hl [0, 1, 2, 3, 4, 5] rfl) hW1 hS h
  · replace h := h.2 hc
    refine m_aload_n (pc := 196) C.1 dX12_soonest_196 rfl hl 0 rfl ?_
    refine g_10_23 (pc := 197) C hW1 kr0 q_1406 dX12_soonest_197 ?_
    refine m_bipush (pc := 200) C.1 dX12_soonest_200 rfl ?_
    refine m_iload (pc := 202) C.1 dX12_soonest_202 hl 5 rfl ?_
    refine m_imul (pc := 204) C.1 dX12_soonest_204 ?_
    refine m_iload (pc := 205) C.1 dX12_soonest_205 hl 4 rfl ?_
    refine m_iadd (pc := 207) C.1 dX12_soonest_207 ?_
    obtain ⟨hb2a, hb2b, h⟩ := h
    refine m_iald (pc := 208) C.1 C.2.1 hW1 (k_10_23 kr0) (nm_ok _) hb2a hb2b dX12_soonest_208 ?_
    refine m_iload_n (pc := 209) C.1 dX12_soonest_209 rfl hl 2 rfl ?_
    refine m_icmp_gt (pc := 210) (tgt := 232) C.1 (hW1.2.1 _ _) ox3 dX12_soonest_210 (by decide) (fun hc => ?_) (fun hc => ?_)
    · replace h := h.1 hc
      exact W_X12_soonest_232 C N hko186 r0 kr0 x2 ox2 x3 ox3 x4 ox4 x5 ox5 x6 ox6 S1 _ _ _ (lv_sub hl [0, 1, 2, 3, 4, 5] rfl) hW1 hS h
    · replace h := h.2 hc
      refine m_aload_n (pc := 213) C.1 dX12_soonest_213 rfl hl 0 rfl ?_
      refine m_iload (pc := 214) C.1 dX12_soonest_214 hl 5 rfl ?_
      refine m_iconst (pc := 216) C.1 dX12_soonest_216 ?_
      refine m_iadd (pc := 217) C.1 dX12_soonest_217 ?_
      refine m_iload (pc := 218) C.1 dX12_soonest_218 hl 3 rfl ?_
      refine m_iconst (pc := 220) C.1 dX12_soonest_220 ?_
      refine m_iload (pc := 221) C.1 dX12_soonest_221 hl 4 rfl ?_
      refine m_ishl (pc := 223) C.1 dX12_soonest_223 ?_
      refine m_ior (pc := 224) C.1 dX12_soonest_224 ?_
      refine m_iload_n (pc := 225) C.1 dX12_soonest_225 rfl hl 2 rfl ?_
      refine m_callVi (pc := 226) C.1 C.2.2.1 hl.1 C.2.1 hW1 hS (As := [.int (mI (nm (x6 + 1))), .int (mI (bOr x4 (bShl 1 x5))), .int (mI x3)]) (rest := []) (r := r0) (T_X12_find C.2.2.2.2.2.2 N 12 r0 kr0 (nm (x6 + 1)) (nm_ok _) (bOr x4 (bShl 1 x5)) (bOr_ok _ _) x3 ox3 h) kr0 rfl q_1820 q_1822 q_73 q_92 q_1823 pl_X12_find (by decide) (Nat.le_of_ble_eq_true rfl) dX12_soonest_226 (fun v3 S3 H locs ov3 h hW3 hS => ?_)
      refine m_if_ne (pc := 229) (tgt := 238) C.1 ov3 dX12_soonest_229 (by decide) (fun hc => ?_) (fun hc => ?_)
      · replace h := h.1 hc
        exact hko238 r0 kr0 x2 ox2 x3 ox3 x4 ox4 x5 ox5 x6 ox6 S3 _ _ _ (lv_sub hl [0, 1, 2, 3, 4, 5] rfl) hW3 hS h
      · replace h := h.2 hc
        exact W_X12_soonest_232 C N hko186 r0 kr0 x2 ox2 x3 ox3 x4 ox4 x5 ox5 x6 ox6 S3 _ _ _ (lv_sub hl [0, 1, 2, 3, 4, 5] rfl) hW3 hS h
def w_X12_soonest_186 (N : Nat) (Q : mSt → Int → Prop) (ko238 : Nat → Int → Int → Int → Int → Int → mSt → Prop) : Nat → Nat → Int → Int → Int → Int → Int → mSt → Prop
  | 0 => fun _ _ _ _ _ _ _ => False
  | k + 1 => w_X12_soonest_186b N Q (w_X12_soonest_186 N Q ko238 k) ko238
theorem W_X12_soonest_186 (C : mC p l s m args meth c cX12_soonest "MoonWashModel" 7 (some FieldType.int) g) (N : Nat) {Q : mSt → Int → Prop} {ko238 : Nat → Int → Int → Int → Int → Int → mSt → Prop} (hko238 : ∀ (r0 : Nat) (kr0 : KM r0 = (0, 10, 0)) (x2 : Int) (ox2 : okI x2) (x3 : Int) (ox3 : okI x3) (x4 : Int) (ox4 : okI x4) (x5 : Int) (ox5 : okI x5) (x6 : Int) (ox6 : okI x6) (S : mSt) (H : Heap) (locs : List Loc) (ls : Array Slot), lv_has ls 7 [(0, .ref (b + r0)), (2, .int (mI x2)), (3, .int (mI x3)), (4, .int (mI x4)), (5, .int (mI x5)), (6, .int (mI x6))] → mW g b KM S H → va_S (mA b KM s.heap.size) s.heap H locs → ko238 r0 x2 x3 x4 x5 x6 S → W p l e { frames := 122, cells := 0, slots := 0, locals := 3209 } s m args below meth c H locs 0 0 (vx_MQ below (mQi g b KM Q (mA b KM s.heap.size)) (mEx g b KM (fun _ _ => False) (mA b KM s.heap.size)) args s 0 0 (mA b KM s.heap.size)) (F0 m 238 ls [])) : ∀ (k : Nat) (r0 : Nat) (kr0 : KM r0 = (0, 10, 0)) (x2 : Int) (ox2 : okI x2) (x3 : Int) (ox3 : okI x3) (x4 : Int) (ox4 : okI x4) (x5 : Int) (ox5 : okI x5) (x6 : Int) (ox6 : okI x6) (S : mSt) (H : Heap) (locs : List Loc) (ls : Array Slot) (hl : lv_has ls 7 [(0, .ref (b + r0)), (2, .int (mI x2)), (3, .int (mI x3)), (4, .int (mI x4)), (5, .int (mI x5)), (6, .int (mI x6))]) (hW : mW g b KM S H) (hS : va_S (mA b KM s.heap.size) s.heap H locs) (h : w_X12_soonest_186 N Q ko238 k r0 x2 x3 x4 x5 x6 S), W p l e { frames := 122, cells := 0, slots := 0, locals := 3209 } s m args below meth c H locs 0 0 (vx_MQ below (mQi g b KM Q (mA b KM s.heap.size)) (mEx g b KM (fun _ _ => False) (mA b KM s.heap.size)) args s 0 0 (mA b KM s.heap.size)) (F0 m 186 ls []) := by
  intro k
  induction k with
  | zero => intro r0 kr0 x2 ox2 x3 ox3 x4 ox4 x5 ox5 x6 ox6 S H locs ls hl hW hS h; exact False.elim h
  | succ k ih => intro r0 kr0 x2 ox2 x3 ox3 x4 ox4 x5 ox5 x6 ox6 S H locs ls hl hW hS h; exact W_X12_soonest_186b C N ih hko238 r0 kr0 x2 ox2 x3 ox3 x4 ox4 x5 ox5 x6 ox6 S H locs ls hl hW hS h
def w_X12_soonest_177b (N : Nat) (Q : mSt → Int → Prop) (ko177 : Nat → Int → Int → Int → Int → Int → mSt → Prop) (ko253 : Int → mSt → Prop) (r0 : Nat) (x2 : Int) (x3 : Int) (x4 : Int) (x5 : Int) (x6 : Int) (S : mSt) : Prop :=
  ((x2 < x6 → ko253 x5 S) ∧ (x6 ≤ x2 → ∀ v1 : Int, v1 = 0 → w_X12_soonest_186 N Q (fun (r0_2 : Nat) (x2_2 : Int) (x3_2 : Int) (x4_2 : Int) (x5_2 : Int) (x6_2 : Int) (S_2 : mSt) => ∀ v3 : Int, v3 = (bOr x4_2 (bShl 1 x5_2)) → ∀ v4 : Int, v4 = nm (x6_2 + 1) → ko177 r0_2 x2_2 x3_2 v3 x5_2 v4 S_2) N r0 x2 x3 x4 v1 x6 S))
theorem W_X12_soonest_177b (C : mC p l s m args meth c cX12_soonest "MoonWashModel" 7 (some FieldType.int) g) (N : Nat) {Q : mSt → Int → Prop} {ko177 : Nat → Int → Int → Int → Int → Int → mSt → Prop} {ko253 : Int → mSt → Prop} (hko177 : ∀ (r0 : Nat) (kr0 : KM r0 = (0, 10, 0)) (x2 : Int) (ox2 : okI x2) (x3 : Int) (ox3 : okI x3) (x4 : Int) (ox4 : okI x4) (x5 : Int) (ox5 : okI x5) (x6 : Int) (ox6 : okI x6) (S : mSt) (H : Heap) (locs : List Loc) (ls : Array Slot), lv_has ls 7 [(0, .ref (b + r0)), (2, .int (mI x2)), (3, .int (mI x3)), (4, .int (mI x4)), (5, .int (mI x5)), (6, .int (mI x6))] → mW g b KM S H → va_S (mA b KM s.heap.size) s.heap H locs → ko177 r0 x2 x3 x4 x5 x6 S → W p l e { frames := 122, cells := 0, slots := 0, locals := 3209 } s m args below meth c H locs 0 0 (vx_MQ below (mQi g b KM Q (mA b KM s.heap.size)) (mEx g b KM (fun _ _ => False) (mA b KM s.heap.size)) args s 0 0 (mA b KM s.heap.size)) (F0 m 177 ls [])) (hko253 : ∀ (x5 : Int) (ox5 : okI x5) (S : mSt) (H : Heap) (locs : List Loc) (ls : Array Slot), lv_has ls 7 [(5, .int (mI x5))] → mW g b KM S H → va_S (mA b KM s.heap.size) s.heap H locs → ko253 x5 S → W p l e { frames := 122, cells := 0, slots := 0, locals := 3209 } s m args below meth c H locs 0 0 (vx_MQ below (mQi g b KM Q (mA b KM s.heap.size)) (mEx g b KM (fun _ _ => False) (mA b KM s.heap.size)) args s 0 0 (mA b KM s.heap.size)) (F0 m 253 ls [])) (r0 : Nat) (kr0 : KM r0 = (0, 10, 0)) (x2 : Int) (ox2 : okI x2) (x3 : Int) (ox3 : okI x3) (x4 : Int) (ox4 : okI x4) (x5 : Int) (ox5 : okI x5) (x6 : Int) (ox6 : okI x6) (S : mSt) (H : Heap) (locs : List Loc) (ls : Array Slot) (hl : lv_has ls 7 [(0, .ref (b + r0)), (2, .int (mI x2)), (3, .int (mI x3)), (4, .int (mI x4)), (5, .int (mI x5)), (6, .int (mI x6))]) (hW : mW g b KM S H) (hS : va_S (mA b KM s.heap.size) s.heap H locs) (h : w_X12_soonest_177b N Q ko177 ko253 r0 x2 x3 x4 x5 x6 S) : W p l e { frames := 122, cells := 0, slots := 0, locals := 3209 } s m args below meth c H locs 0 0 (vx_MQ below (mQi g b KM Q (mA b KM s.heap.size)) (mEx g b KM (fun _ _ => False) (mA b KM s.heap.size)) args s 0 0 (mA b KM s.heap.size)) (F0 m 177 ls []) := by
  unfold w_X12_soonest_177b at h
  refine m_iload (pc := 177) C.1 dX12_soonest_177 hl 5 rfl ?_
  refine m_iload_n (pc := 179) C.1 dX12_soonest_179 rfl hl 1 rfl ?_
  refine m_icmp_gt (pc := 180) (tgt := 253) C.1 ox6 ox2 dX12_soonest_180 (by decide) (fun hc => ?_) (fun hc => ?_)
  · replace h := h.1 hc
    exact hko253 x5 ox5 S _ _ _ (lv_sub hl [4] rfl) hW hS h
  · replace h := h.2 hc
    refine m_iconst (pc := 183) C.1 dX12_soonest_183 ?_
    refine m_istore (pc := 184) C.1 dX12_soonest_184 hl (by decide) (fun v => [(5, .int v), (0, .ref (b + r0)), (2, .int (mI x2)), (3, .int (mI x3)), (4, .int (mI x4)), (6, .int (mI x6))]) (fun _ => rfl) (by decide : okI 0) (fun v1 ls ev1 ov1 hl => ?_)
    replace h := h v1 ev1
    refine W_X12_soonest_186 C N ?_ N r0 kr0 x2 ox2 x3 ox3 x4 ox4 v1 ov1 x6 ox6 S _ _ _ (lv_sub hl [1, 2, 3, 4, 0, 5] rfl) hW hS h
    · intro r0_2 kr0_2 x2_2 ox2_2 x3_2 ox3_2 x4_2 ox4_2 x5_2 ox5_2 x6_2 ox6_2 S_2 H locs ls hl hW_2 hS h
      refine m_iload (pc := 238) C.1 dX12_soonest_238 hl 3 rfl ?_
      refine m_iconst (pc := 240) C.1 dX12_soonest_240 ?_
      refine m_iload (pc := 241) C.1 dX12_soonest_241 hl 4 rfl ?_
      refine m_ishl (pc := 243) C.1 dX12_soonest_243 ?_
      refine m_ior (pc := 244) C.1 dX12_soonest_244 ?_
      refine m_istore (pc := 245) C.1 dX12_soonest_245 hl (by decide) (fun v => [(4, .int v), (0, .ref (b + r0_2)), (2, .int (mI x2_2)), (3, .int (mI x3_2)), (5, .int (mI x5_2)), (6, .int (mI x6_2))]) (fun _ => rfl) (bOr_ok _ _) (fun v3 ls ev3 ov3 hl => ?_)
      replace h := h v3 ev3
      refine m_iinc (pc := 247) C.1 dX12_soonest_247 hl (by decide) (q0 := 5) rfl (fun v => [(6, .int v), (4, .int (mI v3)), (0, .ref (b + r0_2)), (2, .int (mI x2_2)), (3, .int (mI x3_2)), (5, .int (mI x5_2))]) (fun _ => rfl) (fun v4 ls ev4 ov4 hl => ?_)
      replace h := h v4 ev4
      refine m_goto (pc := 250) (tgt := 177) C.1 dX12_soonest_250 (by decide) ?_
      exact hko177 r0_2 kr0_2 x2_2 ox2_2 x3_2 ox3_2 v3 ov3 x5_2 ox5_2 v4 ov4 S_2 _ _ _ (lv_sub hl [2, 3, 4, 1, 5, 0] rfl) hW_2 hS h
def w_X12_soonest_177 (N : Nat) (Q : mSt → Int → Prop) (ko253 : Int → mSt → Prop) : Nat → Nat → Int → Int → Int → Int → Int → mSt → Prop
  | 0 => fun _ _ _ _ _ _ _ => False
  | k + 1 => w_X12_soonest_177b N Q (w_X12_soonest_177 N Q ko253 k) ko253
theorem W_X12_soonest_177 (C : mC p l s m args meth c cX12_soonest "MoonWashModel" 7 (some FieldType.int) g) (N : Nat) {Q : mSt → Int → Prop} {ko253 : Int → mSt → Prop} (hko253 : ∀ (x5 : Int) (ox5 : okI x5) (S : mSt) (H : Heap) (locs : List Loc) (ls : Array Slot), lv_has ls 7 [(5, .int (mI x5))] → mW g b KM S H → va_S (mA b KM s.heap.size) s.heap H locs → ko253 x5 S → W p l e { frames := 122, cells := 0, slots := 0, locals := 3209 } s m args below meth c H locs 0 0 (vx_MQ below (mQi g b KM Q (mA b KM s.heap.size)) (mEx g b KM (fun _ _ => False) (mA b KM s.heap.size)) args s 0 0 (mA b KM s.heap.size)) (F0 m 253 ls [])) : ∀ (k : Nat) (r0 : Nat) (kr0 : KM r0 = (0, 10, 0)) (x2 : Int) (ox2 : okI x2) (x3 : Int) (ox3 : okI x3) (x4 : Int) (ox4 : okI x4) (x5 : Int) (ox5 : okI x5) (x6 : Int) (ox6 : okI x6) (S : mSt) (H : Heap) (locs : List Loc) (ls : Array Slot) (hl : lv_has ls 7 [(0, .ref (b + r0)), (2, .int (mI x2)), (3, .int (mI x3)), (4, .int (mI x4)), (5, .int (mI x5)), (6, .int (mI x6))]) (hW : mW g b KM S H) (hS : va_S (mA b KM s.heap.size) s.heap H locs) (h : w_X12_soonest_177 N Q ko253 k r0 x2 x3 x4 x5 x6 S), W p l e { frames := 122, cells := 0, slots := 0, locals := 3209 } s m args below meth c H locs 0 0 (vx_MQ below (mQi g b KM Q (mA b KM s.heap.size)) (mEx g b KM (fun _ _ => False) (mA b KM s.heap.size)) args s 0 0 (mA b KM s.heap.size)) (F0 m 177 ls []) := by
  intro k
  induction k with
  | zero => intro r0 kr0 x2 ox2 x3 ox3 x4 ox4 x5 ox5 x6 ox6 S H locs ls hl hW hS h; exact False.elim h
  | succ k ih => intro r0 kr0 x2 ox2 x3 ox3 x4 ox4 x5 ox5 x6 ox6 S H locs ls hl hW hS h; exact W_X12_soonest_177b C N ih hko253 r0 kr0 x2 ox2 x3 ox3 x4 ox4 x5 ox5 x6 ox6 S H locs ls hl hW hS h
def w_X12_soonest_153 (N : Nat) (Q : mSt → Int → Prop)  (r0 : Nat) (x2 : Int) (x3 : Int) (S : mSt) : Prop :=
  ((x3 ≤ 40 → ((x2 ≠ (-1) → ∀ v1 : Int, v1 = 0 → ∀ v2 : Int, v2 = 0 → ∀ v3 : Int, v3 = 0 → w_X12_soonest_177 N Q (fun (x5_4 : Int) (S_4 : mSt) => Q S_4 x5_4) N r0 x2 x3 v1 v2 v3 S) ∧ (x2 = (-1) → Q S x3))) ∧ (40 < x3 → Q S (-1)))
theorem W_X12_soonest_153 (C : mC p l s m args meth c cX12_soonest "MoonWashModel" 7 (some FieldType.int) g) (N : Nat) {Q : mSt → Int → Prop}   (r0 : Nat) (kr0 : KM r0 = (0, 10, 0)) (x2 : Int) (ox2 : okI x2) (x3 : Int) (ox3 : okI x3) (S : mSt) (H : Heap) (locs : List Loc) (ls : Array Slot) (hl : lv_has ls 7 [(0, .ref (b + r0)), (2, .int (mI x2)), (3, .int (mI x3))]) (hW : mW g b KM S H) (hS : va_S (mA b KM s.heap.size) s.heap H locs) (h : w_X12_soonest_153 N Q  r0 x2 x3 S) : W p l e { frames := 122, cells := 0, slots := 0, locals := 3209 } s m args below meth c H locs 0 0 (vx_MQ below (mQi g b KM Q (mA b KM s.heap.size)) (mEx g b KM (fun _ _ => False) (mA b KM s.heap.size)) args s 0 0 (mA b KM s.heap.size)) (F0 m 153 ls []) := by
  unfold w_X12_soonest_153 at h
  refine m_iload_n (pc := 153) C.1 dX12_soonest_153 rfl hl 2 rfl ?_
  refine m_bipush (pc := 154) C.1 dX12_soonest_154 rfl ?_
  refine m_icmp_le (pc := 156) (tgt := 161) C.1 ox3 (by decide : okI 40) dX12_soonest_156 (by decide) (fun hc => ?_) (fun hc => ?_)
  · replace h := h.1 hc
    refine m_iload_n (pc := 161) C.1 dX12_soonest_161 rfl hl 1 rfl ?_
    refine m_iconst (pc := 162) C.1 dX12_soonest_162 ?_
    refine m_icmp_ne (pc := 163) (tgt := 168) C.1 ox2 (by decide : okI (-1)) dX12_soonest_163 (by decide) (fun hc => ?_) (fun hc => ?_)
    · replace h := h.1 hc
      refine m_iconst (pc := 168) C.1 dX12_soonest_168 ?_
      refine m_istore (pc := 169) C.1 dX12_soonest_169 hl (by decide) (fun v => [(4, .int v), (0, .ref (b + r0)), (2, .int (mI x2)), (3, .int (mI x3))]) (fun _ => rfl) (by decide : okI 0) (fun v1 ls ev1 ov1 hl => ?_)
      replace h := h v1 ev1
      refine m_iconst (pc := 171) C.1 dX12_soonest_171 ?_
      refine m_istore (pc := 172) C.1 dX12_soonest_172 hl (by decide) (fun v => [(5, .int v), (4, .int (mI v1)), (0, .ref (b + r0)), (2, .int (mI x2)), (3, .int (mI x3))]) (fun _ => rfl) (by decide : okI 0) (fun v2 ls ev2 ov2 hl => ?_)
      replace h := h v2 ev2
      refine m_iconst (pc := 174) C.1 dX12_soonest_174 ?_
      refine m_istore (pc := 175) C.1 dX12_soonest_175 hl (by decide) (fun v => [(6, .int v), (5, .int (mI v2)), (4, .int (mI v1)), (0, .ref (b + r0)), (2, .int (mI x2)), (3, .int (mI x3))]) (fun _ => rfl) (by decide : okI 0) (fun v3 ls ev3 ov3 hl => ?_)
      replace h := h v3 ev3
      refine W_X12_soonest_177 C N ?_ N r0 kr0 x2 ox2 x3 ox3 v1 ov1 v2 ov2 v3 ov3 S _ _ _ (lv_sub hl [3, 4, 5, 2, 1, 0] rfl) hW hS h
      · intro x5_4 ox5_4 S_4 H locs ls hl hW_4 hS h
        refine m_iload (pc := 253) C.1 dX12_soonest_253 hl 0 rfl ?_
        exact m_iret (pc := 255) C.1 C.2.2.2.1 C.2.2.2.2.1 hW_4 hS ox5_4 h (by decide) (by decide) dX12_soonest_255
    · replace h := h.2 hc
      refine m_iload_n (pc := 166) C.1 dX12_soonest_166 rfl hl 2 rfl ?_
      exact m_iret (pc := 167) C.1 C.2.2.2.1 C.2.2.2.2.1 hW hS ox3 h (by decide) (by decide) dX12_soonest_167
  · replace h := h.2 hc
    refine m_iconst (pc := 159) C.1 dX12_soonest_159 ?_
    exact m_iret (pc := 160) C.1 C.2.2.2.1 C.2.2.2.2.1 hW hS (by decide : okI (-1)) h (by decide) (by decide) dX12_soonest_160
def w_X12_soonest_32 (N : Nat) (Q : mSt → Int → Prop)  (r0 : Nat) (x1 : Int) (x2 : Int) (xs0 : Int) (rs1 : Nat) (S : mSt) : Prop :=
  ∀ S1 : mSt, S1 = mup S rs1 0 xs0 → (((S1 r0 0) ≤ 0 → ∀ v2 : Int, v2 = 0 → w_X12_soonest_46 N Q (fun (r0_3 : Nat) (x2_3 : Int) (S_3 : mSt) => ∀ v4 : Int, v4 = 0 → w_X12_soonest_131 N Q (fun (r0_5 : Nat) (x2_5 : Int) (x3_5 : Int) (S_5 : mSt) => w_X12_soonest_153 N Q  r0_5 x2_5 x3_5 S_5) N r0_3 x2_3 v4 S_3) N r0 x1 x2 v2 S1) ∧ (0 < (S1 r0 0) → Q S1 0))
theorem W_X12_soonest_32 (C : mC p l s m args meth c cX12_soonest "MoonWashModel" 7 (some FieldType.int) g) (N : Nat) {Q : mSt → Int → Prop}   (r0 : Nat) (kr0 : KM r0 = (0, 10, 0)) (x1 : Int) (ox1 : okI x1) (x2 : Int) (ox2 : okI x2) (xs0 : Int) (oxs0 : okI xs0) (rs1 : Nat) (krs1 : KM rs1 = (0, 10, 0)) (S : mSt) (H : Heap) (locs : List Loc) (ls : Array Slot) (hl : lv_has ls 7 [(0, .ref (b + r0)), (1, .int (mI x1)), (2, .int (mI x2))]) (hW : mW g b KM S H) (hS : va_S (mA b KM s.heap.size) s.heap H locs) (h : w_X12_soonest_32 N Q  r0 x1 x2 xs0 rs1 S) : W p l e { frames := 122, cells := 0, slots := 0, locals := 3209 } s m args below meth c H locs 0 0 (vx_MQ below (mQi g b KM Q (mA b KM s.heap.size)) (mEx g b KM (fun _ _ => False) (mA b KM s.heap.size)) args s 0 0 (mA b KM s.heap.size)) (F0 m 32 ls [.int (mI xs0), .ref (b + rs1)]) := by
  unfold w_X12_soonest_32 at h
  refine p_10_0 (pc := 32) C hW hS krs1 q_1383 oxs0 dX12_soonest_32 (fun S1 H locs e1 hW1 hS => ?_)
  replace h := h S1 e1
  refine m_aload_n (pc := 35) C.1 dX12_soonest_35 rfl hl 0 rfl ?_
  refine g_10_0 (pc := 36) C hW1 kr0 q_1383 dX12_soonest_36 ?_
  refine m_if_le (pc := 39) (tgt := 44) C.1 (hW1.2.1 _ _) dX12_soonest_39 (by decide) (fun hc => ?_) (fun hc => ?_)
  · replace h := h.1 hc
    refine m_iconst (pc := 44) C.1 dX12_soonest_44 ?_
    refine m_istore_n (pc := 45) C.1 dX12_soonest_45 rfl hl (by decide) (fun v => [(3, .int v), (0, .ref (b + r0)), (1, .int (mI x1)), (2, .int (mI x2))]) (fun _ => rfl) (by decide : okI 0) (fun v2 ls ev2 ov2 hl => ?_)
    replace h := h v2 ev2
    refine W_X12_soonest_46 C N ?_ N r0 kr0 x1 ox1 x2 ox2 v2 ov2 S1 _ _ _ (lv_sub hl [1, 2, 3, 0] rfl) hW1 hS h
    · intro r0_3 kr0_3 x2_3 ox2_3 S_3 H locs ls hl hW_3 hS h
      refine m_iconst (pc := 129) C.1 dX12_soonest_129 ?_
      refine m_istore_n (pc := 130) C.1 dX12_soonest_130 rfl hl (by decide) (fun v => [(3, .int v), (0, .ref (b + r0_3)), (2, .int (mI x2_3))]) (fun _ => rfl) (by decide : okI 0) (fun v4 ls ev4 ov4 hl => ?_)
      replace h := h v4 ev4
      refine W_X12_soonest_131 C N ?_ N r0_3 kr0_3 x2_3 ox2_3 v4 ov4 S_3 _ _ _ (lv_sub hl [1, 2, 0] rfl) hW_3 hS h
      · intro r0_5 kr0_5 x2_5 ox2_5 x3_5 ox3_5 S_5 H locs ls hl hW_5 hS h
        exact W_X12_soonest_153 C N  r0_5 kr0_5 x2_5 ox2_5 x3_5 ox3_5 S_5 _ _ _ (lv_sub hl [0, 1, 2] rfl) hW_5 hS h
  · replace h := h.2 hc
    refine m_iconst (pc := 42) C.1 dX12_soonest_42 ?_
    exact m_iret (pc := 43) C.1 C.2.2.2.1 C.2.2.2.2.1 hW1 hS (by decide : okI 0) h (by decide) (by decide) dX12_soonest_43
def w_X12_soonest_17 (N : Nat) (Q : mSt → Int → Prop)  (r0 : Nat) (x1 : Int) (x2 : Int) (rs0 : Nat) (S : mSt) : Prop :=
  w_X12_isIn N x1 0 9 S (fun (S1 : mSt) (v1 : Int) => ((v1 ≠ 0 → w_X12_soonest_32 N Q  r0 x1 x2 0 rs0 S1) ∧ (v1 = 0 → w_X12_soonest_32 N Q  r0 x1 x2 2 rs0 S1)))
theorem W_X12_soonest_17 (C : mC p l s m args meth c cX12_soonest "MoonWashModel" 7 (some FieldType.int) g) (N : Nat) {Q : mSt → Int → Prop}   (r0 : Nat) (kr0 : KM r0 = (0, 10, 0)) (x1 : Int) (ox1 : okI x1) (x2 : Int) (ox2 : okI x2) (rs0 : Nat) (krs0 : KM rs0 = (0, 10, 0)) (S : mSt) (H : Heap) (locs : List Loc) (ls : Array Slot) (hl : lv_has ls 7 [(0, .ref (b + r0)), (1, .int (mI x1)), (2, .int (mI x2))]) (hW : mW g b KM S H) (hS : va_S (mA b KM s.heap.size) s.heap H locs) (h : w_X12_soonest_17 N Q  r0 x1 x2 rs0 S) : W p l e { frames := 122, cells := 0, slots := 0, locals := 3209 } s m args below meth c H locs 0 0 (vx_MQ below (mQi g b KM Q (mA b KM s.heap.size)) (mEx g b KM (fun _ _ => False) (mA b KM s.heap.size)) args s 0 0 (mA b KM s.heap.size)) (F0 m 17 ls [.ref (b + rs0)]) := by
  unfold w_X12_soonest_17 at h
  refine m_iload_n (pc := 17) C.1 dX12_soonest_17 rfl hl 1 rfl ?_
  refine m_iconst (pc := 18) C.1 dX12_soonest_18 ?_
  refine m_bipush (pc := 19) C.1 dX12_soonest_19 rfl ?_
  refine m_callSi (pc := 21) C.1 C.2.2.1 hl.1 C.2.1 hW hS (As := [.int (mI x1), .int (mI 0), .int (mI 9)]) (rest := [.ref (b + rs0)]) (T_X12_isIn C.2.2.2.2.2.2 N x1 ox1 0 (by decide : okI 0) 9 (by decide : okI 9) h) q_1475 q_1476 q_92 q_1477 pl_X12_isIn (by decide) (Nat.le_of_ble_eq_true rfl) dX12_soonest_21 (fun v1 S1 H locs ov1 h hW1 hS => ?_)
  refine m_if_ne (pc := 24) (tgt := 31) C.1 ov1 dX12_soonest_24 (by decide) (fun hc => ?_) (fun hc => ?_)
  · replace h := h.1 hc
    refine m_iconst (pc := 31) C.1 dX12_soonest_31 ?_
    exact W_X12_soonest_32 C N  r0 kr0 x1 ox1 x2 ox2 0 (by decide : okI 0) rs0 krs0 S1 _ _ _ (lv_sub hl [0, 1, 2] rfl) hW1 hS h
  · replace h := h.2 hc
    refine m_iconst (pc := 27) C.1 dX12_soonest_27 ?_
    refine m_goto (pc := 28) (tgt := 32) C.1 dX12_soonest_28 (by decide) ?_
    exact W_X12_soonest_32 C N  r0 kr0 x1 ox1 x2 ox2 2 (by decide : okI 2) rs0 krs0 S1 _ _ _ (lv_sub hl [0, 1, 2] rfl) hW1 hS h
end
def w_X12_soonest (N : Nat) (r0 : Nat) (x1 : Int) (x2 : Int) (S : mSt) (Q : mSt → Int → Prop) : Prop :=
  ((x2 = (-1) → w_X12_soonest_17 N Q  r0 x1 x2 r0 S) ∧ (x2 ≠ (-1) → w_X12_isPart N x2 S (fun (S1 : mSt) (v1 : Int) => ((v1 ≠ 0 → w_X12_soonest_17 N Q  r0 x1 x2 r0 S1) ∧ (v1 = 0 → w_X12_soonest_32 N Q  r0 x1 x2 1 r0 S1)))))
theorem T_X12_soonest {l : Launch} (hl0 : l.stackTraces = false) {g : mG} {b : Nat} (N : Nat) (r0 : Nat) (kr0 : KM r0 = (0, 10, 0)) (x1 : Int) (ox1 : okI x1) (x2 : Int) (ox2 : okI x2) {S : mSt} {Q : mSt → Int → Prop} (h : w_X12_soonest N r0 x1 x2 S Q) (sz : Nat) : vx_Met l yX12_soonest (Cond.code yX12_soonest cX12_soonest 7 (some FieldType.int) :: wsG) { frames := 122, cells := 0, slots := 0, locals := 3209 } (mPc g b KM S [.ref (b + r0), .int (mI x1), .int (mI x2)] sz) (mQi g b KM Q (mA b KM sz)) (mEx g b KM (fun _ _ => False) (mA b KM sz)) 0 0 (mA b KM sz) :=
  m_of (av := [.ref (b + r0), .int (mI x1), .int (mI x2)]) (Qf := fun A => mQi g b KM Q A) (Xf := fun A => mEx g b KM (fun _ _ => False) A) (by decide) (Nat.le_of_ble_eq_true rfl) (fun p e s m args below meth c ls X hK hml hr hlk hout hnm hW hl => by
    have C : mC p l s m args meth c cX12_soonest "MoonWashModel" 7 (some FieldType.int) g := ⟨X, hK, hml, hr, hlk, hout, hl0⟩
    have hS : va_S (mA b KM s.heap.size) s.heap s.heap [] := va_S.rf
    have hl : lv_has ls 7 [(0, .ref (b + r0)), (1, .int (mI x1)), (2, .int (mI x2))] := hl
    unfold w_X12_soonest at h
    refine m_aload_n (pc := 0) C.1 dX12_soonest_0 rfl hl 0 rfl ?_
    refine m_iload_n (pc := 1) C.1 dX12_soonest_1 rfl hl 2 rfl ?_
    refine m_iconst (pc := 2) C.1 dX12_soonest_2 ?_
    refine m_icmp_eq (pc := 3) (tgt := 17) C.1 ox2 (by decide : okI (-1)) dX12_soonest_3 (by decide) (fun hc => ?_) (fun hc => ?_)
    · replace h := h.1 hc
      exact W_X12_soonest_17 C N  r0 kr0 x1 ox1 x2 ox2 r0 kr0 S _ _ _ (lv_sub hl [0, 1, 2] rfl) hW hS h
    · replace h := h.2 hc
      refine m_iload_n (pc := 6) C.1 dX12_soonest_6 rfl hl 2 rfl ?_
      refine m_callSi (pc := 7) C.1 C.2.2.1 hl.1 C.2.1 hW hS (As := [.int (mI x2)]) (rest := [.ref (b + r0)]) (T_X12_isPart C.2.2.2.2.2.2 N x2 ox2 h) q_1627 q_1628 q_92 q_1629 pl_X12_isPart (by decide) (Nat.le_of_ble_eq_true rfl) dX12_soonest_7 (fun v1 S1 H locs ov1 h hW1 hS => ?_)
      refine m_if_ne (pc := 10) (tgt := 17) C.1 ov1 dX12_soonest_10 (by decide) (fun hc => ?_) (fun hc => ?_)
      · replace h := h.1 hc
        exact W_X12_soonest_17 C N  r0 kr0 x1 ox1 x2 ox2 r0 kr0 S1 _ _ _ (lv_sub hl [0, 1, 2] rfl) hW1 hS h
      · replace h := h.2 hc
        refine m_iconst (pc := 13) C.1 dX12_soonest_13 ?_
        refine m_goto (pc := 14) (tgt := 32) C.1 dX12_soonest_14 (by decide) ?_
        exact W_X12_soonest_32 C N  r0 kr0 x1 ox1 x2 ox2 1 (by decide : okI 1) r0 kr0 S1 _ _ _ (lv_sub hl [0, 1, 2] rfl) hW1 hS h) sz
section
variable {p : Program} {l : Launch} {e : Env} {s : State} {m : MethodId} {args : Array Value} {below : List Frame} {meth : Method} {c : Code} {g : mG} {b : Nat}
def w_X12_ahead__70b (N : Nat) (Q : mSt → Int → Prop) (ko70 : Nat → Int → Int → Int → Int → Int → mSt → Prop) (ko87 : Nat → Int → Int → mSt → Prop) (r0 : Nat) (x1 : Int) (x2 : Int) (x3 : Int) (x4 : Int) (x5 : Int) (S : mSt) : Prop :=
  ((x2 ≤ x5 → ko87 r0 x1 x4 S) ∧ (x5 < x2 → w_X12_ahead N r0 x3 S (fun (S1 : mSt) => ∀ v2 : Int, v2 = nm (x5 + 1) → ko70 r0 x1 x2 x3 x4 v2 S1)))
theorem W_X12_ahead__70b (C : mC p l s m args meth c cX12_ahead_ "MoonWashModel" 6 (some FieldType.int) g) (N : Nat) {Q : mSt → Int → Prop} {ko70 : Nat → Int → Int → Int → Int → Int → mSt → Prop} {ko87 : Nat → Int → Int → mSt → Prop} (hko70 : ∀ (r0 : Nat) (kr0 : KM r0 = (0, 10, 0)) (x1 : Int) (ox1 : okI x1) (x2 : Int) (ox2 : okI x2) (x3 : Int) (ox3 : okI x3) (x4 : Int) (ox4 : okI x4) (x5 : Int) (ox5 : okI x5) (S : mSt) (H : Heap) (locs : List Loc) (ls : Array Slot), lv_has ls 6 [(0, .ref (b + r0)), (1, .int (mI x1)), (2, .int (mI x2)), (3, .int (mI x3)), (4, .int (mI x4)), (5, .int (mI x5))] → mW g b KM S H → va_S (mA b KM s.heap.size) s.heap H locs → ko70 r0 x1 x2 x3 x4 x5 S → W p l e { frames := 123, cells := 0, slots := 0, locals := 3228 } s m args below meth c H locs 0 0 (vx_MQ below (mQi g b KM Q (mA b KM s.heap.size)) (mEx g b KM (fun _ _ => False) (mA b KM s.heap.size)) args s 0 0 (mA b KM s.heap.size)) (F0 m 70 ls [])) (hko87 : ∀ (r0 : Nat) (kr0 : KM r0 = (0, 10, 0)) (x1 : Int) (ox1 : okI x1) (x4 : Int) (ox4 : okI x4) (S : mSt) (H : Heap) (locs : List Loc) (ls : Array Slot), lv_has ls 6 [(0, .ref (b + r0)), (1, .int (mI x1)), (4, .int (mI x4))] → mW g b KM S H → va_S (mA b KM s.heap.size) s.heap H locs → ko87 r0 x1 x4 S → W p l e { frames := 123, cells := 0, slots := 0, locals := 3228 } s m args below meth c H locs 0 0 (vx_MQ below (mQi g b KM Q (mA b KM s.heap.size)) (mEx g b KM (fun _ _ => False) (mA b KM s.heap.size)) args s 0 0 (mA b KM s.heap.size)) (F0 m 87 ls [])) (r0 : Nat) (kr0 : KM r0 = (0, 10, 0)) (x1 : Int) (ox1 : okI x1) (x2 : Int) (ox2 : okI x2) (x3 : Int) (ox3 : okI x3) (x4 : Int) (ox4 : okI x4) (x5 : Int) (ox5 : okI x5) (S : mSt) (H : Heap) (locs : List Loc) (ls : Array Slot) (hl : lv_has ls 6 [(0, .ref (b + r0)), (1, .int (mI x1)), (2, .int (mI x2)), (3, .int (mI x3)), (4, .int (mI x4)), (5, .int (mI x5))]) (hW : mW g b KM S H) (hS : va_S (mA b KM s.heap.size) s.heap H locs) (h : w_X12_ahead__70b N Q ko70 ko87 r0 x1 x2 x3 x4 x5 S) : W p l e { frames := 123, cells := 0, slots := 0, locals := 3228 } s m args below meth c H locs 0 0 (vx_MQ below (mQi g b KM Q (mA b KM s.heap.size)) (mEx g b KM (fun _ _ => False) (mA b KM s.heap.size)) args s 0 0 (mA b KM s.heap.size)) (F0 m 70 ls []) := by
  unfold w_X12_ahead__70b at h
  refine m_iload (pc := 70) C.1 dX12_ahead__70 hl 5 rfl ?_
  refine m_iload_n (pc := 72) C.1 dX12_ahead__72 rfl hl 2 rfl ?_
  refine m_icmp_ge (pc := 73) (tgt := 87) C.1 ox5 ox2 dX12_ahead__73 (by decide) (fun hc => ?_) (fun hc => ?_)
  · replace h := h.1 hc
    exact hko87 r0 kr0 x1 ox1 x4 ox4 S _ _ _ (lv_sub hl [0, 1, 4] rfl) hW hS h
  · replace h := h.2 hc
    refine m_aload_n (pc := 76) C.1 dX12_ahead__76 rfl hl 0 rfl ?_
    refine m_iload_n (pc := 77) C.1 dX12_ahead__77 rfl hl 3 rfl ?_
    refine m_callVv (pc := 78) C.1 C.2.2.1 hl.1 C.2.1 hW hS (As := [.int (mI x3)]) (rest := []) (r := r0) (T_X12_ahead C.2.2.2.2.2.2 N r0 kr0 x3 ox3 h) kr0 rfl q_1828 q_1830 q_74 q_92 q_1831 pl_X12_ahead (by decide) (Nat.le_of_ble_eq_true rfl) dX12_ahead__78 (fun S1 H locs h hW1 hS => ?_)
    refine m_iinc (pc := 81) C.1 dX12_ahead__81 hl (by decide) (q0 := 5) rfl (fun v => [(5, .int v), (0, .ref (b + r0)), (1, .int (mI x1)), (2, .int (mI x2)), (3, .int (mI x3)), (4, .int (mI x4))]) (fun _ => rfl) (fun v2 ls ev2 ov2 hl => ?_)
    replace h := h v2 ev2
    refine m_goto (pc := 84) (tgt := 70) C.1 dX12_ahead__84 (by decide) ?_
    exact hko70 r0 kr0 x1 ox1 x2 ox2 x3 ox3 x4 ox4 v2 ov2 S1 _ _ _ (lv_sub hl [1, 2, 3, 4, 5, 0] rfl) hW1 hS h
def w_X12_ahead__70 (N : Nat) (Q : mSt → Int → Prop) (ko87 : Nat → Int → Int → mSt → Prop) : Nat → Nat → Int → Int → Int → Int → Int → mSt → Prop
  | 0 => fun _ _ _ _ _ _ _ => False
  | k + 1 => w_X12_ahead__70b N Q (w_X12_ahead__70 N Q ko87 k) ko87
theorem W_X12_ahead__70 (C : mC p l s m args meth c cX12_ahead_ "MoonWashModel" 6 (some FieldType.int) g) (N : Nat) {Q : mSt → Int → Prop} {ko87 : Nat → Int → Int → mSt → Prop} (hko87 : ∀ (r0 : Nat) (kr0 : KM r0 = (0, 10, 0)) (x1 : Int) (ox1 : okI x1) (x4 : Int) (ox4 : okI x4) (S : mSt) (H : Heap) (locs : List Loc) (ls : Array Slot), lv_has ls 6 [(0, .ref (b + r0)), (1, .int (mI x1)), (4, .int (mI x4))] → mW g b KM S H → va_S (mA b KM s.heap.size) s.heap H locs → ko87 r0 x1 x4 S → W p l e { frames := 123, cells := 0, slots := 0, locals := 3228 } s m args below meth c H locs 0 0 (vx_MQ below (mQi g b KM Q (mA b KM s.heap.size)) (mEx g b KM (fun _ _ => False) (mA b KM s.heap.size)) args s 0 0 (mA b KM s.heap.size)) (F0 m 87 ls [])) : ∀ (k : Nat) (r0 : Nat) (kr0 : KM r0 = (0, 10, 0)) (x1 : Int) (ox1 : okI x1) (x2 : Int) (ox2 : okI x2) (x3 : Int) (ox3 : okI x3) (x4 : Int) (ox4 : okI x4) (x5 : Int) (ox5 : okI x5) (S : mSt) (H : Heap) (locs : List Loc) (ls : Array Slot) (hl : lv_has ls 6 [(0, .ref (b + r0)), (1, .int (mI x1)), (2, .int (mI x2)), (3, .int (mI x3)), (4, .int (mI x4)), (5, .int (mI x5))]) (hW : mW g b KM S H) (hS : va_S (mA b KM s.heap.size) s.heap H locs) (h : w_X12_ahead__70 N Q ko87 k r0 x1 x2 x3 x4 x5 S), W p l e { frames := 123, cells := 0, slots := 0, locals := 3228 } s m args below meth c H locs 0 0 (vx_MQ below (mQi g b KM Q (mA b KM s.heap.size)) (mEx g b KM (fun _ _ => False) (mA b KM s.heap.size)) args s 0 0 (mA b KM s.heap.size)) (F0 m 70 ls []) := by
  intro k
  induction k with
  | zero => intro r0 kr0 x1 ox1 x2 ox2 x3 ox3 x4 ox4 x5 ox5 S H locs ls hl hW hS h; exact False.elim h
  | succ k ih => intro r0 kr0 x1 ox1 x2 ox2 x3 ox3 x4 ox4 x5 ox5 S H locs ls hl hW hS h; exact W_X12_ahead__70b C N ih hko87 r0 kr0 x1 ox1 x2 ox2 x3 ox3 x4 ox4 x5 ox5 S H locs ls hl hW hS h
def w_X12_ahead__121 (N : Nat) (Q : mSt → Int → Prop)  (r0 : Nat) (xs0 : Int) (S : mSt) : Prop :=
  ∀ v1 : Int, v1 = xs0 → w_X12_comesBack N r0 S (fun (S2 : mSt) => Q S2 v1)
theorem W_X12_ahead__121 (C : mC p l s m args meth c cX12_ahead_ "MoonWashModel" 6 (some FieldType.int) g) (N : Nat) {Q : mSt → Int → Prop}   (r0 : Nat) (kr0 : KM r0 = (0, 10, 0)) (xs0 : Int) (oxs0 : okI xs0) (S : mSt) (H : Heap) (locs : List Loc) (ls : Array Slot) (hl : lv_has ls 6 [(0, .ref (b + r0))]) (hW : mW g b KM S H) (hS : va_S (mA b KM s.heap.size) s.heap H locs) (h : w_X12_ahead__121 N Q  r0 xs0 S) : W p l e { frames := 123, cells := 0, slots := 0, locals := 3228 } s m args below meth c H locs 0 0 (vx_MQ below (mQi g b KM Q (mA b KM s.heap.size)) (mEx g b KM (fun _ _ => False) (mA b KM s.heap.size)) args s 0 0 (mA b KM s.heap.size)) (F0 m 121 ls [.int (mI xs0)]) := by
  unfold w_X12_ahead__121 at h
  refine m_istore (pc := 121) C.1 dX12_ahead__121 hl (by decide) (fun v => [(5, .int v), (0, .ref (b + r0))]) (fun _ => rfl) oxs0 (fun v1 ls ev1 ov1 hl => ?_)
  replace h := h v1 ev1
  refine m_aload_n (pc := 123) C.1 dX12_ahead__123 rfl hl 1 rfl ?_
  refine m_callVv (pc := 124) C.1 C.2.2.1 hl.1 C.2.1 hW hS (As := []) (rest := []) (r := r0) (T_X12_comesBack C.2.2.2.2.2.2 N r0 kr0 h) kr0 rfl q_1610 q_1612 q_47 q_92 q_1613 pl_X12_comesBack (by decide) (Nat.le_of_ble_eq_true rfl) dX12_ahead__124 (fun S2 H locs h hW2 hS => ?_)
  refine m_iload (pc := 127) C.1 dX12_ahead__127 hl 0 rfl ?_
  exact m_iret (pc := 129) C.1 C.2.2.2.1 C.2.2.2.2.1 hW2 hS ov1 h (by decide) (by decide) dX12_ahead__129
def w_X12_ahead__51 (N : Nat) (Q : mSt → Int → Prop)  (r0 : Nat) (x1 : Int) (x2 : Int) (x3 : Int) (x4 : Int) (xs0 : Int) (rs1 : Nat) (S : mSt) : Prop :=
  ∀ S1 : mSt, S1 = mup S rs1 0 xs0 → (((S1 r0 0) ≤ 0 → w_X12_putsAside N r0 S1 (fun (S2 : mSt) => ∀ v3 : Int, v3 = 0 → w_X12_ahead__70 N Q (fun (r0_4 : Nat) (x1_4 : Int) (x4_4 : Int) (S_4 : mSt) => ((x4_4 ≠ 0 → ((x4_4 ≠ 1 → w_X12_lightOf N r0_4 x1_4 S_4 (fun (S5 : mSt) (v5 : Int) => w_X12_ahead__121 N Q  r0_4 v5 S5)) ∧ (x4_4 = 1 → w_X12_of N r0_4 x1_4 0 S_4 (fun (S6 : mSt) (v6 : Int) => w_X12_ahead__121 N Q  r0_4 v6 S6)))) ∧ (x4_4 = 0 → w_X12_of N r0_4 x1_4 2 S_4 (fun (S7 : mSt) (v7 : Int) => w_X12_ahead__121 N Q  r0_4 v7 S7)))) N r0 x1 x2 x3 x4 v3 S2)) ∧ (0 < (S1 r0 0) → Q S1 0))
theorem W_X12_ahead__51 (C : mC p l s m args meth c cX12_ahead_ "MoonWashModel" 6 (some FieldType.int) g) (N : Nat) {Q : mSt → Int → Prop}   (r0 : Nat) (kr0 : KM r0 = (0, 10, 0)) (x1 : Int) (ox1 : okI x1) (x2 : Int) (ox2 : okI x2) (x3 : Int) (ox3 : okI x3) (x4 : Int) (ox4 : okI x4) (xs0 : Int) (oxs0 : okI xs0) (rs1 : Nat) (krs1 : KM rs1 = (0, 10, 0)) (S : mSt) (H : Heap) (locs : List Loc) (ls : Array Slot) (hl : lv_has ls 6 [(0, .ref (b + r0)), (1, .int (mI x1)), (2, .int (mI x2)), (3, .int (mI x3)), (4, .int (mI x4))]) (hW : mW g b KM S H) (hS : va_S (mA b KM s.heap.size) s.heap H locs) (h : w_X12_ahead__51 N Q  r0 x1 x2 x3 x4 xs0 rs1 S) : W p l e { frames := 123, cells := 0, slots := 0, locals := 3228 } s m args below meth c H locs 0 0 (vx_MQ below (mQi g b KM Q (mA b KM s.heap.size)) (mEx g b KM (fun _ _ => False) (mA b KM s.heap.size)) args s 0 0 (mA b KM s.heap.size)) (F0 m 51 ls [.int (mI xs0), .ref (b + rs1)]) := by
  unfold w_X12_ahead__51 at h
  refine p_10_0 (pc := 51) C hW hS krs1 q_1383 oxs0 dX12_ahead__51 (fun S1 H locs e1 hW1 hS => ?_)
  replace h := h S1 e1
  refine m_aload_n (pc := 54) C.1 dX12_ahead__54 rfl hl 0 rfl ?_
  refine g_10_0 (pc := 55) C hW1 kr0 q_1383 dX12_ahead__55 ?_
  refine m_if_le (pc := 58) (tgt := 63) C.1 (hW1.2.1 _ _) dX12_ahead__58 (by decide) (fun hc => ?_) (fun hc => ?_)
  · replace h := h.1 hc
    refine m_aload_n (pc := 63) C.1 dX12_ahead__63 rfl hl 0 rfl ?_
    refine m_callVv (pc := 64) C.1 C.2.2.1 hl.1 C.2.1 hW1 hS (As := []) (rest := []) (r := r0) (T_X12_putsAside C.2.2.2.2.2.2 N r0 kr0 h) kr0 rfl q_1482 q_1484 q_23 q_92 q_1485 pl_X12_putsAside (by decide) (Nat.le_of_ble_eq_true rfl) dX12_ahead__64 (fun S2 H locs h hW2 hS => ?_)
    refine m_iconst (pc := 67) C.1 dX12_ahead__67 ?_
    refine m_istore (pc := 68) C.1 dX12_ahead__68 hl (by decide) (fun v => [(5, .int v), (0, .ref (b + r0)), (1, .int (mI x1)), (2, .int (mI x2)), (3, .int (mI x3)), (4, .int (mI x4))]) (fun _ => rfl) (by decide : okI 0) (fun v3 ls ev3 ov3 hl => ?_)
    replace h := h v3 ev3
    refine W_X12_ahead__70 C N ?_ N r0 kr0 x1 ox1 x2 ox2 x3 ox3 x4 ox4 v3 ov3 S2 _ _ _ (lv_sub hl [1, 2, 3, 4, 5, 0] rfl) hW2 hS h
    · intro r0_4 kr0_4 x1_4 ox1_4 x4_4 ox4_4 S_4 H locs ls hl hW_4 hS h
      refine m_iload (pc := 87) C.1 dX12_ahead__87 hl 2 rfl ?_
      refine m_if_ne (pc := 89) (tgt := 101) C.1 ox4_4 dX12_ahead__89 (by decide) (fun hc => ?_) (fun hc => ?_)
      · replace h := h.1 hc
        refine m_iload (pc := 101) C.1 dX12_ahead__101 hl 2 rfl ?_
        refine m_iconst (pc := 103) C.1 dX12_ahead__103 ?_
        refine m_icmp_ne (pc := 104) (tgt := 116) C.1 ox4_4 (by decide : okI 1) dX12_ahead__104 (by decide) (fun hc => ?_) (fun hc => ?_)
        · replace h := h.1 hc
          refine m_aload_n (pc := 116) C.1 dX12_ahead__116 rfl hl 0 rfl ?_
          refine m_iload_n (pc := 117) C.1 dX12_ahead__117 rfl hl 1 rfl ?_
          refine m_callVi (pc := 118) C.1 C.2.2.1 hl.1 C.2.1 hW_4 hS (As := [.int (mI x1_4)]) (rest := []) (r := r0_4) (T_X12_lightOf C.2.2.2.2.2.2 N r0_4 kr0_4 x1_4 ox1_4 h) kr0_4 rfl q_1634 q_1636 q_49 q_92 q_1637 pl_X12_lightOf (by decide) (Nat.le_of_ble_eq_true rfl) dX12_ahead__118 (fun v5 S5 H locs ov5 h hW5 hS => ?_)
          exact W_X12_ahead__121 C N  r0_4 kr0_4 v5 ov5 S5 _ _ _ (lv_sub hl [0] rfl) hW5 hS h
        · replace h := h.2 hc
          refine m_aload_n (pc := 107) C.1 dX12_ahead__107 rfl hl 0 rfl ?_
          refine m_iload_n (pc := 108) C.1 dX12_ahead__108 rfl hl 1 rfl ?_
          refine m_iconst (pc := 109) C.1 dX12_ahead__109 ?_
          refine m_callVi (pc := 110) C.1 C.2.2.1 hl.1 C.2.1 hW_4 hS (As := [.int (mI x1_4), .int (mI 0)]) (rest := []) (r := r0_4) (T_X12_of C.2.2.2.2.2.2 N r0_4 kr0_4 x1_4 ox1_4 0 (by decide : okI 0) h) kr0_4 rfl q_1630 q_1632 q_48 q_92 q_1633 pl_X12_of (by decide) (Nat.le_of_ble_eq_true rfl) dX12_ahead__110 (fun v6 S6 H locs ov6 h hW6 hS => ?_)
          refine m_goto (pc := 113) (tgt := 121) C.1 dX12_ahead__113 (by decide) ?_
          exact W_X12_ahead__121 C N  r0_4 kr0_4 v6 ov6 S6 _ _ _ (lv_sub hl [0] rfl) hW6 hS h
      · replace h := h.2 hc
        refine m_aload_n (pc := 92) C.1 dX12_ahead__92 rfl hl 0 rfl ?_
        refine m_iload_n (pc := 93) C.1 dX12_ahead__93 rfl hl 1 rfl ?_
        refine m_iconst (pc := 94) C.1 dX12_ahead__94 ?_
        refine m_callVi (pc := 95) C.1 C.2.2.1 hl.1 C.2.1 hW_4 hS (As := [.int (mI x1_4), .int (mI 2)]) (rest := []) (r := r0_4) (T_X12_of C.2.2.2.2.2.2 N r0_4 kr0_4 x1_4 ox1_4 2 (by decide : okI 2) h) kr0_4 rfl q_1630 q_1632 q_48 q_92 q_1633 pl_X12_of (by decide) (Nat.le_of_ble_eq_true rfl) dX12_ahead__95 (fun v7 S7 H locs ov7 h hW7 hS => ?_)
        refine m_goto (pc := 98) (tgt := 121) C.1 dX12_ahead__98 (by decide) ?_
        exact W_X12_ahead__121 C N  r0_4 kr0_4 v7 ov7 S7 _ _ _ (lv_sub hl [0] rfl) hW7 hS h
  · replace h := h.2 hc
    refine m_iconst (pc := 61) C.1 dX12_ahead__61 ?_
    exact m_iret (pc := 62) C.1 C.2.2.2.1 C.2.2.2.2.1 hW1 hS (by decide : okI 0) h (by decide) (by decide) dX12_ahead__62
def w_X12_ahead__32 (N : Nat) (Q : mSt → Int → Prop)  (r0 : Nat) (x1 : Int) (x2 : Int) (x3 : Int) (x4 : Int) (rs0 : Nat) (S : mSt) : Prop :=
  w_X12_ahead__51 N Q  r0 x1 x2 x3 x4 2 rs0 S
theorem W_X12_ahead__32 (C : mC p l s m args meth c cX12_ahead_ "MoonWashModel" 6 (some FieldType.int) g) (N : Nat) {Q : mSt → Int → Prop}   (r0 : Nat) (kr0 : KM r0 = (0, 10, 0)) (x1 : Int) (ox1 : okI x1) (x2 : Int) (ox2 : okI x2) (x3 : Int) (ox3 : okI x3) (x4 : Int) (ox4 : okI x4) (rs0 : Nat) (krs0 : KM rs0 = (0, 10, 0)) (S : mSt) (H : Heap) (locs : List Loc) (ls : Array Slot) (hl : lv_has ls 6 [(0, .ref (b + r0)), (1, .int (mI x1)), (2, .int (mI x2)), (3, .int (mI x3)), (4, .int (mI x4))]) (hW : mW g b KM S H) (hS : va_S (mA b KM s.heap.size) s.heap H locs) (h : w_X12_ahead__32 N Q  r0 x1 x2 x3 x4 rs0 S) : W p l e { frames := 123, cells := 0, slots := 0, locals := 3228 } s m args below meth c H locs 0 0 (vx_MQ below (mQi g b KM Q (mA b KM s.heap.size)) (mEx g b KM (fun _ _ => False) (mA b KM s.heap.size)) args s 0 0 (mA b KM s.heap.size)) (F0 m 32 ls [.ref (b + rs0)]) := by
  unfold w_X12_ahead__32 at h
  refine m_iconst (pc := 32) C.1 dX12_ahead__32 ?_
  refine m_goto (pc := 33) (tgt := 51) C.1 dX12_ahead__33 (by decide) ?_
  exact W_X12_ahead__51 C N  r0 kr0 x1 ox1 x2 ox2 x3 ox3 x4 ox4 2 (by decide : okI 2) rs0 krs0 S _ _ _ (lv_sub hl [0, 1, 2, 3, 4] rfl) hW hS h
end
def w_X12_ahead_ (N : Nat) (r0 : Nat) (x1 : Int) (x2 : Int) (x3 : Int) (x4 : Int) (S : mSt) (Q : mSt → Int → Prop) : Prop :=
  w_X12_isPart N x1 S (fun (S1 : mSt) (v1 : Int) => ((v1 ≠ 0 → w_X12_isIn N x2 0 40 S1 (fun (S2 : mSt) (v2 : Int) => ((v2 = 0 → w_X12_ahead__32 N Q  r0 x1 x2 x3 x4 r0 S2) ∧ (v2 ≠ 0 → w_X12_isIn N x3 0 9 S2 (fun (S3 : mSt) (v3 : Int) => ((v3 ≠ 0 → w_X12_isIn N x4 0 2 S3 (fun (S4 : mSt) (v4 : Int) => ((v4 ≠ 0 → w_X12_ahead__51 N Q  r0 x1 x2 x3 x4 0 r0 S4) ∧ (v4 = 0 → w_X12_ahead__51 N Q  r0 x1 x2 x3 x4 3 r0 S4)))) ∧ (v3 = 0 → w_X12_ahead__32 N Q  r0 x1 x2 x3 x4 r0 S3))))))) ∧ (v1 = 0 → w_X12_ahead__51 N Q  r0 x1 x2 x3 x4 1 r0 S1)))
theorem T_X12_ahead_ {l : Launch} (hl0 : l.stackTraces = false) {g : mG} {b : Nat} (N : Nat) (r0 : Nat) (kr0 : KM r0 = (0, 10, 0)) (x1 : Int) (ox1 : okI x1) (x2 : Int) (ox2 : okI x2) (x3 : Int) (ox3 : okI x3) (x4 : Int) (ox4 : okI x4) {S : mSt} {Q : mSt → Int → Prop} (h : w_X12_ahead_ N r0 x1 x2 x3 x4 S Q) (sz : Nat) : vx_Met l yX12_ahead_ (Cond.code yX12_ahead_ cX12_ahead_ 6 (some FieldType.int) :: wsG) { frames := 123, cells := 0, slots := 0, locals := 3228 } (mPc g b KM S [.ref (b + r0), .int (mI x1), .int (mI x2), .int (mI x3), .int (mI x4)] sz) (mQi g b KM Q (mA b KM sz)) (mEx g b KM (fun _ _ => False) (mA b KM sz)) 0 0 (mA b KM sz) :=
  m_of (av := [.ref (b + r0), .int (mI x1), .int (mI x2), .int (mI x3), .int (mI x4)]) (Qf := fun A => mQi g b KM Q A) (Xf := fun A => mEx g b KM (fun _ _ => False) A) (by decide) (Nat.le_of_ble_eq_true rfl) (fun p e s m args below meth c ls X hK hml hr hlk hout hnm hW hl => by
    have C : mC p l s m args meth c cX12_ahead_ "MoonWashModel" 6 (some FieldType.int) g := ⟨X, hK, hml, hr, hlk, hout, hl0⟩
    have hS : va_S (mA b KM s.heap.size) s.heap s.heap [] := va_S.rf
    have hl : lv_has ls 6 [(0, .ref (b + r0)), (1, .int (mI x1)), (2, .int (mI x2)), (3, .int (mI x3)), (4, .int (mI x4))] := hl
    unfold w_X12_ahead_ at h
    refine m_aload_n (pc := 0) C.1 dX12_ahead__0 rfl hl 0 rfl ?_
    refine m_iload_n (pc := 1) C.1 dX12_ahead__1 rfl hl 1 rfl ?_
    refine m_callSi (pc := 2) C.1 C.2.2.1 hl.1 C.2.1 hW hS (As := [.int (mI x1)]) (rest := [.ref (b + r0)]) (T_X12_isPart C.2.2.2.2.2.2 N x1 ox1 h) q_1627 q_1628 q_92 q_1629 pl_X12_isPart (by decide) (Nat.le_of_ble_eq_true rfl) dX12_ahead__2 (fun v1 S1 H locs ov1 h hW1 hS => ?_)
    refine m_if_ne (pc := 5) (tgt := 12) C.1 ov1 dX12_ahead__5 (by decide) (fun hc => ?_) (fun hc => ?_)
    · replace h := h.1 hc
      refine m_iload_n (pc := 12) C.1 dX12_ahead__12 rfl hl 2 rfl ?_
      refine m_iconst (pc := 13) C.1 dX12_ahead__13 ?_
      refine m_bipush (pc := 14) C.1 dX12_ahead__14 rfl ?_
      refine m_callSi (pc := 16) C.1 C.2.2.1 hl.1 C.2.1 hW1 hS (As := [.int (mI x2), .int (mI 0), .int (mI 40)]) (rest := [.ref (b + r0)]) (T_X12_isIn C.2.2.2.2.2.2 N x2 ox2 0 (by decide : okI 0) 40 (by decide : okI 40) h) q_1475 q_1476 q_92 q_1477 pl_X12_isIn (by decide) (Nat.le_of_ble_eq_true rfl) dX12_ahead__16 (fun v2 S2 H locs ov2 h hW2 hS => ?_)
      refine m_if_eq (pc := 19) (tgt := 32) C.1 ov2 dX12_ahead__19 (by decide) (fun hc => ?_) (fun hc => ?_)
      · replace h := h.1 hc
        exact W_X12_ahead__32 C N  r0 kr0 x1 ox1 x2 ox2 x3 ox3 x4 ox4 r0 kr0 S2 _ _ _ (lv_sub hl [0, 1, 2, 3, 4] rfl) hW2 hS h
      · replace h := h.2 hc
        refine m_iload_n (pc := 22) C.1 dX12_ahead__22 rfl hl 3 rfl ?_
        refine m_iconst (pc := 23) C.1 dX12_ahead__23 ?_
        refine m_bipush (pc := 24) C.1 dX12_ahead__24 rfl ?_
        refine m_callSi (pc := 26) C.1 C.2.2.1 hl.1 C.2.1 hW2 hS (As := [.int (mI x3), .int (mI 0), .int (mI 9)]) (rest := [.ref (b + r0)]) (T_X12_isIn C.2.2.2.2.2.2 N x3 ox3 0 (by decide : okI 0) 9 (by decide : okI 9) h) q_1475 q_1476 q_92 q_1477 pl_X12_isIn (by decide) (Nat.le_of_ble_eq_true rfl) dX12_ahead__26 (fun v3 S3 H locs ov3 h hW3 hS => ?_)
        refine m_if_ne (pc := 29) (tgt := 36) C.1 ov3 dX12_ahead__29 (by decide) (fun hc => ?_) (fun hc => ?_)
        · replace h := h.1 hc
          refine m_iload (pc := 36) C.1 dX12_ahead__36 hl 4 rfl ?_
          refine m_iconst (pc := 38) C.1 dX12_ahead__38 ?_
          refine m_iconst (pc := 39) C.1 dX12_ahead__39 ?_
          refine m_callSi (pc := 40) C.1 C.2.2.1 hl.1 C.2.1 hW3 hS (As := [.int (mI x4), .int (mI 0), .int (mI 2)]) (rest := [.ref (b + r0)]) (T_X12_isIn C.2.2.2.2.2.2 N x4 ox4 0 (by decide : okI 0) 2 (by decide : okI 2) h) q_1475 q_1476 q_92 q_1477 pl_X12_isIn (by decide) (Nat.le_of_ble_eq_true rfl) dX12_ahead__40 (fun v4 S4 H locs ov4 h hW4 hS => ?_)
          refine m_if_ne (pc := 43) (tgt := 50) C.1 ov4 dX12_ahead__43 (by decide) (fun hc => ?_) (fun hc => ?_)
          · replace h := h.1 hc
            refine m_iconst (pc := 50) C.1 dX12_ahead__50 ?_
            exact W_X12_ahead__51 C N  r0 kr0 x1 ox1 x2 ox2 x3 ox3 x4 ox4 0 (by decide : okI 0) r0 kr0 S4 _ _ _ (lv_sub hl [0, 1, 2, 3, 4] rfl) hW4 hS h
          · replace h := h.2 hc
            refine m_iconst (pc := 46) C.1 dX12_ahead__46 ?_
            refine m_goto (pc := 47) (tgt := 51) C.1 dX12_ahead__47 (by decide) ?_
            exact W_X12_ahead__51 C N  r0 kr0 x1 ox1 x2 ox2 x3 ox3 x4 ox4 3 (by decide : okI 3) r0 kr0 S4 _ _ _ (lv_sub hl [0, 1, 2, 3, 4] rfl) hW4 hS h
        · replace h := h.2 hc
          exact W_X12_ahead__32 C N  r0 kr0 x1 ox1 x2 ox2 x3 ox3 x4 ox4 r0 kr0 S3 _ _ _ (lv_sub hl [0, 1, 2, 3, 4] rfl) hW3 hS h
    · replace h := h.2 hc
      refine m_iconst (pc := 8) C.1 dX12_ahead__8 ?_
      refine m_goto (pc := 9) (tgt := 51) C.1 dX12_ahead__9 (by decide) ?_
      exact W_X12_ahead__51 C N  r0 kr0 x1 ox1 x2 ox2 x3 ox3 x4 ox4 1 (by decide : okI 1) r0 kr0 S1 _ _ _ (lv_sub hl [0, 1, 2, 3, 4] rfl) hW1 hS h) sz
section
variable {p : Program} {l : Launch} {e : Env} {s : State} {m : MethodId} {args : Array Value} {below : List Frame} {meth : Method} {c : Code} {g : mG} {b : Nat}
def w_X12_tide_71 (N : Nat) (Q : mSt → Int → Prop) (ko48 : Nat → Int → Int → Int → Int → mSt → Prop) (r0 : Nat) (x1 : Int) (x2 : Int) (x3 : Int) (x4 : Int) (S : mSt) : Prop :=
  w_X12_ahead N r0 x2 S (fun (S1 : mSt) => ∀ v2 : Int, v2 = nm (x4 + 1) → ko48 r0 x1 x2 x3 v2 S1)
theorem W_X12_tide_71 (C : mC p l s m args meth c cX12_tide "MoonWashModel" 5 (some FieldType.int) g) (N : Nat) {Q : mSt → Int → Prop} {ko48 : Nat → Int → Int → Int → Int → mSt → Prop} (hko48 : ∀ (r0 : Nat) (kr0 : KM r0 = (0, 10, 0)) (x1 : Int) (ox1 : okI x1) (x2 : Int) (ox2 : okI x2) (x3 : Int) (ox3 : okI x3) (x4 : Int) (ox4 : okI x4) (S : mSt) (H : Heap) (locs : List Loc) (ls : Array Slot), lv_has ls 5 [(0, .ref (b + r0)), (1, .int (mI x1)), (2, .int (mI x2)), (3, .int (mI x3)), (4, .int (mI x4))] → mW g b KM S H → va_S (mA b KM s.heap.size) s.heap H locs → ko48 r0 x1 x2 x3 x4 S → W p l e { frames := 123, cells := 0, slots := 0, locals := 3228 } s m args below meth c H locs 0 0 (vx_MQ below (mQi g b KM Q (mA b KM s.heap.size)) (mEx g b KM (fun _ _ => False) (mA b KM s.heap.size)) args s 0 0 (mA b KM s.heap.size)) (F0 m 48 ls [])) (r0 : Nat) (kr0 : KM r0 = (0, 10, 0)) (x1 : Int) (ox1 : okI x1) (x2 : Int) (ox2 : okI x2) (x3 : Int) (ox3 : okI x3) (x4 : Int) (ox4 : okI x4) (S : mSt) (H : Heap) (locs : List Loc) (ls : Array Slot) (hl : lv_has ls 5 [(0, .ref (b + r0)), (1, .int (mI x1)), (2, .int (mI x2)), (3, .int (mI x3)), (4, .int (mI x4))]) (hW : mW g b KM S H) (hS : va_S (mA b KM s.heap.size) s.heap H locs) (h : w_X12_tide_71 N Q ko48 r0 x1 x2 x3 x4 S) : W p l e { frames := 123, cells := 0, slots := 0, locals := 3228 } s m args below meth c H locs 0 0 (vx_MQ below (mQi g b KM Q (mA b KM s.heap.size)) (mEx g b KM (fun _ _ => False) (mA b KM s.heap.size)) args s 0 0 (mA b KM s.heap.size)) (F0 m 71 ls []) := by
  unfold w_X12_tide_71 at h
  refine m_aload_n (pc := 71) C.1 dX12_tide_71 rfl hl 0 rfl ?_
  refine m_iload_n (pc := 72) C.1 dX12_tide_72 rfl hl 2 rfl ?_
  refine m_callVv (pc := 73) C.1 C.2.2.1 hl.1 C.2.1 hW hS (As := [.int (mI x2)]) (rest := []) (r := r0) (T_X12_ahead C.2.2.2.2.2.2 N r0 kr0 x2 ox2 h) kr0 rfl q_1828 q_1830 q_74 q_92 q_1831 pl_X12_ahead (by decide) (Nat.le_of_ble_eq_true rfl) dX12_tide_73 (fun S1 H locs h hW1 hS => ?_)
  refine m_iinc (pc := 76) C.1 dX12_tide_76 hl (by decide) (q0 := 4) rfl (fun v => [(4, .int v), (0, .ref (b + r0)), (1, .int (mI x1)), (2, .int (mI x2)), (3, .int (mI x3))]) (fun _ => rfl) (fun v2 ls ev2 ov2 hl => ?_)
  replace h := h v2 ev2
  refine m_goto (pc := 79) (tgt := 48) C.1 dX12_tide_79 (by decide) ?_
  exact hko48 r0 kr0 x1 ox1 x2 ox2 x3 ox3 v2 ov2 S1 _ _ _ (lv_sub hl [1, 2, 3, 4, 0] rfl) hW1 hS h
def w_X12_tide_48b (N : Nat) (Q : mSt → Int → Prop) (ko48 : Nat → Int → Int → Int → Int → mSt → Prop) (ko82 : Nat → Int → mSt → Prop) (r0 : Nat) (x1 : Int) (x2 : Int) (x3 : Int) (x4 : Int) (S : mSt) : Prop :=
  ((40 < x4 → ko82 r0 x3 S) ∧ (x4 ≤ 40 → ((x3 ≠ (-1) → ko82 r0 x3 S) ∧ (x3 = (-1) → w_X12_lightOfAll N r0 S (fun (S1 : mSt) (v1 : Int) => ((v1 < x1 → w_X12_tide_71 N Q ko48 r0 x1 x2 x3 x4 S1) ∧ (x1 ≤ v1 → ∀ v2 : Int, v2 = x4 → w_X12_tide_71 N Q ko48 r0 x1 x2 v2 x4 S1)))))))
theorem W_X12_tide_48b (C : mC p l s m args meth c cX12_tide "MoonWashModel" 5 (some FieldType.int) g) (N : Nat) {Q : mSt → Int → Prop} {ko48 : Nat → Int → Int → Int → Int → mSt → Prop} {ko82 : Nat → Int → mSt → Prop} (hko48 : ∀ (r0 : Nat) (kr0 : KM r0 = (0, 10, 0)) (x1 : Int) (ox1 : okI x1) (x2 : Int) (ox2 : okI x2) (x3 : Int) (ox3 : okI x3) (x4 : Int) (ox4 : okI x4) (S : mSt) (H : Heap) (locs : List Loc) (ls : Array Slot), lv_has ls 5 [(0, .ref (b + r0)), (1, .int (mI x1)), (2, .int (mI x2)), (3, .int (mI x3)), (4, .int (mI x4))] → mW g b KM S H → va_S (mA b KM s.heap.size) s.heap H locs → ko48 r0 x1 x2 x3 x4 S → W p l e { frames := 123, cells := 0, slots := 0, locals := 3228 } s m args below meth c H locs 0 0 (vx_MQ below (mQi g b KM Q (mA b KM s.heap.size)) (mEx g b KM (fun _ _ => False) (mA b KM s.heap.size)) args s 0 0 (mA b KM s.heap.size)) (F0 m 48 ls [])) (hko82 : ∀ (r0 : Nat) (kr0 : KM r0 = (0, 10, 0)) (x3 : Int) (ox3 : okI x3) (S : mSt) (H : Heap) (locs : List Loc) (ls : Array Slot), lv_has ls 5 [(0, .ref (b + r0)), (3, .int (mI x3))] → mW g b KM S H → va_S (mA b KM s.heap.size) s.heap H locs → ko82 r0 x3 S → W p l e { frames := 123, cells := 0, slots := 0, locals := 3228 } s m args below meth c H locs 0 0 (vx_MQ below (mQi g b KM Q (mA b KM s.heap.size)) (mEx g b KM (fun _ _ => False) (mA b KM s.heap.size)) args s 0 0 (mA b KM s.heap.size)) (F0 m 82 ls [])) (r0 : Nat) (kr0 : KM r0 = (0, 10, 0)) (x1 : Int) (ox1 : okI x1) (x2 : Int) (ox2 : okI x2) (x3 : Int) (ox3 : okI x3) (x4 : Int) (ox4 : okI x4) (S : mSt) (H : Heap) (locs : List Loc) (ls : Array Slot) (hl : lv_has ls 5 [(0, .ref (b + r0)), (1, .int (mI x1)), (2, .int (mI x2)), (3, .int (mI x3)), (4, .int (mI x4))]) (hW : mW g b KM S H) (hS : va_S (mA b KM s.heap.size) s.heap H locs) (h : w_X12_tide_48b N Q ko48 ko82 r0 x1 x2 x3 x4 S) : W p l e { frames := 123, cells := 0, slots := 0, locals := 3228 } s m args below meth c H locs 0 0 (vx_MQ below (mQi g b KM Q (mA b KM s.heap.size)) (mEx g b KM (fun _ _ => False) (mA b KM s.heap.size)) args s 0 0 (mA b KM s.heap.size)) (F0 m 48 ls []) := by
  unfold w_X12_tide_48b at h
  refine m_iload (pc := 48) C.1 dX12_tide_48 hl 4 rfl ?_
  refine m_bipush (pc := 50) C.1 dX12_tide_50 rfl ?_
  refine m_icmp_gt (pc := 52) (tgt := 82) C.1 ox4 (by decide : okI 40) dX12_tide_52 (by decide) (fun hc => ?_) (fun hc => ?_)
  · replace h := h.1 hc
    exact hko82 r0 kr0 x3 ox3 S _ _ _ (lv_sub hl [0, 3] rfl) hW hS h
  · replace h := h.2 hc
    refine m_iload_n (pc := 55) C.1 dX12_tide_55 rfl hl 3 rfl ?_
    refine m_iconst (pc := 56) C.1 dX12_tide_56 ?_
    refine m_icmp_ne (pc := 57) (tgt := 82) C.1 ox3 (by decide : okI (-1)) dX12_tide_57 (by decide) (fun hc => ?_) (fun hc => ?_)
    · replace h := h.1 hc
      exact hko82 r0 kr0 x3 ox3 S _ _ _ (lv_sub hl [0, 3] rfl) hW hS h
    · replace h := h.2 hc
      refine m_aload_n (pc := 60) C.1 dX12_tide_60 rfl hl 0 rfl ?_
      refine m_callVi (pc := 61) C.1 C.2.2.1 hl.1 C.2.1 hW hS (As := []) (rest := []) (r := r0) (T_X12_lightOfAll C.2.2.2.2.2.2 N r0 kr0 h) kr0 rfl q_1663 q_1665 q_54 q_92 q_1666 pl_X12_lightOfAll (by decide) (Nat.le_of_ble_eq_true rfl) dX12_tide_61 (fun v1 S1 H locs ov1 h hW1 hS => ?_)
      refine m_iload_n (pc := 64) C.1 dX12_tide_64 rfl hl 1 rfl ?_
      refine m_icmp_lt (pc := 65) (tgt := 71) C.1 ov1 ox1 dX12_tide_65 (by decide) (fun hc => ?_) (fun hc => ?_)
      · replace h := h.1 hc
        exact W_X12_tide_71 C N hko48 r0 kr0 x1 ox1 x2 ox2 x3 ox3 x4 ox4 S1 _ _ _ (lv_sub hl [0, 1, 2, 3, 4] rfl) hW1 hS h
      · replace h := h.2 hc
        refine m_iload (pc := 68) C.1 dX12_tide_68 hl 4 rfl ?_
        refine m_istore_n (pc := 70) C.1 dX12_tide_70 rfl hl (by decide) (fun v => [(3, .int v), (0, .ref (b + r0)), (1, .int (mI x1)), (2, .int (mI x2)), (4, .int (mI x4))]) (fun _ => rfl) ox4 (fun v2 ls ev2 ov2 hl => ?_)
        replace h := h v2 ev2
        exact W_X12_tide_71 C N hko48 r0 kr0 x1 ox1 x2 ox2 v2 ov2 x4 ox4 S1 _ _ _ (lv_sub hl [1, 2, 3, 0, 4] rfl) hW1 hS h
def w_X12_tide_48 (N : Nat) (Q : mSt → Int → Prop) (ko82 : Nat → Int → mSt → Prop) : Nat → Nat → Int → Int → Int → Int → mSt → Prop
  | 0 => fun _ _ _ _ _ _ => False
  | k + 1 => w_X12_tide_48b N Q (w_X12_tide_48 N Q ko82 k) ko82
theorem W_X12_tide_48 (C : mC p l s m args meth c cX12_tide "MoonWashModel" 5 (some FieldType.int) g) (N : Nat) {Q : mSt → Int → Prop} {ko82 : Nat → Int → mSt → Prop} (hko82 : ∀ (r0 : Nat) (kr0 : KM r0 = (0, 10, 0)) (x3 : Int) (ox3 : okI x3) (S : mSt) (H : Heap) (locs : List Loc) (ls : Array Slot), lv_has ls 5 [(0, .ref (b + r0)), (3, .int (mI x3))] → mW g b KM S H → va_S (mA b KM s.heap.size) s.heap H locs → ko82 r0 x3 S → W p l e { frames := 123, cells := 0, slots := 0, locals := 3228 } s m args below meth c H locs 0 0 (vx_MQ below (mQi g b KM Q (mA b KM s.heap.size)) (mEx g b KM (fun _ _ => False) (mA b KM s.heap.size)) args s 0 0 (mA b KM s.heap.size)) (F0 m 82 ls [])) : ∀ (k : Nat) (r0 : Nat) (kr0 : KM r0 = (0, 10, 0)) (x1 : Int) (ox1 : okI x1) (x2 : Int) (ox2 : okI x2) (x3 : Int) (ox3 : okI x3) (x4 : Int) (ox4 : okI x4) (S : mSt) (H : Heap) (locs : List Loc) (ls : Array Slot) (hl : lv_has ls 5 [(0, .ref (b + r0)), (1, .int (mI x1)), (2, .int (mI x2)), (3, .int (mI x3)), (4, .int (mI x4))]) (hW : mW g b KM S H) (hS : va_S (mA b KM s.heap.size) s.heap H locs) (h : w_X12_tide_48 N Q ko82 k r0 x1 x2 x3 x4 S), W p l e { frames := 123, cells := 0, slots := 0, locals := 3228 } s m args below meth c H locs 0 0 (vx_MQ below (mQi g b KM Q (mA b KM s.heap.size)) (mEx g b KM (fun _ _ => False) (mA b KM s.heap.size)) args s 0 0 (mA b KM s.heap.size)) (F0 m 48 ls []) := by
  intro k
  induction k with
  | zero => intro r0 kr0 x1 ox1 x2 ox2 x3 ox3 x4 ox4 S H locs ls hl hW hS h; exact False.elim h
  | succ k ih => intro r0 kr0 x1 ox1 x2 ox2 x3 ox3 x4 ox4 S H locs ls hl hW hS h; exact W_X12_tide_48b C N ih hko82 r0 kr0 x1 ox1 x2 ox2 x3 ox3 x4 ox4 S H locs ls hl hW hS h
def w_X12_tide_82 (N : Nat) (Q : mSt → Int → Prop)  (r0 : Nat) (x3 : Int) (S : mSt) : Prop :=
  w_X12_comesBack N r0 S (fun (S1 : mSt) => Q S1 x3)
theorem W_X12_tide_82 (C : mC p l s m args meth c cX12_tide "MoonWashModel" 5 (some FieldType.int) g) (N : Nat) {Q : mSt → Int → Prop}   (r0 : Nat) (kr0 : KM r0 = (0, 10, 0)) (x3 : Int) (ox3 : okI x3) (S : mSt) (H : Heap) (locs : List Loc) (ls : Array Slot) (hl : lv_has ls 5 [(0, .ref (b + r0)), (3, .int (mI x3))]) (hW : mW g b KM S H) (hS : va_S (mA b KM s.heap.size) s.heap H locs) (h : w_X12_tide_82 N Q  r0 x3 S) : W p l e { frames := 123, cells := 0, slots := 0, locals := 3228 } s m args below meth c H locs 0 0 (vx_MQ below (mQi g b KM Q (mA b KM s.heap.size)) (mEx g b KM (fun _ _ => False) (mA b KM s.heap.size)) args s 0 0 (mA b KM s.heap.size)) (F0 m 82 ls []) := by
  unfold w_X12_tide_82 at h
  refine m_aload_n (pc := 82) C.1 dX12_tide_82 rfl hl 0 rfl ?_
  refine m_callVv (pc := 83) C.1 C.2.2.1 hl.1 C.2.1 hW hS (As := []) (rest := []) (r := r0) (T_X12_comesBack C.2.2.2.2.2.2 N r0 kr0 h) kr0 rfl q_1610 q_1612 q_47 q_92 q_1613 pl_X12_comesBack (by decide) (Nat.le_of_ble_eq_true rfl) dX12_tide_83 (fun S1 H locs h hW1 hS => ?_)
  refine m_iload_n (pc := 86) C.1 dX12_tide_86 rfl hl 1 rfl ?_
  exact m_iret (pc := 87) C.1 C.2.2.2.1 C.2.2.2.2.1 hW1 hS ox3 h (by decide) (by decide) dX12_tide_87
def w_X12_tide_27 (N : Nat) (Q : mSt → Int → Prop)  (r0 : Nat) (x1 : Int) (x2 : Int) (xs0 : Int) (rs1 : Nat) (S : mSt) : Prop :=
  ∀ S1 : mSt, S1 = mup S rs1 0 xs0 → (((S1 r0 0) ≤ 0 → w_X12_putsAside N r0 S1 (fun (S2 : mSt) => ∀ v3 : Int, v3 = (-1) → ∀ v4 : Int, v4 = 0 → w_X12_tide_48 N Q (fun (r0_5 : Nat) (x3_5 : Int) (S_5 : mSt) => w_X12_tide_82 N Q  r0_5 x3_5 S_5) N r0 x1 x2 v3 v4 S2)) ∧ (0 < (S1 r0 0) → Q S1 0))
theorem W_X12_tide_27 (C : mC p l s m args meth c cX12_tide "MoonWashModel" 5 (some FieldType.int) g) (N : Nat) {Q : mSt → Int → Prop}   (r0 : Nat) (kr0 : KM r0 = (0, 10, 0)) (x1 : Int) (ox1 : okI x1) (x2 : Int) (ox2 : okI x2) (xs0 : Int) (oxs0 : okI xs0) (rs1 : Nat) (krs1 : KM rs1 = (0, 10, 0)) (S : mSt) (H : Heap) (locs : List Loc) (ls : Array Slot) (hl : lv_has ls 5 [(0, .ref (b + r0)), (1, .int (mI x1)), (2, .int (mI x2))]) (hW : mW g b KM S H) (hS : va_S (mA b KM s.heap.size) s.heap H locs) (h : w_X12_tide_27 N Q  r0 x1 x2 xs0 rs1 S) : W p l e { frames := 123, cells := 0, slots := 0, locals := 3228 } s m args below meth c H locs 0 0 (vx_MQ below (mQi g b KM Q (mA b KM s.heap.size)) (mEx g b KM (fun _ _ => False) (mA b KM s.heap.size)) args s 0 0 (mA b KM s.heap.size)) (F0 m 27 ls [.int (mI xs0), .ref (b + rs1)]) := by
  unfold w_X12_tide_27 at h
  refine p_10_0 (pc := 27) C hW hS krs1 q_1383 oxs0 dX12_tide_27 (fun S1 H locs e1 hW1 hS => ?_)
  replace h := h S1 e1
  refine m_aload_n (pc := 30) C.1 dX12_tide_30 rfl hl 0 rfl ?_
  refine g_10_0 (pc := 31) C hW1 kr0 q_1383 dX12_tide_31 ?_
  refine m_if_le (pc := 34) (tgt := 39) C.1 (hW1.2.1 _ _) dX12_tide_34 (by decide) (fun hc => ?_) (fun hc => ?_)
  · replace h := h.1 hc
    refine m_aload_n (pc := 39) C.1 dX12_tide_39 rfl hl 0 rfl ?_
    refine m_callVv (pc := 40) C.1 C.2.2.1 hl.1 C.2.1 hW1 hS (As := []) (rest := []) (r := r0) (T_X12_putsAside C.2.2.2.2.2.2 N r0 kr0 h) kr0 rfl q_1482 q_1484 q_23 q_92 q_1485 pl_X12_putsAside (by decide) (Nat.le_of_ble_eq_true rfl) dX12_tide_40 (fun S2 H locs h hW2 hS => ?_)
    refine m_iconst (pc := 43) C.1 dX12_tide_43 ?_
    refine m_istore_n (pc := 44) C.1 dX12_tide_44 rfl hl (by decide) (fun v => [(3, .int v), (0, .ref (b + r0)), (1, .int (mI x1)), (2, .int (mI x2))]) (fun _ => rfl) (by decide : okI (-1)) (fun v3 ls ev3 ov3 hl => ?_)
    replace h := h v3 ev3
    refine m_iconst (pc := 45) C.1 dX12_tide_45 ?_
    refine m_istore (pc := 46) C.1 dX12_tide_46 hl (by decide) (fun v => [(4, .int v), (3, .int (mI v3)), (0, .ref (b + r0)), (1, .int (mI x1)), (2, .int (mI x2))]) (fun _ => rfl) (by decide : okI 0) (fun v4 ls ev4 ov4 hl => ?_)
    replace h := h v4 ev4
    refine W_X12_tide_48 C N ?_ N r0 kr0 x1 ox1 x2 ox2 v3 ov3 v4 ov4 S2 _ _ _ (lv_sub hl [2, 3, 4, 1, 0] rfl) hW2 hS h
    · intro r0_5 kr0_5 x3_5 ox3_5 S_5 H locs ls hl hW_5 hS h
      exact W_X12_tide_82 C N  r0_5 kr0_5 x3_5 ox3_5 S_5 _ _ _ (lv_sub hl [0, 1] rfl) hW_5 hS h
  · replace h := h.2 hc
    refine m_iconst (pc := 37) C.1 dX12_tide_37 ?_
    exact m_iret (pc := 38) C.1 C.2.2.2.1 C.2.2.2.2.1 hW1 hS (by decide : okI 0) h (by decide) (by decide) dX12_tide_38
def w_X12_tide_22 (N : Nat) (Q : mSt → Int → Prop)  (r0 : Nat) (x1 : Int) (x2 : Int) (rs0 : Nat) (S : mSt) : Prop :=
  w_X12_tide_27 N Q  r0 x1 x2 1 rs0 S
theorem W_X12_tide_22 (C : mC p l s m args meth c cX12_tide "MoonWashModel" 5 (some FieldType.int) g) (N : Nat) {Q : mSt → Int → Prop}   (r0 : Nat) (kr0 : KM r0 = (0, 10, 0)) (x1 : Int) (ox1 : okI x1) (x2 : Int) (ox2 : okI x2) (rs0 : Nat) (krs0 : KM rs0 = (0, 10, 0)) (S : mSt) (H : Heap) (locs : List Loc) (ls : Array Slot) (hl : lv_has ls 5 [(0, .ref (b + r0)), (1, .int (mI x1)), (2, .int (mI x2))]) (hW : mW g b KM S H) (hS : va_S (mA b KM s.heap.size) s.heap H locs) (h : w_X12_tide_22 N Q  r0 x1 x2 rs0 S) : W p l e { frames := 123, cells := 0, slots := 0, locals := 3228 } s m args below meth c H locs 0 0 (vx_MQ below (mQi g b KM Q (mA b KM s.heap.size)) (mEx g b KM (fun _ _ => False) (mA b KM s.heap.size)) args s 0 0 (mA b KM s.heap.size)) (F0 m 22 ls [.ref (b + rs0)]) := by
  unfold w_X12_tide_22 at h
  refine m_iconst (pc := 22) C.1 dX12_tide_22 ?_
  refine m_goto (pc := 23) (tgt := 27) C.1 dX12_tide_23 (by decide) ?_
  exact W_X12_tide_27 C N  r0 kr0 x1 ox1 x2 ox2 1 (by decide : okI 1) rs0 krs0 S _ _ _ (lv_sub hl [0, 1, 2] rfl) hW hS h
end
def w_X12_tide (N : Nat) (r0 : Nat) (x1 : Int) (x2 : Int) (S : mSt) (Q : mSt → Int → Prop) : Prop :=
  w_X12_isIn N x1 0 160 S (fun (S1 : mSt) (v1 : Int) => ((v1 = 0 → w_X12_tide_22 N Q  r0 x1 x2 r0 S1) ∧ (v1 ≠ 0 → w_X12_isIn N x2 0 9 S1 (fun (S2 : mSt) (v2 : Int) => ((v2 ≠ 0 → w_X12_tide_27 N Q  r0 x1 x2 0 r0 S2) ∧ (v2 = 0 → w_X12_tide_22 N Q  r0 x1 x2 r0 S2))))))
theorem T_X12_tide {l : Launch} (hl0 : l.stackTraces = false) {g : mG} {b : Nat} (N : Nat) (r0 : Nat) (kr0 : KM r0 = (0, 10, 0)) (x1 : Int) (ox1 : okI x1) (x2 : Int) (ox2 : okI x2) {S : mSt} {Q : mSt → Int → Prop} (h : w_X12_tide N r0 x1 x2 S Q) (sz : Nat) : vx_Met l yX12_tide (Cond.code yX12_tide cX12_tide 5 (some FieldType.int) :: wsG) { frames := 123, cells := 0, slots := 0, locals := 3228 } (mPc g b KM S [.ref (b + r0), .int (mI x1), .int (mI x2)] sz) (mQi g b KM Q (mA b KM sz)) (mEx g b KM (fun _ _ => False) (mA b KM sz)) 0 0 (mA b KM sz) :=
  m_of (av := [.ref (b + r0), .int (mI x1), .int (mI x2)]) (Qf := fun A => mQi g b KM Q A) (Xf := fun A => mEx g b KM (fun _ _ => False) A) (by decide) (Nat.le_of_ble_eq_true rfl) (fun p e s m args below meth c ls X hK hml hr hlk hout hnm hW hl => by
    have C : mC p l s m args meth c cX12_tide "MoonWashModel" 5 (some FieldType.int) g := ⟨X, hK, hml, hr, hlk, hout, hl0⟩
    have hS : va_S (mA b KM s.heap.size) s.heap s.heap [] := va_S.rf
    have hl : lv_has ls 5 [(0, .ref (b + r0)), (1, .int (mI x1)), (2, .int (mI x2))] := hl
    unfold w_X12_tide at h
    refine m_aload_n (pc := 0) C.1 dX12_tide_0 rfl hl 0 rfl ?_
    refine m_iload_n (pc := 1) C.1 dX12_tide_1 rfl hl 1 rfl ?_
    refine m_iconst (pc := 2) C.1 dX12_tide_2 ?_
    refine m_sipush (pc := 3) C.1 dX12_tide_3 rfl ?_
    refine m_callSi (pc := 6) C.1 C.2.2.1 hl.1 C.2.1 hW hS (As := [.int (mI x1), .int (mI 0), .int (mI 160)]) (rest := [.ref (b + r0)]) (T_X12_isIn C.2.2.2.2.2.2 N x1 ox1 0 (by decide : okI 0) 160 (by decide : okI 160) h) q_1475 q_1476 q_92 q_1477 pl_X12_isIn (by decide) (Nat.le_of_ble_eq_true rfl) dX12_tide_6 (fun v1 S1 H locs ov1 h hW1 hS => ?_)
    refine m_if_eq (pc := 9) (tgt := 22) C.1 ov1 dX12_tide_9 (by decide) (fun hc => ?_) (fun hc => ?_)
    · replace h := h.1 hc
      exact W_X12_tide_22 C N  r0 kr0 x1 ox1 x2 ox2 r0 kr0 S1 _ _ _ (lv_sub hl [0, 1, 2] rfl) hW1 hS h
    · replace h := h.2 hc
      refine m_iload_n (pc := 12) C.1 dX12_tide_12 rfl hl 2 rfl ?_
      refine m_iconst (pc := 13) C.1 dX12_tide_13 ?_
      refine m_bipush (pc := 14) C.1 dX12_tide_14 rfl ?_
      refine m_callSi (pc := 16) C.1 C.2.2.1 hl.1 C.2.1 hW1 hS (As := [.int (mI x2), .int (mI 0), .int (mI 9)]) (rest := [.ref (b + r0)]) (T_X12_isIn C.2.2.2.2.2.2 N x2 ox2 0 (by decide : okI 0) 9 (by decide : okI 9) h) q_1475 q_1476 q_92 q_1477 pl_X12_isIn (by decide) (Nat.le_of_ble_eq_true rfl) dX12_tide_16 (fun v2 S2 H locs ov2 h hW2 hS => ?_)
      refine m_if_ne (pc := 19) (tgt := 26) C.1 ov2 dX12_tide_19 (by decide) (fun hc => ?_) (fun hc => ?_)
      · replace h := h.1 hc
        refine m_iconst (pc := 26) C.1 dX12_tide_26 ?_
        exact W_X12_tide_27 C N  r0 kr0 x1 ox1 x2 ox2 0 (by decide : okI 0) r0 kr0 S2 _ _ _ (lv_sub hl [0, 1, 2] rfl) hW2 hS h
      · replace h := h.2 hc
        exact W_X12_tide_22 C N  r0 kr0 x1 ox1 x2 ox2 r0 kr0 S2 _ _ _ (lv_sub hl [0, 1, 2] rfl) hW2 hS h) sz
section
variable {p : Program} {l : Launch} {e : Env} {s : State} {m : MethodId} {args : Array Value} {below : List Frame} {meth : Method} {c : Code} {g : mG} {b : Nat}
def w_X12_late_119 (N : Nat) (Q : mSt → Int → Prop) (ko61 : Nat → Int → Int → Int → Int → Int → Int → mSt → Prop) (r0 : Nat) (x1 : Int) (x2 : Int) (x4 : Int) (x5 : Int) (x6 : Int) (xs0 : Int) (xs1 : Int) (S : mSt) : Prop :=
  ∀ v1 : Int, v1 = (bOr xs1 xs0) → ∀ v2 : Int, v2 = nm (x6 + 1) → ko61 r0 x1 x2 v1 x4 x5 v2 S
theorem W_X12_late_119 (C : mC p l s m args meth c cX12_late "MoonWashModel" 7 (some FieldType.int) g) (N : Nat) {Q : mSt → Int → Prop} {ko61 : Nat → Int → Int → Int → Int → Int → Int → mSt → Prop} (hko61 : ∀ (r0 : Nat) (kr0 : KM r0 = (0, 10, 0)) (x1 : Int) (ox1 : okI x1) (x2 : Int) (ox2 : okI x2) (x3 : Int) (ox3 : okI x3) (x4 : Int) (ox4 : okI x4) (x5 : Int) (ox5 : okI x5) (x6 : Int) (ox6 : okI x6) (S : mSt) (H : Heap) (locs : List Loc) (ls : Array Slot), lv_has ls 7 [(0, .ref (b + r0)), (1, .int (mI x1)), (2, .int (mI x2)), (3, .int (mI x3)), (4, .int (mI x4)), (5, .int (mI x5)), (6, .int (mI x6))] → mW g b KM S H → va_S (mA b KM s.heap.size) s.heap H locs → ko61 r0 x1 x2 x3 x4 x5 x6 S → W p l e { frames := 123, cells := 0, slots := 0, locals := 3228 } s m args below meth c H locs 0 0 (vx_MQ below (mQi g b KM Q (mA b KM s.heap.size)) (mEx g b KM (fun _ _ => False) (mA b KM s.heap.size)) args s 0 0 (mA b KM s.heap.size)) (F0 m 61 ls [])) (r0 : Nat) (kr0 : KM r0 = (0, 10, 0)) (x1 : Int) (ox1 : okI x1) (x2 : Int) (ox2 : okI x2) (x4 : Int) (ox4 : okI x4) (x5 : Int) (ox5 : okI x5) (x6 : Int) (ox6 : okI x6) (xs0 : Int) (oxs0 : okI xs0) (xs1 : Int) (oxs1 : okI xs1) (S : mSt) (H : Heap) (locs : List Loc) (ls : Array Slot) (hl : lv_has ls 7 [(0, .ref (b + r0)), (1, .int (mI x1)), (2, .int (mI x2)), (4, .int (mI x4)), (5, .int (mI x5)), (6, .int (mI x6))]) (hW : mW g b KM S H) (hS : va_S (mA b KM s.heap.size) s.heap H locs) (h : w_X12_late_119 N Q ko61 r0 x1 x2 x4 x5 x6 xs0 xs1 S) : W p l e { frames := 123, cells := 0, slots := 0, locals := 3228 } s m args below meth c H locs 0 0 (vx_MQ below (mQi g b KM Q (mA b KM s.heap.size)) (mEx g b KM (fun _ _ => False) (mA b KM s.heap.size)) args s 0 0 (mA b KM s.heap.size)) (F0 m 119 ls [.int (mI xs0), .int (mI xs1)]) := by
  unfold w_X12_late_119 at h
  refine m_ior (pc := 119) C.1 dX12_late_119 ?_
  refine m_istore_n (pc := 120) C.1 dX12_late_120 rfl hl (by decide) (fun v => [(3, .int v), (0, .ref (b + r0)), (1, .int (mI x1)), (2, .int (mI x2)), (4, .int (mI x4)), (5, .int (mI x5)), (6, .int (mI x6))]) (fun _ => rfl) (bOr_ok _ _) (fun v1 ls ev1 ov1 hl => ?_)
  replace h := h v1 ev1
  refine m_iinc (pc := 121) C.1 dX12_late_121 hl (by decide) (q0 := 6) rfl (fun v => [(6, .int v), (3, .int (mI v1)), (0, .ref (b + r0)), (1, .int (mI x1)), (2, .int (mI x2)), (4, .int (mI x4)), (5, .int (mI x5))]) (fun _ => rfl) (fun v2 ls ev2 ov2 hl => ?_)
  replace h := h v2 ev2
  refine m_goto (pc := 124) (tgt := 61) C.1 dX12_late_124 (by decide) ?_
  exact hko61 r0 kr0 x1 ox1 x2 ox2 v1 ov1 x4 ox4 x5 ox5 v2 ov2 S _ _ _ (lv_sub hl [2, 3, 4, 1, 5, 6, 0] rfl) hW hS h
def w_X12_late_118 (N : Nat) (Q : mSt → Int → Prop) (ko61 : Nat → Int → Int → Int → Int → Int → Int → mSt → Prop) (r0 : Nat) (x1 : Int) (x2 : Int) (x4 : Int) (x5 : Int) (x6 : Int) (xs0 : Int) (S : mSt) : Prop :=
  w_X12_late_119 N Q ko61 r0 x1 x2 x4 x5 x6 0 xs0 S
theorem W_X12_late_118 (C : mC p l s m args meth c cX12_late "MoonWashModel" 7 (some FieldType.int) g) (N : Nat) {Q : mSt → Int → Prop} {ko61 : Nat → Int → Int → Int → Int → Int → Int → mSt → Prop} (hko61 : ∀ (r0 : Nat) (kr0 : KM r0 = (0, 10, 0)) (x1 : Int) (ox1 : okI x1) (x2 : Int) (ox2 : okI x2) (x3 : Int) (ox3 : okI x3) (x4 : Int) (ox4 : okI x4) (x5 : Int) (ox5 : okI x5) (x6 : Int) (ox6 : okI x6) (S : mSt) (H : Heap) (locs : List Loc) (ls : Array Slot), lv_has ls 7 [(0, .ref (b + r0)), (1, .int (mI x1)), (2, .int (mI x2)), (3, .int (mI x3)), (4, .int (mI x4)), (5, .int (mI x5)), (6, .int (mI x6))] → mW g b KM S H → va_S (mA b KM s.heap.size) s.heap H locs → ko61 r0 x1 x2 x3 x4 x5 x6 S → W p l e { frames := 123, cells := 0, slots := 0, locals := 3228 } s m args below meth c H locs 0 0 (vx_MQ below (mQi g b KM Q (mA b KM s.heap.size)) (mEx g b KM (fun _ _ => False) (mA b KM s.heap.size)) args s 0 0 (mA b KM s.heap.size)) (F0 m 61 ls [])) (r0 : Nat) (kr0 : KM r0 = (0, 10, 0)) (x1 : Int) (ox1 : okI x1) (x2 : Int) (ox2 : okI x2) (x4 : Int) (ox4 : okI x4) (x5 : Int) (ox5 : okI x5) (x6 : Int) (ox6 : okI x6) (xs0 : Int) (oxs0 : okI xs0) (S : mSt) (H : Heap) (locs : List Loc) (ls : Array Slot) (hl : lv_has ls 7 [(0, .ref (b + r0)), (1, .int (mI x1)), (2, .int (mI x2)), (4, .int (mI x4)), (5, .int (mI x5)), (6, .int (mI x6))]) (hW : mW g b KM S H) (hS : va_S (mA b KM s.heap.size) s.heap H locs) (h : w_X12_late_118 N Q ko61 r0 x1 x2 x4 x5 x6 xs0 S) : W p l e { frames := 123, cells := 0, slots := 0, locals := 3228 } s m args below meth c H locs 0 0 (vx_MQ below (mQi g b KM Q (mA b KM s.heap.size)) (mEx g b KM (fun _ _ => False) (mA b KM s.heap.size)) args s 0 0 (mA b KM s.heap.size)) (F0 m 118 ls [.int (mI xs0)]) := by
  unfold w_X12_late_118 at h
  refine m_iconst (pc := 118) C.1 dX12_late_118 ?_
  exact W_X12_late_119 C N hko61 r0 kr0 x1 ox1 x2 ox2 x4 ox4 x5 ox5 x6 ox6 0 (by decide : okI 0) xs0 oxs0 S _ _ _ (lv_sub hl [0, 1, 2, 3, 4, 5] rfl) hW hS h
def w_X12_late_61b (N : Nat) (Q : mSt → Int → Prop) (ko61 : Nat → Int → Int → Int → Int → Int → Int → mSt → Prop) (ko127 : Nat → Int → Int → Int → Int → mSt → Prop) (r0 : Nat) (x1 : Int) (x2 : Int) (x3 : Int) (x4 : Int) (x5 : Int) (x6 : Int) (S : mSt) : Prop :=
  (((S (r0 + 1) 4) ≤ x6 → ko127 r0 x1 x2 x3 x4 S) ∧ (x6 < (S (r0 + 1) 4) → (0 ≤ (nm (94 + (nm (2 * x6)))) ∧ (nm (94 + (nm (2 * x6)))) < 750 ∧ (((S (r0 + 1) (nm (94 + (nm (2 * x6))))) ≠ (nm (x2 + x4)) → w_X12_late_118 N Q ko61 r0 x1 x2 x4 x5 x6 x3 S) ∧ ((S (r0 + 1) (nm (94 + (nm (2 * x6))))) = (nm (x2 + x4)) → (0 ≤ (nm ((nm (94 + (nm (2 * x6)))) + 1)) ∧ (nm ((nm (94 + (nm (2 * x6)))) + 1)) < 750 ∧ (((S (r0 + 1) (nm ((nm (94 + (nm (2 * x6)))) + 1))) ≤ x5 → w_X12_late_118 N Q ko61 r0 x1 x2 x4 x5 x6 x3 S) ∧ (x5 < (S (r0 + 1) (nm ((nm (94 + (nm (2 * x6)))) + 1))) → w_X12_late_119 N Q ko61 r0 x1 x2 x4 x5 x6 (bShl 1 x6) x3 S))))))))
theorem W_X12_late_61b (C : mC p l s m args meth c cX12_late "MoonWashModel" 7 (some FieldType.int) g) (N : Nat) {Q : mSt → Int → Prop} {ko61 : Nat → Int → Int → Int → Int → Int → Int → mSt → Prop} {ko127 : Nat → Int → Int → Int → Int → mSt → Prop} (hko61 : ∀ (r0 : Nat) (kr0 : KM r0 = (0, 10, 0)) (x1 : Int) (ox1 : okI x1) (x2 : Int) (ox2 : okI x2) (x3 : Int) (ox3 : okI x3) (x4 : Int) (ox4 : okI x4) (x5 : Int) (ox5 : okI x5) (x6 : Int) (ox6 : okI x6) (S : mSt) (H : Heap) (locs : List Loc) (ls : Array Slot), lv_has ls 7 [(0, .ref (b + r0)), (1, .int (mI x1)), (2, .int (mI x2)), (3, .int (mI x3)), (4, .int (mI x4)), (5, .int (mI x5)), (6, .int (mI x6))] → mW g b KM S H → va_S (mA b KM s.heap.size) s.heap H locs → ko61 r0 x1 x2 x3 x4 x5 x6 S → W p l e { frames := 123, cells := 0, slots := 0, locals := 3228 } s m args below meth c H locs 0 0 (vx_MQ below (mQi g b KM Q (mA b KM s.heap.size)) (mEx g b KM (fun _ _ => False) (mA b KM s.heap.size)) args s 0 0 (mA b KM s.heap.size)) (F0 m 61 ls [])) (hko127 : ∀ (r0 : Nat) (kr0 : KM r0 = (0, 10, 0)) (x1 : Int) (ox1 : okI x1) (x2 : Int) (ox2 : okI x2) (x3 : Int) (ox3 : okI x3) (x4 : Int) (ox4 : okI x4) (S : mSt) (H : Heap) (locs : List Loc) (ls : Array Slot), lv_has ls 7 [(0, .ref (b + r0)), (1, .int (mI x1)), (2, .int (mI x2)), (3, .int (mI x3)), (4, .int (mI x4))] → mW g b KM S H → va_S (mA b KM s.heap.size) s.heap H locs → ko127 r0 x1 x2 x3 x4 S → W p l e { frames := 123, cells := 0, slots := 0, locals := 3228 } s m args below meth c H locs 0 0 (vx_MQ below (mQi g b KM Q (mA b KM s.heap.size)) (mEx g b KM (fun _ _ => False) (mA b KM s.heap.size)) args s 0 0 (mA b KM s.heap.size)) (F0 m 127 ls [])) (r0 : Nat) (kr0 : KM r0 = (0, 10, 0)) (x1 : Int) (ox1 : okI x1) (x2 : Int) (ox2 : okI x2) (x3 : Int) (ox3 : okI x3) (x4 : Int) (ox4 : okI x4) (x5 : Int) (ox5 : okI x5) (x6 : Int) (ox6 : okI x6) (S : mSt) (H : Heap) (locs : List Loc) (ls : Array Slot) (hl : lv_has ls 7 [(0, .ref (b + r0)), (1, .int (mI x1)), (2, .int (mI x2)), (3, .int (mI x3)), (4, .int (mI x4)), (5, .int (mI x5)), (6, .int (mI x6))]) (hW : mW g b KM S H) (hS : va_S (mA b KM s.heap.size) s.heap H locs) (h : w_X12_late_61b N Q ko61 ko127 r0 x1 x2 x3 x4 x5 x6 S) : W p l e { frames := 123, cells := 0, slots := 0, locals := 3228 } s m args below meth c H locs 0 0 (vx_MQ below (mQi g b KM Q (mA b KM s.heap.size)) (mEx g b KM (fun _ _ => False) (mA b KM s.heap.size)) args s 0 0 (mA b KM s.heap.size)) (F0 m 61 ls []) := by
  unfold w_X12_late_61b at h
  refine m_iload (pc := 61) C.1 dX12_late_61 hl 6 rfl ?_
  refine m_aload_n (pc := 63) C.1 dX12_late_63 rfl hl 0 rfl ?_
  refine g_10_1 (pc := 64) C hW kr0 q_1384 dX12_late_64 ?_
  refine m_iconst (pc := 67) C.1 dX12_late_67 ?_
  refine m_iald (pc := 68) C.1 C.2.1 hW (k_10_1 kr0) (by decide : okI 4) (by decide) (by decide) dX12_late_68 ?_
  refine m_icmp_ge (pc := 69) (tgt := 127) C.1 ox6 (hW.2.1 _ _) dX12_late_69 (by decide) (fun hc => ?_) (fun hc => ?_)
  · replace h := h.1 hc
    exact hko127 r0 kr0 x1 ox1 x2 ox2 x3 ox3 x4 ox4 S _ _ _ (lv_sub hl [0, 1, 2, 3, 4] rfl) hW hS h
  · replace h := h.2 hc
    refine m_iload_n (pc := 72) C.1 dX12_late_72 rfl hl 3 rfl ?_
    refine m_aload_n (pc := 73) C.1 dX12_late_73 rfl hl 0 rfl ?_
    refine g_10_1 (pc := 74) C hW kr0 q_1384 dX12_late_74 ?_
    refine m_bipush (pc := 77) C.1 dX12_late_77 rfl ?_
    refine m_iconst (pc := 79) C.1 dX12_late_79 ?_
    refine m_iload (pc := 80) C.1 dX12_late_80 hl 6 rfl ?_
    refine m_imul (pc := 82) C.1 dX12_late_82 ?_
    refine m_iadd (pc := 83) C.1 dX12_late_83 ?_
    obtain ⟨hb1a, hb1b, h⟩ := h
    refine m_iald (pc := 84) C.1 C.2.1 hW (k_10_1 kr0) (nm_ok _) hb1a hb1b dX12_late_84 ?_
    refine m_iload_n (pc := 85) C.1 dX12_late_85 rfl hl 2 rfl ?_
    refine m_iload (pc := 86) C.1 dX12_late_86 hl 4 rfl ?_
    refine m_iadd (pc := 88) C.1 dX12_late_88 ?_
    refine m_icmp_ne (pc := 89) (tgt := 118) C.1 (hW.2.1 _ _) (nm_ok _) dX12_late_89 (by decide) (fun hc => ?_) (fun hc => ?_)
    · replace h := h.1 hc
      exact W_X12_late_118 C N hko61 r0 kr0 x1 ox1 x2 ox2 x4 ox4 x5 ox5 x6 ox6 x3 ox3 S _ _ _ (lv_sub hl [0, 1, 2, 4, 5, 6] rfl) hW hS h
    · replace h := h.2 hc
      refine m_iload (pc := 92) C.1 dX12_late_92 hl 5 rfl ?_
      refine m_aload_n (pc := 94) C.1 dX12_late_94 rfl hl 0 rfl ?_
      refine g_10_1 (pc := 95) C hW kr0 q_1384 dX12_late_95 ?_
      refine m_bipush (pc := 98) C.1 dX12_late_98 rfl ?_
      refine m_iconst (pc := 100) C.1 dX12_late_100 ?_
      refine m_iload (pc := 101) C.1 dX12_late_101 hl 6 rfl ?_
      refine m_imul (pc := 103) C.1 dX12_late_103 ?_
      refine m_iadd (pc := 104) C.1 dX12_late_104 ?_
      refine m_iconst (pc := 105) C.1 dX12_late_105 ?_
      refine m_iadd (pc := 106) C.1 dX12_late_106 ?_
      obtain ⟨hb2a, hb2b, h⟩ := h
      refine m_iald (pc := 107) C.1 C.2.1 hW (k_10_1 kr0) (nm_ok _) hb2a hb2b dX12_late_107 ?_
      refine m_icmp_ge (pc := 108) (tgt := 118) C.1 ox5 (hW.2.1 _ _) dX12_late_108 (by decide) (fun hc => ?_) (fun hc => ?_)
      · replace h := h.1 hc
        exact W_X12_late_118 C N hko61 r0 kr0 x1 ox1 x2 ox2 x4 ox4 x5 ox5 x6 ox6 x3 ox3 S _ _ _ (lv_sub hl [0, 1, 2, 4, 5, 6] rfl) hW hS h
      · replace h := h.2 hc
        refine m_iconst (pc := 111) C.1 dX12_late_111 ?_
        refine m_iload (pc := 112) C.1 dX12_late_112 hl 6 rfl ?_
        refine m_ishl (pc := 114) C.1 dX12_late_114 ?_
        refine m_goto (pc := 115) (tgt := 119) C.1 dX12_late_115 (by decide) ?_
        exact W_X12_late_119 C N hko61 r0 kr0 x1 ox1 x2 ox2 x4 ox4 x5 ox5 x6 ox6 (bShl 1 x6) (bShl_ok _ _) x3 ox3 S _ _ _ (lv_sub hl [0, 1, 2, 4, 5, 6] rfl) hW hS h
def w_X12_late_61 (N : Nat) (Q : mSt → Int → Prop) (ko127 : Nat → Int → Int → Int → Int → mSt → Prop) : Nat → Nat → Int → Int → Int → Int → Int → Int → mSt → Prop
  | 0 => fun _ _ _ _ _ _ _ _ => False
  | k + 1 => w_X12_late_61b N Q (w_X12_late_61 N Q ko127 k) ko127
theorem W_X12_late_61 (C : mC p l s m args meth c cX12_late "MoonWashModel" 7 (some FieldType.int) g) (N : Nat) {Q : mSt → Int → Prop} {ko127 : Nat → Int → Int → Int → Int → mSt → Prop} (hko127 : ∀ (r0 : Nat) (kr0 : KM r0 = (0, 10, 0)) (x1 : Int) (ox1 : okI x1) (x2 : Int) (ox2 : okI x2) (x3 : Int) (ox3 : okI x3) (x4 : Int) (ox4 : okI x4) (S : mSt) (H : Heap) (locs : List Loc) (ls : Array Slot), lv_has ls 7 [(0, .ref (b + r0)), (1, .int (mI x1)), (2, .int (mI x2)), (3, .int (mI x3)), (4, .int (mI x4))] → mW g b KM S H → va_S (mA b KM s.heap.size) s.heap H locs → ko127 r0 x1 x2 x3 x4 S → W p l e { frames := 123, cells := 0, slots := 0, locals := 3228 } s m args below meth c H locs 0 0 (vx_MQ below (mQi g b KM Q (mA b KM s.heap.size)) (mEx g b KM (fun _ _ => False) (mA b KM s.heap.size)) args s 0 0 (mA b KM s.heap.size)) (F0 m 127 ls [])) : ∀ (k : Nat) (r0 : Nat) (kr0 : KM r0 = (0, 10, 0)) (x1 : Int) (ox1 : okI x1) (x2 : Int) (ox2 : okI x2) (x3 : Int) (ox3 : okI x3) (x4 : Int) (ox4 : okI x4) (x5 : Int) (ox5 : okI x5) (x6 : Int) (ox6 : okI x6) (S : mSt) (H : Heap) (locs : List Loc) (ls : Array Slot) (hl : lv_has ls 7 [(0, .ref (b + r0)), (1, .int (mI x1)), (2, .int (mI x2)), (3, .int (mI x3)), (4, .int (mI x4)), (5, .int (mI x5)), (6, .int (mI x6))]) (hW : mW g b KM S H) (hS : va_S (mA b KM s.heap.size) s.heap H locs) (h : w_X12_late_61 N Q ko127 k r0 x1 x2 x3 x4 x5 x6 S), W p l e { frames := 123, cells := 0, slots := 0, locals := 3228 } s m args below meth c H locs 0 0 (vx_MQ below (mQi g b KM Q (mA b KM s.heap.size)) (mEx g b KM (fun _ _ => False) (mA b KM s.heap.size)) args s 0 0 (mA b KM s.heap.size)) (F0 m 61 ls []) := by
  intro k
  induction k with
  | zero => intro r0 kr0 x1 ox1 x2 ox2 x3 ox3 x4 ox4 x5 ox5 x6 ox6 S H locs ls hl hW hS h; exact False.elim h
  | succ k ih => intro r0 kr0 x1 ox1 x2 ox2 x3 ox3 x4 ox4 x5 ox5 x6 ox6 S H locs ls hl hW hS h; exact W_X12_late_61b C N ih hko127 r0 kr0 x1 ox1 x2 ox2 x3 ox3 x4 ox4 x5 ox5 x6 ox6 S H locs ls hl hW hS h
def w_X12_late_45b (N : Nat) (Q : mSt → Int → Prop) (ko45 : Nat → Int → Int → Int → Int → mSt → Prop) (ko138 : Nat → Int → mSt → Prop) (r0 : Nat) (x1 : Int) (x2 : Int) (x3 : Int) (x4 : Int) (S : mSt) : Prop :=
  ((40 < x4 → ko138 r0 x3 S) ∧ (x4 ≤ 40 → w_X12_lightOfAll N r0 S (fun (S1 : mSt) (v1 : Int) => ∀ v2 : Int, v2 = v1 → ∀ v3 : Int, v3 = 0 → w_X12_late_61 N Q (fun (r0_4 : Nat) (x1_4 : Int) (x2_4 : Int) (x3_4 : Int) (x4_4 : Int) (S_4 : mSt) => w_X12_ahead N r0_4 x1_4 S_4 (fun (S5 : mSt) => ∀ v6 : Int, v6 = nm (x4_4 + 1) → ko45 r0_4 x1_4 x2_4 x3_4 v6 S5)) N r0 x1 x2 x3 x4 v2 v3 S1)))
theorem W_X12_late_45b (C : mC p l s m args meth c cX12_late "MoonWashModel" 7 (some FieldType.int) g) (N : Nat) {Q : mSt → Int → Prop} {ko45 : Nat → Int → Int → Int → Int → mSt → Prop} {ko138 : Nat → Int → mSt → Prop} (hko45 : ∀ (r0 : Nat) (kr0 : KM r0 = (0, 10, 0)) (x1 : Int) (ox1 : okI x1) (x2 : Int) (ox2 : okI x2) (x3 : Int) (ox3 : okI x3) (x4 : Int) (ox4 : okI x4) (S : mSt) (H : Heap) (locs : List Loc) (ls : Array Slot), lv_has ls 7 [(0, .ref (b + r0)), (1, .int (mI x1)), (2, .int (mI x2)), (3, .int (mI x3)), (4, .int (mI x4))] → mW g b KM S H → va_S (mA b KM s.heap.size) s.heap H locs → ko45 r0 x1 x2 x3 x4 S → W p l e { frames := 123, cells := 0, slots := 0, locals := 3228 } s m args below meth c H locs 0 0 (vx_MQ below (mQi g b KM Q (mA b KM s.heap.size)) (mEx g b KM (fun _ _ => False) (mA b KM s.heap.size)) args s 0 0 (mA b KM s.heap.size)) (F0 m 45 ls [])) (hko138 : ∀ (r0 : Nat) (kr0 : KM r0 = (0, 10, 0)) (x3 : Int) (ox3 : okI x3) (S : mSt) (H : Heap) (locs : List Loc) (ls : Array Slot), lv_has ls 7 [(0, .ref (b + r0)), (3, .int (mI x3))] → mW g b KM S H → va_S (mA b KM s.heap.size) s.heap H locs → ko138 r0 x3 S → W p l e { frames := 123, cells := 0, slots := 0, locals := 3228 } s m args below meth c H locs 0 0 (vx_MQ below (mQi g b KM Q (mA b KM s.heap.size)) (mEx g b KM (fun _ _ => False) (mA b KM s.heap.size)) args s 0 0 (mA b KM s.heap.size)) (F0 m 138 ls [])) (r0 : Nat) (kr0 : KM r0 = (0, 10, 0)) (x1 : Int) (ox1 : okI x1) (x2 : Int) (ox2 : okI x2) (x3 : Int) (ox3 : okI x3) (x4 : Int) (ox4 : okI x4) (S : mSt) (H : Heap) (locs : List Loc) (ls : Array Slot) (hl : lv_has ls 7 [(0, .ref (b + r0)), (1, .int (mI x1)), (2, .int (mI x2)), (3, .int (mI x3)), (4, .int (mI x4))]) (hW : mW g b KM S H) (hS : va_S (mA b KM s.heap.size) s.heap H locs) (h : w_X12_late_45b N Q ko45 ko138 r0 x1 x2 x3 x4 S) : W p l e { frames := 123, cells := 0, slots := 0, locals := 3228 } s m args below meth c H locs 0 0 (vx_MQ below (mQi g b KM Q (mA b KM s.heap.size)) (mEx g b KM (fun _ _ => False) (mA b KM s.heap.size)) args s 0 0 (mA b KM s.heap.size)) (F0 m 45 ls []) := by
  unfold w_X12_late_45b at h
  refine m_iload (pc := 45) C.1 dX12_late_45 hl 4 rfl ?_
  refine m_bipush (pc := 47) C.1 dX12_late_47 rfl ?_
  refine m_icmp_gt (pc := 49) (tgt := 138) C.1 ox4 (by decide : okI 40) dX12_late_49 (by decide) (fun hc => ?_) (fun hc => ?_)
  · replace h := h.1 hc
    exact hko138 r0 kr0 x3 ox3 S _ _ _ (lv_sub hl [0, 3] rfl) hW hS h
  · replace h := h.2 hc
    refine m_aload_n (pc := 52) C.1 dX12_late_52 rfl hl 0 rfl ?_
    refine m_callVi (pc := 53) C.1 C.2.2.1 hl.1 C.2.1 hW hS (As := []) (rest := []) (r := r0) (T_X12_lightOfAll C.2.2.2.2.2.2 N r0 kr0 h) kr0 rfl q_1663 q_1665 q_54 q_92 q_1666 pl_X12_lightOfAll (by decide) (Nat.le_of_ble_eq_true rfl) dX12_late_53 (fun v1 S1 H locs ov1 h hW1 hS => ?_)
    refine m_istore (pc := 56) C.1 dX12_late_56 hl (by decide) (fun v => [(5, .int v), (0, .ref (b + r0)), (1, .int (mI x1)), (2, .int (mI x2)), (3, .int (mI x3)), (4, .int (mI x4))]) (fun _ => rfl) ov1 (fun v2 ls ev2 ov2 hl => ?_)
    replace h := h v2 ev2
    refine m_iconst (pc := 58) C.1 dX12_late_58 ?_
    refine m_istore (pc := 59) C.1 dX12_late_59 hl (by decide) (fun v => [(6, .int v), (5, .int (mI v2)), (0, .ref (b + r0)), (1, .int (mI x1)), (2, .int (mI x2)), (3, .int (mI x3)), (4, .int (mI x4))]) (fun _ => rfl) (by decide : okI 0) (fun v3 ls ev3 ov3 hl => ?_)
    replace h := h v3 ev3
    refine W_X12_late_61 C N ?_ N r0 kr0 x1 ox1 x2 ox2 x3 ox3 x4 ox4 v2 ov2 v3 ov3 S1 _ _ _ (lv_sub hl [2, 3, 4, 5, 6, 1, 0] rfl) hW1 hS h
    · intro r0_4 kr0_4 x1_4 ox1_4 x2_4 ox2_4 x3_4 ox3_4 x4_4 ox4_4 S_4 H locs ls hl hW_4 hS h
      refine m_aload_n (pc := 127) C.1 dX12_late_127 rfl hl 0 rfl ?_
      refine m_iload_n (pc := 128) C.1 dX12_late_128 rfl hl 1 rfl ?_
      refine m_callVv (pc := 129) C.1 C.2.2.1 hl.1 C.2.1 hW_4 hS (As := [.int (mI x1_4)]) (rest := []) (r := r0_4) (T_X12_ahead C.2.2.2.2.2.2 N r0_4 kr0_4 x1_4 ox1_4 h) kr0_4 rfl q_1828 q_1830 q_74 q_92 q_1831 pl_X12_ahead (by decide) (Nat.le_of_ble_eq_true rfl) dX12_late_129 (fun S5 H locs h hW5 hS => ?_)
      refine m_iinc (pc := 132) C.1 dX12_late_132 hl (by decide) (q0 := 4) rfl (fun v => [(4, .int v), (0, .ref (b + r0_4)), (1, .int (mI x1_4)), (2, .int (mI x2_4)), (3, .int (mI x3_4))]) (fun _ => rfl) (fun v6 ls ev6 ov6 hl => ?_)
      replace h := h v6 ev6
      refine m_goto (pc := 135) (tgt := 45) C.1 dX12_late_135 (by decide) ?_
      exact hko45 r0_4 kr0_4 x1_4 ox1_4 x2_4 ox2_4 x3_4 ox3_4 v6 ov6 S5 _ _ _ (lv_sub hl [1, 2, 3, 4, 0] rfl) hW5 hS h
def w_X12_late_45 (N : Nat) (Q : mSt → Int → Prop) (ko138 : Nat → Int → mSt → Prop) : Nat → Nat → Int → Int → Int → Int → mSt → Prop
  | 0 => fun _ _ _ _ _ _ => False
  | k + 1 => w_X12_late_45b N Q (w_X12_late_45 N Q ko138 k) ko138
theorem W_X12_late_45 (C : mC p l s m args meth c cX12_late "MoonWashModel" 7 (some FieldType.int) g) (N : Nat) {Q : mSt → Int → Prop} {ko138 : Nat → Int → mSt → Prop} (hko138 : ∀ (r0 : Nat) (kr0 : KM r0 = (0, 10, 0)) (x3 : Int) (ox3 : okI x3) (S : mSt) (H : Heap) (locs : List Loc) (ls : Array Slot), lv_has ls 7 [(0, .ref (b + r0)), (3, .int (mI x3))] → mW g b KM S H → va_S (mA b KM s.heap.size) s.heap H locs → ko138 r0 x3 S → W p l e { frames := 123, cells := 0, slots := 0, locals := 3228 } s m args below meth c H locs 0 0 (vx_MQ below (mQi g b KM Q (mA b KM s.heap.size)) (mEx g b KM (fun _ _ => False) (mA b KM s.heap.size)) args s 0 0 (mA b KM s.heap.size)) (F0 m 138 ls [])) : ∀ (k : Nat) (r0 : Nat) (kr0 : KM r0 = (0, 10, 0)) (x1 : Int) (ox1 : okI x1) (x2 : Int) (ox2 : okI x2) (x3 : Int) (ox3 : okI x3) (x4 : Int) (ox4 : okI x4) (S : mSt) (H : Heap) (locs : List Loc) (ls : Array Slot) (hl : lv_has ls 7 [(0, .ref (b + r0)), (1, .int (mI x1)), (2, .int (mI x2)), (3, .int (mI x3)), (4, .int (mI x4))]) (hW : mW g b KM S H) (hS : va_S (mA b KM s.heap.size) s.heap H locs) (h : w_X12_late_45 N Q ko138 k r0 x1 x2 x3 x4 S), W p l e { frames := 123, cells := 0, slots := 0, locals := 3228 } s m args below meth c H locs 0 0 (vx_MQ below (mQi g b KM Q (mA b KM s.heap.size)) (mEx g b KM (fun _ _ => False) (mA b KM s.heap.size)) args s 0 0 (mA b KM s.heap.size)) (F0 m 45 ls []) := by
  intro k
  induction k with
  | zero => intro r0 kr0 x1 ox1 x2 ox2 x3 ox3 x4 ox4 S H locs ls hl hW hS h; exact False.elim h
  | succ k ih => intro r0 kr0 x1 ox1 x2 ox2 x3 ox3 x4 ox4 S H locs ls hl hW hS h; exact W_X12_late_45b C N ih hko138 r0 kr0 x1 ox1 x2 ox2 x3 ox3 x4 ox4 S H locs ls hl hW hS h
def w_X12_late_16 (N : Nat) (Q : mSt → Int → Prop)  (r0 : Nat) (x1 : Int) (xs0 : Int) (rs1 : Nat) (S : mSt) : Prop :=
  ∀ S1 : mSt, S1 = mup S rs1 0 xs0 → (((S1 r0 0) ≤ 0 → w_X12_putsAside N r0 S1 (fun (S2 : mSt) => ∀ v3 : Int, v3 = (S2 (r0 + 1) 9) → ∀ v4 : Int, v4 = 0 → ∀ v5 : Int, v5 = 0 → w_X12_late_45 N Q (fun (r0_6 : Nat) (x3_6 : Int) (S_6 : mSt) => w_X12_comesBack N r0_6 S_6 (fun (S7 : mSt) => Q S7 x3_6)) N r0 x1 v3 v4 v5 S2)) ∧ (0 < (S1 r0 0) → Q S1 0))
theorem W_X12_late_16 (C : mC p l s m args meth c cX12_late "MoonWashModel" 7 (some FieldType.int) g) (N : Nat) {Q : mSt → Int → Prop}   (r0 : Nat) (kr0 : KM r0 = (0, 10, 0)) (x1 : Int) (ox1 : okI x1) (xs0 : Int) (oxs0 : okI xs0) (rs1 : Nat) (krs1 : KM rs1 = (0, 10, 0)) (S : mSt) (H : Heap) (locs : List Loc) (ls : Array Slot) (hl : lv_has ls 7 [(0, .ref (b + r0)), (1, .int (mI x1))]) (hW : mW g b KM S H) (hS : va_S (mA b KM s.heap.size) s.heap H locs) (h : w_X12_late_16 N Q  r0 x1 xs0 rs1 S) : W p l e { frames := 123, cells := 0, slots := 0, locals := 3228 } s m args below meth c H locs 0 0 (vx_MQ below (mQi g b KM Q (mA b KM s.heap.size)) (mEx g b KM (fun _ _ => False) (mA b KM s.heap.size)) args s 0 0 (mA b KM s.heap.size)) (F0 m 16 ls [.int (mI xs0), .ref (b + rs1)]) := by
  unfold w_X12_late_16 at h
  refine p_10_0 (pc := 16) C hW hS krs1 q_1383 oxs0 dX12_late_16 (fun S1 H locs e1 hW1 hS => ?_)
  replace h := h S1 e1
  refine m_aload_n (pc := 19) C.1 dX12_late_19 rfl hl 0 rfl ?_
  refine g_10_0 (pc := 20) C hW1 kr0 q_1383 dX12_late_20 ?_
  refine m_if_le (pc := 23) (tgt := 28) C.1 (hW1.2.1 _ _) dX12_late_23 (by decide) (fun hc => ?_) (fun hc => ?_)
  · replace h := h.1 hc
    refine m_aload_n (pc := 28) C.1 dX12_late_28 rfl hl 0 rfl ?_
    refine m_callVv (pc := 29) C.1 C.2.2.1 hl.1 C.2.1 hW1 hS (As := []) (rest := []) (r := r0) (T_X12_putsAside C.2.2.2.2.2.2 N r0 kr0 h) kr0 rfl q_1482 q_1484 q_23 q_92 q_1485 pl_X12_putsAside (by decide) (Nat.le_of_ble_eq_true rfl) dX12_late_29 (fun S2 H locs h hW2 hS => ?_)
    refine m_aload_n (pc := 32) C.1 dX12_late_32 rfl hl 0 rfl ?_
    refine g_10_1 (pc := 33) C hW2 kr0 q_1384 dX12_late_33 ?_
    refine m_bipush (pc := 36) C.1 dX12_late_36 rfl ?_
    refine m_iald (pc := 38) C.1 C.2.1 hW2 (k_10_1 kr0) (by decide : okI 9) (by decide) (by decide) dX12_late_38 ?_
    refine m_istore_n (pc := 39) C.1 dX12_late_39 rfl hl (by decide) (fun v => [(2, .int v), (0, .ref (b + r0)), (1, .int (mI x1))]) (fun _ => rfl) (hW2.2.1 _ _) (fun v3 ls ev3 ov3 hl => ?_)
    replace h := h v3 ev3
    refine m_iconst (pc := 40) C.1 dX12_late_40 ?_
    refine m_istore_n (pc := 41) C.1 dX12_late_41 rfl hl (by decide) (fun v => [(3, .int v), (2, .int (mI v3)), (0, .ref (b + r0)), (1, .int (mI x1))]) (fun _ => rfl) (by decide : okI 0) (fun v4 ls ev4 ov4 hl => ?_)
    replace h := h v4 ev4
    refine m_iconst (pc := 42) C.1 dX12_late_42 ?_
    refine m_istore (pc := 43) C.1 dX12_late_43 hl (by decide) (fun v => [(4, .int v), (3, .int (mI v4)), (2, .int (mI v3)), (0, .ref (b + r0)), (1, .int (mI x1))]) (fun _ => rfl) (by decide : okI 0) (fun v5 ls ev5 ov5 hl => ?_)
    replace h := h v5 ev5
    refine W_X12_late_45 C N ?_ N r0 kr0 x1 ox1 v3 ov3 v4 ov4 v5 ov5 S2 _ _ _ (lv_sub hl [3, 4, 2, 1, 0] rfl) hW2 hS h
    · intro r0_6 kr0_6 x3_6 ox3_6 S_6 H locs ls hl hW_6 hS h
      refine m_aload_n (pc := 138) C.1 dX12_late_138 rfl hl 0 rfl ?_
      refine m_callVv (pc := 139) C.1 C.2.2.1 hl.1 C.2.1 hW_6 hS (As := []) (rest := []) (r := r0_6) (T_X12_comesBack C.2.2.2.2.2.2 N r0_6 kr0_6 h) kr0_6 rfl q_1610 q_1612 q_47 q_92 q_1613 pl_X12_comesBack (by decide) (Nat.le_of_ble_eq_true rfl) dX12_late_139 (fun S7 H locs h hW7 hS => ?_)
      refine m_iload_n (pc := 142) C.1 dX12_late_142 rfl hl 1 rfl ?_
      exact m_iret (pc := 143) C.1 C.2.2.2.1 C.2.2.2.2.1 hW7 hS ox3_6 h (by decide) (by decide) dX12_late_143
  · replace h := h.2 hc
    refine m_iconst (pc := 26) C.1 dX12_late_26 ?_
    exact m_iret (pc := 27) C.1 C.2.2.2.1 C.2.2.2.2.1 hW1 hS (by decide : okI 0) h (by decide) (by decide) dX12_late_27
end
def w_X12_late (N : Nat) (r0 : Nat) (x1 : Int) (S : mSt) (Q : mSt → Int → Prop) : Prop :=
  w_X12_isIn N x1 0 9 S (fun (S1 : mSt) (v1 : Int) => ((v1 ≠ 0 → w_X12_late_16 N Q  r0 x1 0 r0 S1) ∧ (v1 = 0 → w_X12_late_16 N Q  r0 x1 1 r0 S1)))
theorem T_X12_late {l : Launch} (hl0 : l.stackTraces = false) {g : mG} {b : Nat} (N : Nat) (r0 : Nat) (kr0 : KM r0 = (0, 10, 0)) (x1 : Int) (ox1 : okI x1) {S : mSt} {Q : mSt → Int → Prop} (h : w_X12_late N r0 x1 S Q) (sz : Nat) : vx_Met l yX12_late (Cond.code yX12_late cX12_late 7 (some FieldType.int) :: wsG) { frames := 123, cells := 0, slots := 0, locals := 3228 } (mPc g b KM S [.ref (b + r0), .int (mI x1)] sz) (mQi g b KM Q (mA b KM sz)) (mEx g b KM (fun _ _ => False) (mA b KM sz)) 0 0 (mA b KM sz) :=
  m_of (av := [.ref (b + r0), .int (mI x1)]) (Qf := fun A => mQi g b KM Q A) (Xf := fun A => mEx g b KM (fun _ _ => False) A) (by decide) (Nat.le_of_ble_eq_true rfl) (fun p e s m args below meth c ls X hK hml hr hlk hout hnm hW hl => by
    have C : mC p l s m args meth c cX12_late "MoonWashModel" 7 (some FieldType.int) g := ⟨X, hK, hml, hr, hlk, hout, hl0⟩
    have hS : va_S (mA b KM s.heap.size) s.heap s.heap [] := va_S.rf
    have hl : lv_has ls 7 [(0, .ref (b + r0)), (1, .int (mI x1))] := hl
    unfold w_X12_late at h
    refine m_aload_n (pc := 0) C.1 dX12_late_0 rfl hl 0 rfl ?_
    refine m_iload_n (pc := 1) C.1 dX12_late_1 rfl hl 1 rfl ?_
    refine m_iconst (pc := 2) C.1 dX12_late_2 ?_
    refine m_bipush (pc := 3) C.1 dX12_late_3 rfl ?_
    refine m_callSi (pc := 5) C.1 C.2.2.1 hl.1 C.2.1 hW hS (As := [.int (mI x1), .int (mI 0), .int (mI 9)]) (rest := [.ref (b + r0)]) (T_X12_isIn C.2.2.2.2.2.2 N x1 ox1 0 (by decide : okI 0) 9 (by decide : okI 9) h) q_1475 q_1476 q_92 q_1477 pl_X12_isIn (by decide) (Nat.le_of_ble_eq_true rfl) dX12_late_5 (fun v1 S1 H locs ov1 h hW1 hS => ?_)
    refine m_if_ne (pc := 8) (tgt := 15) C.1 ov1 dX12_late_8 (by decide) (fun hc => ?_) (fun hc => ?_)
    · replace h := h.1 hc
      refine m_iconst (pc := 15) C.1 dX12_late_15 ?_
      exact W_X12_late_16 C N  r0 kr0 x1 ox1 0 (by decide : okI 0) r0 kr0 S1 _ _ _ (lv_sub hl [0, 1] rfl) hW1 hS h
    · replace h := h.2 hc
      refine m_iconst (pc := 11) C.1 dX12_late_11 ?_
      refine m_goto (pc := 12) (tgt := 16) C.1 dX12_late_12 (by decide) ?_
      exact W_X12_late_16 C N  r0 kr0 x1 ox1 1 (by decide : okI 1) r0 kr0 S1 _ _ _ (lv_sub hl [0, 1] rfl) hW1 hS h) sz
section
variable {p : Program} {l : Launch} {e : Env} {s : State} {m : MethodId} {args : Array Value} {below : List Frame} {meth : Method} {c : Code} {g : mG} {b : Nat}
def w_X12_enough_30b (N : Nat) (Q : mSt → Int → Prop) (ko30 : Nat → Int → Int → mSt → Prop) (ko64 : mSt → Prop) (r0 : Nat) (x1 : Int) (x2 : Int) (S : mSt) : Prop :=
  ((99 < x2 → ko64 S) ∧ (x2 ≤ 99 → (((nm ((S (r0 + 1) 5) + (nm (x2 * (S (r0 + 1) 6))))) < x1 → ∀ v1 : Int, v1 = nm (x2 + 1) → ko30 r0 x1 v1 S) ∧ (x1 ≤ (nm ((S (r0 + 1) 5) + (nm (x2 * (S (r0 + 1) 6))))) → Q S x2))))
theorem W_X12_enough_30b (C : mC p l s m args meth c cX12_enough "MoonWashModel" 3 (some FieldType.int) g) (N : Nat) {Q : mSt → Int → Prop} {ko30 : Nat → Int → Int → mSt → Prop} {ko64 : mSt → Prop} (hko30 : ∀ (r0 : Nat) (kr0 : KM r0 = (0, 10, 0)) (x1 : Int) (ox1 : okI x1) (x2 : Int) (ox2 : okI x2) (S : mSt) (H : Heap) (locs : List Loc) (ls : Array Slot), lv_has ls 3 [(0, .ref (b + r0)), (1, .int (mI x1)), (2, .int (mI x2))] → mW g b KM S H → va_S (mA b KM s.heap.size) s.heap H locs → ko30 r0 x1 x2 S → W p l e { frames := 1, cells := 0, slots := 0, locals := 22 } s m args below meth c H locs 0 0 (vx_MQ below (mQi g b KM Q (mA b KM s.heap.size)) (mEx g b KM (fun _ _ => False) (mA b KM s.heap.size)) args s 0 0 (mA b KM s.heap.size)) (F0 m 30 ls [])) (hko64 : ∀  (S : mSt) (H : Heap) (locs : List Loc) (ls : Array Slot), lv_has ls 3 [] → mW g b KM S H → va_S (mA b KM s.heap.size) s.heap H locs → ko64 S → W p l e { frames := 1, cells := 0, slots := 0, locals := 22 } s m args below meth c H locs 0 0 (vx_MQ below (mQi g b KM Q (mA b KM s.heap.size)) (mEx g b KM (fun _ _ => False) (mA b KM s.heap.size)) args s 0 0 (mA b KM s.heap.size)) (F0 m 64 ls [])) (r0 : Nat) (kr0 : KM r0 = (0, 10, 0)) (x1 : Int) (ox1 : okI x1) (x2 : Int) (ox2 : okI x2) (S : mSt) (H : Heap) (locs : List Loc) (ls : Array Slot) (hl : lv_has ls 3 [(0, .ref (b + r0)), (1, .int (mI x1)), (2, .int (mI x2))]) (hW : mW g b KM S H) (hS : va_S (mA b KM s.heap.size) s.heap H locs) (h : w_X12_enough_30b N Q ko30 ko64 r0 x1 x2 S) : W p l e { frames := 1, cells := 0, slots := 0, locals := 22 } s m args below meth c H locs 0 0 (vx_MQ below (mQi g b KM Q (mA b KM s.heap.size)) (mEx g b KM (fun _ _ => False) (mA b KM s.heap.size)) args s 0 0 (mA b KM s.heap.size)) (F0 m 30 ls []) := by
  unfold w_X12_enough_30b at h
  refine m_iload_n (pc := 30) C.1 dX12_enough_30 rfl hl 2 rfl ?_
  refine m_bipush (pc := 31) C.1 dX12_enough_31 rfl ?_
  refine m_icmp_gt (pc := 33) (tgt := 64) C.1 ox2 (by decide : okI 99) dX12_enough_33 (by decide) (fun hc => ?_) (fun hc => ?_)
  · replace h := h.1 hc
    exact hko64  S _ _ _ (lv_sub hl [] rfl) hW hS h
  · replace h := h.2 hc
    refine m_aload_n (pc := 36) C.1 dX12_enough_36 rfl hl 0 rfl ?_
    refine g_10_1 (pc := 37) C hW kr0 q_1384 dX12_enough_37 ?_
    refine m_iconst (pc := 40) C.1 dX12_enough_40 ?_
    refine m_iald (pc := 41) C.1 C.2.1 hW (k_10_1 kr0) (by decide : okI 5) (by decide) (by decide) dX12_enough_41 ?_
    refine m_iload_n (pc := 42) C.1 dX12_enough_42 rfl hl 2 rfl ?_
    refine m_aload_n (pc := 43) C.1 dX12_enough_43 rfl hl 0 rfl ?_
    refine g_10_1 (pc := 44) C hW kr0 q_1384 dX12_enough_44 ?_
    refine m_bipush (pc := 47) C.1 dX12_enough_47 rfl ?_
    refine m_iald (pc := 49) C.1 C.2.1 hW (k_10_1 kr0) (by decide : okI 6) (by decide) (by decide) dX12_enough_49 ?_
    refine m_imul (pc := 50) C.1 dX12_enough_50 ?_
    refine m_iadd (pc := 51) C.1 dX12_enough_51 ?_
    refine m_iload_n (pc := 52) C.1 dX12_enough_52 rfl hl 1 rfl ?_
    refine m_icmp_lt (pc := 53) (tgt := 58) C.1 (nm_ok _) ox1 dX12_enough_53 (by decide) (fun hc => ?_) (fun hc => ?_)
    · replace h := h.1 hc
      refine m_iinc (pc := 58) C.1 dX12_enough_58 hl (by decide) (q0 := 2) rfl (fun v => [(2, .int v), (0, .ref (b + r0)), (1, .int (mI x1))]) (fun _ => rfl) (fun v1 ls ev1 ov1 hl => ?_)
      replace h := h v1 ev1
      refine m_goto (pc := 61) (tgt := 30) C.1 dX12_enough_61 (by decide) ?_
      exact hko30 r0 kr0 x1 ox1 v1 ov1 S _ _ _ (lv_sub hl [1, 2, 0] rfl) hW hS h
    · replace h := h.2 hc
      refine m_iload_n (pc := 56) C.1 dX12_enough_56 rfl hl 2 rfl ?_
      exact m_iret (pc := 57) C.1 C.2.2.2.1 C.2.2.2.2.1 hW hS ox2 h (by decide) (by decide) dX12_enough_57
def w_X12_enough_30 (N : Nat) (Q : mSt → Int → Prop) (ko64 : mSt → Prop) : Nat → Nat → Int → Int → mSt → Prop
  | 0 => fun _ _ _ _ => False
  | k + 1 => w_X12_enough_30b N Q (w_X12_enough_30 N Q ko64 k) ko64
theorem W_X12_enough_30 (C : mC p l s m args meth c cX12_enough "MoonWashModel" 3 (some FieldType.int) g) (N : Nat) {Q : mSt → Int → Prop} {ko64 : mSt → Prop} (hko64 : ∀  (S : mSt) (H : Heap) (locs : List Loc) (ls : Array Slot), lv_has ls 3 [] → mW g b KM S H → va_S (mA b KM s.heap.size) s.heap H locs → ko64 S → W p l e { frames := 1, cells := 0, slots := 0, locals := 22 } s m args below meth c H locs 0 0 (vx_MQ below (mQi g b KM Q (mA b KM s.heap.size)) (mEx g b KM (fun _ _ => False) (mA b KM s.heap.size)) args s 0 0 (mA b KM s.heap.size)) (F0 m 64 ls [])) : ∀ (k : Nat) (r0 : Nat) (kr0 : KM r0 = (0, 10, 0)) (x1 : Int) (ox1 : okI x1) (x2 : Int) (ox2 : okI x2) (S : mSt) (H : Heap) (locs : List Loc) (ls : Array Slot) (hl : lv_has ls 3 [(0, .ref (b + r0)), (1, .int (mI x1)), (2, .int (mI x2))]) (hW : mW g b KM S H) (hS : va_S (mA b KM s.heap.size) s.heap H locs) (h : w_X12_enough_30 N Q ko64 k r0 x1 x2 S), W p l e { frames := 1, cells := 0, slots := 0, locals := 22 } s m args below meth c H locs 0 0 (vx_MQ below (mQi g b KM Q (mA b KM s.heap.size)) (mEx g b KM (fun _ _ => False) (mA b KM s.heap.size)) args s 0 0 (mA b KM s.heap.size)) (F0 m 30 ls []) := by
  intro k
  induction k with
  | zero => intro r0 kr0 x1 ox1 x2 ox2 S H locs ls hl hW hS h; exact False.elim h
  | succ k ih => intro r0 kr0 x1 ox1 x2 ox2 S H locs ls hl hW hS h; exact W_X12_enough_30b C N ih hko64 r0 kr0 x1 ox1 x2 ox2 S H locs ls hl hW hS h
def w_X12_enough_16 (N : Nat) (Q : mSt → Int → Prop)  (r0 : Nat) (x1 : Int) (xs0 : Int) (rs1 : Nat) (S : mSt) : Prop :=
  ∀ S1 : mSt, S1 = mup S rs1 0 xs0 → (((S1 r0 0) ≤ 0 → ∀ v2 : Int, v2 = 0 → w_X12_enough_30 N Q (fun  (S_3 : mSt) => Q S_3 (-1)) N r0 x1 v2 S1) ∧ (0 < (S1 r0 0) → Q S1 0))
theorem W_X12_enough_16 (C : mC p l s m args meth c cX12_enough "MoonWashModel" 3 (some FieldType.int) g) (N : Nat) {Q : mSt → Int → Prop}   (r0 : Nat) (kr0 : KM r0 = (0, 10, 0)) (x1 : Int) (ox1 : okI x1) (xs0 : Int) (oxs0 : okI xs0) (rs1 : Nat) (krs1 : KM rs1 = (0, 10, 0)) (S : mSt) (H : Heap) (locs : List Loc) (ls : Array Slot) (hl : lv_has ls 3 [(0, .ref (b + r0)), (1, .int (mI x1))]) (hW : mW g b KM S H) (hS : va_S (mA b KM s.heap.size) s.heap H locs) (h : w_X12_enough_16 N Q  r0 x1 xs0 rs1 S) : W p l e { frames := 1, cells := 0, slots := 0, locals := 22 } s m args below meth c H locs 0 0 (vx_MQ below (mQi g b KM Q (mA b KM s.heap.size)) (mEx g b KM (fun _ _ => False) (mA b KM s.heap.size)) args s 0 0 (mA b KM s.heap.size)) (F0 m 16 ls [.int (mI xs0), .ref (b + rs1)]) := by
  unfold w_X12_enough_16 at h
  refine p_10_0 (pc := 16) C hW hS krs1 q_1383 oxs0 dX12_enough_16 (fun S1 H locs e1 hW1 hS => ?_)
  replace h := h S1 e1
  refine m_aload_n (pc := 19) C.1 dX12_enough_19 rfl hl 0 rfl ?_
  refine g_10_0 (pc := 20) C hW1 kr0 q_1383 dX12_enough_20 ?_
  refine m_if_le (pc := 23) (tgt := 28) C.1 (hW1.2.1 _ _) dX12_enough_23 (by decide) (fun hc => ?_) (fun hc => ?_)
  · replace h := h.1 hc
    refine m_iconst (pc := 28) C.1 dX12_enough_28 ?_
    refine m_istore_n (pc := 29) C.1 dX12_enough_29 rfl hl (by decide) (fun v => [(2, .int v), (0, .ref (b + r0)), (1, .int (mI x1))]) (fun _ => rfl) (by decide : okI 0) (fun v2 ls ev2 ov2 hl => ?_)
    replace h := h v2 ev2
    refine W_X12_enough_30 C N ?_ N r0 kr0 x1 ox1 v2 ov2 S1 _ _ _ (lv_sub hl [1, 2, 0] rfl) hW1 hS h
    · intro S_3 H locs ls hl hW_3 hS h
      refine m_iconst (pc := 64) C.1 dX12_enough_64 ?_
      exact m_iret (pc := 65) C.1 C.2.2.2.1 C.2.2.2.2.1 hW_3 hS (by decide : okI (-1)) h (by decide) (by decide) dX12_enough_65
  · replace h := h.2 hc
    refine m_iconst (pc := 26) C.1 dX12_enough_26 ?_
    exact m_iret (pc := 27) C.1 C.2.2.2.1 C.2.2.2.2.1 hW1 hS (by decide : okI 0) h (by decide) (by decide) dX12_enough_27
end
def w_X12_enough (N : Nat) (r0 : Nat) (x1 : Int) (S : mSt) (Q : mSt → Int → Prop) : Prop :=
  w_X12_isIn N x1 0 99 S (fun (S1 : mSt) (v1 : Int) => ((v1 ≠ 0 → w_X12_enough_16 N Q  r0 x1 0 r0 S1) ∧ (v1 = 0 → w_X12_enough_16 N Q  r0 x1 1 r0 S1)))
theorem T_X12_enough {l : Launch} (hl0 : l.stackTraces = false) {g : mG} {b : Nat} (N : Nat) (r0 : Nat) (kr0 : KM r0 = (0, 10, 0)) (x1 : Int) (ox1 : okI x1) {S : mSt} {Q : mSt → Int → Prop} (h : w_X12_enough N r0 x1 S Q) (sz : Nat) : vx_Met l yX12_enough (Cond.code yX12_enough cX12_enough 3 (some FieldType.int) :: wsG) { frames := 1, cells := 0, slots := 0, locals := 22 } (mPc g b KM S [.ref (b + r0), .int (mI x1)] sz) (mQi g b KM Q (mA b KM sz)) (mEx g b KM (fun _ _ => False) (mA b KM sz)) 0 0 (mA b KM sz) :=
  m_of (av := [.ref (b + r0), .int (mI x1)]) (Qf := fun A => mQi g b KM Q A) (Xf := fun A => mEx g b KM (fun _ _ => False) A) (by decide) (Nat.le_of_ble_eq_true rfl) (fun p e s m args below meth c ls X hK hml hr hlk hout hnm hW hl => by
    have C : mC p l s m args meth c cX12_enough "MoonWashModel" 3 (some FieldType.int) g := ⟨X, hK, hml, hr, hlk, hout, hl0⟩
    have hS : va_S (mA b KM s.heap.size) s.heap s.heap [] := va_S.rf
    have hl : lv_has ls 3 [(0, .ref (b + r0)), (1, .int (mI x1))] := hl
    unfold w_X12_enough at h
    refine m_aload_n (pc := 0) C.1 dX12_enough_0 rfl hl 0 rfl ?_
    refine m_iload_n (pc := 1) C.1 dX12_enough_1 rfl hl 1 rfl ?_
    refine m_iconst (pc := 2) C.1 dX12_enough_2 ?_
    refine m_bipush (pc := 3) C.1 dX12_enough_3 rfl ?_
    refine m_callSi (pc := 5) C.1 C.2.2.1 hl.1 C.2.1 hW hS (As := [.int (mI x1), .int (mI 0), .int (mI 99)]) (rest := [.ref (b + r0)]) (T_X12_isIn C.2.2.2.2.2.2 N x1 ox1 0 (by decide : okI 0) 99 (by decide : okI 99) h) q_1475 q_1476 q_92 q_1477 pl_X12_isIn (by decide) (Nat.le_of_ble_eq_true rfl) dX12_enough_5 (fun v1 S1 H locs ov1 h hW1 hS => ?_)
    refine m_if_ne (pc := 8) (tgt := 15) C.1 ov1 dX12_enough_8 (by decide) (fun hc => ?_) (fun hc => ?_)
    · replace h := h.1 hc
      refine m_iconst (pc := 15) C.1 dX12_enough_15 ?_
      exact W_X12_enough_16 C N  r0 kr0 x1 ox1 0 (by decide : okI 0) r0 kr0 S1 _ _ _ (lv_sub hl [0, 1] rfl) hW1 hS h
    · replace h := h.2 hc
      refine m_iconst (pc := 11) C.1 dX12_enough_11 ?_
      refine m_goto (pc := 12) (tgt := 16) C.1 dX12_enough_12 (by decide) ?_
      exact W_X12_enough_16 C N  r0 kr0 x1 ox1 1 (by decide : okI 1) r0 kr0 S1 _ _ _ (lv_sub hl [0, 1] rfl) hW1 hS h) sz
section
variable {p : Program} {l : Launch} {e : Env} {s : State} {m : MethodId} {args : Array Value} {below : List Frame} {meth : Method} {c : Code} {g : mG} {b : Nat}
def w_X12_told_69 (N : Nat) (Q : mSt → Int → Prop) (ko30 : Nat → Int → Int → Int → mSt → Prop) (r0 : Nat) (x1 : Int) (x3 : Int) (xs0 : Int) (S : mSt) : Prop :=
  ∀ v1 : Int, v1 = xs0 → ∀ v2 : Int, v2 = nm (x3 + 1) → ko30 r0 x1 v1 v2 S
theorem W_X12_told_69 (C : mC p l s m args meth c cX12_told "MoonWashModel" 6 (some FieldType.int) g) (N : Nat) {Q : mSt → Int → Prop} {ko30 : Nat → Int → Int → Int → mSt → Prop} (hko30 : ∀ (r0 : Nat) (kr0 : KM r0 = (0, 10, 0)) (x1 : Int) (ox1 : okI x1) (x2 : Int) (ox2 : okI x2) (x3 : Int) (ox3 : okI x3) (S : mSt) (H : Heap) (locs : List Loc) (ls : Array Slot), lv_has ls 6 [(0, .ref (b + r0)), (1, .int (mI x1)), (2, .int (mI x2)), (3, .int (mI x3))] → mW g b KM S H → va_S (mA b KM s.heap.size) s.heap H locs → ko30 r0 x1 x2 x3 S → W p l e { frames := 1, cells := 0, slots := 0, locals := 22 } s m args below meth c H locs 0 0 (vx_MQ below (mQi g b KM Q (mA b KM s.heap.size)) (mEx g b KM (fun _ _ => False) (mA b KM s.heap.size)) args s 0 0 (mA b KM s.heap.size)) (F0 m 30 ls [])) (r0 : Nat) (kr0 : KM r0 = (0, 10, 0)) (x1 : Int) (ox1 : okI x1) (x3 : Int) (ox3 : okI x3) (xs0 : Int) (oxs0 : okI xs0) (S : mSt) (H : Heap) (locs : List Loc) (ls : Array Slot) (hl : lv_has ls 6 [(0, .ref (b + r0)), (1, .int (mI x1)), (3, .int (mI x3))]) (hW : mW g b KM S H) (hS : va_S (mA b KM s.heap.size) s.heap H locs) (h : w_X12_told_69 N Q ko30 r0 x1 x3 xs0 S) : W p l e { frames := 1, cells := 0, slots := 0, locals := 22 } s m args below meth c H locs 0 0 (vx_MQ below (mQi g b KM Q (mA b KM s.heap.size)) (mEx g b KM (fun _ _ => False) (mA b KM s.heap.size)) args s 0 0 (mA b KM s.heap.size)) (F0 m 69 ls [.int (mI xs0)]) := by
  unfold w_X12_told_69 at h
  refine m_istore_n (pc := 69) C.1 dX12_told_69 rfl hl (by decide) (fun v => [(2, .int v), (0, .ref (b + r0)), (1, .int (mI x1)), (3, .int (mI x3))]) (fun _ => rfl) oxs0 (fun v1 ls ev1 ov1 hl => ?_)
  replace h := h v1 ev1
  refine m_iinc (pc := 70) C.1 dX12_told_70 hl (by decide) (q0 := 3) rfl (fun v => [(3, .int v), (2, .int (mI v1)), (0, .ref (b + r0)), (1, .int (mI x1))]) (fun _ => rfl) (fun v2 ls ev2 ov2 hl => ?_)
  replace h := h v2 ev2
  refine m_goto (pc := 73) (tgt := 30) C.1 dX12_told_73 (by decide) ?_
  exact hko30 r0 kr0 x1 ox1 v1 ov1 v2 ov2 S _ _ _ (lv_sub hl [2, 3, 1, 0] rfl) hW hS h
def w_X12_told_61 (N : Nat) (Q : mSt → Int → Prop) (ko30 : Nat → Int → Int → Int → mSt → Prop) (r0 : Nat) (x1 : Int) (x3 : Int) (xs0 : Int) (xs1 : Int) (S : mSt) : Prop :=
  ((xs0 ≤ xs1 → w_X12_told_69 N Q ko30 r0 x1 x3 0 S) ∧ (xs1 < xs0 → w_X12_told_69 N Q ko30 r0 x1 x3 1 S))
theorem W_X12_told_61 (C : mC p l s m args meth c cX12_told "MoonWashModel" 6 (some FieldType.int) g) (N : Nat) {Q : mSt → Int → Prop} {ko30 : Nat → Int → Int → Int → mSt → Prop} (hko30 : ∀ (r0 : Nat) (kr0 : KM r0 = (0, 10, 0)) (x1 : Int) (ox1 : okI x1) (x2 : Int) (ox2 : okI x2) (x3 : Int) (ox3 : okI x3) (S : mSt) (H : Heap) (locs : List Loc) (ls : Array Slot), lv_has ls 6 [(0, .ref (b + r0)), (1, .int (mI x1)), (2, .int (mI x2)), (3, .int (mI x3))] → mW g b KM S H → va_S (mA b KM s.heap.size) s.heap H locs → ko30 r0 x1 x2 x3 S → W p l e { frames := 1, cells := 0, slots := 0, locals := 22 } s m args below meth c H locs 0 0 (vx_MQ below (mQi g b KM Q (mA b KM s.heap.size)) (mEx g b KM (fun _ _ => False) (mA b KM s.heap.size)) args s 0 0 (mA b KM s.heap.size)) (F0 m 30 ls [])) (r0 : Nat) (kr0 : KM r0 = (0, 10, 0)) (x1 : Int) (ox1 : okI x1) (x3 : Int) (ox3 : okI x3) (xs0 : Int) (oxs0 : okI xs0) (xs1 : Int) (oxs1 : okI xs1) (S : mSt) (H : Heap) (locs : List Loc) (ls : Array Slot) (hl : lv_has ls 6 [(0, .ref (b + r0)), (1, .int (mI x1)), (3, .int (mI x3))]) (hW : mW g b KM S H) (hS : va_S (mA b KM s.heap.size) s.heap H locs) (h : w_X12_told_61 N Q ko30 r0 x1 x3 xs0 xs1 S) : W p l e { frames := 1, cells := 0, slots := 0, locals := 22 } s m args below meth c H locs 0 0 (vx_MQ below (mQi g b KM Q (mA b KM s.heap.size)) (mEx g b KM (fun _ _ => False) (mA b KM s.heap.size)) args s 0 0 (mA b KM s.heap.size)) (F0 m 61 ls [.int (mI xs0), .int (mI xs1)]) := by
  unfold w_X12_told_61 at h
  refine m_icmp_ge (pc := 61) (tgt := 68) C.1 oxs1 oxs0 dX12_told_61 (by decide) (fun hc => ?_) (fun hc => ?_)
  · replace h := h.1 hc
    refine m_iconst (pc := 68) C.1 dX12_told_68 ?_
    exact W_X12_told_69 C N hko30 r0 kr0 x1 ox1 x3 ox3 0 (by decide : okI 0) S _ _ _ (lv_sub hl [0, 1, 2] rfl) hW hS h
  · replace h := h.2 hc
    refine m_iconst (pc := 64) C.1 dX12_told_64 ?_
    refine m_goto (pc := 65) (tgt := 69) C.1 dX12_told_65 (by decide) ?_
    exact W_X12_told_69 C N hko30 r0 kr0 x1 ox1 x3 ox3 1 (by decide : okI 1) S _ _ _ (lv_sub hl [0, 1, 2] rfl) hW hS h
def w_X12_told_30b (N : Nat) (Q : mSt → Int → Prop) (ko30 : Nat → Int → Int → Int → mSt → Prop) (ko76 : Nat → Int → Int → mSt → Prop) (r0 : Nat) (x1 : Int) (x2 : Int) (x3 : Int) (S : mSt) : Prop :=
  ((x1 ≤ x3 → ko76 r0 x1 x2 S) ∧ (x3 < x1 → ((x2 = 0 → ko76 r0 x1 x2 S) ∧ (x2 ≠ 0 → (0 ≤ x3 ∧ x3 < 400 ∧ (((iRem x3 2) ≠ 0 → w_X12_told_61 N Q ko30 r0 x1 x3 2 (S (r0 + 6) x3) S) ∧ ((iRem x3 2) = 0 → w_X12_told_61 N Q ko30 r0 x1 x3 (S (r0 + 1) 3) (S (r0 + 6) x3) S)))))))
theorem W_X12_told_30b (C : mC p l s m args meth c cX12_told "MoonWashModel" 6 (some FieldType.int) g) (N : Nat) {Q : mSt → Int → Prop} {ko30 : Nat → Int → Int → Int → mSt → Prop} {ko76 : Nat → Int → Int → mSt → Prop} (hko30 : ∀ (r0 : Nat) (kr0 : KM r0 = (0, 10, 0)) (x1 : Int) (ox1 : okI x1) (x2 : Int) (ox2 : okI x2) (x3 : Int) (ox3 : okI x3) (S : mSt) (H : Heap) (locs : List Loc) (ls : Array Slot), lv_has ls 6 [(0, .ref (b + r0)), (1, .int (mI x1)), (2, .int (mI x2)), (3, .int (mI x3))] → mW g b KM S H → va_S (mA b KM s.heap.size) s.heap H locs → ko30 r0 x1 x2 x3 S → W p l e { frames := 1, cells := 0, slots := 0, locals := 22 } s m args below meth c H locs 0 0 (vx_MQ below (mQi g b KM Q (mA b KM s.heap.size)) (mEx g b KM (fun _ _ => False) (mA b KM s.heap.size)) args s 0 0 (mA b KM s.heap.size)) (F0 m 30 ls [])) (hko76 : ∀ (r0 : Nat) (kr0 : KM r0 = (0, 10, 0)) (x1 : Int) (ox1 : okI x1) (x2 : Int) (ox2 : okI x2) (S : mSt) (H : Heap) (locs : List Loc) (ls : Array Slot), lv_has ls 6 [(0, .ref (b + r0)), (1, .int (mI x1)), (2, .int (mI x2))] → mW g b KM S H → va_S (mA b KM s.heap.size) s.heap H locs → ko76 r0 x1 x2 S → W p l e { frames := 1, cells := 0, slots := 0, locals := 22 } s m args below meth c H locs 0 0 (vx_MQ below (mQi g b KM Q (mA b KM s.heap.size)) (mEx g b KM (fun _ _ => False) (mA b KM s.heap.size)) args s 0 0 (mA b KM s.heap.size)) (F0 m 76 ls [])) (r0 : Nat) (kr0 : KM r0 = (0, 10, 0)) (x1 : Int) (ox1 : okI x1) (x2 : Int) (ox2 : okI x2) (x3 : Int) (ox3 : okI x3) (S : mSt) (H : Heap) (locs : List Loc) (ls : Array Slot) (hl : lv_has ls 6 [(0, .ref (b + r0)), (1, .int (mI x1)), (2, .int (mI x2)), (3, .int (mI x3))]) (hW : mW g b KM S H) (hS : va_S (mA b KM s.heap.size) s.heap H locs) (h : w_X12_told_30b N Q ko30 ko76 r0 x1 x2 x3 S) : W p l e { frames := 1, cells := 0, slots := 0, locals := 22 } s m args below meth c H locs 0 0 (vx_MQ below (mQi g b KM Q (mA b KM s.heap.size)) (mEx g b KM (fun _ _ => False) (mA b KM s.heap.size)) args s 0 0 (mA b KM s.heap.size)) (F0 m 30 ls []) := by
  unfold w_X12_told_30b at h
  refine m_iload_n (pc := 30) C.1 dX12_told_30 rfl hl 3 rfl ?_
  refine m_iload_n (pc := 31) C.1 dX12_told_31 rfl hl 1 rfl ?_
  refine m_icmp_ge (pc := 32) (tgt := 76) C.1 ox3 ox1 dX12_told_32 (by decide) (fun hc => ?_) (fun hc => ?_)
  · replace h := h.1 hc
    exact hko76 r0 kr0 x1 ox1 x2 ox2 S _ _ _ (lv_sub hl [0, 1, 2] rfl) hW hS h
  · replace h := h.2 hc
    refine m_iload_n (pc := 35) C.1 dX12_told_35 rfl hl 2 rfl ?_
    refine m_if_eq (pc := 36) (tgt := 76) C.1 ox2 dX12_told_36 (by decide) (fun hc => ?_) (fun hc => ?_)
    · replace h := h.1 hc
      exact hko76 r0 kr0 x1 ox1 x2 ox2 S _ _ _ (lv_sub hl [0, 1, 2] rfl) hW hS h
    · replace h := h.2 hc
      refine m_aload_n (pc := 39) C.1 dX12_told_39 rfl hl 0 rfl ?_
      refine g_10_8 (pc := 40) C hW kr0 q_1391 dX12_told_40 ?_
      refine m_iload_n (pc := 43) C.1 dX12_told_43 rfl hl 3 rfl ?_
      obtain ⟨hb1a, hb1b, h⟩ := h
      refine m_iald (pc := 44) C.1 C.2.1 hW (k_10_8 kr0) ox3 hb1a hb1b dX12_told_44 ?_
      refine m_iload_n (pc := 45) C.1 dX12_told_45 rfl hl 3 rfl ?_
      refine m_iconst (pc := 46) C.1 dX12_told_46 ?_
      refine m_irem (pc := 47) C.1 (by decide : okI 2) (by decide) dX12_told_47 ?_
      refine m_if_ne (pc := 48) (tgt := 60) C.1 (iRem_ok _ _) dX12_told_48 (by decide) (fun hc => ?_) (fun hc => ?_)
      · replace h := h.1 hc
        refine m_iconst (pc := 60) C.1 dX12_told_60 ?_
        exact W_X12_told_61 C N hko30 r0 kr0 x1 ox1 x3 ox3 2 (by decide : okI 2) (S (r0 + 6) x3) (hW.2.1 _ _) S _ _ _ (lv_sub hl [0, 1, 3] rfl) hW hS h
      · replace h := h.2 hc
        refine m_aload_n (pc := 51) C.1 dX12_told_51 rfl hl 0 rfl ?_
        refine g_10_1 (pc := 52) C hW kr0 q_1384 dX12_told_52 ?_
        refine m_iconst (pc := 55) C.1 dX12_told_55 ?_
        refine m_iald (pc := 56) C.1 C.2.1 hW (k_10_1 kr0) (by decide : okI 3) (by decide) (by decide) dX12_told_56 ?_
        refine m_goto (pc := 57) (tgt := 61) C.1 dX12_told_57 (by decide) ?_
        exact W_X12_told_61 C N hko30 r0 kr0 x1 ox1 x3 ox3 (S (r0 + 1) 3) (hW.2.1 _ _) (S (r0 + 6) x3) (hW.2.1 _ _) S _ _ _ (lv_sub hl [0, 1, 3] rfl) hW hS h
def w_X12_told_30 (N : Nat) (Q : mSt → Int → Prop) (ko76 : Nat → Int → Int → mSt → Prop) : Nat → Nat → Int → Int → Int → mSt → Prop
  | 0 => fun _ _ _ _ _ => False
  | k + 1 => w_X12_told_30b N Q (w_X12_told_30 N Q ko76 k) ko76
theorem W_X12_told_30 (C : mC p l s m args meth c cX12_told "MoonWashModel" 6 (some FieldType.int) g) (N : Nat) {Q : mSt → Int → Prop} {ko76 : Nat → Int → Int → mSt → Prop} (hko76 : ∀ (r0 : Nat) (kr0 : KM r0 = (0, 10, 0)) (x1 : Int) (ox1 : okI x1) (x2 : Int) (ox2 : okI x2) (S : mSt) (H : Heap) (locs : List Loc) (ls : Array Slot), lv_has ls 6 [(0, .ref (b + r0)), (1, .int (mI x1)), (2, .int (mI x2))] → mW g b KM S H → va_S (mA b KM s.heap.size) s.heap H locs → ko76 r0 x1 x2 S → W p l e { frames := 1, cells := 0, slots := 0, locals := 22 } s m args below meth c H locs 0 0 (vx_MQ below (mQi g b KM Q (mA b KM s.heap.size)) (mEx g b KM (fun _ _ => False) (mA b KM s.heap.size)) args s 0 0 (mA b KM s.heap.size)) (F0 m 76 ls [])) : ∀ (k : Nat) (r0 : Nat) (kr0 : KM r0 = (0, 10, 0)) (x1 : Int) (ox1 : okI x1) (x2 : Int) (ox2 : okI x2) (x3 : Int) (ox3 : okI x3) (S : mSt) (H : Heap) (locs : List Loc) (ls : Array Slot) (hl : lv_has ls 6 [(0, .ref (b + r0)), (1, .int (mI x1)), (2, .int (mI x2)), (3, .int (mI x3))]) (hW : mW g b KM S H) (hS : va_S (mA b KM s.heap.size) s.heap H locs) (h : w_X12_told_30 N Q ko76 k r0 x1 x2 x3 S), W p l e { frames := 1, cells := 0, slots := 0, locals := 22 } s m args below meth c H locs 0 0 (vx_MQ below (mQi g b KM Q (mA b KM s.heap.size)) (mEx g b KM (fun _ _ => False) (mA b KM s.heap.size)) args s 0 0 (mA b KM s.heap.size)) (F0 m 30 ls []) := by
  intro k
  induction k with
  | zero => intro r0 kr0 x1 ox1 x2 ox2 x3 ox3 S H locs ls hl hW hS h; exact False.elim h
  | succ k ih => intro r0 kr0 x1 ox1 x2 ox2 x3 ox3 S H locs ls hl hW hS h; exact W_X12_told_30b C N ih hko76 r0 kr0 x1 ox1 x2 ox2 x3 ox3 S H locs ls hl hW hS h
def w_X12_told_178 (N : Nat) (Q : mSt → Int → Prop) (ko105 : Nat → Int → Int → Int → Int → mSt → Prop) (r0 : Nat) (x1 : Int) (x3 : Int) (x4 : Int) (x5 : Int) (xs0 : Int) (xs1 : Int) (rs2 : Nat) (S : mSt) : Prop :=
  (0 ≤ xs1 ∧ xs1 < 32 ∧ ((xs0 = 0 ∨ xs0 = 1) ∧ ∀ S2 : mSt, S2 = mup S rs2 xs1 xs0 → ∀ v3 : Int, v3 = nm (x5 + 2) → ko105 r0 x1 x3 x4 v3 S2))
theorem W_X12_told_178 (C : mC p l s m args meth c cX12_told "MoonWashModel" 6 (some FieldType.int) g) (N : Nat) {Q : mSt → Int → Prop} {ko105 : Nat → Int → Int → Int → Int → mSt → Prop} (hko105 : ∀ (r0 : Nat) (kr0 : KM r0 = (0, 10, 0)) (x1 : Int) (ox1 : okI x1) (x3 : Int) (ox3 : okI x3) (x4 : Int) (ox4 : okI x4) (x5 : Int) (ox5 : okI x5) (S : mSt) (H : Heap) (locs : List Loc) (ls : Array Slot), lv_has ls 6 [(0, .ref (b + r0)), (1, .int (mI x1)), (3, .int (mI x3)), (4, .int (mI x4)), (5, .int (mI x5))] → mW g b KM S H → va_S (mA b KM s.heap.size) s.heap H locs → ko105 r0 x1 x3 x4 x5 S → W p l e { frames := 1, cells := 0, slots := 0, locals := 22 } s m args below meth c H locs 0 0 (vx_MQ below (mQi g b KM Q (mA b KM s.heap.size)) (mEx g b KM (fun _ _ => False) (mA b KM s.heap.size)) args s 0 0 (mA b KM s.heap.size)) (F0 m 105 ls [])) (r0 : Nat) (kr0 : KM r0 = (0, 10, 0)) (x1 : Int) (ox1 : okI x1) (x3 : Int) (ox3 : okI x3) (x4 : Int) (ox4 : okI x4) (x5 : Int) (ox5 : okI x5) (xs0 : Int) (oxs0 : okI xs0) (xs1 : Int) (oxs1 : okI xs1) (rs2 : Nat) (krs2 : KM rs2 = (2, 32, 0)) (S : mSt) (H : Heap) (locs : List Loc) (ls : Array Slot) (hl : lv_has ls 6 [(0, .ref (b + r0)), (1, .int (mI x1)), (3, .int (mI x3)), (4, .int (mI x4)), (5, .int (mI x5))]) (hW : mW g b KM S H) (hS : va_S (mA b KM s.heap.size) s.heap H locs) (h : w_X12_told_178 N Q ko105 r0 x1 x3 x4 x5 xs0 xs1 rs2 S) : W p l e { frames := 1, cells := 0, slots := 0, locals := 22 } s m args below meth c H locs 0 0 (vx_MQ below (mQi g b KM Q (mA b KM s.heap.size)) (mEx g b KM (fun _ _ => False) (mA b KM s.heap.size)) args s 0 0 (mA b KM s.heap.size)) (F0 m 178 ls [.int (mI xs0), .int (mI xs1), .ref (b + rs2)]) := by
  unfold w_X12_told_178 at h
  obtain ⟨hb1a, hb1b, h⟩ := h
  obtain ⟨hz2, h⟩ := h
  refine m_zast (pc := 178) C.1 C.2.1 hW hS krs2 oxs1 hz2 hb1a hb1b dX12_told_178 (fun S2 H locs e2 hW2 hS => ?_)
  replace h := h S2 e2
  refine m_iinc (pc := 179) C.1 dX12_told_179 hl (by decide) (q0 := 4) rfl (fun v => [(5, .int v), (0, .ref (b + r0)), (1, .int (mI x1)), (3, .int (mI x3)), (4, .int (mI x4))]) (fun _ => rfl) (fun v3 ls ev3 ov3 hl => ?_)
  replace h := h v3 ev3
  refine m_goto (pc := 182) (tgt := 105) C.1 dX12_told_182 (by decide) ?_
  exact hko105 r0 kr0 x1 ox1 x3 ox3 x4 ox4 v3 ov3 S2 _ _ _ (lv_sub hl [1, 2, 3, 4, 0] rfl) hW2 hS h
def w_X12_told_170 (N : Nat) (Q : mSt → Int → Prop) (ko105 : Nat → Int → Int → Int → Int → mSt → Prop) (r0 : Nat) (x1 : Int) (x3 : Int) (x4 : Int) (x5 : Int) (xs0 : Int) (xs1 : Int) (xs2 : Int) (rs3 : Nat) (S : mSt) : Prop :=
  ((xs1 ≠ xs0 → w_X12_told_178 N Q ko105 r0 x1 x3 x4 x5 0 xs2 rs3 S) ∧ (xs1 = xs0 → w_X12_told_178 N Q ko105 r0 x1 x3 x4 x5 1 xs2 rs3 S))
theorem W_X12_told_170 (C : mC p l s m args meth c cX12_told "MoonWashModel" 6 (some FieldType.int) g) (N : Nat) {Q : mSt → Int → Prop} {ko105 : Nat → Int → Int → Int → Int → mSt → Prop} (hko105 : ∀ (r0 : Nat) (kr0 : KM r0 = (0, 10, 0)) (x1 : Int) (ox1 : okI x1) (x3 : Int) (ox3 : okI x3) (x4 : Int) (ox4 : okI x4) (x5 : Int) (ox5 : okI x5) (S : mSt) (H : Heap) (locs : List Loc) (ls : Array Slot), lv_has ls 6 [(0, .ref (b + r0)), (1, .int (mI x1)), (3, .int (mI x3)), (4, .int (mI x4)), (5, .int (mI x5))] → mW g b KM S H → va_S (mA b KM s.heap.size) s.heap H locs → ko105 r0 x1 x3 x4 x5 S → W p l e { frames := 1, cells := 0, slots := 0, locals := 22 } s m args below meth c H locs 0 0 (vx_MQ below (mQi g b KM Q (mA b KM s.heap.size)) (mEx g b KM (fun _ _ => False) (mA b KM s.heap.size)) args s 0 0 (mA b KM s.heap.size)) (F0 m 105 ls [])) (r0 : Nat) (kr0 : KM r0 = (0, 10, 0)) (x1 : Int) (ox1 : okI x1) (x3 : Int) (ox3 : okI x3) (x4 : Int) (ox4 : okI x4) (x5 : Int) (ox5 : okI x5) (xs0 : Int) (oxs0 : okI xs0) (xs1 : Int) (oxs1 : okI xs1) (xs2 : Int) (oxs2 : okI xs2) (rs3 : Nat) (krs3 : KM rs3 = (2, 32, 0)) (S : mSt) (H : Heap) (locs : List Loc) (ls : Array Slot) (hl : lv_has ls 6 [(0, .ref (b + r0)), (1, .int (mI x1)), (3, .int (mI x3)), (4, .int (mI x4)), (5, .int (mI x5))]) (hW : mW g b KM S H) (hS : va_S (mA b KM s.heap.size) s.heap H locs) (h : w_X12_told_170 N Q ko105 r0 x1 x3 x4 x5 xs0 xs1 xs2 rs3 S) : W p l e { frames := 1, cells := 0, slots := 0, locals := 22 } s m args below meth c H locs 0 0 (vx_MQ below (mQi g b KM Q (mA b KM s.heap.size)) (mEx g b KM (fun _ _ => False) (mA b KM s.heap.size)) args s 0 0 (mA b KM s.heap.size)) (F0 m 170 ls [.int (mI xs0), .int (mI xs1), .int (mI xs2), .ref (b + rs3)]) := by
  unfold w_X12_told_170 at h
  refine m_icmp_ne (pc := 170) (tgt := 177) C.1 oxs1 oxs0 dX12_told_170 (by decide) (fun hc => ?_) (fun hc => ?_)
  · replace h := h.1 hc
    refine m_iconst (pc := 177) C.1 dX12_told_177 ?_
    exact W_X12_told_178 C N hko105 r0 kr0 x1 ox1 x3 ox3 x4 ox4 x5 ox5 0 (by decide : okI 0) xs2 oxs2 rs3 krs3 S _ _ _ (lv_sub hl [0, 1, 2, 3, 4] rfl) hW hS h
  · replace h := h.2 hc
    refine m_iconst (pc := 173) C.1 dX12_told_173 ?_
    refine m_goto (pc := 174) (tgt := 178) C.1 dX12_told_174 (by decide) ?_
    exact W_X12_told_178 C N hko105 r0 kr0 x1 ox1 x3 ox3 x4 ox4 x5 ox5 1 (by decide : okI 1) xs2 oxs2 rs3 krs3 S _ _ _ (lv_sub hl [0, 1, 2, 3, 4] rfl) hW hS h
def w_X12_told_152 (N : Nat) (Q : mSt → Int → Prop) (ko105 : Nat → Int → Int → Int → Int → mSt → Prop) (r0 : Nat) (x1 : Int) (x3 : Int) (x4 : Int) (x5 : Int) (xs0 : Int) (xs1 : Int) (rs2 : Nat) (S : mSt) : Prop :=
  (0 ≤ (nm (x5 + 1)) ∧ (nm (x5 + 1)) < 400 ∧ (((S (r0 + 6) (nm (x5 + 1))) ≠ 1 → w_X12_told_170 N Q ko105 r0 x1 x3 x4 x5 0 xs0 xs1 rs2 S) ∧ ((S (r0 + 6) (nm (x5 + 1))) = 1 → w_X12_told_170 N Q ko105 r0 x1 x3 x4 x5 1 xs0 xs1 rs2 S)))
theorem W_X12_told_152 (C : mC p l s m args meth c cX12_told "MoonWashModel" 6 (some FieldType.int) g) (N : Nat) {Q : mSt → Int → Prop} {ko105 : Nat → Int → Int → Int → Int → mSt → Prop} (hko105 : ∀ (r0 : Nat) (kr0 : KM r0 = (0, 10, 0)) (x1 : Int) (ox1 : okI x1) (x3 : Int) (ox3 : okI x3) (x4 : Int) (ox4 : okI x4) (x5 : Int) (ox5 : okI x5) (S : mSt) (H : Heap) (locs : List Loc) (ls : Array Slot), lv_has ls 6 [(0, .ref (b + r0)), (1, .int (mI x1)), (3, .int (mI x3)), (4, .int (mI x4)), (5, .int (mI x5))] → mW g b KM S H → va_S (mA b KM s.heap.size) s.heap H locs → ko105 r0 x1 x3 x4 x5 S → W p l e { frames := 1, cells := 0, slots := 0, locals := 22 } s m args below meth c H locs 0 0 (vx_MQ below (mQi g b KM Q (mA b KM s.heap.size)) (mEx g b KM (fun _ _ => False) (mA b KM s.heap.size)) args s 0 0 (mA b KM s.heap.size)) (F0 m 105 ls [])) (r0 : Nat) (kr0 : KM r0 = (0, 10, 0)) (x1 : Int) (ox1 : okI x1) (x3 : Int) (ox3 : okI x3) (x4 : Int) (ox4 : okI x4) (x5 : Int) (ox5 : okI x5) (xs0 : Int) (oxs0 : okI xs0) (xs1 : Int) (oxs1 : okI xs1) (rs2 : Nat) (krs2 : KM rs2 = (2, 32, 0)) (S : mSt) (H : Heap) (locs : List Loc) (ls : Array Slot) (hl : lv_has ls 6 [(0, .ref (b + r0)), (1, .int (mI x1)), (3, .int (mI x3)), (4, .int (mI x4)), (5, .int (mI x5))]) (hW : mW g b KM S H) (hS : va_S (mA b KM s.heap.size) s.heap H locs) (h : w_X12_told_152 N Q ko105 r0 x1 x3 x4 x5 xs0 xs1 rs2 S) : W p l e { frames := 1, cells := 0, slots := 0, locals := 22 } s m args below meth c H locs 0 0 (vx_MQ below (mQi g b KM Q (mA b KM s.heap.size)) (mEx g b KM (fun _ _ => False) (mA b KM s.heap.size)) args s 0 0 (mA b KM s.heap.size)) (F0 m 152 ls [.int (mI xs0), .int (mI xs1), .ref (b + rs2)]) := by
  unfold w_X12_told_152 at h
  refine m_aload_n (pc := 152) C.1 dX12_told_152 rfl hl 0 rfl ?_
  refine g_10_8 (pc := 153) C hW kr0 q_1391 dX12_told_153 ?_
  refine m_iload (pc := 156) C.1 dX12_told_156 hl 4 rfl ?_
  refine m_iconst (pc := 158) C.1 dX12_told_158 ?_
  refine m_iadd (pc := 159) C.1 dX12_told_159 ?_
  obtain ⟨hb1a, hb1b, h⟩ := h
  refine m_iald (pc := 160) C.1 C.2.1 hW (k_10_8 kr0) (nm_ok _) hb1a hb1b dX12_told_160 ?_
  refine m_iconst (pc := 161) C.1 dX12_told_161 ?_
  refine m_icmp_ne (pc := 162) (tgt := 169) C.1 (hW.2.1 _ _) (by decide : okI 1) dX12_told_162 (by decide) (fun hc => ?_) (fun hc => ?_)
  · replace h := h.1 hc
    refine m_iconst (pc := 169) C.1 dX12_told_169 ?_
    exact W_X12_told_170 C N hko105 r0 kr0 x1 ox1 x3 ox3 x4 ox4 x5 ox5 0 (by decide : okI 0) xs0 oxs0 xs1 oxs1 rs2 krs2 S _ _ _ (lv_sub hl [0, 1, 2, 3, 4] rfl) hW hS h
  · replace h := h.2 hc
    refine m_iconst (pc := 165) C.1 dX12_told_165 ?_
    refine m_goto (pc := 166) (tgt := 170) C.1 dX12_told_166 (by decide) ?_
    exact W_X12_told_170 C N hko105 r0 kr0 x1 ox1 x3 ox3 x4 ox4 x5 ox5 1 (by decide : okI 1) xs0 oxs0 xs1 oxs1 rs2 krs2 S _ _ _ (lv_sub hl [0, 1, 2, 3, 4] rfl) hW hS h
def w_X12_told_105b (N : Nat) (Q : mSt → Int → Prop) (ko105 : Nat → Int → Int → Int → Int → mSt → Prop) (ko185 : Nat → Int → Int → Int → mSt → Prop) (r0 : Nat) (x1 : Int) (x3 : Int) (x4 : Int) (x5 : Int) (S : mSt) : Prop :=
  ((x1 ≤ x5 → ko185 r0 x1 x3 x4 S) ∧ (x5 < x1 → (0 ≤ x4 ∧ x4 < 32 ∧ (((S (r0 + 11) x4) = 0 → ko185 r0 x1 x3 x4 S) ∧ ((S (r0 + 11) x4) ≠ 0 → (0 ≤ x5 ∧ x5 < 400 ∧ w_X12_ofSoap N r0 (S (r0 + 6) x5) 3 S (fun (S3 : mSt) (v3 : Int) => (((bAnd x4 (bXor v3 (-1))) = 0 → w_X12_told_152 N Q ko105 r0 x1 x3 x4 x5 0 x4 (r0 + 11) S3) ∧ ((bAnd x4 (bXor v3 (-1))) ≠ 0 → w_X12_told_152 N Q ko105 r0 x1 x3 x4 x5 1 x4 (r0 + 11) S3)))))))))
theorem W_X12_told_105b (C : mC p l s m args meth c cX12_told "MoonWashModel" 6 (some FieldType.int) g) (N : Nat) {Q : mSt → Int → Prop} {ko105 : Nat → Int → Int → Int → Int → mSt → Prop} {ko185 : Nat → Int → Int → Int → mSt → Prop} (hko105 : ∀ (r0 : Nat) (kr0 : KM r0 = (0, 10, 0)) (x1 : Int) (ox1 : okI x1) (x3 : Int) (ox3 : okI x3) (x4 : Int) (ox4 : okI x4) (x5 : Int) (ox5 : okI x5) (S : mSt) (H : Heap) (locs : List Loc) (ls : Array Slot), lv_has ls 6 [(0, .ref (b + r0)), (1, .int (mI x1)), (3, .int (mI x3)), (4, .int (mI x4)), (5, .int (mI x5))] → mW g b KM S H → va_S (mA b KM s.heap.size) s.heap H locs → ko105 r0 x1 x3 x4 x5 S → W p l e { frames := 1, cells := 0, slots := 0, locals := 22 } s m args below meth c H locs 0 0 (vx_MQ below (mQi g b KM Q (mA b KM s.heap.size)) (mEx g b KM (fun _ _ => False) (mA b KM s.heap.size)) args s 0 0 (mA b KM s.heap.size)) (F0 m 105 ls [])) (hko185 : ∀ (r0 : Nat) (kr0 : KM r0 = (0, 10, 0)) (x1 : Int) (ox1 : okI x1) (x3 : Int) (ox3 : okI x3) (x4 : Int) (ox4 : okI x4) (S : mSt) (H : Heap) (locs : List Loc) (ls : Array Slot), lv_has ls 6 [(0, .ref (b + r0)), (1, .int (mI x1)), (3, .int (mI x3)), (4, .int (mI x4))] → mW g b KM S H → va_S (mA b KM s.heap.size) s.heap H locs → ko185 r0 x1 x3 x4 S → W p l e { frames := 1, cells := 0, slots := 0, locals := 22 } s m args below meth c H locs 0 0 (vx_MQ below (mQi g b KM Q (mA b KM s.heap.size)) (mEx g b KM (fun _ _ => False) (mA b KM s.heap.size)) args s 0 0 (mA b KM s.heap.size)) (F0 m 185 ls [])) (r0 : Nat) (kr0 : KM r0 = (0, 10, 0)) (x1 : Int) (ox1 : okI x1) (x3 : Int) (ox3 : okI x3) (x4 : Int) (ox4 : okI x4) (x5 : Int) (ox5 : okI x5) (S : mSt) (H : Heap) (locs : List Loc) (ls : Array Slot) (hl : lv_has ls 6 [(0, .ref (b + r0)), (1, .int (mI x1)), (3, .int (mI x3)), (4, .int (mI x4)), (5, .int (mI x5))]) (hW : mW g b KM S H) (hS : va_S (mA b KM s.heap.size) s.heap H locs) (h : w_X12_told_105b N Q ko105 ko185 r0 x1 x3 x4 x5 S) : W p l e { frames := 1, cells := 0, slots := 0, locals := 22 } s m args below meth c H locs 0 0 (vx_MQ below (mQi g b KM Q (mA b KM s.heap.size)) (mEx g b KM (fun _ _ => False) (mA b KM s.heap.size)) args s 0 0 (mA b KM s.heap.size)) (F0 m 105 ls []) := by
  unfold w_X12_told_105b at h
  refine m_iload (pc := 105) C.1 dX12_told_105 hl 4 rfl ?_
  refine m_iload_n (pc := 107) C.1 dX12_told_107 rfl hl 1 rfl ?_
  refine m_icmp_ge (pc := 108) (tgt := 185) C.1 ox5 ox1 dX12_told_108 (by decide) (fun hc => ?_) (fun hc => ?_)
  · replace h := h.1 hc
    exact hko185 r0 kr0 x1 ox1 x3 ox3 x4 ox4 S _ _ _ (lv_sub hl [0, 1, 2, 3] rfl) hW hS h
  · replace h := h.2 hc
    refine m_aload_n (pc := 111) C.1 dX12_told_111 rfl hl 0 rfl ?_
    refine g_10_24 (pc := 112) C hW kr0 q_1407 dX12_told_112 ?_
    refine m_iload (pc := 115) C.1 dX12_told_115 hl 3 rfl ?_
    obtain ⟨hb1a, hb1b, h⟩ := h
    refine m_zald (pc := 117) C.1 C.2.1 hW (k_10_24 kr0) ox4 hb1a hb1b dX12_told_117 ?_
    refine m_if_eq (pc := 118) (tgt := 185) C.1 (hW.2.1 _ _) dX12_told_118 (by decide) (fun hc => ?_) (fun hc => ?_)
    · replace h := h.1 hc
      exact hko185 r0 kr0 x1 ox1 x3 ox3 x4 ox4 S _ _ _ (lv_sub hl [0, 1, 2, 3] rfl) hW hS h
    · replace h := h.2 hc
      refine m_aload_n (pc := 121) C.1 dX12_told_121 rfl hl 0 rfl ?_
      refine g_10_24 (pc := 122) C hW kr0 q_1407 dX12_told_122 ?_
      refine m_iload (pc := 125) C.1 dX12_told_125 hl 3 rfl ?_
      refine m_iload (pc := 127) C.1 dX12_told_127 hl 3 rfl ?_
      refine m_aload_n (pc := 129) C.1 dX12_told_129 rfl hl 0 rfl ?_
      refine m_aload_n (pc := 130) C.1 dX12_told_130 rfl hl 0 rfl ?_
      refine g_10_8 (pc := 131) C hW kr0 q_1391 dX12_told_131 ?_
      refine m_iload (pc := 134) C.1 dX12_told_134 hl 4 rfl ?_
      obtain ⟨hb2a, hb2b, h⟩ := h
      refine m_iald (pc := 136) C.1 C.2.1 hW (k_10_8 kr0) ox5 hb2a hb2b dX12_told_136 ?_
      refine m_iconst (pc := 137) C.1 dX12_told_137 ?_
      refine m_callVi (pc := 138) C.1 C.2.2.1 hl.1 C.2.1 hW hS (As := [.int (mI (S (r0 + 6) x5)), .int (mI 3)]) (rest := [.int (mI x4), .int (mI x4), .ref (b + (r0 + 11))]) (r := r0) (T_X12_ofSoap C.2.2.2.2.2.2 N r0 kr0 (S (r0 + 6) x5) (hW.2.1 _ _) 3 (by decide : okI 3) h) kr0 rfl q_1671 q_1673 q_56 q_92 q_1674 pl_X12_ofSoap (by decide) (Nat.le_of_ble_eq_true rfl) dX12_told_138 (fun v3 S3 H locs ov3 h hW3 hS => ?_)
      refine m_iconst (pc := 141) C.1 dX12_told_141 ?_
      refine m_ixor (pc := 142) C.1 dX12_told_142 ?_
      refine m_iand (pc := 143) C.1 dX12_told_143 ?_
      refine m_if_eq (pc := 144) (tgt := 151) C.1 (bAnd_ok _ _) dX12_told_144 (by decide) (fun hc => ?_) (fun hc => ?_)
      · replace h := h.1 hc
        refine m_iconst (pc := 151) C.1 dX12_told_151 ?_
        exact W_X12_told_152 C N hko105 r0 kr0 x1 ox1 x3 ox3 x4 ox4 x5 ox5 0 (by decide : okI 0) x4 ox4 (r0 + 11) (k_10_24 kr0) S3 _ _ _ (lv_sub hl [0, 1, 2, 3, 4] rfl) hW3 hS h
      · replace h := h.2 hc
        refine m_iconst (pc := 147) C.1 dX12_told_147 ?_
        refine m_goto (pc := 148) (tgt := 152) C.1 dX12_told_148 (by decide) ?_
        exact W_X12_told_152 C N hko105 r0 kr0 x1 ox1 x3 ox3 x4 ox4 x5 ox5 1 (by decide : okI 1) x4 ox4 (r0 + 11) (k_10_24 kr0) S3 _ _ _ (lv_sub hl [0, 1, 2, 3, 4] rfl) hW3 hS h
def w_X12_told_105 (N : Nat) (Q : mSt → Int → Prop) (ko185 : Nat → Int → Int → Int → mSt → Prop) : Nat → Nat → Int → Int → Int → Int → mSt → Prop
  | 0 => fun _ _ _ _ _ _ => False
  | k + 1 => w_X12_told_105b N Q (w_X12_told_105 N Q ko185 k) ko185
theorem W_X12_told_105 (C : mC p l s m args meth c cX12_told "MoonWashModel" 6 (some FieldType.int) g) (N : Nat) {Q : mSt → Int → Prop} {ko185 : Nat → Int → Int → Int → mSt → Prop} (hko185 : ∀ (r0 : Nat) (kr0 : KM r0 = (0, 10, 0)) (x1 : Int) (ox1 : okI x1) (x3 : Int) (ox3 : okI x3) (x4 : Int) (ox4 : okI x4) (S : mSt) (H : Heap) (locs : List Loc) (ls : Array Slot), lv_has ls 6 [(0, .ref (b + r0)), (1, .int (mI x1)), (3, .int (mI x3)), (4, .int (mI x4))] → mW g b KM S H → va_S (mA b KM s.heap.size) s.heap H locs → ko185 r0 x1 x3 x4 S → W p l e { frames := 1, cells := 0, slots := 0, locals := 22 } s m args below meth c H locs 0 0 (vx_MQ below (mQi g b KM Q (mA b KM s.heap.size)) (mEx g b KM (fun _ _ => False) (mA b KM s.heap.size)) args s 0 0 (mA b KM s.heap.size)) (F0 m 185 ls [])) : ∀ (k : Nat) (r0 : Nat) (kr0 : KM r0 = (0, 10, 0)) (x1 : Int) (ox1 : okI x1) (x3 : Int) (ox3 : okI x3) (x4 : Int) (ox4 : okI x4) (x5 : Int) (ox5 : okI x5) (S : mSt) (H : Heap) (locs : List Loc) (ls : Array Slot) (hl : lv_has ls 6 [(0, .ref (b + r0)), (1, .int (mI x1)), (3, .int (mI x3)), (4, .int (mI x4)), (5, .int (mI x5))]) (hW : mW g b KM S H) (hS : va_S (mA b KM s.heap.size) s.heap H locs) (h : w_X12_told_105 N Q ko185 k r0 x1 x3 x4 x5 S), W p l e { frames := 1, cells := 0, slots := 0, locals := 22 } s m args below meth c H locs 0 0 (vx_MQ below (mQi g b KM Q (mA b KM s.heap.size)) (mEx g b KM (fun _ _ => False) (mA b KM s.heap.size)) args s 0 0 (mA b KM s.heap.size)) (F0 m 105 ls []) := by
  intro k
  induction k with
  | zero => intro r0 kr0 x1 ox1 x3 ox3 x4 ox4 x5 ox5 S H locs ls hl hW hS h; exact False.elim h
  | succ k ih => intro r0 kr0 x1 ox1 x3 ox3 x4 ox4 x5 ox5 S H locs ls hl hW hS h; exact W_X12_told_105b C N ih hko185 r0 kr0 x1 ox1 x3 ox3 x4 ox4 x5 ox5 S H locs ls hl hW hS h
def w_X12_told_201 (N : Nat) (Q : mSt → Int → Prop) (ko87 : Nat → Int → Int → Int → mSt → Prop) (r0 : Nat) (x1 : Int) (x4 : Int) (xs0 : Int) (xs1 : Int) (S : mSt) : Prop :=
  ∀ v1 : Int, v1 = (nm (xs1 + xs0)) → ∀ v2 : Int, v2 = nm (x4 + 1) → ko87 r0 x1 v1 v2 S
theorem W_X12_told_201 (C : mC p l s m args meth c cX12_told "MoonWashModel" 6 (some FieldType.int) g) (N : Nat) {Q : mSt → Int → Prop} {ko87 : Nat → Int → Int → Int → mSt → Prop} (hko87 : ∀ (r0 : Nat) (kr0 : KM r0 = (0, 10, 0)) (x1 : Int) (ox1 : okI x1) (x3 : Int) (ox3 : okI x3) (x4 : Int) (ox4 : okI x4) (S : mSt) (H : Heap) (locs : List Loc) (ls : Array Slot), lv_has ls 6 [(0, .ref (b + r0)), (1, .int (mI x1)), (3, .int (mI x3)), (4, .int (mI x4))] → mW g b KM S H → va_S (mA b KM s.heap.size) s.heap H locs → ko87 r0 x1 x3 x4 S → W p l e { frames := 1, cells := 0, slots := 0, locals := 22 } s m args below meth c H locs 0 0 (vx_MQ below (mQi g b KM Q (mA b KM s.heap.size)) (mEx g b KM (fun _ _ => False) (mA b KM s.heap.size)) args s 0 0 (mA b KM s.heap.size)) (F0 m 87 ls [])) (r0 : Nat) (kr0 : KM r0 = (0, 10, 0)) (x1 : Int) (ox1 : okI x1) (x4 : Int) (ox4 : okI x4) (xs0 : Int) (oxs0 : okI xs0) (xs1 : Int) (oxs1 : okI xs1) (S : mSt) (H : Heap) (locs : List Loc) (ls : Array Slot) (hl : lv_has ls 6 [(0, .ref (b + r0)), (1, .int (mI x1)), (4, .int (mI x4))]) (hW : mW g b KM S H) (hS : va_S (mA b KM s.heap.size) s.heap H locs) (h : w_X12_told_201 N Q ko87 r0 x1 x4 xs0 xs1 S) : W p l e { frames := 1, cells := 0, slots := 0, locals := 22 } s m args below meth c H locs 0 0 (vx_MQ below (mQi g b KM Q (mA b KM s.heap.size)) (mEx g b KM (fun _ _ => False) (mA b KM s.heap.size)) args s 0 0 (mA b KM s.heap.size)) (F0 m 201 ls [.int (mI xs0), .int (mI xs1)]) := by
  unfold w_X12_told_201 at h
  refine m_iadd (pc := 201) C.1 dX12_told_201 ?_
  refine m_istore_n (pc := 202) C.1 dX12_told_202 rfl hl (by decide) (fun v => [(3, .int v), (0, .ref (b + r0)), (1, .int (mI x1)), (4, .int (mI x4))]) (fun _ => rfl) (nm_ok _) (fun v1 ls ev1 ov1 hl => ?_)
  replace h := h v1 ev1
  refine m_iinc (pc := 203) C.1 dX12_told_203 hl (by decide) (q0 := 3) rfl (fun v => [(4, .int v), (3, .int (mI v1)), (0, .ref (b + r0)), (1, .int (mI x1))]) (fun _ => rfl) (fun v2 ls ev2 ov2 hl => ?_)
  replace h := h v2 ev2
  refine m_goto (pc := 206) (tgt := 87) C.1 dX12_told_206 (by decide) ?_
  exact hko87 r0 kr0 x1 ox1 v1 ov1 v2 ov2 S _ _ _ (lv_sub hl [2, 3, 1, 0] rfl) hW hS h
def w_X12_told_185 (N : Nat) (Q : mSt → Int → Prop) (ko87 : Nat → Int → Int → Int → mSt → Prop) (r0 : Nat) (x1 : Int) (x3 : Int) (x4 : Int) (S : mSt) : Prop :=
  (0 ≤ x4 ∧ x4 < 32 ∧ (((S (r0 + 11) x4) = 0 → w_X12_told_201 N Q ko87 r0 x1 x4 0 x3 S) ∧ ((S (r0 + 11) x4) ≠ 0 → w_X12_told_201 N Q ko87 r0 x1 x4 1 x3 S)))
theorem W_X12_told_185 (C : mC p l s m args meth c cX12_told "MoonWashModel" 6 (some FieldType.int) g) (N : Nat) {Q : mSt → Int → Prop} {ko87 : Nat → Int → Int → Int → mSt → Prop} (hko87 : ∀ (r0 : Nat) (kr0 : KM r0 = (0, 10, 0)) (x1 : Int) (ox1 : okI x1) (x3 : Int) (ox3 : okI x3) (x4 : Int) (ox4 : okI x4) (S : mSt) (H : Heap) (locs : List Loc) (ls : Array Slot), lv_has ls 6 [(0, .ref (b + r0)), (1, .int (mI x1)), (3, .int (mI x3)), (4, .int (mI x4))] → mW g b KM S H → va_S (mA b KM s.heap.size) s.heap H locs → ko87 r0 x1 x3 x4 S → W p l e { frames := 1, cells := 0, slots := 0, locals := 22 } s m args below meth c H locs 0 0 (vx_MQ below (mQi g b KM Q (mA b KM s.heap.size)) (mEx g b KM (fun _ _ => False) (mA b KM s.heap.size)) args s 0 0 (mA b KM s.heap.size)) (F0 m 87 ls [])) (r0 : Nat) (kr0 : KM r0 = (0, 10, 0)) (x1 : Int) (ox1 : okI x1) (x3 : Int) (ox3 : okI x3) (x4 : Int) (ox4 : okI x4) (S : mSt) (H : Heap) (locs : List Loc) (ls : Array Slot) (hl : lv_has ls 6 [(0, .ref (b + r0)), (1, .int (mI x1)), (3, .int (mI x3)), (4, .int (mI x4))]) (hW : mW g b KM S H) (hS : va_S (mA b KM s.heap.size) s.heap H locs) (h : w_X12_told_185 N Q ko87 r0 x1 x3 x4 S) : W p l e { frames := 1, cells := 0, slots := 0, locals := 22 } s m args below meth c H locs 0 0 (vx_MQ below (mQi g b KM Q (mA b KM s.heap.size)) (mEx g b KM (fun _ _ => False) (mA b KM s.heap.size)) args s 0 0 (mA b KM s.heap.size)) (F0 m 185 ls []) := by
  unfold w_X12_told_185 at h
  refine m_iload_n (pc := 185) C.1 dX12_told_185 rfl hl 2 rfl ?_
  refine m_aload_n (pc := 186) C.1 dX12_told_186 rfl hl 0 rfl ?_
  refine g_10_24 (pc := 187) C hW kr0 q_1407 dX12_told_187 ?_
  refine m_iload (pc := 190) C.1 dX12_told_190 hl 3 rfl ?_
  obtain ⟨hb1a, hb1b, h⟩ := h
  refine m_zald (pc := 192) C.1 C.2.1 hW (k_10_24 kr0) ox4 hb1a hb1b dX12_told_192 ?_
  refine m_if_eq (pc := 193) (tgt := 200) C.1 (hW.2.1 _ _) dX12_told_193 (by decide) (fun hc => ?_) (fun hc => ?_)
  · replace h := h.1 hc
    refine m_iconst (pc := 200) C.1 dX12_told_200 ?_
    exact W_X12_told_201 C N hko87 r0 kr0 x1 ox1 x4 ox4 0 (by decide : okI 0) x3 ox3 S _ _ _ (lv_sub hl [0, 1, 3] rfl) hW hS h
  · replace h := h.2 hc
    refine m_iconst (pc := 196) C.1 dX12_told_196 ?_
    refine m_goto (pc := 197) (tgt := 201) C.1 dX12_told_197 (by decide) ?_
    exact W_X12_told_201 C N hko87 r0 kr0 x1 ox1 x4 ox4 1 (by decide : okI 1) x3 ox3 S _ _ _ (lv_sub hl [0, 1, 3] rfl) hW hS h
def w_X12_told_87b (N : Nat) (Q : mSt → Int → Prop) (ko87 : Nat → Int → Int → Int → mSt → Prop) (ko209 : Int → mSt → Prop) (r0 : Nat) (x1 : Int) (x3 : Int) (x4 : Int) (S : mSt) : Prop :=
  ((32 ≤ x4 → ko209 x3 S) ∧ (x4 < 32 → (0 ≤ x4 ∧ x4 < 32 ∧ ∀ S2 : mSt, S2 = mup S (r0 + 11) x4 1 → ∀ v3 : Int, v3 = 0 → w_X12_told_105 N Q (fun (r0_4 : Nat) (x1_4 : Int) (x3_4 : Int) (x4_4 : Int) (S_4 : mSt) => w_X12_told_185 N Q ko87 r0_4 x1_4 x3_4 x4_4 S_4) N r0 x1 x3 x4 v3 S2)))
theorem W_X12_told_87b (C : mC p l s m args meth c cX12_told "MoonWashModel" 6 (some FieldType.int) g) (N : Nat) {Q : mSt → Int → Prop} {ko87 : Nat → Int → Int → Int → mSt → Prop} {ko209 : Int → mSt → Prop} (hko87 : ∀ (r0 : Nat) (kr0 : KM r0 = (0, 10, 0)) (x1 : Int) (ox1 : okI x1) (x3 : Int) (ox3 : okI x3) (x4 : Int) (ox4 : okI x4) (S : mSt) (H : Heap) (locs : List Loc) (ls : Array Slot), lv_has ls 6 [(0, .ref (b + r0)), (1, .int (mI x1)), (3, .int (mI x3)), (4, .int (mI x4))] → mW g b KM S H → va_S (mA b KM s.heap.size) s.heap H locs → ko87 r0 x1 x3 x4 S → W p l e { frames := 1, cells := 0, slots := 0, locals := 22 } s m args below meth c H locs 0 0 (vx_MQ below (mQi g b KM Q (mA b KM s.heap.size)) (mEx g b KM (fun _ _ => False) (mA b KM s.heap.size)) args s 0 0 (mA b KM s.heap.size)) (F0 m 87 ls [])) (hko209 : ∀ (x3 : Int) (ox3 : okI x3) (S : mSt) (H : Heap) (locs : List Loc) (ls : Array Slot), lv_has ls 6 [(3, .int (mI x3))] → mW g b KM S H → va_S (mA b KM s.heap.size) s.heap H locs → ko209 x3 S → W p l e { frames := 1, cells := 0, slots := 0, locals := 22 } s m args below meth c H locs 0 0 (vx_MQ below (mQi g b KM Q (mA b KM s.heap.size)) (mEx g b KM (fun _ _ => False) (mA b KM s.heap.size)) args s 0 0 (mA b KM s.heap.size)) (F0 m 209 ls [])) (r0 : Nat) (kr0 : KM r0 = (0, 10, 0)) (x1 : Int) (ox1 : okI x1) (x3 : Int) (ox3 : okI x3) (x4 : Int) (ox4 : okI x4) (S : mSt) (H : Heap) (locs : List Loc) (ls : Array Slot) (hl : lv_has ls 6 [(0, .ref (b + r0)), (1, .int (mI x1)), (3, .int (mI x3)), (4, .int (mI x4))]) (hW : mW g b KM S H) (hS : va_S (mA b KM s.heap.size) s.heap H locs) (h : w_X12_told_87b N Q ko87 ko209 r0 x1 x3 x4 S) : W p l e { frames := 1, cells := 0, slots := 0, locals := 22 } s m args below meth c H locs 0 0 (vx_MQ below (mQi g b KM Q (mA b KM s.heap.size)) (mEx g b KM (fun _ _ => False) (mA b KM s.heap.size)) args s 0 0 (mA b KM s.heap.size)) (F0 m 87 ls []) := by
  unfold w_X12_told_87b at h
  refine m_iload (pc := 87) C.1 dX12_told_87 hl 3 rfl ?_
  refine m_bipush (pc := 89) C.1 dX12_told_89 rfl ?_
  refine m_icmp_ge (pc := 91) (tgt := 209) C.1 ox4 (by decide : okI 32) dX12_told_91 (by decide) (fun hc => ?_) (fun hc => ?_)
  · replace h := h.1 hc
    exact hko209 x3 ox3 S _ _ _ (lv_sub hl [2] rfl) hW hS h
  · replace h := h.2 hc
    refine m_aload_n (pc := 94) C.1 dX12_told_94 rfl hl 0 rfl ?_
    refine g_10_24 (pc := 95) C hW kr0 q_1407 dX12_told_95 ?_
    refine m_iload (pc := 98) C.1 dX12_told_98 hl 3 rfl ?_
    refine m_iconst (pc := 100) C.1 dX12_told_100 ?_
    obtain ⟨hb1a, hb1b, h⟩ := h
    refine m_zast (pc := 101) C.1 C.2.1 hW hS (k_10_24 kr0) ox4 (by decide) hb1a hb1b dX12_told_101 (fun S2 H locs e2 hW2 hS => ?_)
    replace h := h S2 e2
    refine m_iconst (pc := 102) C.1 dX12_told_102 ?_
    refine m_istore (pc := 103) C.1 dX12_told_103 hl (by decide) (fun v => [(5, .int v), (0, .ref (b + r0)), (1, .int (mI x1)), (3, .int (mI x3)), (4, .int (mI x4))]) (fun _ => rfl) (by decide : okI 0) (fun v3 ls ev3 ov3 hl => ?_)
    replace h := h v3 ev3
    refine W_X12_told_105 C N ?_ N r0 kr0 x1 ox1 x3 ox3 x4 ox4 v3 ov3 S2 _ _ _ (lv_sub hl [1, 2, 3, 4, 0] rfl) hW2 hS h
    · intro r0_4 kr0_4 x1_4 ox1_4 x3_4 ox3_4 x4_4 ox4_4 S_4 H locs ls hl hW_4 hS h
      exact W_X12_told_185 C N hko87 r0_4 kr0_4 x1_4 ox1_4 x3_4 ox3_4 x4_4 ox4_4 S_4 _ _ _ (lv_sub hl [0, 1, 2, 3] rfl) hW_4 hS h
def w_X12_told_87 (N : Nat) (Q : mSt → Int → Prop) (ko209 : Int → mSt → Prop) : Nat → Nat → Int → Int → Int → mSt → Prop
  | 0 => fun _ _ _ _ _ => False
  | k + 1 => w_X12_told_87b N Q (w_X12_told_87 N Q ko209 k) ko209
theorem W_X12_told_87 (C : mC p l s m args meth c cX12_told "MoonWashModel" 6 (some FieldType.int) g) (N : Nat) {Q : mSt → Int → Prop} {ko209 : Int → mSt → Prop} (hko209 : ∀ (x3 : Int) (ox3 : okI x3) (S : mSt) (H : Heap) (locs : List Loc) (ls : Array Slot), lv_has ls 6 [(3, .int (mI x3))] → mW g b KM S H → va_S (mA b KM s.heap.size) s.heap H locs → ko209 x3 S → W p l e { frames := 1, cells := 0, slots := 0, locals := 22 } s m args below meth c H locs 0 0 (vx_MQ below (mQi g b KM Q (mA b KM s.heap.size)) (mEx g b KM (fun _ _ => False) (mA b KM s.heap.size)) args s 0 0 (mA b KM s.heap.size)) (F0 m 209 ls [])) : ∀ (k : Nat) (r0 : Nat) (kr0 : KM r0 = (0, 10, 0)) (x1 : Int) (ox1 : okI x1) (x3 : Int) (ox3 : okI x3) (x4 : Int) (ox4 : okI x4) (S : mSt) (H : Heap) (locs : List Loc) (ls : Array Slot) (hl : lv_has ls 6 [(0, .ref (b + r0)), (1, .int (mI x1)), (3, .int (mI x3)), (4, .int (mI x4))]) (hW : mW g b KM S H) (hS : va_S (mA b KM s.heap.size) s.heap H locs) (h : w_X12_told_87 N Q ko209 k r0 x1 x3 x4 S), W p l e { frames := 1, cells := 0, slots := 0, locals := 22 } s m args below meth c H locs 0 0 (vx_MQ below (mQi g b KM Q (mA b KM s.heap.size)) (mEx g b KM (fun _ _ => False) (mA b KM s.heap.size)) args s 0 0 (mA b KM s.heap.size)) (F0 m 87 ls []) := by
  intro k
  induction k with
  | zero => intro r0 kr0 x1 ox1 x3 ox3 x4 ox4 S H locs ls hl hW hS h; exact False.elim h
  | succ k ih => intro r0 kr0 x1 ox1 x3 ox3 x4 ox4 S H locs ls hl hW hS h; exact W_X12_told_87b C N ih hko209 r0 kr0 x1 ox1 x3 ox3 x4 ox4 S H locs ls hl hW hS h
def w_X12_told_76 (N : Nat) (Q : mSt → Int → Prop)  (r0 : Nat) (x1 : Int) (x2 : Int) (S : mSt) : Prop :=
  ((x2 ≠ 0 → ∀ v1 : Int, v1 = 0 → ∀ v2 : Int, v2 = 0 → w_X12_told_87 N Q (fun (x3_3 : Int) (S_3 : mSt) => Q S_3 x3_3) N r0 x1 v1 v2 S) ∧ (x2 = 0 → Q S (-1)))
theorem W_X12_told_76 (C : mC p l s m args meth c cX12_told "MoonWashModel" 6 (some FieldType.int) g) (N : Nat) {Q : mSt → Int → Prop}   (r0 : Nat) (kr0 : KM r0 = (0, 10, 0)) (x1 : Int) (ox1 : okI x1) (x2 : Int) (ox2 : okI x2) (S : mSt) (H : Heap) (locs : List Loc) (ls : Array Slot) (hl : lv_has ls 6 [(0, .ref (b + r0)), (1, .int (mI x1)), (2, .int (mI x2))]) (hW : mW g b KM S H) (hS : va_S (mA b KM s.heap.size) s.heap H locs) (h : w_X12_told_76 N Q  r0 x1 x2 S) : W p l e { frames := 1, cells := 0, slots := 0, locals := 22 } s m args below meth c H locs 0 0 (vx_MQ below (mQi g b KM Q (mA b KM s.heap.size)) (mEx g b KM (fun _ _ => False) (mA b KM s.heap.size)) args s 0 0 (mA b KM s.heap.size)) (F0 m 76 ls []) := by
  unfold w_X12_told_76 at h
  refine m_iload_n (pc := 76) C.1 dX12_told_76 rfl hl 2 rfl ?_
  refine m_if_ne (pc := 77) (tgt := 82) C.1 ox2 dX12_told_77 (by decide) (fun hc => ?_) (fun hc => ?_)
  · replace h := h.1 hc
    refine m_iconst (pc := 82) C.1 dX12_told_82 ?_
    refine m_istore_n (pc := 83) C.1 dX12_told_83 rfl hl (by decide) (fun v => [(3, .int v), (0, .ref (b + r0)), (1, .int (mI x1)), (2, .int (mI x2))]) (fun _ => rfl) (by decide : okI 0) (fun v1 ls ev1 ov1 hl => ?_)
    replace h := h v1 ev1
    refine m_iconst (pc := 84) C.1 dX12_told_84 ?_
    refine m_istore (pc := 85) C.1 dX12_told_85 hl (by decide) (fun v => [(4, .int v), (3, .int (mI v1)), (0, .ref (b + r0)), (1, .int (mI x1)), (2, .int (mI x2))]) (fun _ => rfl) (by decide : okI 0) (fun v2 ls ev2 ov2 hl => ?_)
    replace h := h v2 ev2
    refine W_X12_told_87 C N ?_ N r0 kr0 x1 ox1 v1 ov1 v2 ov2 S _ _ _ (lv_sub hl [2, 3, 1, 0] rfl) hW hS h
    · intro x3_3 ox3_3 S_3 H locs ls hl hW_3 hS h
      refine m_iload_n (pc := 209) C.1 dX12_told_209 rfl hl 0 rfl ?_
      exact m_iret (pc := 210) C.1 C.2.2.2.1 C.2.2.2.2.1 hW_3 hS ox3_3 h (by decide) (by decide) dX12_told_210
  · replace h := h.2 hc
    refine m_iconst (pc := 80) C.1 dX12_told_80 ?_
    exact m_iret (pc := 81) C.1 C.2.2.2.1 C.2.2.2.2.1 hW hS (by decide : okI (-1)) h (by decide) (by decide) dX12_told_81
def w_X12_told_27 (N : Nat) (Q : mSt → Int → Prop)  (r0 : Nat) (x1 : Int) (xs0 : Int) (S : mSt) : Prop :=
  ∀ v1 : Int, v1 = xs0 → ∀ v2 : Int, v2 = 0 → w_X12_told_30 N Q (fun (r0_3 : Nat) (x1_3 : Int) (x2_3 : Int) (S_3 : mSt) => w_X12_told_76 N Q  r0_3 x1_3 x2_3 S_3) N r0 x1 v1 v2 S
theorem W_X12_told_27 (C : mC p l s m args meth c cX12_told "MoonWashModel" 6 (some FieldType.int) g) (N : Nat) {Q : mSt → Int → Prop}   (r0 : Nat) (kr0 : KM r0 = (0, 10, 0)) (x1 : Int) (ox1 : okI x1) (xs0 : Int) (oxs0 : okI xs0) (S : mSt) (H : Heap) (locs : List Loc) (ls : Array Slot) (hl : lv_has ls 6 [(0, .ref (b + r0)), (1, .int (mI x1))]) (hW : mW g b KM S H) (hS : va_S (mA b KM s.heap.size) s.heap H locs) (h : w_X12_told_27 N Q  r0 x1 xs0 S) : W p l e { frames := 1, cells := 0, slots := 0, locals := 22 } s m args below meth c H locs 0 0 (vx_MQ below (mQi g b KM Q (mA b KM s.heap.size)) (mEx g b KM (fun _ _ => False) (mA b KM s.heap.size)) args s 0 0 (mA b KM s.heap.size)) (F0 m 27 ls [.int (mI xs0)]) := by
  unfold w_X12_told_27 at h
  refine m_istore_n (pc := 27) C.1 dX12_told_27 rfl hl (by decide) (fun v => [(2, .int v), (0, .ref (b + r0)), (1, .int (mI x1))]) (fun _ => rfl) oxs0 (fun v1 ls ev1 ov1 hl => ?_)
  replace h := h v1 ev1
  refine m_iconst (pc := 28) C.1 dX12_told_28 ?_
  refine m_istore_n (pc := 29) C.1 dX12_told_29 rfl hl (by decide) (fun v => [(3, .int v), (2, .int (mI v1)), (0, .ref (b + r0)), (1, .int (mI x1))]) (fun _ => rfl) (by decide : okI 0) (fun v2 ls ev2 ov2 hl => ?_)
  replace h := h v2 ev2
  refine W_X12_told_30 C N ?_ N r0 kr0 x1 ox1 v1 ov1 v2 ov2 S _ _ _ (lv_sub hl [2, 3, 1, 0] rfl) hW hS h
  · intro r0_3 kr0_3 x1_3 ox1_3 x2_3 ox2_3 S_3 H locs ls hl hW_3 hS h
    exact W_X12_told_76 C N  r0_3 kr0_3 x1_3 ox1_3 x2_3 ox2_3 S_3 _ _ _ (lv_sub hl [0, 1, 2] rfl) hW_3 hS h
def w_X12_told_26 (N : Nat) (Q : mSt → Int → Prop)  (r0 : Nat) (x1 : Int) (S : mSt) : Prop :=
  w_X12_told_27 N Q  r0 x1 0 S
theorem W_X12_told_26 (C : mC p l s m args meth c cX12_told "MoonWashModel" 6 (some FieldType.int) g) (N : Nat) {Q : mSt → Int → Prop}   (r0 : Nat) (kr0 : KM r0 = (0, 10, 0)) (x1 : Int) (ox1 : okI x1) (S : mSt) (H : Heap) (locs : List Loc) (ls : Array Slot) (hl : lv_has ls 6 [(0, .ref (b + r0)), (1, .int (mI x1))]) (hW : mW g b KM S H) (hS : va_S (mA b KM s.heap.size) s.heap H locs) (h : w_X12_told_26 N Q  r0 x1 S) : W p l e { frames := 1, cells := 0, slots := 0, locals := 22 } s m args below meth c H locs 0 0 (vx_MQ below (mQi g b KM Q (mA b KM s.heap.size)) (mEx g b KM (fun _ _ => False) (mA b KM s.heap.size)) args s 0 0 (mA b KM s.heap.size)) (F0 m 26 ls []) := by
  unfold w_X12_told_26 at h
  refine m_iconst (pc := 26) C.1 dX12_told_26 ?_
  exact W_X12_told_27 C N  r0 kr0 x1 ox1 0 (by decide : okI 0) S _ _ _ (lv_sub hl [0, 1] rfl) hW hS h
end
def w_X12_told (N : Nat) (r0 : Nat) (S : mSt) (Q : mSt → Int → Prop) : Prop :=
  ∀ v1 : Int, v1 = (S r0 9) → ∀ S2 : mSt, S2 = mup S r0 9 0 → (((iRem v1 2) ≠ 0 → w_X12_told_26 N Q  r0 v1 S2) ∧ ((iRem v1 2) = 0 → ((40 < v1 → w_X12_told_26 N Q  r0 v1 S2) ∧ (v1 ≤ 40 → w_X12_told_27 N Q  r0 v1 1 S2))))
theorem T_X12_told {l : Launch} (hl0 : l.stackTraces = false) {g : mG} {b : Nat} (N : Nat) (r0 : Nat) (kr0 : KM r0 = (0, 10, 0)) {S : mSt} {Q : mSt → Int → Prop} (h : w_X12_told N r0 S Q) (sz : Nat) : vx_Met l yX12_told (Cond.code yX12_told cX12_told 6 (some FieldType.int) :: wsG) { frames := 1, cells := 0, slots := 0, locals := 22 } (mPc g b KM S [.ref (b + r0)] sz) (mQi g b KM Q (mA b KM sz)) (mEx g b KM (fun _ _ => False) (mA b KM sz)) 0 0 (mA b KM sz) :=
  m_of (av := [.ref (b + r0)]) (Qf := fun A => mQi g b KM Q A) (Xf := fun A => mEx g b KM (fun _ _ => False) A) (by decide) (Nat.le_of_ble_eq_true rfl) (fun p e s m args below meth c ls X hK hml hr hlk hout hnm hW hl => by
    have C : mC p l s m args meth c cX12_told "MoonWashModel" 6 (some FieldType.int) g := ⟨X, hK, hml, hr, hlk, hout, hl0⟩
    have hS : va_S (mA b KM s.heap.size) s.heap s.heap [] := va_S.rf
    have hl : lv_has ls 6 [(0, .ref (b + r0))] := hl
    unfold w_X12_told at h
    refine m_aload_n (pc := 0) C.1 dX12_told_0 rfl hl 0 rfl ?_
    refine g_10_9 (pc := 1) C hW kr0 q_1392 dX12_told_1 ?_
    refine m_istore_n (pc := 4) C.1 dX12_told_4 rfl hl (by decide) (fun v => [(1, .int v), (0, .ref (b + r0))]) (fun _ => rfl) (hW.2.1 _ _) (fun v1 ls ev1 ov1 hl => ?_)
    replace h := h v1 ev1
    refine m_aload_n (pc := 5) C.1 dX12_told_5 rfl hl 1 rfl ?_
    refine m_iconst (pc := 6) C.1 dX12_told_6 ?_
    refine p_10_9 (pc := 7) C hW hS kr0 q_1392 (by decide : okI 0) dX12_told_7 (fun S2 H locs e2 hW2 hS => ?_)
    replace h := h S2 e2
    refine m_iload_n (pc := 10) C.1 dX12_told_10 rfl hl 0 rfl ?_
    refine m_iconst (pc := 11) C.1 dX12_told_11 ?_
    refine m_irem (pc := 12) C.1 (by decide : okI 2) (by decide) dX12_told_12 ?_
    refine m_if_ne (pc := 13) (tgt := 26) C.1 (iRem_ok _ _) dX12_told_13 (by decide) (fun hc => ?_) (fun hc => ?_)
    · replace h := h.1 hc
      exact W_X12_told_26 C N  r0 kr0 v1 ov1 S2 _ _ _ (lv_sub hl [1, 0] rfl) hW2 hS h
    · replace h := h.2 hc
      refine m_iload_n (pc := 16) C.1 dX12_told_16 rfl hl 0 rfl ?_
      refine m_bipush (pc := 17) C.1 dX12_told_17 rfl ?_
      refine m_icmp_gt (pc := 19) (tgt := 26) C.1 ov1 (by decide : okI 40) dX12_told_19 (by decide) (fun hc => ?_) (fun hc => ?_)
      · replace h := h.1 hc
        exact W_X12_told_26 C N  r0 kr0 v1 ov1 S2 _ _ _ (lv_sub hl [1, 0] rfl) hW2 hS h
      · replace h := h.2 hc
        refine m_iconst (pc := 22) C.1 dX12_told_22 ?_
        refine m_goto (pc := 23) (tgt := 27) C.1 dX12_told_23 (by decide) ?_
        exact W_X12_told_27 C N  r0 kr0 v1 ov1 1 (by decide : okI 1) S2 _ _ _ (lv_sub hl [1, 0] rfl) hW2 hS h) sz
