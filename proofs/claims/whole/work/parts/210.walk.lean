set_option maxHeartbeats 4000000
set_option maxRecDepth 20000
section
variable {p : Program} {l : Launch} {e : Env} {s : State} {m : MethodId} {args : Array Value} {below : List Frame} {meth : Method} {c : Code} {g : mG} {b : Nat}
def w_X12_stained_30 (N : Nat) (Q : mSt → Int → Prop)  (r0 : Nat) (x2 : Int) (S : mSt) : Prop :=
  (((S r0 0) ≤ 0 → Q S x2) ∧ (0 < (S r0 0) → Q S 0))
theorem W_X12_stained_30 (C : mC p l s m args meth c cX12_stained "MoonWashModel" 5 (some FieldType.int) g) (N : Nat) {Q : mSt → Int → Prop}   (r0 : Nat) (kr0 : KM r0 = (0, 10, 0)) (x2 : Int) (ox2 : okI x2) (S : mSt) (H : Heap) (locs : List Loc) (ls : Array Slot) (hl : lv_has ls 5 [(0, .ref (b + r0)), (2, .int (mI x2))]) (hW : mW g b KM S H) (hS : va_S (mA b KM s.heap.size) s.heap H locs) (h : w_X12_stained_30 N Q  r0 x2 S) : W p l e { frames := 2, cells := 0, slots := 0, locals := 47 } s m args below meth c H locs 0 0 (vx_MQ below (mQi g b KM Q (mA b KM s.heap.size)) (mEx g b KM (fun _ _ => False) (mA b KM s.heap.size)) args s 0 0 (mA b KM s.heap.size)) (F0 m 30 ls []) := by
  unfold w_X12_stained_30 at h
  refine m_aload_n (pc := 30) C.1 dX12_stained_30 rfl hl 0 rfl ?_
  refine g_10_0 (pc := 31) C hW kr0 q_1383 dX12_stained_31 ?_
  refine m_if_le (pc := 34) (tgt := 41) C.1 (hW.2.1 _ _) dX12_stained_34 (by decide) (fun hc => ?_) (fun hc => ?_)
  · replace h := h.1 hc
    refine m_iload_n (pc := 41) C.1 dX12_stained_41 rfl hl 1 rfl ?_
    exact m_iret (pc := 42) C.1 C.2.2.2.1 C.2.2.2.2.1 hW hS ox2 h (by decide) (by decide) dX12_stained_42
  · replace h := h.2 hc
    refine m_iconst (pc := 37) C.1 dX12_stained_37 ?_
    refine m_goto (pc := 38) (tgt := 42) C.1 dX12_stained_38 (by decide) ?_
    exact m_iret (pc := 42) C.1 C.2.2.2.1 C.2.2.2.2.1 hW hS (by decide : okI 0) h (by decide) (by decide) dX12_stained_42
def w_X12_stained_79 (N : Nat) (Q : mSt → Int → Prop) (ko57 : Nat → Int → Int → mSt → Prop) (r0 : Nat) (x3 : Int) (x4 : Int) (S : mSt) : Prop :=
  ∀ v1 : Int, v1 = nm (x4 + 1) → ko57 r0 x3 v1 S
theorem W_X12_stained_79 (C : mC p l s m args meth c cX12_stained "MoonWashModel" 5 (some FieldType.int) g) (N : Nat) {Q : mSt → Int → Prop} {ko57 : Nat → Int → Int → mSt → Prop} (hko57 : ∀ (r0 : Nat) (kr0 : KM r0 = (0, 10, 0)) (x3 : Int) (ox3 : okI x3) (x4 : Int) (ox4 : okI x4) (S : mSt) (H : Heap) (locs : List Loc) (ls : Array Slot), lv_has ls 5 [(0, .ref (b + r0)), (3, .int (mI x3)), (4, .int (mI x4))] → mW g b KM S H → va_S (mA b KM s.heap.size) s.heap H locs → ko57 r0 x3 x4 S → W p l e { frames := 2, cells := 0, slots := 0, locals := 47 } s m args below meth c H locs 0 0 (vx_MQ below (mQi g b KM Q (mA b KM s.heap.size)) (mEx g b KM (fun _ _ => False) (mA b KM s.heap.size)) args s 0 0 (mA b KM s.heap.size)) (F0 m 57 ls [])) (r0 : Nat) (kr0 : KM r0 = (0, 10, 0)) (x3 : Int) (ox3 : okI x3) (x4 : Int) (ox4 : okI x4) (S : mSt) (H : Heap) (locs : List Loc) (ls : Array Slot) (hl : lv_has ls 5 [(0, .ref (b + r0)), (3, .int (mI x3)), (4, .int (mI x4))]) (hW : mW g b KM S H) (hS : va_S (mA b KM s.heap.size) s.heap H locs) (h : w_X12_stained_79 N Q ko57 r0 x3 x4 S) : W p l e { frames := 2, cells := 0, slots := 0, locals := 47 } s m args below meth c H locs 0 0 (vx_MQ below (mQi g b KM Q (mA b KM s.heap.size)) (mEx g b KM (fun _ _ => False) (mA b KM s.heap.size)) args s 0 0 (mA b KM s.heap.size)) (F0 m 79 ls []) := by
  unfold w_X12_stained_79 at h
  refine m_iinc (pc := 79) C.1 dX12_stained_79 hl (by decide) (q0 := 2) rfl (fun v => [(4, .int v), (0, .ref (b + r0)), (3, .int (mI x3))]) (fun _ => rfl) (fun v1 ls ev1 ov1 hl => ?_)
  replace h := h v1 ev1
  refine m_goto (pc := 82) (tgt := 57) C.1 dX12_stained_82 (by decide) ?_
  exact hko57 r0 kr0 x3 ox3 v1 ov1 S _ _ _ (lv_sub hl [1, 2, 0] rfl) hW hS h
def w_X12_stained_57b (N : Nat) (Q : mSt → Int → Prop) (ko57 : Nat → Int → Int → mSt → Prop) (ko85 : Int → mSt → Prop) (r0 : Nat) (x3 : Int) (x4 : Int) (S : mSt) : Prop :=
  ((32 ≤ x4 → ko85 x3 S) ∧ (x4 < 32 → (0 ≤ x4 ∧ x4 < 32 ∧ (((S (r0 + 11) x4) = 0 → w_X12_stained_79 N Q ko57 r0 x3 x4 S) ∧ ((S (r0 + 11) x4) ≠ 0 → ∀ v2 : Int, v2 = (bAnd x3 x4) → w_X12_stained_79 N Q ko57 r0 v2 x4 S)))))
theorem W_X12_stained_57b (C : mC p l s m args meth c cX12_stained "MoonWashModel" 5 (some FieldType.int) g) (N : Nat) {Q : mSt → Int → Prop} {ko57 : Nat → Int → Int → mSt → Prop} {ko85 : Int → mSt → Prop} (hko57 : ∀ (r0 : Nat) (kr0 : KM r0 = (0, 10, 0)) (x3 : Int) (ox3 : okI x3) (x4 : Int) (ox4 : okI x4) (S : mSt) (H : Heap) (locs : List Loc) (ls : Array Slot), lv_has ls 5 [(0, .ref (b + r0)), (3, .int (mI x3)), (4, .int (mI x4))] → mW g b KM S H → va_S (mA b KM s.heap.size) s.heap H locs → ko57 r0 x3 x4 S → W p l e { frames := 2, cells := 0, slots := 0, locals := 47 } s m args below meth c H locs 0 0 (vx_MQ below (mQi g b KM Q (mA b KM s.heap.size)) (mEx g b KM (fun _ _ => False) (mA b KM s.heap.size)) args s 0 0 (mA b KM s.heap.size)) (F0 m 57 ls [])) (hko85 : ∀ (x3 : Int) (ox3 : okI x3) (S : mSt) (H : Heap) (locs : List Loc) (ls : Array Slot), lv_has ls 5 [(3, .int (mI x3))] → mW g b KM S H → va_S (mA b KM s.heap.size) s.heap H locs → ko85 x3 S → W p l e { frames := 2, cells := 0, slots := 0, locals := 47 } s m args below meth c H locs 0 0 (vx_MQ below (mQi g b KM Q (mA b KM s.heap.size)) (mEx g b KM (fun _ _ => False) (mA b KM s.heap.size)) args s 0 0 (mA b KM s.heap.size)) (F0 m 85 ls [])) (r0 : Nat) (kr0 : KM r0 = (0, 10, 0)) (x3 : Int) (ox3 : okI x3) (x4 : Int) (ox4 : okI x4) (S : mSt) (H : Heap) (locs : List Loc) (ls : Array Slot) (hl : lv_has ls 5 [(0, .ref (b + r0)), (3, .int (mI x3)), (4, .int (mI x4))]) (hW : mW g b KM S H) (hS : va_S (mA b KM s.heap.size) s.heap H locs) (h : w_X12_stained_57b N Q ko57 ko85 r0 x3 x4 S) : W p l e { frames := 2, cells := 0, slots := 0, locals := 47 } s m args below meth c H locs 0 0 (vx_MQ below (mQi g b KM Q (mA b KM s.heap.size)) (mEx g b KM (fun _ _ => False) (mA b KM s.heap.size)) args s 0 0 (mA b KM s.heap.size)) (F0 m 57 ls []) := by
  unfold w_X12_stained_57b at h
  refine m_iload (pc := 57) C.1 dX12_stained_57 hl 2 rfl ?_
  refine m_bipush (pc := 59) C.1 dX12_stained_59 rfl ?_
  refine m_icmp_ge (pc := 61) (tgt := 85) C.1 ox4 (by decide : okI 32) dX12_stained_61 (by decide) (fun hc => ?_) (fun hc => ?_)
  · replace h := h.1 hc
    exact hko85 x3 ox3 S _ _ _ (lv_sub hl [1] rfl) hW hS h
  · replace h := h.2 hc
    refine m_aload_n (pc := 64) C.1 dX12_stained_64 rfl hl 0 rfl ?_
    refine g_10_24 (pc := 65) C hW kr0 q_1407 dX12_stained_65 ?_
    refine m_iload (pc := 68) C.1 dX12_stained_68 hl 2 rfl ?_
    obtain ⟨hb1a, hb1b, h⟩ := h
    refine m_zald (pc := 70) C.1 C.2.1 hW (k_10_24 kr0) ox4 hb1a hb1b dX12_stained_70 ?_
    refine m_if_eq (pc := 71) (tgt := 79) C.1 (hW.2.1 _ _) dX12_stained_71 (by decide) (fun hc => ?_) (fun hc => ?_)
    · replace h := h.1 hc
      exact W_X12_stained_79 C N hko57 r0 kr0 x3 ox3 x4 ox4 S _ _ _ (lv_sub hl [0, 1, 2] rfl) hW hS h
    · replace h := h.2 hc
      refine m_iload_n (pc := 74) C.1 dX12_stained_74 rfl hl 1 rfl ?_
      refine m_iload (pc := 75) C.1 dX12_stained_75 hl 2 rfl ?_
      refine m_iand (pc := 77) C.1 dX12_stained_77 ?_
      refine m_istore_n (pc := 78) C.1 dX12_stained_78 rfl hl (by decide) (fun v => [(3, .int v), (0, .ref (b + r0)), (4, .int (mI x4))]) (fun _ => rfl) (bAnd_ok _ _) (fun v2 ls ev2 ov2 hl => ?_)
      replace h := h v2 ev2
      exact W_X12_stained_79 C N hko57 r0 kr0 v2 ov2 x4 ox4 S _ _ _ (lv_sub hl [1, 0, 2] rfl) hW hS h
def w_X12_stained_57 (N : Nat) (Q : mSt → Int → Prop) (ko85 : Int → mSt → Prop) : Nat → Nat → Int → Int → mSt → Prop
  | 0 => fun _ _ _ _ => False
  | k + 1 => w_X12_stained_57b N Q (w_X12_stained_57 N Q ko85 k) ko85
theorem W_X12_stained_57 (C : mC p l s m args meth c cX12_stained "MoonWashModel" 5 (some FieldType.int) g) (N : Nat) {Q : mSt → Int → Prop} {ko85 : Int → mSt → Prop} (hko85 : ∀ (x3 : Int) (ox3 : okI x3) (S : mSt) (H : Heap) (locs : List Loc) (ls : Array Slot), lv_has ls 5 [(3, .int (mI x3))] → mW g b KM S H → va_S (mA b KM s.heap.size) s.heap H locs → ko85 x3 S → W p l e { frames := 2, cells := 0, slots := 0, locals := 47 } s m args below meth c H locs 0 0 (vx_MQ below (mQi g b KM Q (mA b KM s.heap.size)) (mEx g b KM (fun _ _ => False) (mA b KM s.heap.size)) args s 0 0 (mA b KM s.heap.size)) (F0 m 85 ls [])) : ∀ (k : Nat) (r0 : Nat) (kr0 : KM r0 = (0, 10, 0)) (x3 : Int) (ox3 : okI x3) (x4 : Int) (ox4 : okI x4) (S : mSt) (H : Heap) (locs : List Loc) (ls : Array Slot) (hl : lv_has ls 5 [(0, .ref (b + r0)), (3, .int (mI x3)), (4, .int (mI x4))]) (hW : mW g b KM S H) (hS : va_S (mA b KM s.heap.size) s.heap H locs) (h : w_X12_stained_57 N Q ko85 k r0 x3 x4 S), W p l e { frames := 2, cells := 0, slots := 0, locals := 47 } s m args below meth c H locs 0 0 (vx_MQ below (mQi g b KM Q (mA b KM s.heap.size)) (mEx g b KM (fun _ _ => False) (mA b KM s.heap.size)) args s 0 0 (mA b KM s.heap.size)) (F0 m 57 ls []) := by
  intro k
  induction k with
  | zero => intro r0 kr0 x3 ox3 x4 ox4 S H locs ls hl hW hS h; exact False.elim h
  | succ k ih => intro r0 kr0 x3 ox3 x4 ox4 S H locs ls hl hW hS h; exact W_X12_stained_57b C N ih hko85 r0 kr0 x3 ox3 x4 ox4 S H locs ls hl hW hS h
def w_X12_stained_53 (N : Nat) (Q : mSt → Int → Prop)  (r0 : Nat) (xs0 : Int) (S : mSt) : Prop :=
  ∀ v1 : Int, v1 = xs0 → ∀ v2 : Int, v2 = 0 → w_X12_stained_57 N Q (fun (x3_3 : Int) (S_3 : mSt) => Q S_3 x3_3) N r0 v1 v2 S
theorem W_X12_stained_53 (C : mC p l s m args meth c cX12_stained "MoonWashModel" 5 (some FieldType.int) g) (N : Nat) {Q : mSt → Int → Prop}   (r0 : Nat) (kr0 : KM r0 = (0, 10, 0)) (xs0 : Int) (oxs0 : okI xs0) (S : mSt) (H : Heap) (locs : List Loc) (ls : Array Slot) (hl : lv_has ls 5 [(0, .ref (b + r0))]) (hW : mW g b KM S H) (hS : va_S (mA b KM s.heap.size) s.heap H locs) (h : w_X12_stained_53 N Q  r0 xs0 S) : W p l e { frames := 2, cells := 0, slots := 0, locals := 47 } s m args below meth c H locs 0 0 (vx_MQ below (mQi g b KM Q (mA b KM s.heap.size)) (mEx g b KM (fun _ _ => False) (mA b KM s.heap.size)) args s 0 0 (mA b KM s.heap.size)) (F0 m 53 ls [.int (mI xs0)]) := by
  unfold w_X12_stained_53 at h
  refine m_istore_n (pc := 53) C.1 dX12_stained_53 rfl hl (by decide) (fun v => [(3, .int v), (0, .ref (b + r0))]) (fun _ => rfl) oxs0 (fun v1 ls ev1 ov1 hl => ?_)
  replace h := h v1 ev1
  refine m_iconst (pc := 54) C.1 dX12_stained_54 ?_
  refine m_istore (pc := 55) C.1 dX12_stained_55 hl (by decide) (fun v => [(4, .int v), (3, .int (mI v1)), (0, .ref (b + r0))]) (fun _ => rfl) (by decide : okI 0) (fun v2 ls ev2 ov2 hl => ?_)
  replace h := h v2 ev2
  refine W_X12_stained_57 C N ?_ N r0 kr0 v1 ov1 v2 ov2 S _ _ _ (lv_sub hl [2, 1, 0] rfl) hW hS h
  · intro x3_3 ox3_3 S_3 H locs ls hl hW_3 hS h
    refine m_iload_n (pc := 85) C.1 dX12_stained_85 rfl hl 0 rfl ?_
    exact m_iret (pc := 86) C.1 C.2.2.2.1 C.2.2.2.2.1 hW_3 hS ox3_3 h (by decide) (by decide) dX12_stained_86
def w_X12_stained_16 (N : Nat) (Q : mSt → Int → Prop)  (r0 : Nat) (x1 : Int) (x2 : Int) (xs0 : Int) (rs1 : Nat) (S : mSt) : Prop :=
  ∀ S1 : mSt, S1 = mup S rs1 0 xs0 → ((0 < (S1 r0 0) → w_X12_stained_30 N Q  r0 x2 S1) ∧ ((S1 r0 0) ≤ 0 → ((x1 ≠ 0 → ((x2 ≠ 0 → w_X12_stained_53 N Q  r0 31 S1) ∧ (x2 = 0 → w_X12_stained_53 N Q  r0 0 S1))) ∧ (x1 = 0 → w_X12_stained_30 N Q  r0 x2 S1))))
theorem W_X12_stained_16 (C : mC p l s m args meth c cX12_stained "MoonWashModel" 5 (some FieldType.int) g) (N : Nat) {Q : mSt → Int → Prop}   (r0 : Nat) (kr0 : KM r0 = (0, 10, 0)) (x1 : Int) (ox1 : okI x1) (x2 : Int) (ox2 : okI x2) (xs0 : Int) (oxs0 : okI xs0) (rs1 : Nat) (krs1 : KM rs1 = (0, 10, 0)) (S : mSt) (H : Heap) (locs : List Loc) (ls : Array Slot) (hl : lv_has ls 5 [(0, .ref (b + r0)), (1, .int (mI x1)), (2, .int (mI x2))]) (hW : mW g b KM S H) (hS : va_S (mA b KM s.heap.size) s.heap H locs) (h : w_X12_stained_16 N Q  r0 x1 x2 xs0 rs1 S) : W p l e { frames := 2, cells := 0, slots := 0, locals := 47 } s m args below meth c H locs 0 0 (vx_MQ below (mQi g b KM Q (mA b KM s.heap.size)) (mEx g b KM (fun _ _ => False) (mA b KM s.heap.size)) args s 0 0 (mA b KM s.heap.size)) (F0 m 16 ls [.int (mI xs0), .ref (b + rs1)]) := by
  unfold w_X12_stained_16 at h
  refine p_10_0 (pc := 16) C hW hS krs1 q_1383 oxs0 dX12_stained_16 (fun S1 H locs e1 hW1 hS => ?_)
  replace h := h S1 e1
  refine m_aload_n (pc := 19) C.1 dX12_stained_19 rfl hl 0 rfl ?_
  refine g_10_0 (pc := 20) C hW1 kr0 q_1383 dX12_stained_20 ?_
  refine m_if_gt (pc := 23) (tgt := 30) C.1 (hW1.2.1 _ _) dX12_stained_23 (by decide) (fun hc => ?_) (fun hc => ?_)
  · replace h := h.1 hc
    exact W_X12_stained_30 C N  r0 kr0 x2 ox2 S1 _ _ _ (lv_sub hl [0, 2] rfl) hW1 hS h
  · replace h := h.2 hc
    refine m_iload_n (pc := 26) C.1 dX12_stained_26 rfl hl 1 rfl ?_
    refine m_if_ne (pc := 27) (tgt := 43) C.1 ox1 dX12_stained_27 (by decide) (fun hc => ?_) (fun hc => ?_)
    · replace h := h.1 hc
      refine m_iload_n (pc := 43) C.1 dX12_stained_43 rfl hl 2 rfl ?_
      refine m_if_ne (pc := 44) (tgt := 51) C.1 ox2 dX12_stained_44 (by decide) (fun hc => ?_) (fun hc => ?_)
      · replace h := h.1 hc
        refine m_bipush (pc := 51) C.1 dX12_stained_51 rfl ?_
        exact W_X12_stained_53 C N  r0 kr0 31 (by decide : okI 31) S1 _ _ _ (lv_sub hl [0] rfl) hW1 hS h
      · replace h := h.2 hc
        refine m_iconst (pc := 47) C.1 dX12_stained_47 ?_
        refine m_goto (pc := 48) (tgt := 53) C.1 dX12_stained_48 (by decide) ?_
        exact W_X12_stained_53 C N  r0 kr0 0 (by decide : okI 0) S1 _ _ _ (lv_sub hl [0] rfl) hW1 hS h
    · replace h := h.2 hc
      exact W_X12_stained_30 C N  r0 kr0 x2 ox2 S1 _ _ _ (lv_sub hl [0, 2] rfl) hW1 hS h
end
def w_X12_stained (N : Nat) (r0 : Nat) (x1 : Int) (S : mSt) (Q : mSt → Int → Prop) : Prop :=
  w_X12_told N r0 S (fun (S1 : mSt) (v1 : Int) => ∀ v2 : Int, v2 = v1 → ((v2 ≠ (-1) → w_X12_stained_16 N Q  r0 x1 v2 0 r0 S1) ∧ (v2 = (-1) → w_X12_stained_16 N Q  r0 x1 v2 1 r0 S1)))
theorem T_X12_stained {l : Launch} (hl0 : l.stackTraces = false) {g : mG} {b : Nat} (N : Nat) (r0 : Nat) (kr0 : KM r0 = (0, 10, 0)) (x1 : Int) (ox1 : okI x1) {S : mSt} {Q : mSt → Int → Prop} (h : w_X12_stained N r0 x1 S Q) (sz : Nat) : vx_Met l yX12_stained (Cond.code yX12_stained cX12_stained 5 (some FieldType.int) :: wsG) { frames := 2, cells := 0, slots := 0, locals := 47 } (mPc g b KM S [.ref (b + r0), .int (mI x1)] sz) (mQi g b KM Q (mA b KM sz)) (mEx g b KM (fun _ _ => False) (mA b KM sz)) 0 0 (mA b KM sz) :=
  m_of (av := [.ref (b + r0), .int (mI x1)]) (Qf := fun A => mQi g b KM Q A) (Xf := fun A => mEx g b KM (fun _ _ => False) A) (by decide) (Nat.le_of_ble_eq_true rfl) (fun p e s m args below meth c ls X hK hml hr hlk hout hnm hW hl => by
    have C : mC p l s m args meth c cX12_stained "MoonWashModel" 5 (some FieldType.int) g := ⟨X, hK, hml, hr, hlk, hout, hl0⟩
    have hS : va_S (mA b KM s.heap.size) s.heap s.heap [] := va_S.rf
    have hl : lv_has ls 5 [(0, .ref (b + r0)), (1, .int (mI x1))] := hl
    unfold w_X12_stained at h
    refine m_aload_n (pc := 0) C.1 dX12_stained_0 rfl hl 0 rfl ?_
    refine m_callVi (pc := 1) C.1 C.2.2.1 hl.1 C.2.1 hW hS (As := []) (rest := []) (r := r0) (T_X12_told C.2.2.2.2.2.2 N r0 kr0 h) kr0 rfl q_1848 q_1850 q_75 q_92 q_1851 pl_X12_told (by decide) (Nat.le_of_ble_eq_true rfl) dX12_stained_1 (fun v1 S1 H locs ov1 h hW1 hS => ?_)
    refine m_istore_n (pc := 4) C.1 dX12_stained_4 rfl hl (by decide) (fun v => [(2, .int v), (0, .ref (b + r0)), (1, .int (mI x1))]) (fun _ => rfl) ov1 (fun v2 ls ev2 ov2 hl => ?_)
    replace h := h v2 ev2
    refine m_aload_n (pc := 5) C.1 dX12_stained_5 rfl hl 1 rfl ?_
    refine m_iload_n (pc := 6) C.1 dX12_stained_6 rfl hl 0 rfl ?_
    refine m_iconst (pc := 7) C.1 dX12_stained_7 ?_
    refine m_icmp_ne (pc := 8) (tgt := 15) C.1 ov2 (by decide : okI (-1)) dX12_stained_8 (by decide) (fun hc => ?_) (fun hc => ?_)
    · replace h := h.1 hc
      refine m_iconst (pc := 15) C.1 dX12_stained_15 ?_
      exact W_X12_stained_16 C N  r0 kr0 x1 ox1 v2 ov2 0 (by decide : okI 0) r0 kr0 S1 _ _ _ (lv_sub hl [1, 2, 0] rfl) hW1 hS h
    · replace h := h.2 hc
      refine m_iconst (pc := 11) C.1 dX12_stained_11 ?_
      refine m_goto (pc := 12) (tgt := 16) C.1 dX12_stained_12 (by decide) ?_
      exact W_X12_stained_16 C N  r0 kr0 x1 ox1 v2 ov2 1 (by decide : okI 1) r0 kr0 S1 _ _ _ (lv_sub hl [1, 2, 0] rfl) hW1 hS h) sz
section
variable {p : Program} {l : Launch} {e : Env} {s : State} {m : MethodId} {args : Array Value} {below : List Frame} {meth : Method} {c : Code} {g : mG} {b : Nat}
def w_X12_tries_98 (N : Nat) (Q : mSt → Int → Prop) (ko59 : Nat → Int → Int → Int → Int → Int → Int → mSt → Prop) (r0 : Nat) (x1 : Int) (x2 : Int) (x3 : Int) (x4 : Int) (x6 : Int) (xs0 : Int) (xs1 : Int) (S : mSt) : Prop :=
  ∀ v1 : Int, v1 = (nm (xs1 + xs0)) → ∀ v2 : Int, v2 = nm (x6 + 1) → ko59 r0 x1 x2 x3 x4 v1 v2 S
theorem W_X12_tries_98 (C : mC p l s m args meth c cX12_tries "MoonWashModel" 7 (some FieldType.int) g) (N : Nat) {Q : mSt → Int → Prop} {ko59 : Nat → Int → Int → Int → Int → Int → Int → mSt → Prop} (hko59 : ∀ (r0 : Nat) (kr0 : KM r0 = (0, 10, 0)) (x1 : Int) (ox1 : okI x1) (x2 : Int) (ox2 : okI x2) (x3 : Int) (ox3 : okI x3) (x4 : Int) (ox4 : okI x4) (x5 : Int) (ox5 : okI x5) (x6 : Int) (ox6 : okI x6) (S : mSt) (H : Heap) (locs : List Loc) (ls : Array Slot), lv_has ls 7 [(0, .ref (b + r0)), (1, .int (mI x1)), (2, .int (mI x2)), (3, .int (mI x3)), (4, .int (mI x4)), (5, .int (mI x5)), (6, .int (mI x6))] → mW g b KM S H → va_S (mA b KM s.heap.size) s.heap H locs → ko59 r0 x1 x2 x3 x4 x5 x6 S → W p l e { frames := 2, cells := 0, slots := 0, locals := 47 } s m args below meth c H locs 0 0 (vx_MQ below (mQi g b KM Q (mA b KM s.heap.size)) (mEx g b KM (fun _ _ => False) (mA b KM s.heap.size)) args s 0 0 (mA b KM s.heap.size)) (F0 m 59 ls [])) (r0 : Nat) (kr0 : KM r0 = (0, 10, 0)) (x1 : Int) (ox1 : okI x1) (x2 : Int) (ox2 : okI x2) (x3 : Int) (ox3 : okI x3) (x4 : Int) (ox4 : okI x4) (x6 : Int) (ox6 : okI x6) (xs0 : Int) (oxs0 : okI xs0) (xs1 : Int) (oxs1 : okI xs1) (S : mSt) (H : Heap) (locs : List Loc) (ls : Array Slot) (hl : lv_has ls 7 [(0, .ref (b + r0)), (1, .int (mI x1)), (2, .int (mI x2)), (3, .int (mI x3)), (4, .int (mI x4)), (6, .int (mI x6))]) (hW : mW g b KM S H) (hS : va_S (mA b KM s.heap.size) s.heap H locs) (h : w_X12_tries_98 N Q ko59 r0 x1 x2 x3 x4 x6 xs0 xs1 S) : W p l e { frames := 2, cells := 0, slots := 0, locals := 47 } s m args below meth c H locs 0 0 (vx_MQ below (mQi g b KM Q (mA b KM s.heap.size)) (mEx g b KM (fun _ _ => False) (mA b KM s.heap.size)) args s 0 0 (mA b KM s.heap.size)) (F0 m 98 ls [.int (mI xs0), .int (mI xs1)]) := by
  unfold w_X12_tries_98 at h
  refine m_iadd (pc := 98) C.1 dX12_tries_98 ?_
  refine m_istore (pc := 99) C.1 dX12_tries_99 hl (by decide) (fun v => [(5, .int v), (0, .ref (b + r0)), (1, .int (mI x1)), (2, .int (mI x2)), (3, .int (mI x3)), (4, .int (mI x4)), (6, .int (mI x6))]) (fun _ => rfl) (nm_ok _) (fun v1 ls ev1 ov1 hl => ?_)
  replace h := h v1 ev1
  refine m_iinc (pc := 101) C.1 dX12_tries_101 hl (by decide) (q0 := 6) rfl (fun v => [(6, .int v), (5, .int (mI v1)), (0, .ref (b + r0)), (1, .int (mI x1)), (2, .int (mI x2)), (3, .int (mI x3)), (4, .int (mI x4))]) (fun _ => rfl) (fun v2 ls ev2 ov2 hl => ?_)
  replace h := h v2 ev2
  refine m_goto (pc := 104) (tgt := 59) C.1 dX12_tries_104 (by decide) ?_
  exact hko59 r0 kr0 x1 ox1 x2 ox2 x3 ox3 x4 ox4 v1 ov1 v2 ov2 S _ _ _ (lv_sub hl [2, 3, 4, 5, 6, 1, 0] rfl) hW hS h
def w_X12_tries_97 (N : Nat) (Q : mSt → Int → Prop) (ko59 : Nat → Int → Int → Int → Int → Int → Int → mSt → Prop) (r0 : Nat) (x1 : Int) (x2 : Int) (x3 : Int) (x4 : Int) (x6 : Int) (xs0 : Int) (S : mSt) : Prop :=
  w_X12_tries_98 N Q ko59 r0 x1 x2 x3 x4 x6 0 xs0 S
theorem W_X12_tries_97 (C : mC p l s m args meth c cX12_tries "MoonWashModel" 7 (some FieldType.int) g) (N : Nat) {Q : mSt → Int → Prop} {ko59 : Nat → Int → Int → Int → Int → Int → Int → mSt → Prop} (hko59 : ∀ (r0 : Nat) (kr0 : KM r0 = (0, 10, 0)) (x1 : Int) (ox1 : okI x1) (x2 : Int) (ox2 : okI x2) (x3 : Int) (ox3 : okI x3) (x4 : Int) (ox4 : okI x4) (x5 : Int) (ox5 : okI x5) (x6 : Int) (ox6 : okI x6) (S : mSt) (H : Heap) (locs : List Loc) (ls : Array Slot), lv_has ls 7 [(0, .ref (b + r0)), (1, .int (mI x1)), (2, .int (mI x2)), (3, .int (mI x3)), (4, .int (mI x4)), (5, .int (mI x5)), (6, .int (mI x6))] → mW g b KM S H → va_S (mA b KM s.heap.size) s.heap H locs → ko59 r0 x1 x2 x3 x4 x5 x6 S → W p l e { frames := 2, cells := 0, slots := 0, locals := 47 } s m args below meth c H locs 0 0 (vx_MQ below (mQi g b KM Q (mA b KM s.heap.size)) (mEx g b KM (fun _ _ => False) (mA b KM s.heap.size)) args s 0 0 (mA b KM s.heap.size)) (F0 m 59 ls [])) (r0 : Nat) (kr0 : KM r0 = (0, 10, 0)) (x1 : Int) (ox1 : okI x1) (x2 : Int) (ox2 : okI x2) (x3 : Int) (ox3 : okI x3) (x4 : Int) (ox4 : okI x4) (x6 : Int) (ox6 : okI x6) (xs0 : Int) (oxs0 : okI xs0) (S : mSt) (H : Heap) (locs : List Loc) (ls : Array Slot) (hl : lv_has ls 7 [(0, .ref (b + r0)), (1, .int (mI x1)), (2, .int (mI x2)), (3, .int (mI x3)), (4, .int (mI x4)), (6, .int (mI x6))]) (hW : mW g b KM S H) (hS : va_S (mA b KM s.heap.size) s.heap H locs) (h : w_X12_tries_97 N Q ko59 r0 x1 x2 x3 x4 x6 xs0 S) : W p l e { frames := 2, cells := 0, slots := 0, locals := 47 } s m args below meth c H locs 0 0 (vx_MQ below (mQi g b KM Q (mA b KM s.heap.size)) (mEx g b KM (fun _ _ => False) (mA b KM s.heap.size)) args s 0 0 (mA b KM s.heap.size)) (F0 m 97 ls [.int (mI xs0)]) := by
  unfold w_X12_tries_97 at h
  refine m_iconst (pc := 97) C.1 dX12_tries_97 ?_
  exact W_X12_tries_98 C N hko59 r0 kr0 x1 ox1 x2 ox2 x3 ox3 x4 ox4 x6 ox6 0 (by decide : okI 0) xs0 oxs0 S _ _ _ (lv_sub hl [0, 1, 2, 3, 4, 5] rfl) hW hS h
def w_X12_tries_59b (N : Nat) (Q : mSt → Int → Prop) (ko59 : Nat → Int → Int → Int → Int → Int → Int → mSt → Prop) (ko107 : Nat → Int → Int → Int → Int → Int → mSt → Prop) (r0 : Nat) (x1 : Int) (x2 : Int) (x3 : Int) (x4 : Int) (x5 : Int) (x6 : Int) (S : mSt) : Prop :=
  ((32 ≤ x6 → ko107 r0 x1 x2 x3 x4 x5 S) ∧ (x6 < 32 → (0 ≤ x6 ∧ x6 < 32 ∧ (((S (r0 + 11) x6) = 0 → w_X12_tries_97 N Q ko59 r0 x1 x2 x3 x4 x6 x5 S) ∧ ((S (r0 + 11) x6) ≠ 0 → w_X12_ofSoap N r0 x4 3 S (fun (S2 : mSt) (v2 : Int) => (((bAnd x6 (bXor v2 (-1))) = 0 → w_X12_tries_97 N Q ko59 r0 x1 x2 x3 x4 x6 x5 S2) ∧ ((bAnd x6 (bXor v2 (-1))) ≠ 0 → w_X12_tries_98 N Q ko59 r0 x1 x2 x3 x4 x6 1 x5 S2))))))))
theorem W_X12_tries_59b (C : mC p l s m args meth c cX12_tries "MoonWashModel" 7 (some FieldType.int) g) (N : Nat) {Q : mSt → Int → Prop} {ko59 : Nat → Int → Int → Int → Int → Int → Int → mSt → Prop} {ko107 : Nat → Int → Int → Int → Int → Int → mSt → Prop} (hko59 : ∀ (r0 : Nat) (kr0 : KM r0 = (0, 10, 0)) (x1 : Int) (ox1 : okI x1) (x2 : Int) (ox2 : okI x2) (x3 : Int) (ox3 : okI x3) (x4 : Int) (ox4 : okI x4) (x5 : Int) (ox5 : okI x5) (x6 : Int) (ox6 : okI x6) (S : mSt) (H : Heap) (locs : List Loc) (ls : Array Slot), lv_has ls 7 [(0, .ref (b + r0)), (1, .int (mI x1)), (2, .int (mI x2)), (3, .int (mI x3)), (4, .int (mI x4)), (5, .int (mI x5)), (6, .int (mI x6))] → mW g b KM S H → va_S (mA b KM s.heap.size) s.heap H locs → ko59 r0 x1 x2 x3 x4 x5 x6 S → W p l e { frames := 2, cells := 0, slots := 0, locals := 47 } s m args below meth c H locs 0 0 (vx_MQ below (mQi g b KM Q (mA b KM s.heap.size)) (mEx g b KM (fun _ _ => False) (mA b KM s.heap.size)) args s 0 0 (mA b KM s.heap.size)) (F0 m 59 ls [])) (hko107 : ∀ (r0 : Nat) (kr0 : KM r0 = (0, 10, 0)) (x1 : Int) (ox1 : okI x1) (x2 : Int) (ox2 : okI x2) (x3 : Int) (ox3 : okI x3) (x4 : Int) (ox4 : okI x4) (x5 : Int) (ox5 : okI x5) (S : mSt) (H : Heap) (locs : List Loc) (ls : Array Slot), lv_has ls 7 [(0, .ref (b + r0)), (1, .int (mI x1)), (2, .int (mI x2)), (3, .int (mI x3)), (4, .int (mI x4)), (5, .int (mI x5))] → mW g b KM S H → va_S (mA b KM s.heap.size) s.heap H locs → ko107 r0 x1 x2 x3 x4 x5 S → W p l e { frames := 2, cells := 0, slots := 0, locals := 47 } s m args below meth c H locs 0 0 (vx_MQ below (mQi g b KM Q (mA b KM s.heap.size)) (mEx g b KM (fun _ _ => False) (mA b KM s.heap.size)) args s 0 0 (mA b KM s.heap.size)) (F0 m 107 ls [])) (r0 : Nat) (kr0 : KM r0 = (0, 10, 0)) (x1 : Int) (ox1 : okI x1) (x2 : Int) (ox2 : okI x2) (x3 : Int) (ox3 : okI x3) (x4 : Int) (ox4 : okI x4) (x5 : Int) (ox5 : okI x5) (x6 : Int) (ox6 : okI x6) (S : mSt) (H : Heap) (locs : List Loc) (ls : Array Slot) (hl : lv_has ls 7 [(0, .ref (b + r0)), (1, .int (mI x1)), (2, .int (mI x2)), (3, .int (mI x3)), (4, .int (mI x4)), (5, .int (mI x5)), (6, .int (mI x6))]) (hW : mW g b KM S H) (hS : va_S (mA b KM s.heap.size) s.heap H locs) (h : w_X12_tries_59b N Q ko59 ko107 r0 x1 x2 x3 x4 x5 x6 S) : W p l e { frames := 2, cells := 0, slots := 0, locals := 47 } s m args below meth c H locs 0 0 (vx_MQ below (mQi g b KM Q (mA b KM s.heap.size)) (mEx g b KM (fun _ _ => False) (mA b KM s.heap.size)) args s 0 0 (mA b KM s.heap.size)) (F0 m 59 ls []) := by
  unfold w_X12_tries_59b at h
  refine m_iload (pc := 59) C.1 dX12_tries_59 hl 6 rfl ?_
  refine m_bipush (pc := 61) C.1 dX12_tries_61 rfl ?_
  refine m_icmp_ge (pc := 63) (tgt := 107) C.1 ox6 (by decide : okI 32) dX12_tries_63 (by decide) (fun hc => ?_) (fun hc => ?_)
  · replace h := h.1 hc
    exact hko107 r0 kr0 x1 ox1 x2 ox2 x3 ox3 x4 ox4 x5 ox5 S _ _ _ (lv_sub hl [0, 1, 2, 3, 4, 5] rfl) hW hS h
  · replace h := h.2 hc
    refine m_iload (pc := 66) C.1 dX12_tries_66 hl 5 rfl ?_
    refine m_aload_n (pc := 68) C.1 dX12_tries_68 rfl hl 0 rfl ?_
    refine g_10_24 (pc := 69) C hW kr0 q_1407 dX12_tries_69 ?_
    refine m_iload (pc := 72) C.1 dX12_tries_72 hl 6 rfl ?_
    obtain ⟨hb1a, hb1b, h⟩ := h
    refine m_zald (pc := 74) C.1 C.2.1 hW (k_10_24 kr0) ox6 hb1a hb1b dX12_tries_74 ?_
    refine m_if_eq (pc := 75) (tgt := 97) C.1 (hW.2.1 _ _) dX12_tries_75 (by decide) (fun hc => ?_) (fun hc => ?_)
    · replace h := h.1 hc
      exact W_X12_tries_97 C N hko59 r0 kr0 x1 ox1 x2 ox2 x3 ox3 x4 ox4 x6 ox6 x5 ox5 S _ _ _ (lv_sub hl [0, 1, 2, 3, 4, 6] rfl) hW hS h
    · replace h := h.2 hc
      refine m_iload (pc := 78) C.1 dX12_tries_78 hl 6 rfl ?_
      refine m_aload_n (pc := 80) C.1 dX12_tries_80 rfl hl 0 rfl ?_
      refine m_iload (pc := 81) C.1 dX12_tries_81 hl 4 rfl ?_
      refine m_iconst (pc := 83) C.1 dX12_tries_83 ?_
      refine m_callVi (pc := 84) C.1 C.2.2.1 hl.1 C.2.1 hW hS (As := [.int (mI x4), .int (mI 3)]) (rest := [.int (mI x6), .int (mI x5)]) (r := r0) (T_X12_ofSoap C.2.2.2.2.2.2 N r0 kr0 x4 ox4 3 (by decide : okI 3) h) kr0 rfl q_1671 q_1673 q_56 q_92 q_1674 pl_X12_ofSoap (by decide) (Nat.le_of_ble_eq_true rfl) dX12_tries_84 (fun v2 S2 H locs ov2 h hW2 hS => ?_)
      refine m_iconst (pc := 87) C.1 dX12_tries_87 ?_
      refine m_ixor (pc := 88) C.1 dX12_tries_88 ?_
      refine m_iand (pc := 89) C.1 dX12_tries_89 ?_
      refine m_if_eq (pc := 90) (tgt := 97) C.1 (bAnd_ok _ _) dX12_tries_90 (by decide) (fun hc => ?_) (fun hc => ?_)
      · replace h := h.1 hc
        exact W_X12_tries_97 C N hko59 r0 kr0 x1 ox1 x2 ox2 x3 ox3 x4 ox4 x6 ox6 x5 ox5 S2 _ _ _ (lv_sub hl [0, 1, 2, 3, 4, 6] rfl) hW2 hS h
      · replace h := h.2 hc
        refine m_iconst (pc := 93) C.1 dX12_tries_93 ?_
        refine m_goto (pc := 94) (tgt := 98) C.1 dX12_tries_94 (by decide) ?_
        exact W_X12_tries_98 C N hko59 r0 kr0 x1 ox1 x2 ox2 x3 ox3 x4 ox4 x6 ox6 1 (by decide : okI 1) x5 ox5 S2 _ _ _ (lv_sub hl [0, 1, 2, 3, 4, 6] rfl) hW2 hS h
def w_X12_tries_59 (N : Nat) (Q : mSt → Int → Prop) (ko107 : Nat → Int → Int → Int → Int → Int → mSt → Prop) : Nat → Nat → Int → Int → Int → Int → Int → Int → mSt → Prop
  | 0 => fun _ _ _ _ _ _ _ _ => False
  | k + 1 => w_X12_tries_59b N Q (w_X12_tries_59 N Q ko107 k) ko107
theorem W_X12_tries_59 (C : mC p l s m args meth c cX12_tries "MoonWashModel" 7 (some FieldType.int) g) (N : Nat) {Q : mSt → Int → Prop} {ko107 : Nat → Int → Int → Int → Int → Int → mSt → Prop} (hko107 : ∀ (r0 : Nat) (kr0 : KM r0 = (0, 10, 0)) (x1 : Int) (ox1 : okI x1) (x2 : Int) (ox2 : okI x2) (x3 : Int) (ox3 : okI x3) (x4 : Int) (ox4 : okI x4) (x5 : Int) (ox5 : okI x5) (S : mSt) (H : Heap) (locs : List Loc) (ls : Array Slot), lv_has ls 7 [(0, .ref (b + r0)), (1, .int (mI x1)), (2, .int (mI x2)), (3, .int (mI x3)), (4, .int (mI x4)), (5, .int (mI x5))] → mW g b KM S H → va_S (mA b KM s.heap.size) s.heap H locs → ko107 r0 x1 x2 x3 x4 x5 S → W p l e { frames := 2, cells := 0, slots := 0, locals := 47 } s m args below meth c H locs 0 0 (vx_MQ below (mQi g b KM Q (mA b KM s.heap.size)) (mEx g b KM (fun _ _ => False) (mA b KM s.heap.size)) args s 0 0 (mA b KM s.heap.size)) (F0 m 107 ls [])) : ∀ (k : Nat) (r0 : Nat) (kr0 : KM r0 = (0, 10, 0)) (x1 : Int) (ox1 : okI x1) (x2 : Int) (ox2 : okI x2) (x3 : Int) (ox3 : okI x3) (x4 : Int) (ox4 : okI x4) (x5 : Int) (ox5 : okI x5) (x6 : Int) (ox6 : okI x6) (S : mSt) (H : Heap) (locs : List Loc) (ls : Array Slot) (hl : lv_has ls 7 [(0, .ref (b + r0)), (1, .int (mI x1)), (2, .int (mI x2)), (3, .int (mI x3)), (4, .int (mI x4)), (5, .int (mI x5)), (6, .int (mI x6))]) (hW : mW g b KM S H) (hS : va_S (mA b KM s.heap.size) s.heap H locs) (h : w_X12_tries_59 N Q ko107 k r0 x1 x2 x3 x4 x5 x6 S), W p l e { frames := 2, cells := 0, slots := 0, locals := 47 } s m args below meth c H locs 0 0 (vx_MQ below (mQi g b KM Q (mA b KM s.heap.size)) (mEx g b KM (fun _ _ => False) (mA b KM s.heap.size)) args s 0 0 (mA b KM s.heap.size)) (F0 m 59 ls []) := by
  intro k
  induction k with
  | zero => intro r0 kr0 x1 ox1 x2 ox2 x3 ox3 x4 ox4 x5 ox5 x6 ox6 S H locs ls hl hW hS h; exact False.elim h
  | succ k ih => intro r0 kr0 x1 ox1 x2 ox2 x3 ox3 x4 ox4 x5 ox5 x6 ox6 S H locs ls hl hW hS h; exact W_X12_tries_59b C N ih hko107 r0 kr0 x1 ox1 x2 ox2 x3 ox3 x4 ox4 x5 ox5 x6 ox6 S H locs ls hl hW hS h
def w_X12_tries_136 (N : Nat) (Q : mSt → Int → Prop) (ko37 : Nat → Int → Int → Int → Int → mSt → Prop) (r0 : Nat) (x1 : Int) (x2 : Int) (x3 : Int) (x4 : Int) (S : mSt) : Prop :=
  ∀ v1 : Int, v1 = nm (x4 + 1) → ko37 r0 x1 x2 x3 v1 S
theorem W_X12_tries_136 (C : mC p l s m args meth c cX12_tries "MoonWashModel" 7 (some FieldType.int) g) (N : Nat) {Q : mSt → Int → Prop} {ko37 : Nat → Int → Int → Int → Int → mSt → Prop} (hko37 : ∀ (r0 : Nat) (kr0 : KM r0 = (0, 10, 0)) (x1 : Int) (ox1 : okI x1) (x2 : Int) (ox2 : okI x2) (x3 : Int) (ox3 : okI x3) (x4 : Int) (ox4 : okI x4) (S : mSt) (H : Heap) (locs : List Loc) (ls : Array Slot), lv_has ls 7 [(0, .ref (b + r0)), (1, .int (mI x1)), (2, .int (mI x2)), (3, .int (mI x3)), (4, .int (mI x4))] → mW g b KM S H → va_S (mA b KM s.heap.size) s.heap H locs → ko37 r0 x1 x2 x3 x4 S → W p l e { frames := 2, cells := 0, slots := 0, locals := 47 } s m args below meth c H locs 0 0 (vx_MQ below (mQi g b KM Q (mA b KM s.heap.size)) (mEx g b KM (fun _ _ => False) (mA b KM s.heap.size)) args s 0 0 (mA b KM s.heap.size)) (F0 m 37 ls [])) (r0 : Nat) (kr0 : KM r0 = (0, 10, 0)) (x1 : Int) (ox1 : okI x1) (x2 : Int) (ox2 : okI x2) (x3 : Int) (ox3 : okI x3) (x4 : Int) (ox4 : okI x4) (S : mSt) (H : Heap) (locs : List Loc) (ls : Array Slot) (hl : lv_has ls 7 [(0, .ref (b + r0)), (1, .int (mI x1)), (2, .int (mI x2)), (3, .int (mI x3)), (4, .int (mI x4))]) (hW : mW g b KM S H) (hS : va_S (mA b KM s.heap.size) s.heap H locs) (h : w_X12_tries_136 N Q ko37 r0 x1 x2 x3 x4 S) : W p l e { frames := 2, cells := 0, slots := 0, locals := 47 } s m args below meth c H locs 0 0 (vx_MQ below (mQi g b KM Q (mA b KM s.heap.size)) (mEx g b KM (fun _ _ => False) (mA b KM s.heap.size)) args s 0 0 (mA b KM s.heap.size)) (F0 m 136 ls []) := by
  unfold w_X12_tries_136 at h
  refine m_iinc (pc := 136) C.1 dX12_tries_136 hl (by decide) (q0 := 4) rfl (fun v => [(4, .int v), (0, .ref (b + r0)), (1, .int (mI x1)), (2, .int (mI x2)), (3, .int (mI x3))]) (fun _ => rfl) (fun v1 ls ev1 ov1 hl => ?_)
  replace h := h v1 ev1
  refine m_goto (pc := 139) (tgt := 37) C.1 dX12_tries_139 (by decide) ?_
  exact hko37 r0 kr0 x1 ox1 x2 ox2 x3 ox3 v1 ov1 S _ _ _ (lv_sub hl [1, 2, 3, 4, 0] rfl) hW hS h
def w_X12_tries_37b (N : Nat) (Q : mSt → Int → Prop) (ko37 : Nat → Int → Int → Int → Int → mSt → Prop) (ko142 : Int → mSt → Prop) (r0 : Nat) (x1 : Int) (x2 : Int) (x3 : Int) (x4 : Int) (S : mSt) : Prop :=
  (((S (r0 + 1) 3) ≤ x4 → ko142 x2 S) ∧ (x4 < (S (r0 + 1) 3) → ((x1 ≤ 1 → ko142 x2 S) ∧ (1 < x1 → ∀ v1 : Int, v1 = 0 → ∀ v2 : Int, v2 = 0 → w_X12_tries_59 N Q (fun (r0_3 : Nat) (x1_3 : Int) (x2_3 : Int) (x3_3 : Int) (x4_3 : Int) (x5_3 : Int) (S_3 : mSt) => w_X12_greater N x5_3 (nm (x1_3 - x5_3)) S_3 (fun (S4 : mSt) (v4 : Int) => ((v4 < x3_3 → w_X12_greater N x5_3 (nm (x1_3 - x5_3)) S4 (fun (S5 : mSt) (v5 : Int) => ∀ v6 : Int, v6 = v5 → ∀ v7 : Int, v7 = x4_3 → w_X12_tries_136 N Q ko37 r0_3 x1_3 v7 v6 x4_3 S5)) ∧ (x3_3 ≤ v4 → w_X12_tries_136 N Q ko37 r0_3 x1_3 x2_3 x3_3 x4_3 S4)))) N r0 x1 x2 x3 x4 v1 v2 S))))
theorem W_X12_tries_37b (C : mC p l s m args meth c cX12_tries "MoonWashModel" 7 (some FieldType.int) g) (N : Nat) {Q : mSt → Int → Prop} {ko37 : Nat → Int → Int → Int → Int → mSt → Prop} {ko142 : Int → mSt → Prop} (hko37 : ∀ (r0 : Nat) (kr0 : KM r0 = (0, 10, 0)) (x1 : Int) (ox1 : okI x1) (x2 : Int) (ox2 : okI x2) (x3 : Int) (ox3 : okI x3) (x4 : Int) (ox4 : okI x4) (S : mSt) (H : Heap) (locs : List Loc) (ls : Array Slot), lv_has ls 7 [(0, .ref (b + r0)), (1, .int (mI x1)), (2, .int (mI x2)), (3, .int (mI x3)), (4, .int (mI x4))] → mW g b KM S H → va_S (mA b KM s.heap.size) s.heap H locs → ko37 r0 x1 x2 x3 x4 S → W p l e { frames := 2, cells := 0, slots := 0, locals := 47 } s m args below meth c H locs 0 0 (vx_MQ below (mQi g b KM Q (mA b KM s.heap.size)) (mEx g b KM (fun _ _ => False) (mA b KM s.heap.size)) args s 0 0 (mA b KM s.heap.size)) (F0 m 37 ls [])) (hko142 : ∀ (x2 : Int) (ox2 : okI x2) (S : mSt) (H : Heap) (locs : List Loc) (ls : Array Slot), lv_has ls 7 [(2, .int (mI x2))] → mW g b KM S H → va_S (mA b KM s.heap.size) s.heap H locs → ko142 x2 S → W p l e { frames := 2, cells := 0, slots := 0, locals := 47 } s m args below meth c H locs 0 0 (vx_MQ below (mQi g b KM Q (mA b KM s.heap.size)) (mEx g b KM (fun _ _ => False) (mA b KM s.heap.size)) args s 0 0 (mA b KM s.heap.size)) (F0 m 142 ls [])) (r0 : Nat) (kr0 : KM r0 = (0, 10, 0)) (x1 : Int) (ox1 : okI x1) (x2 : Int) (ox2 : okI x2) (x3 : Int) (ox3 : okI x3) (x4 : Int) (ox4 : okI x4) (S : mSt) (H : Heap) (locs : List Loc) (ls : Array Slot) (hl : lv_has ls 7 [(0, .ref (b + r0)), (1, .int (mI x1)), (2, .int (mI x2)), (3, .int (mI x3)), (4, .int (mI x4))]) (hW : mW g b KM S H) (hS : va_S (mA b KM s.heap.size) s.heap H locs) (h : w_X12_tries_37b N Q ko37 ko142 r0 x1 x2 x3 x4 S) : W p l e { frames := 2, cells := 0, slots := 0, locals := 47 } s m args below meth c H locs 0 0 (vx_MQ below (mQi g b KM Q (mA b KM s.heap.size)) (mEx g b KM (fun _ _ => False) (mA b KM s.heap.size)) args s 0 0 (mA b KM s.heap.size)) (F0 m 37 ls []) := by
  unfold w_X12_tries_37b at h
  refine m_iload (pc := 37) C.1 dX12_tries_37 hl 4 rfl ?_
  refine m_aload_n (pc := 39) C.1 dX12_tries_39 rfl hl 0 rfl ?_
  refine g_10_1 (pc := 40) C hW kr0 q_1384 dX12_tries_40 ?_
  refine m_iconst (pc := 43) C.1 dX12_tries_43 ?_
  refine m_iald (pc := 44) C.1 C.2.1 hW (k_10_1 kr0) (by decide : okI 3) (by decide) (by decide) dX12_tries_44 ?_
  refine m_icmp_ge (pc := 45) (tgt := 142) C.1 ox4 (hW.2.1 _ _) dX12_tries_45 (by decide) (fun hc => ?_) (fun hc => ?_)
  · replace h := h.1 hc
    exact hko142 x2 ox2 S _ _ _ (lv_sub hl [2] rfl) hW hS h
  · replace h := h.2 hc
    refine m_iload_n (pc := 48) C.1 dX12_tries_48 rfl hl 1 rfl ?_
    refine m_iconst (pc := 49) C.1 dX12_tries_49 ?_
    refine m_icmp_le (pc := 50) (tgt := 142) C.1 ox1 (by decide : okI 1) dX12_tries_50 (by decide) (fun hc => ?_) (fun hc => ?_)
    · replace h := h.1 hc
      exact hko142 x2 ox2 S _ _ _ (lv_sub hl [2] rfl) hW hS h
    · replace h := h.2 hc
      refine m_iconst (pc := 53) C.1 dX12_tries_53 ?_
      refine m_istore (pc := 54) C.1 dX12_tries_54 hl (by decide) (fun v => [(5, .int v), (0, .ref (b + r0)), (1, .int (mI x1)), (2, .int (mI x2)), (3, .int (mI x3)), (4, .int (mI x4))]) (fun _ => rfl) (by decide : okI 0) (fun v1 ls ev1 ov1 hl => ?_)
      replace h := h v1 ev1
      refine m_iconst (pc := 56) C.1 dX12_tries_56 ?_
      refine m_istore (pc := 57) C.1 dX12_tries_57 hl (by decide) (fun v => [(6, .int v), (5, .int (mI v1)), (0, .ref (b + r0)), (1, .int (mI x1)), (2, .int (mI x2)), (3, .int (mI x3)), (4, .int (mI x4))]) (fun _ => rfl) (by decide : okI 0) (fun v2 ls ev2 ov2 hl => ?_)
      replace h := h v2 ev2
      refine W_X12_tries_59 C N ?_ N r0 kr0 x1 ox1 x2 ox2 x3 ox3 x4 ox4 v1 ov1 v2 ov2 S _ _ _ (lv_sub hl [2, 3, 4, 5, 6, 1, 0] rfl) hW hS h
      · intro r0_3 kr0_3 x1_3 ox1_3 x2_3 ox2_3 x3_3 ox3_3 x4_3 ox4_3 x5_3 ox5_3 S_3 H locs ls hl hW_3 hS h
        refine m_iload (pc := 107) C.1 dX12_tries_107 hl 5 rfl ?_
        refine m_iload_n (pc := 109) C.1 dX12_tries_109 rfl hl 1 rfl ?_
        refine m_iload (pc := 110) C.1 dX12_tries_110 hl 5 rfl ?_
        refine m_isub (pc := 112) C.1 dX12_tries_112 ?_
        refine m_callSi (pc := 113) C.1 C.2.2.1 hl.1 C.2.1 hW_3 hS (As := [.int (mI x5_3), .int (mI (nm (x1_3 - x5_3)))]) (rest := []) (T_X12_greater C.2.2.2.2.2.2 N x5_3 ox5_3 (nm (x1_3 - x5_3)) (nm_ok _) h) q_1652 q_1653 q_92 q_1654 pl_X12_greater (by decide) (Nat.le_of_ble_eq_true rfl) dX12_tries_113 (fun v4 S4 H locs ov4 h hW4 hS => ?_)
        refine m_iload_n (pc := 116) C.1 dX12_tries_116 rfl hl 3 rfl ?_
        refine m_icmp_lt (pc := 117) (tgt := 123) C.1 ov4 ox3_3 dX12_tries_117 (by decide) (fun hc => ?_) (fun hc => ?_)
        · replace h := h.1 hc
          refine m_iload (pc := 123) C.1 dX12_tries_123 hl 5 rfl ?_
          refine m_iload_n (pc := 125) C.1 dX12_tries_125 rfl hl 1 rfl ?_
          refine m_iload (pc := 126) C.1 dX12_tries_126 hl 5 rfl ?_
          refine m_isub (pc := 128) C.1 dX12_tries_128 ?_
          refine m_callSi (pc := 129) C.1 C.2.2.1 hl.1 C.2.1 hW4 hS (As := [.int (mI x5_3), .int (mI (nm (x1_3 - x5_3)))]) (rest := []) (T_X12_greater C.2.2.2.2.2.2 N x5_3 ox5_3 (nm (x1_3 - x5_3)) (nm_ok _) h) q_1652 q_1653 q_92 q_1654 pl_X12_greater (by decide) (Nat.le_of_ble_eq_true rfl) dX12_tries_129 (fun v5 S5 H locs ov5 h hW5 hS => ?_)
          refine m_istore_n (pc := 132) C.1 dX12_tries_132 rfl hl (by decide) (fun v => [(3, .int v), (0, .ref (b + r0_3)), (1, .int (mI x1_3)), (2, .int (mI x2_3)), (4, .int (mI x4_3)), (5, .int (mI x5_3))]) (fun _ => rfl) ov5 (fun v6 ls ev6 ov6 hl => ?_)
          replace h := h v6 ev6
          refine m_iload (pc := 133) C.1 dX12_tries_133 hl 4 rfl ?_
          refine m_istore_n (pc := 135) C.1 dX12_tries_135 rfl hl (by decide) (fun v => [(2, .int v), (3, .int (mI v6)), (0, .ref (b + r0_3)), (1, .int (mI x1_3)), (4, .int (mI x4_3)), (5, .int (mI x5_3))]) (fun _ => rfl) ox4_3 (fun v7 ls ev7 ov7 hl => ?_)
          replace h := h v7 ev7
          exact W_X12_tries_136 C N hko37 r0_3 kr0_3 x1_3 ox1_3 v7 ov7 v6 ov6 x4_3 ox4_3 S5 _ _ _ (lv_sub hl [2, 3, 0, 1, 4] rfl) hW5 hS h
        · replace h := h.2 hc
          refine m_goto (pc := 120) (tgt := 136) C.1 dX12_tries_120 (by decide) ?_
          exact W_X12_tries_136 C N hko37 r0_3 kr0_3 x1_3 ox1_3 x2_3 ox2_3 x3_3 ox3_3 x4_3 ox4_3 S4 _ _ _ (lv_sub hl [0, 1, 2, 3, 4] rfl) hW4 hS h
def w_X12_tries_37 (N : Nat) (Q : mSt → Int → Prop) (ko142 : Int → mSt → Prop) : Nat → Nat → Int → Int → Int → Int → mSt → Prop
  | 0 => fun _ _ _ _ _ _ => False
  | k + 1 => w_X12_tries_37b N Q (w_X12_tries_37 N Q ko142 k) ko142
theorem W_X12_tries_37 (C : mC p l s m args meth c cX12_tries "MoonWashModel" 7 (some FieldType.int) g) (N : Nat) {Q : mSt → Int → Prop} {ko142 : Int → mSt → Prop} (hko142 : ∀ (x2 : Int) (ox2 : okI x2) (S : mSt) (H : Heap) (locs : List Loc) (ls : Array Slot), lv_has ls 7 [(2, .int (mI x2))] → mW g b KM S H → va_S (mA b KM s.heap.size) s.heap H locs → ko142 x2 S → W p l e { frames := 2, cells := 0, slots := 0, locals := 47 } s m args below meth c H locs 0 0 (vx_MQ below (mQi g b KM Q (mA b KM s.heap.size)) (mEx g b KM (fun _ _ => False) (mA b KM s.heap.size)) args s 0 0 (mA b KM s.heap.size)) (F0 m 142 ls [])) : ∀ (k : Nat) (r0 : Nat) (kr0 : KM r0 = (0, 10, 0)) (x1 : Int) (ox1 : okI x1) (x2 : Int) (ox2 : okI x2) (x3 : Int) (ox3 : okI x3) (x4 : Int) (ox4 : okI x4) (S : mSt) (H : Heap) (locs : List Loc) (ls : Array Slot) (hl : lv_has ls 7 [(0, .ref (b + r0)), (1, .int (mI x1)), (2, .int (mI x2)), (3, .int (mI x3)), (4, .int (mI x4))]) (hW : mW g b KM S H) (hS : va_S (mA b KM s.heap.size) s.heap H locs) (h : w_X12_tries_37 N Q ko142 k r0 x1 x2 x3 x4 S), W p l e { frames := 2, cells := 0, slots := 0, locals := 47 } s m args below meth c H locs 0 0 (vx_MQ below (mQi g b KM Q (mA b KM s.heap.size)) (mEx g b KM (fun _ _ => False) (mA b KM s.heap.size)) args s 0 0 (mA b KM s.heap.size)) (F0 m 37 ls []) := by
  intro k
  induction k with
  | zero => intro r0 kr0 x1 ox1 x2 ox2 x3 ox3 x4 ox4 S H locs ls hl hW hS h; exact False.elim h
  | succ k ih => intro r0 kr0 x1 ox1 x2 ox2 x3 ox3 x4 ox4 S H locs ls hl hW hS h; exact W_X12_tries_37b C N ih hko142 r0 kr0 x1 ox1 x2 ox2 x3 ox3 x4 ox4 S H locs ls hl hW hS h
def w_X12_tries_16 (N : Nat) (Q : mSt → Int → Prop)  (r0 : Nat) (x1 : Int) (xs0 : Int) (rs1 : Nat) (S : mSt) : Prop :=
  ∀ S1 : mSt, S1 = mup S rs1 0 xs0 → (((S1 r0 0) ≤ 0 → ∀ v2 : Int, v2 = (-1) → ∀ v3 : Int, v3 = 2000000000 → ∀ v4 : Int, v4 = 0 → w_X12_tries_37 N Q (fun (x2_5 : Int) (S_5 : mSt) => Q S_5 x2_5) N r0 x1 v2 v3 v4 S1) ∧ (0 < (S1 r0 0) → Q S1 0))
theorem W_X12_tries_16 (C : mC p l s m args meth c cX12_tries "MoonWashModel" 7 (some FieldType.int) g) (N : Nat) {Q : mSt → Int → Prop}   (r0 : Nat) (kr0 : KM r0 = (0, 10, 0)) (x1 : Int) (ox1 : okI x1) (xs0 : Int) (oxs0 : okI xs0) (rs1 : Nat) (krs1 : KM rs1 = (0, 10, 0)) (S : mSt) (H : Heap) (locs : List Loc) (ls : Array Slot) (hl : lv_has ls 7 [(0, .ref (b + r0)), (1, .int (mI x1))]) (hW : mW g b KM S H) (hS : va_S (mA b KM s.heap.size) s.heap H locs) (h : w_X12_tries_16 N Q  r0 x1 xs0 rs1 S) : W p l e { frames := 2, cells := 0, slots := 0, locals := 47 } s m args below meth c H locs 0 0 (vx_MQ below (mQi g b KM Q (mA b KM s.heap.size)) (mEx g b KM (fun _ _ => False) (mA b KM s.heap.size)) args s 0 0 (mA b KM s.heap.size)) (F0 m 16 ls [.int (mI xs0), .ref (b + rs1)]) := by
  unfold w_X12_tries_16 at h
  refine p_10_0 (pc := 16) C hW hS krs1 q_1383 oxs0 dX12_tries_16 (fun S1 H locs e1 hW1 hS => ?_)
  replace h := h S1 e1
  refine m_aload_n (pc := 19) C.1 dX12_tries_19 rfl hl 0 rfl ?_
  refine g_10_0 (pc := 20) C hW1 kr0 q_1383 dX12_tries_20 ?_
  refine m_if_le (pc := 23) (tgt := 28) C.1 (hW1.2.1 _ _) dX12_tries_23 (by decide) (fun hc => ?_) (fun hc => ?_)
  · replace h := h.1 hc
    refine m_iconst (pc := 28) C.1 dX12_tries_28 ?_
    refine m_istore_n (pc := 29) C.1 dX12_tries_29 rfl hl (by decide) (fun v => [(2, .int v), (0, .ref (b + r0)), (1, .int (mI x1))]) (fun _ => rfl) (by decide : okI (-1)) (fun v2 ls ev2 ov2 hl => ?_)
    replace h := h v2 ev2
    refine m_ldcw (pc := 30) (n := 2000000000) C.1 q_1780 rfl dX12_tries_30 ?_
    refine m_istore_n (pc := 33) C.1 dX12_tries_33 rfl hl (by decide) (fun v => [(3, .int v), (2, .int (mI v2)), (0, .ref (b + r0)), (1, .int (mI x1))]) (fun _ => rfl) (by decide : okI 2000000000) (fun v3 ls ev3 ov3 hl => ?_)
    replace h := h v3 ev3
    refine m_iconst (pc := 34) C.1 dX12_tries_34 ?_
    refine m_istore (pc := 35) C.1 dX12_tries_35 hl (by decide) (fun v => [(4, .int v), (3, .int (mI v3)), (2, .int (mI v2)), (0, .ref (b + r0)), (1, .int (mI x1))]) (fun _ => rfl) (by decide : okI 0) (fun v4 ls ev4 ov4 hl => ?_)
    replace h := h v4 ev4
    refine W_X12_tries_37 C N ?_ N r0 kr0 x1 ox1 v2 ov2 v3 ov3 v4 ov4 S1 _ _ _ (lv_sub hl [3, 4, 2, 1, 0] rfl) hW1 hS h
    · intro x2_5 ox2_5 S_5 H locs ls hl hW_5 hS h
      refine m_iload_n (pc := 142) C.1 dX12_tries_142 rfl hl 0 rfl ?_
      exact m_iret (pc := 143) C.1 C.2.2.2.1 C.2.2.2.2.1 hW_5 hS ox2_5 h (by decide) (by decide) dX12_tries_143
  · replace h := h.2 hc
    refine m_iconst (pc := 26) C.1 dX12_tries_26 ?_
    exact m_iret (pc := 27) C.1 C.2.2.2.1 C.2.2.2.2.1 hW1 hS (by decide : okI 0) h (by decide) (by decide) dX12_tries_27
end
def w_X12_tries (N : Nat) (r0 : Nat) (S : mSt) (Q : mSt → Int → Prop) : Prop :=
  w_X12_told N r0 S (fun (S1 : mSt) (v1 : Int) => ∀ v2 : Int, v2 = v1 → ((v2 ≠ (-1) → w_X12_tries_16 N Q  r0 v2 0 r0 S1) ∧ (v2 = (-1) → w_X12_tries_16 N Q  r0 v2 1 r0 S1)))
theorem T_X12_tries {l : Launch} (hl0 : l.stackTraces = false) {g : mG} {b : Nat} (N : Nat) (r0 : Nat) (kr0 : KM r0 = (0, 10, 0)) {S : mSt} {Q : mSt → Int → Prop} (h : w_X12_tries N r0 S Q) (sz : Nat) : vx_Met l yX12_tries (Cond.code yX12_tries cX12_tries 7 (some FieldType.int) :: wsG) { frames := 2, cells := 0, slots := 0, locals := 47 } (mPc g b KM S [.ref (b + r0)] sz) (mQi g b KM Q (mA b KM sz)) (mEx g b KM (fun _ _ => False) (mA b KM sz)) 0 0 (mA b KM sz) :=
  m_of (av := [.ref (b + r0)]) (Qf := fun A => mQi g b KM Q A) (Xf := fun A => mEx g b KM (fun _ _ => False) A) (by decide) (Nat.le_of_ble_eq_true rfl) (fun p e s m args below meth c ls X hK hml hr hlk hout hnm hW hl => by
    have C : mC p l s m args meth c cX12_tries "MoonWashModel" 7 (some FieldType.int) g := ⟨X, hK, hml, hr, hlk, hout, hl0⟩
    have hS : va_S (mA b KM s.heap.size) s.heap s.heap [] := va_S.rf
    have hl : lv_has ls 7 [(0, .ref (b + r0))] := hl
    unfold w_X12_tries at h
    refine m_aload_n (pc := 0) C.1 dX12_tries_0 rfl hl 0 rfl ?_
    refine m_callVi (pc := 1) C.1 C.2.2.1 hl.1 C.2.1 hW hS (As := []) (rest := []) (r := r0) (T_X12_told C.2.2.2.2.2.2 N r0 kr0 h) kr0 rfl q_1848 q_1850 q_75 q_92 q_1851 pl_X12_told (by decide) (Nat.le_of_ble_eq_true rfl) dX12_tries_1 (fun v1 S1 H locs ov1 h hW1 hS => ?_)
    refine m_istore_n (pc := 4) C.1 dX12_tries_4 rfl hl (by decide) (fun v => [(1, .int v), (0, .ref (b + r0))]) (fun _ => rfl) ov1 (fun v2 ls ev2 ov2 hl => ?_)
    replace h := h v2 ev2
    refine m_aload_n (pc := 5) C.1 dX12_tries_5 rfl hl 1 rfl ?_
    refine m_iload_n (pc := 6) C.1 dX12_tries_6 rfl hl 0 rfl ?_
    refine m_iconst (pc := 7) C.1 dX12_tries_7 ?_
    refine m_icmp_ne (pc := 8) (tgt := 15) C.1 ov2 (by decide : okI (-1)) dX12_tries_8 (by decide) (fun hc => ?_) (fun hc => ?_)
    · replace h := h.1 hc
      refine m_iconst (pc := 15) C.1 dX12_tries_15 ?_
      exact W_X12_tries_16 C N  r0 kr0 v2 ov2 0 (by decide : okI 0) r0 kr0 S1 _ _ _ (lv_sub hl [1, 0] rfl) hW1 hS h
    · replace h := h.2 hc
      refine m_iconst (pc := 11) C.1 dX12_tries_11 ?_
      refine m_goto (pc := 12) (tgt := 16) C.1 dX12_tries_12 (by decide) ?_
      exact W_X12_tries_16 C N  r0 kr0 v2 ov2 1 (by decide : okI 1) r0 kr0 S1 _ _ _ (lv_sub hl [1, 0] rfl) hW1 hS h) sz
section
variable {p : Program} {l : Launch} {e : Env} {s : State} {m : MethodId} {args : Array Value} {below : List Frame} {meth : Method} {c : Code} {g : mG} {b : Nat}
def w_X12_watch_38 (N : Nat) (Q : mSt → Int → Prop) (ko9 : Nat → Int → Int → mSt → Prop) (r0 : Nat) (x2 : Int) (xs0 : Int) (xs1 : Int) (S : mSt) : Prop :=
  ∀ v1 : Int, v1 = (bOr xs1 xs0) → ∀ v2 : Int, v2 = nm (x2 + 1) → ko9 r0 v1 v2 S
theorem W_X12_watch_38 (C : mC p l s m args meth c cX12_watch "MoonWashModel" 5 (some FieldType.int) g) (N : Nat) {Q : mSt → Int → Prop} {ko9 : Nat → Int → Int → mSt → Prop} (hko9 : ∀ (r0 : Nat) (kr0 : KM r0 = (0, 10, 0)) (x1 : Int) (ox1 : okI x1) (x2 : Int) (ox2 : okI x2) (S : mSt) (H : Heap) (locs : List Loc) (ls : Array Slot), lv_has ls 5 [(0, .ref (b + r0)), (1, .int (mI x1)), (2, .int (mI x2))] → mW g b KM S H → va_S (mA b KM s.heap.size) s.heap H locs → ko9 r0 x1 x2 S → W p l e { frames := 1, cells := 0, slots := 0, locals := 22 } s m args below meth c H locs 0 0 (vx_MQ below (mQi g b KM Q (mA b KM s.heap.size)) (mEx g b KM (fun _ _ => False) (mA b KM s.heap.size)) args s 0 0 (mA b KM s.heap.size)) (F0 m 9 ls [])) (r0 : Nat) (kr0 : KM r0 = (0, 10, 0)) (x2 : Int) (ox2 : okI x2) (xs0 : Int) (oxs0 : okI xs0) (xs1 : Int) (oxs1 : okI xs1) (S : mSt) (H : Heap) (locs : List Loc) (ls : Array Slot) (hl : lv_has ls 5 [(0, .ref (b + r0)), (2, .int (mI x2))]) (hW : mW g b KM S H) (hS : va_S (mA b KM s.heap.size) s.heap H locs) (h : w_X12_watch_38 N Q ko9 r0 x2 xs0 xs1 S) : W p l e { frames := 1, cells := 0, slots := 0, locals := 22 } s m args below meth c H locs 0 0 (vx_MQ below (mQi g b KM Q (mA b KM s.heap.size)) (mEx g b KM (fun _ _ => False) (mA b KM s.heap.size)) args s 0 0 (mA b KM s.heap.size)) (F0 m 38 ls [.int (mI xs0), .int (mI xs1)]) := by
  unfold w_X12_watch_38 at h
  refine m_ior (pc := 38) C.1 dX12_watch_38 ?_
  refine m_istore_n (pc := 39) C.1 dX12_watch_39 rfl hl (by decide) (fun v => [(1, .int v), (0, .ref (b + r0)), (2, .int (mI x2))]) (fun _ => rfl) (bOr_ok _ _) (fun v1 ls ev1 ov1 hl => ?_)
  replace h := h v1 ev1
  refine m_iinc (pc := 40) C.1 dX12_watch_40 hl (by decide) (q0 := 2) rfl (fun v => [(2, .int v), (1, .int (mI v1)), (0, .ref (b + r0))]) (fun _ => rfl) (fun v2 ls ev2 ov2 hl => ?_)
  replace h := h v2 ev2
  refine m_goto (pc := 43) (tgt := 9) C.1 dX12_watch_43 (by decide) ?_
  exact hko9 r0 kr0 v1 ov1 v2 ov2 S _ _ _ (lv_sub hl [2, 1, 0] rfl) hW hS h
def w_X12_watch_9b (N : Nat) (Q : mSt → Int → Prop) (ko9 : Nat → Int → Int → mSt → Prop) (ko46 : Int → mSt → Prop) (r0 : Nat) (x1 : Int) (x2 : Int) (S : mSt) : Prop :=
  ((8 ≤ x2 → ko46 x1 S) ∧ (x2 < 8 → w_X12_of N r0 x2 4 S (fun (S1 : mSt) (v1 : Int) => ((v1 ≠ 1 → w_X12_watch_38 N Q ko9 r0 x2 0 x1 S1) ∧ (v1 = 1 → w_X12_of N r0 x2 5 S1 (fun (S2 : mSt) (v2 : Int) => w_X12_watch_38 N Q ko9 r0 x2 (bShl 1 v2) x1 S2))))))
theorem W_X12_watch_9b (C : mC p l s m args meth c cX12_watch "MoonWashModel" 5 (some FieldType.int) g) (N : Nat) {Q : mSt → Int → Prop} {ko9 : Nat → Int → Int → mSt → Prop} {ko46 : Int → mSt → Prop} (hko9 : ∀ (r0 : Nat) (kr0 : KM r0 = (0, 10, 0)) (x1 : Int) (ox1 : okI x1) (x2 : Int) (ox2 : okI x2) (S : mSt) (H : Heap) (locs : List Loc) (ls : Array Slot), lv_has ls 5 [(0, .ref (b + r0)), (1, .int (mI x1)), (2, .int (mI x2))] → mW g b KM S H → va_S (mA b KM s.heap.size) s.heap H locs → ko9 r0 x1 x2 S → W p l e { frames := 1, cells := 0, slots := 0, locals := 22 } s m args below meth c H locs 0 0 (vx_MQ below (mQi g b KM Q (mA b KM s.heap.size)) (mEx g b KM (fun _ _ => False) (mA b KM s.heap.size)) args s 0 0 (mA b KM s.heap.size)) (F0 m 9 ls [])) (hko46 : ∀ (x1 : Int) (ox1 : okI x1) (S : mSt) (H : Heap) (locs : List Loc) (ls : Array Slot), lv_has ls 5 [(1, .int (mI x1))] → mW g b KM S H → va_S (mA b KM s.heap.size) s.heap H locs → ko46 x1 S → W p l e { frames := 1, cells := 0, slots := 0, locals := 22 } s m args below meth c H locs 0 0 (vx_MQ below (mQi g b KM Q (mA b KM s.heap.size)) (mEx g b KM (fun _ _ => False) (mA b KM s.heap.size)) args s 0 0 (mA b KM s.heap.size)) (F0 m 46 ls [])) (r0 : Nat) (kr0 : KM r0 = (0, 10, 0)) (x1 : Int) (ox1 : okI x1) (x2 : Int) (ox2 : okI x2) (S : mSt) (H : Heap) (locs : List Loc) (ls : Array Slot) (hl : lv_has ls 5 [(0, .ref (b + r0)), (1, .int (mI x1)), (2, .int (mI x2))]) (hW : mW g b KM S H) (hS : va_S (mA b KM s.heap.size) s.heap H locs) (h : w_X12_watch_9b N Q ko9 ko46 r0 x1 x2 S) : W p l e { frames := 1, cells := 0, slots := 0, locals := 22 } s m args below meth c H locs 0 0 (vx_MQ below (mQi g b KM Q (mA b KM s.heap.size)) (mEx g b KM (fun _ _ => False) (mA b KM s.heap.size)) args s 0 0 (mA b KM s.heap.size)) (F0 m 9 ls []) := by
  unfold w_X12_watch_9b at h
  refine m_iload_n (pc := 9) C.1 dX12_watch_9 rfl hl 2 rfl ?_
  refine m_bipush (pc := 10) C.1 dX12_watch_10 rfl ?_
  refine m_icmp_ge (pc := 12) (tgt := 46) C.1 ox2 (by decide : okI 8) dX12_watch_12 (by decide) (fun hc => ?_) (fun hc => ?_)
  · replace h := h.1 hc
    exact hko46 x1 ox1 S _ _ _ (lv_sub hl [1] rfl) hW hS h
  · replace h := h.2 hc
    refine m_iload_n (pc := 15) C.1 dX12_watch_15 rfl hl 1 rfl ?_
    refine m_aload_n (pc := 16) C.1 dX12_watch_16 rfl hl 0 rfl ?_
    refine m_iload_n (pc := 17) C.1 dX12_watch_17 rfl hl 2 rfl ?_
    refine m_iconst (pc := 18) C.1 dX12_watch_18 ?_
    refine m_callVi (pc := 19) C.1 C.2.2.1 hl.1 C.2.1 hW hS (As := [.int (mI x2), .int (mI 4)]) (rest := [.int (mI x1)]) (r := r0) (T_X12_of C.2.2.2.2.2.2 N r0 kr0 x2 ox2 4 (by decide : okI 4) h) kr0 rfl q_1630 q_1632 q_48 q_92 q_1633 pl_X12_of (by decide) (Nat.le_of_ble_eq_true rfl) dX12_watch_19 (fun v1 S1 H locs ov1 h hW1 hS => ?_)
    refine m_iconst (pc := 22) C.1 dX12_watch_22 ?_
    refine m_icmp_ne (pc := 23) (tgt := 37) C.1 ov1 (by decide : okI 1) dX12_watch_23 (by decide) (fun hc => ?_) (fun hc => ?_)
    · replace h := h.1 hc
      refine m_iconst (pc := 37) C.1 dX12_watch_37 ?_
      exact W_X12_watch_38 C N hko9 r0 kr0 x2 ox2 0 (by decide : okI 0) x1 ox1 S1 _ _ _ (lv_sub hl [0, 2] rfl) hW1 hS h
    · replace h := h.2 hc
      refine m_iconst (pc := 26) C.1 dX12_watch_26 ?_
      refine m_aload_n (pc := 27) C.1 dX12_watch_27 rfl hl 0 rfl ?_
      refine m_iload_n (pc := 28) C.1 dX12_watch_28 rfl hl 2 rfl ?_
      refine m_iconst (pc := 29) C.1 dX12_watch_29 ?_
      refine m_callVi (pc := 30) C.1 C.2.2.1 hl.1 C.2.1 hW1 hS (As := [.int (mI x2), .int (mI 5)]) (rest := [.int (mI 1), .int (mI x1)]) (r := r0) (T_X12_of C.2.2.2.2.2.2 N r0 kr0 x2 ox2 5 (by decide : okI 5) h) kr0 rfl q_1630 q_1632 q_48 q_92 q_1633 pl_X12_of (by decide) (Nat.le_of_ble_eq_true rfl) dX12_watch_30 (fun v2 S2 H locs ov2 h hW2 hS => ?_)
      refine m_ishl (pc := 33) C.1 dX12_watch_33 ?_
      refine m_goto (pc := 34) (tgt := 38) C.1 dX12_watch_34 (by decide) ?_
      exact W_X12_watch_38 C N hko9 r0 kr0 x2 ox2 (bShl 1 v2) (bShl_ok _ _) x1 ox1 S2 _ _ _ (lv_sub hl [0, 2] rfl) hW2 hS h
def w_X12_watch_9 (N : Nat) (Q : mSt → Int → Prop) (ko46 : Int → mSt → Prop) : Nat → Nat → Int → Int → mSt → Prop
  | 0 => fun _ _ _ _ => False
  | k + 1 => w_X12_watch_9b N Q (w_X12_watch_9 N Q ko46 k) ko46
theorem W_X12_watch_9 (C : mC p l s m args meth c cX12_watch "MoonWashModel" 5 (some FieldType.int) g) (N : Nat) {Q : mSt → Int → Prop} {ko46 : Int → mSt → Prop} (hko46 : ∀ (x1 : Int) (ox1 : okI x1) (S : mSt) (H : Heap) (locs : List Loc) (ls : Array Slot), lv_has ls 5 [(1, .int (mI x1))] → mW g b KM S H → va_S (mA b KM s.heap.size) s.heap H locs → ko46 x1 S → W p l e { frames := 1, cells := 0, slots := 0, locals := 22 } s m args below meth c H locs 0 0 (vx_MQ below (mQi g b KM Q (mA b KM s.heap.size)) (mEx g b KM (fun _ _ => False) (mA b KM s.heap.size)) args s 0 0 (mA b KM s.heap.size)) (F0 m 46 ls [])) : ∀ (k : Nat) (r0 : Nat) (kr0 : KM r0 = (0, 10, 0)) (x1 : Int) (ox1 : okI x1) (x2 : Int) (ox2 : okI x2) (S : mSt) (H : Heap) (locs : List Loc) (ls : Array Slot) (hl : lv_has ls 5 [(0, .ref (b + r0)), (1, .int (mI x1)), (2, .int (mI x2))]) (hW : mW g b KM S H) (hS : va_S (mA b KM s.heap.size) s.heap H locs) (h : w_X12_watch_9 N Q ko46 k r0 x1 x2 S), W p l e { frames := 1, cells := 0, slots := 0, locals := 22 } s m args below meth c H locs 0 0 (vx_MQ below (mQi g b KM Q (mA b KM s.heap.size)) (mEx g b KM (fun _ _ => False) (mA b KM s.heap.size)) args s 0 0 (mA b KM s.heap.size)) (F0 m 9 ls []) := by
  intro k
  induction k with
  | zero => intro r0 kr0 x1 ox1 x2 ox2 S H locs ls hl hW hS h; exact False.elim h
  | succ k ih => intro r0 kr0 x1 ox1 x2 ox2 S H locs ls hl hW hS h; exact W_X12_watch_9b C N ih hko46 r0 kr0 x1 ox1 x2 ox2 S H locs ls hl hW hS h
def w_X12_watch_95 (N : Nat) (Q : mSt → Int → Prop) (ko50 : Int → Int → Int → mSt → Prop) (x1 : Int) (x2 : Int) (x3 : Int) (S : mSt) : Prop :=
  ∀ v1 : Int, v1 = nm (x3 + 1) → ko50 x1 x2 v1 S
theorem W_X12_watch_95 (C : mC p l s m args meth c cX12_watch "MoonWashModel" 5 (some FieldType.int) g) (N : Nat) {Q : mSt → Int → Prop} {ko50 : Int → Int → Int → mSt → Prop} (hko50 : ∀ (x1 : Int) (ox1 : okI x1) (x2 : Int) (ox2 : okI x2) (x3 : Int) (ox3 : okI x3) (S : mSt) (H : Heap) (locs : List Loc) (ls : Array Slot), lv_has ls 5 [(1, .int (mI x1)), (2, .int (mI x2)), (3, .int (mI x3))] → mW g b KM S H → va_S (mA b KM s.heap.size) s.heap H locs → ko50 x1 x2 x3 S → W p l e { frames := 1, cells := 0, slots := 0, locals := 22 } s m args below meth c H locs 0 0 (vx_MQ below (mQi g b KM Q (mA b KM s.heap.size)) (mEx g b KM (fun _ _ => False) (mA b KM s.heap.size)) args s 0 0 (mA b KM s.heap.size)) (F0 m 50 ls [])) (x1 : Int) (ox1 : okI x1) (x2 : Int) (ox2 : okI x2) (x3 : Int) (ox3 : okI x3) (S : mSt) (H : Heap) (locs : List Loc) (ls : Array Slot) (hl : lv_has ls 5 [(1, .int (mI x1)), (2, .int (mI x2)), (3, .int (mI x3))]) (hW : mW g b KM S H) (hS : va_S (mA b KM s.heap.size) s.heap H locs) (h : w_X12_watch_95 N Q ko50 x1 x2 x3 S) : W p l e { frames := 1, cells := 0, slots := 0, locals := 22 } s m args below meth c H locs 0 0 (vx_MQ below (mQi g b KM Q (mA b KM s.heap.size)) (mEx g b KM (fun _ _ => False) (mA b KM s.heap.size)) args s 0 0 (mA b KM s.heap.size)) (F0 m 95 ls []) := by
  unfold w_X12_watch_95 at h
  refine m_iinc (pc := 95) C.1 dX12_watch_95 hl (by decide) (q0 := 2) rfl (fun v => [(3, .int v), (1, .int (mI x1)), (2, .int (mI x2))]) (fun _ => rfl) (fun v1 ls ev1 ov1 hl => ?_)
  replace h := h v1 ev1
  refine m_goto (pc := 98) (tgt := 50) C.1 dX12_watch_98 (by decide) ?_
  exact hko50 x1 ox1 x2 ox2 v1 ov1 S _ _ _ (lv_sub hl [1, 2, 0] rfl) hW hS h
def w_X12_watch_93 (N : Nat) (Q : mSt → Int → Prop) (ko50 : Int → Int → Int → mSt → Prop) (x1 : Int) (x3 : Int) (S : mSt) : Prop :=
  ∀ v1 : Int, v1 = x3 → w_X12_watch_95 N Q ko50 x1 v1 x3 S
theorem W_X12_watch_93 (C : mC p l s m args meth c cX12_watch "MoonWashModel" 5 (some FieldType.int) g) (N : Nat) {Q : mSt → Int → Prop} {ko50 : Int → Int → Int → mSt → Prop} (hko50 : ∀ (x1 : Int) (ox1 : okI x1) (x2 : Int) (ox2 : okI x2) (x3 : Int) (ox3 : okI x3) (S : mSt) (H : Heap) (locs : List Loc) (ls : Array Slot), lv_has ls 5 [(1, .int (mI x1)), (2, .int (mI x2)), (3, .int (mI x3))] → mW g b KM S H → va_S (mA b KM s.heap.size) s.heap H locs → ko50 x1 x2 x3 S → W p l e { frames := 1, cells := 0, slots := 0, locals := 22 } s m args below meth c H locs 0 0 (vx_MQ below (mQi g b KM Q (mA b KM s.heap.size)) (mEx g b KM (fun _ _ => False) (mA b KM s.heap.size)) args s 0 0 (mA b KM s.heap.size)) (F0 m 50 ls [])) (x1 : Int) (ox1 : okI x1) (x3 : Int) (ox3 : okI x3) (S : mSt) (H : Heap) (locs : List Loc) (ls : Array Slot) (hl : lv_has ls 5 [(1, .int (mI x1)), (3, .int (mI x3))]) (hW : mW g b KM S H) (hS : va_S (mA b KM s.heap.size) s.heap H locs) (h : w_X12_watch_93 N Q ko50 x1 x3 S) : W p l e { frames := 1, cells := 0, slots := 0, locals := 22 } s m args below meth c H locs 0 0 (vx_MQ below (mQi g b KM Q (mA b KM s.heap.size)) (mEx g b KM (fun _ _ => False) (mA b KM s.heap.size)) args s 0 0 (mA b KM s.heap.size)) (F0 m 93 ls []) := by
  unfold w_X12_watch_93 at h
  refine m_iload_n (pc := 93) C.1 dX12_watch_93 rfl hl 1 rfl ?_
  refine m_istore_n (pc := 94) C.1 dX12_watch_94 rfl hl (by decide) (fun v => [(2, .int v), (1, .int (mI x1)), (3, .int (mI x3))]) (fun _ => rfl) ox3 (fun v1 ls ev1 ov1 hl => ?_)
  replace h := h v1 ev1
  exact W_X12_watch_95 C N hko50 x1 ox1 v1 ov1 x3 ox3 S _ _ _ (lv_sub hl [1, 0, 2] rfl) hW hS h
def w_X12_watch_50b (N : Nat) (Q : mSt → Int → Prop) (ko50 : Int → Int → Int → mSt → Prop) (ko101 : Int → mSt → Prop) (x1 : Int) (x2 : Int) (x3 : Int) (S : mSt) : Prop :=
  ((256 ≤ x3 → ko101 x2 S) ∧ (x3 < 256 → ∀ v1 : Int, v1 = (bOr (bOr x3 (bShl x3 1)) (bShr x3 1)) → (((bAnd x1 (bXor v1 (-1))) ≠ 0 → w_X12_watch_95 N Q ko50 x1 x2 x3 S) ∧ ((bAnd x1 (bXor v1 (-1))) = 0 → ((x2 = (-1) → w_X12_watch_93 N Q ko50 x1 x3 S) ∧ (x2 ≠ (-1) → w_X12_bits N x3 S (fun (S2 : mSt) (v2 : Int) => w_X12_bits N x2 S2 (fun (S3 : mSt) (v3 : Int) => ((v3 ≤ v2 → w_X12_watch_95 N Q ko50 x1 x2 x3 S3) ∧ (v2 < v3 → w_X12_watch_93 N Q ko50 x1 x3 S3))))))))))
theorem W_X12_watch_50b (C : mC p l s m args meth c cX12_watch "MoonWashModel" 5 (some FieldType.int) g) (N : Nat) {Q : mSt → Int → Prop} {ko50 : Int → Int → Int → mSt → Prop} {ko101 : Int → mSt → Prop} (hko50 : ∀ (x1 : Int) (ox1 : okI x1) (x2 : Int) (ox2 : okI x2) (x3 : Int) (ox3 : okI x3) (S : mSt) (H : Heap) (locs : List Loc) (ls : Array Slot), lv_has ls 5 [(1, .int (mI x1)), (2, .int (mI x2)), (3, .int (mI x3))] → mW g b KM S H → va_S (mA b KM s.heap.size) s.heap H locs → ko50 x1 x2 x3 S → W p l e { frames := 1, cells := 0, slots := 0, locals := 22 } s m args below meth c H locs 0 0 (vx_MQ below (mQi g b KM Q (mA b KM s.heap.size)) (mEx g b KM (fun _ _ => False) (mA b KM s.heap.size)) args s 0 0 (mA b KM s.heap.size)) (F0 m 50 ls [])) (hko101 : ∀ (x2 : Int) (ox2 : okI x2) (S : mSt) (H : Heap) (locs : List Loc) (ls : Array Slot), lv_has ls 5 [(2, .int (mI x2))] → mW g b KM S H → va_S (mA b KM s.heap.size) s.heap H locs → ko101 x2 S → W p l e { frames := 1, cells := 0, slots := 0, locals := 22 } s m args below meth c H locs 0 0 (vx_MQ below (mQi g b KM Q (mA b KM s.heap.size)) (mEx g b KM (fun _ _ => False) (mA b KM s.heap.size)) args s 0 0 (mA b KM s.heap.size)) (F0 m 101 ls [])) (x1 : Int) (ox1 : okI x1) (x2 : Int) (ox2 : okI x2) (x3 : Int) (ox3 : okI x3) (S : mSt) (H : Heap) (locs : List Loc) (ls : Array Slot) (hl : lv_has ls 5 [(1, .int (mI x1)), (2, .int (mI x2)), (3, .int (mI x3))]) (hW : mW g b KM S H) (hS : va_S (mA b KM s.heap.size) s.heap H locs) (h : w_X12_watch_50b N Q ko50 ko101 x1 x2 x3 S) : W p l e { frames := 1, cells := 0, slots := 0, locals := 22 } s m args below meth c H locs 0 0 (vx_MQ below (mQi g b KM Q (mA b KM s.heap.size)) (mEx g b KM (fun _ _ => False) (mA b KM s.heap.size)) args s 0 0 (mA b KM s.heap.size)) (F0 m 50 ls []) := by
  unfold w_X12_watch_50b at h
  refine m_iload_n (pc := 50) C.1 dX12_watch_50 rfl hl 2 rfl ?_
  refine m_sipush (pc := 51) C.1 dX12_watch_51 rfl ?_
  refine m_icmp_ge (pc := 54) (tgt := 101) C.1 ox3 (by decide : okI 256) dX12_watch_54 (by decide) (fun hc => ?_) (fun hc => ?_)
  · replace h := h.1 hc
    exact hko101 x2 ox2 S _ _ _ (lv_sub hl [1] rfl) hW hS h
  · replace h := h.2 hc
    refine m_iload_n (pc := 57) C.1 dX12_watch_57 rfl hl 2 rfl ?_
    refine m_iload_n (pc := 58) C.1 dX12_watch_58 rfl hl 2 rfl ?_
    refine m_iconst (pc := 59) C.1 dX12_watch_59 ?_
    refine m_ishl (pc := 60) C.1 dX12_watch_60 ?_
    refine m_ior (pc := 61) C.1 dX12_watch_61 ?_
    refine m_iload_n (pc := 62) C.1 dX12_watch_62 rfl hl 2 rfl ?_
    refine m_iconst (pc := 63) C.1 dX12_watch_63 ?_
    refine m_ishr (pc := 64) C.1 dX12_watch_64 ?_
    refine m_ior (pc := 65) C.1 dX12_watch_65 ?_
    refine m_istore (pc := 66) C.1 dX12_watch_66 hl (by decide) (fun v => [(4, .int v), (1, .int (mI x1)), (2, .int (mI x2)), (3, .int (mI x3))]) (fun _ => rfl) (bOr_ok _ _) (fun v1 ls ev1 ov1 hl => ?_)
    replace h := h v1 ev1
    refine m_iload_n (pc := 68) C.1 dX12_watch_68 rfl hl 1 rfl ?_
    refine m_iload (pc := 69) C.1 dX12_watch_69 hl 0 rfl ?_
    refine m_iconst (pc := 71) C.1 dX12_watch_71 ?_
    refine m_ixor (pc := 72) C.1 dX12_watch_72 ?_
    refine m_iand (pc := 73) C.1 dX12_watch_73 ?_
    refine m_if_ne (pc := 74) (tgt := 95) C.1 (bAnd_ok _ _) dX12_watch_74 (by decide) (fun hc => ?_) (fun hc => ?_)
    · replace h := h.1 hc
      exact W_X12_watch_95 C N hko50 x1 ox1 x2 ox2 x3 ox3 S _ _ _ (lv_sub hl [1, 2, 3] rfl) hW hS h
    · replace h := h.2 hc
      refine m_iload_n (pc := 77) C.1 dX12_watch_77 rfl hl 2 rfl ?_
      refine m_iconst (pc := 78) C.1 dX12_watch_78 ?_
      refine m_icmp_eq (pc := 79) (tgt := 93) C.1 ox2 (by decide : okI (-1)) dX12_watch_79 (by decide) (fun hc => ?_) (fun hc => ?_)
      · replace h := h.1 hc
        exact W_X12_watch_93 C N hko50 x1 ox1 x3 ox3 S _ _ _ (lv_sub hl [1, 3] rfl) hW hS h
      · replace h := h.2 hc
        refine m_iload_n (pc := 82) C.1 dX12_watch_82 rfl hl 3 rfl ?_
        refine m_callSi (pc := 83) C.1 C.2.2.1 hl.1 C.2.1 hW hS (As := [.int (mI x3)]) (rest := []) (T_X12_bits C.2.2.2.2.2.2 N x3 ox3 h) q_1646 q_1647 q_92 q_1648 pl_X12_bits (by decide) (Nat.le_of_ble_eq_true rfl) dX12_watch_83 (fun v2 S2 H locs ov2 h hW2 hS => ?_)
        refine m_iload_n (pc := 86) C.1 dX12_watch_86 rfl hl 2 rfl ?_
        refine m_callSi (pc := 87) C.1 C.2.2.1 hl.1 C.2.1 hW2 hS (As := [.int (mI x2)]) (rest := [.int (mI v2)]) (T_X12_bits C.2.2.2.2.2.2 N x2 ox2 h) q_1646 q_1647 q_92 q_1648 pl_X12_bits (by decide) (Nat.le_of_ble_eq_true rfl) dX12_watch_87 (fun v3 S3 H locs ov3 h hW3 hS => ?_)
        refine m_icmp_ge (pc := 90) (tgt := 95) C.1 ov2 ov3 dX12_watch_90 (by decide) (fun hc => ?_) (fun hc => ?_)
        · replace h := h.1 hc
          exact W_X12_watch_95 C N hko50 x1 ox1 x2 ox2 x3 ox3 S3 _ _ _ (lv_sub hl [1, 2, 3] rfl) hW3 hS h
        · replace h := h.2 hc
          exact W_X12_watch_93 C N hko50 x1 ox1 x3 ox3 S3 _ _ _ (lv_sub hl [1, 3] rfl) hW3 hS h
def w_X12_watch_50 (N : Nat) (Q : mSt → Int → Prop) (ko101 : Int → mSt → Prop) : Nat → Int → Int → Int → mSt → Prop
  | 0 => fun _ _ _ _ => False
  | k + 1 => w_X12_watch_50b N Q (w_X12_watch_50 N Q ko101 k) ko101
theorem W_X12_watch_50 (C : mC p l s m args meth c cX12_watch "MoonWashModel" 5 (some FieldType.int) g) (N : Nat) {Q : mSt → Int → Prop} {ko101 : Int → mSt → Prop} (hko101 : ∀ (x2 : Int) (ox2 : okI x2) (S : mSt) (H : Heap) (locs : List Loc) (ls : Array Slot), lv_has ls 5 [(2, .int (mI x2))] → mW g b KM S H → va_S (mA b KM s.heap.size) s.heap H locs → ko101 x2 S → W p l e { frames := 1, cells := 0, slots := 0, locals := 22 } s m args below meth c H locs 0 0 (vx_MQ below (mQi g b KM Q (mA b KM s.heap.size)) (mEx g b KM (fun _ _ => False) (mA b KM s.heap.size)) args s 0 0 (mA b KM s.heap.size)) (F0 m 101 ls [])) : ∀ (k : Nat) (x1 : Int) (ox1 : okI x1) (x2 : Int) (ox2 : okI x2) (x3 : Int) (ox3 : okI x3) (S : mSt) (H : Heap) (locs : List Loc) (ls : Array Slot) (hl : lv_has ls 5 [(1, .int (mI x1)), (2, .int (mI x2)), (3, .int (mI x3))]) (hW : mW g b KM S H) (hS : va_S (mA b KM s.heap.size) s.heap H locs) (h : w_X12_watch_50 N Q ko101 k x1 x2 x3 S), W p l e { frames := 1, cells := 0, slots := 0, locals := 22 } s m args below meth c H locs 0 0 (vx_MQ below (mQi g b KM Q (mA b KM s.heap.size)) (mEx g b KM (fun _ _ => False) (mA b KM s.heap.size)) args s 0 0 (mA b KM s.heap.size)) (F0 m 50 ls []) := by
  intro k
  induction k with
  | zero => intro x1 ox1 x2 ox2 x3 ox3 S H locs ls hl hW hS h; exact False.elim h
  | succ k ih => intro x1 ox1 x2 ox2 x3 ox3 S H locs ls hl hW hS h; exact W_X12_watch_50b C N ih hko101 x1 ox1 x2 ox2 x3 ox3 S H locs ls hl hW hS h
end
def w_X12_watch (N : Nat) (r0 : Nat) (S : mSt) (Q : mSt → Int → Prop) : Prop :=
  ∀ S1 : mSt, S1 = mup S r0 0 0 → ∀ v2 : Int, v2 = 0 → ∀ v3 : Int, v3 = 0 → w_X12_watch_9 N Q (fun (x1_4 : Int) (S_4 : mSt) => ∀ v5 : Int, v5 = (-1) → ∀ v6 : Int, v6 = 0 → w_X12_watch_50 N Q (fun (x2_7 : Int) (S_7 : mSt) => Q S_7 x2_7) N x1_4 v5 v6 S_4) N r0 v2 v3 S1
theorem T_X12_watch {l : Launch} (hl0 : l.stackTraces = false) {g : mG} {b : Nat} (N : Nat) (r0 : Nat) (kr0 : KM r0 = (0, 10, 0)) {S : mSt} {Q : mSt → Int → Prop} (h : w_X12_watch N r0 S Q) (sz : Nat) : vx_Met l yX12_watch (Cond.code yX12_watch cX12_watch 5 (some FieldType.int) :: wsG) { frames := 1, cells := 0, slots := 0, locals := 22 } (mPc g b KM S [.ref (b + r0)] sz) (mQi g b KM Q (mA b KM sz)) (mEx g b KM (fun _ _ => False) (mA b KM sz)) 0 0 (mA b KM sz) :=
  m_of (av := [.ref (b + r0)]) (Qf := fun A => mQi g b KM Q A) (Xf := fun A => mEx g b KM (fun _ _ => False) A) (by decide) (Nat.le_of_ble_eq_true rfl) (fun p e s m args below meth c ls X hK hml hr hlk hout hnm hW hl => by
    have C : mC p l s m args meth c cX12_watch "MoonWashModel" 5 (some FieldType.int) g := ⟨X, hK, hml, hr, hlk, hout, hl0⟩
    have hS : va_S (mA b KM s.heap.size) s.heap s.heap [] := va_S.rf
    have hl : lv_has ls 5 [(0, .ref (b + r0))] := hl
    unfold w_X12_watch at h
    refine m_aload_n (pc := 0) C.1 dX12_watch_0 rfl hl 0 rfl ?_
    refine m_iconst (pc := 1) C.1 dX12_watch_1 ?_
    refine p_10_0 (pc := 2) C hW hS kr0 q_1383 (by decide : okI 0) dX12_watch_2 (fun S1 H locs e1 hW1 hS => ?_)
    replace h := h S1 e1
    refine m_iconst (pc := 5) C.1 dX12_watch_5 ?_
    refine m_istore_n (pc := 6) C.1 dX12_watch_6 rfl hl (by decide) (fun v => [(1, .int v), (0, .ref (b + r0))]) (fun _ => rfl) (by decide : okI 0) (fun v2 ls ev2 ov2 hl => ?_)
    replace h := h v2 ev2
    refine m_iconst (pc := 7) C.1 dX12_watch_7 ?_
    refine m_istore_n (pc := 8) C.1 dX12_watch_8 rfl hl (by decide) (fun v => [(2, .int v), (1, .int (mI v2)), (0, .ref (b + r0))]) (fun _ => rfl) (by decide : okI 0) (fun v3 ls ev3 ov3 hl => ?_)
    replace h := h v3 ev3
    refine W_X12_watch_9 C N ?_ N r0 kr0 v2 ov2 v3 ov3 S1 _ _ _ (lv_sub hl [2, 1, 0] rfl) hW1 hS h
    · intro x1_4 ox1_4 S_4 H locs ls hl hW_4 hS h
      refine m_iconst (pc := 46) C.1 dX12_watch_46 ?_
      refine m_istore_n (pc := 47) C.1 dX12_watch_47 rfl hl (by decide) (fun v => [(2, .int v), (1, .int (mI x1_4))]) (fun _ => rfl) (by decide : okI (-1)) (fun v5 ls ev5 ov5 hl => ?_)
      replace h := h v5 ev5
      refine m_iconst (pc := 48) C.1 dX12_watch_48 ?_
      refine m_istore_n (pc := 49) C.1 dX12_watch_49 rfl hl (by decide) (fun v => [(3, .int v), (2, .int (mI v5)), (1, .int (mI x1_4))]) (fun _ => rfl) (by decide : okI 0) (fun v6 ls ev6 ov6 hl => ?_)
      replace h := h v6 ev6
      refine W_X12_watch_50 C N ?_ N x1_4 ox1_4 v5 ov5 v6 ov6 S_4 _ _ _ (lv_sub hl [2, 1, 0] rfl) hW_4 hS h
      · intro x2_7 ox2_7 S_7 H locs ls hl hW_7 hS h
        refine m_iload_n (pc := 101) C.1 dX12_watch_101 rfl hl 0 rfl ?_
        exact m_iret (pc := 102) C.1 C.2.2.2.1 C.2.2.2.2.1 hW_7 hS ox2_7 h (by decide) (by decide) dX12_watch_102) sz
section
variable {p : Program} {l : Launch} {e : Env} {s : State} {m : MethodId} {args : Array Value} {below : List Frame} {meth : Method} {c : Code} {g : mG} {b : Nat}
def w_X12_row_23b (N : Nat) (Q : mSt → Int → Prop) (ko23 : Int → Int → Int → Int → mSt → Prop) (ko50 : Int → Int → Int → Int → mSt → Prop) (x1 : Int) (x2 : Int) (x3 : Int) (x4 : Int) (S : mSt) : Prop :=
  ((8 ≤ x4 → ko50 x1 x2 x3 x4 S) ∧ (x4 < 8 → w_X12_isOf N x1 (iRem (nm (x3 + x4)) 8) S (fun (S1 : mSt) (v1 : Int) => ((v1 = 0 → ko50 x1 x2 x3 x4 S1) ∧ (v1 ≠ 0 → ∀ v2 : Int, v2 = nm (x4 + 1) → ko23 x1 x2 x3 v2 S1)))))
theorem W_X12_row_23b (C : mC p l s m args meth c cX12_row "MoonWashModel" 5 (some FieldType.int) g) (N : Nat) {Q : mSt → Int → Prop} {ko23 : Int → Int → Int → Int → mSt → Prop} {ko50 : Int → Int → Int → Int → mSt → Prop} (hko23 : ∀ (x1 : Int) (ox1 : okI x1) (x2 : Int) (ox2 : okI x2) (x3 : Int) (ox3 : okI x3) (x4 : Int) (ox4 : okI x4) (S : mSt) (H : Heap) (locs : List Loc) (ls : Array Slot), lv_has ls 5 [(1, .int (mI x1)), (2, .int (mI x2)), (3, .int (mI x3)), (4, .int (mI x4))] → mW g b KM S H → va_S (mA b KM s.heap.size) s.heap H locs → ko23 x1 x2 x3 x4 S → W p l e { frames := 122, cells := 0, slots := 0, locals := 3206 } s m args below meth c H locs 0 0 (vx_MQ below (mQi g b KM Q (mA b KM s.heap.size)) (mEx g b KM (fun _ _ => False) (mA b KM s.heap.size)) args s 0 0 (mA b KM s.heap.size)) (F0 m 23 ls [])) (hko50 : ∀ (x1 : Int) (ox1 : okI x1) (x2 : Int) (ox2 : okI x2) (x3 : Int) (ox3 : okI x3) (x4 : Int) (ox4 : okI x4) (S : mSt) (H : Heap) (locs : List Loc) (ls : Array Slot), lv_has ls 5 [(1, .int (mI x1)), (2, .int (mI x2)), (3, .int (mI x3)), (4, .int (mI x4))] → mW g b KM S H → va_S (mA b KM s.heap.size) s.heap H locs → ko50 x1 x2 x3 x4 S → W p l e { frames := 122, cells := 0, slots := 0, locals := 3206 } s m args below meth c H locs 0 0 (vx_MQ below (mQi g b KM Q (mA b KM s.heap.size)) (mEx g b KM (fun _ _ => False) (mA b KM s.heap.size)) args s 0 0 (mA b KM s.heap.size)) (F0 m 50 ls [])) (x1 : Int) (ox1 : okI x1) (x2 : Int) (ox2 : okI x2) (x3 : Int) (ox3 : okI x3) (x4 : Int) (ox4 : okI x4) (S : mSt) (H : Heap) (locs : List Loc) (ls : Array Slot) (hl : lv_has ls 5 [(1, .int (mI x1)), (2, .int (mI x2)), (3, .int (mI x3)), (4, .int (mI x4))]) (hW : mW g b KM S H) (hS : va_S (mA b KM s.heap.size) s.heap H locs) (h : w_X12_row_23b N Q ko23 ko50 x1 x2 x3 x4 S) : W p l e { frames := 122, cells := 0, slots := 0, locals := 3206 } s m args below meth c H locs 0 0 (vx_MQ below (mQi g b KM Q (mA b KM s.heap.size)) (mEx g b KM (fun _ _ => False) (mA b KM s.heap.size)) args s 0 0 (mA b KM s.heap.size)) (F0 m 23 ls []) := by
  unfold w_X12_row_23b at h
  refine m_iload (pc := 23) C.1 dX12_row_23 hl 3 rfl ?_
  refine m_bipush (pc := 25) C.1 dX12_row_25 rfl ?_
  refine m_icmp_ge (pc := 27) (tgt := 50) C.1 ox4 (by decide : okI 8) dX12_row_27 (by decide) (fun hc => ?_) (fun hc => ?_)
  · replace h := h.1 hc
    exact hko50 x1 ox1 x2 ox2 x3 ox3 x4 ox4 S _ _ _ (lv_sub hl [0, 1, 2, 3] rfl) hW hS h
  · replace h := h.2 hc
    refine m_iload_n (pc := 30) C.1 dX12_row_30 rfl hl 0 rfl ?_
    refine m_iload_n (pc := 31) C.1 dX12_row_31 rfl hl 2 rfl ?_
    refine m_iload (pc := 32) C.1 dX12_row_32 hl 3 rfl ?_
    refine m_iadd (pc := 34) C.1 dX12_row_34 ?_
    refine m_bipush (pc := 35) C.1 dX12_row_35 rfl ?_
    refine m_irem (pc := 37) C.1 (by decide : okI 8) (by decide) dX12_row_37 ?_
    refine m_callSi (pc := 38) C.1 C.2.2.1 hl.1 C.2.1 hW hS (As := [.int (mI x1), .int (mI (iRem (nm (x3 + x4)) 8))]) (rest := []) (T_X12_isOf C.2.2.2.2.2.2 N x1 ox1 (iRem (nm (x3 + x4)) 8) (iRem_ok _ _) h) q_1590 q_1591 q_92 q_1592 pl_X12_isOf (by decide) (Nat.le_of_ble_eq_true rfl) dX12_row_38 (fun v1 S1 H locs ov1 h hW1 hS => ?_)
    refine m_if_eq (pc := 41) (tgt := 50) C.1 ov1 dX12_row_41 (by decide) (fun hc => ?_) (fun hc => ?_)
    · replace h := h.1 hc
      exact hko50 x1 ox1 x2 ox2 x3 ox3 x4 ox4 S1 _ _ _ (lv_sub hl [0, 1, 2, 3] rfl) hW1 hS h
    · replace h := h.2 hc
      refine m_iinc (pc := 44) C.1 dX12_row_44 hl (by decide) (q0 := 3) rfl (fun v => [(4, .int v), (1, .int (mI x1)), (2, .int (mI x2)), (3, .int (mI x3))]) (fun _ => rfl) (fun v2 ls ev2 ov2 hl => ?_)
      replace h := h v2 ev2
      refine m_goto (pc := 47) (tgt := 23) C.1 dX12_row_47 (by decide) ?_
      exact hko23 x1 ox1 x2 ox2 x3 ox3 v2 ov2 S1 _ _ _ (lv_sub hl [1, 2, 3, 0] rfl) hW1 hS h
def w_X12_row_23 (N : Nat) (Q : mSt → Int → Prop) (ko50 : Int → Int → Int → Int → mSt → Prop) : Nat → Int → Int → Int → Int → mSt → Prop
  | 0 => fun _ _ _ _ _ => False
  | k + 1 => w_X12_row_23b N Q (w_X12_row_23 N Q ko50 k) ko50
theorem W_X12_row_23 (C : mC p l s m args meth c cX12_row "MoonWashModel" 5 (some FieldType.int) g) (N : Nat) {Q : mSt → Int → Prop} {ko50 : Int → Int → Int → Int → mSt → Prop} (hko50 : ∀ (x1 : Int) (ox1 : okI x1) (x2 : Int) (ox2 : okI x2) (x3 : Int) (ox3 : okI x3) (x4 : Int) (ox4 : okI x4) (S : mSt) (H : Heap) (locs : List Loc) (ls : Array Slot), lv_has ls 5 [(1, .int (mI x1)), (2, .int (mI x2)), (3, .int (mI x3)), (4, .int (mI x4))] → mW g b KM S H → va_S (mA b KM s.heap.size) s.heap H locs → ko50 x1 x2 x3 x4 S → W p l e { frames := 122, cells := 0, slots := 0, locals := 3206 } s m args below meth c H locs 0 0 (vx_MQ below (mQi g b KM Q (mA b KM s.heap.size)) (mEx g b KM (fun _ _ => False) (mA b KM s.heap.size)) args s 0 0 (mA b KM s.heap.size)) (F0 m 50 ls [])) : ∀ (k : Nat) (x1 : Int) (ox1 : okI x1) (x2 : Int) (ox2 : okI x2) (x3 : Int) (ox3 : okI x3) (x4 : Int) (ox4 : okI x4) (S : mSt) (H : Heap) (locs : List Loc) (ls : Array Slot) (hl : lv_has ls 5 [(1, .int (mI x1)), (2, .int (mI x2)), (3, .int (mI x3)), (4, .int (mI x4))]) (hW : mW g b KM S H) (hS : va_S (mA b KM s.heap.size) s.heap H locs) (h : w_X12_row_23 N Q ko50 k x1 x2 x3 x4 S), W p l e { frames := 122, cells := 0, slots := 0, locals := 3206 } s m args below meth c H locs 0 0 (vx_MQ below (mQi g b KM Q (mA b KM s.heap.size)) (mEx g b KM (fun _ _ => False) (mA b KM s.heap.size)) args s 0 0 (mA b KM s.heap.size)) (F0 m 23 ls []) := by
  intro k
  induction k with
  | zero => intro x1 ox1 x2 ox2 x3 ox3 x4 ox4 S H locs ls hl hW hS h; exact False.elim h
  | succ k ih => intro x1 ox1 x2 ox2 x3 ox3 x4 ox4 S H locs ls hl hW hS h; exact W_X12_row_23b C N ih hko50 x1 ox1 x2 ox2 x3 ox3 x4 ox4 S H locs ls hl hW hS h
def w_X12_row_50 (N : Nat) (Q : mSt → Int → Prop) (ko14 : Int → Int → Int → mSt → Prop) (x1 : Int) (x2 : Int) (x3 : Int) (x4 : Int) (S : mSt) : Prop :=
  w_X12_greater N x2 x4 S (fun (S1 : mSt) (v1 : Int) => ∀ v2 : Int, v2 = v1 → ∀ v3 : Int, v3 = nm (x3 + 1) → ko14 x1 v2 v3 S1)
theorem W_X12_row_50 (C : mC p l s m args meth c cX12_row "MoonWashModel" 5 (some FieldType.int) g) (N : Nat) {Q : mSt → Int → Prop} {ko14 : Int → Int → Int → mSt → Prop} (hko14 : ∀ (x1 : Int) (ox1 : okI x1) (x2 : Int) (ox2 : okI x2) (x3 : Int) (ox3 : okI x3) (S : mSt) (H : Heap) (locs : List Loc) (ls : Array Slot), lv_has ls 5 [(1, .int (mI x1)), (2, .int (mI x2)), (3, .int (mI x3))] → mW g b KM S H → va_S (mA b KM s.heap.size) s.heap H locs → ko14 x1 x2 x3 S → W p l e { frames := 122, cells := 0, slots := 0, locals := 3206 } s m args below meth c H locs 0 0 (vx_MQ below (mQi g b KM Q (mA b KM s.heap.size)) (mEx g b KM (fun _ _ => False) (mA b KM s.heap.size)) args s 0 0 (mA b KM s.heap.size)) (F0 m 14 ls [])) (x1 : Int) (ox1 : okI x1) (x2 : Int) (ox2 : okI x2) (x3 : Int) (ox3 : okI x3) (x4 : Int) (ox4 : okI x4) (S : mSt) (H : Heap) (locs : List Loc) (ls : Array Slot) (hl : lv_has ls 5 [(1, .int (mI x1)), (2, .int (mI x2)), (3, .int (mI x3)), (4, .int (mI x4))]) (hW : mW g b KM S H) (hS : va_S (mA b KM s.heap.size) s.heap H locs) (h : w_X12_row_50 N Q ko14 x1 x2 x3 x4 S) : W p l e { frames := 122, cells := 0, slots := 0, locals := 3206 } s m args below meth c H locs 0 0 (vx_MQ below (mQi g b KM Q (mA b KM s.heap.size)) (mEx g b KM (fun _ _ => False) (mA b KM s.heap.size)) args s 0 0 (mA b KM s.heap.size)) (F0 m 50 ls []) := by
  unfold w_X12_row_50 at h
  refine m_iload_n (pc := 50) C.1 dX12_row_50 rfl hl 1 rfl ?_
  refine m_iload (pc := 51) C.1 dX12_row_51 hl 3 rfl ?_
  refine m_callSi (pc := 53) C.1 C.2.2.1 hl.1 C.2.1 hW hS (As := [.int (mI x2), .int (mI x4)]) (rest := []) (T_X12_greater C.2.2.2.2.2.2 N x2 ox2 x4 ox4 h) q_1652 q_1653 q_92 q_1654 pl_X12_greater (by decide) (Nat.le_of_ble_eq_true rfl) dX12_row_53 (fun v1 S1 H locs ov1 h hW1 hS => ?_)
  refine m_istore_n (pc := 56) C.1 dX12_row_56 rfl hl (by decide) (fun v => [(2, .int v), (1, .int (mI x1)), (3, .int (mI x3)), (4, .int (mI x4))]) (fun _ => rfl) ov1 (fun v2 ls ev2 ov2 hl => ?_)
  replace h := h v2 ev2
  refine m_iinc (pc := 57) C.1 dX12_row_57 hl (by decide) (q0 := 2) rfl (fun v => [(3, .int v), (2, .int (mI v2)), (1, .int (mI x1)), (4, .int (mI x4))]) (fun _ => rfl) (fun v3 ls ev3 ov3 hl => ?_)
  replace h := h v3 ev3
  refine m_goto (pc := 60) (tgt := 14) C.1 dX12_row_60 (by decide) ?_
  exact hko14 x1 ox1 v2 ov2 v3 ov3 S1 _ _ _ (lv_sub hl [2, 1, 0] rfl) hW1 hS h
def w_X12_row_14b (N : Nat) (Q : mSt → Int → Prop) (ko14 : Int → Int → Int → mSt → Prop) (ko63 : Int → mSt → Prop) (x1 : Int) (x2 : Int) (x3 : Int) (S : mSt) : Prop :=
  ((8 ≤ x3 → ko63 x2 S) ∧ (x3 < 8 → ∀ v1 : Int, v1 = 0 → w_X12_row_23 N Q (fun (x1_2 : Int) (x2_2 : Int) (x3_2 : Int) (x4_2 : Int) (S_2 : mSt) => w_X12_row_50 N Q ko14 x1_2 x2_2 x3_2 x4_2 S_2) N x1 x2 x3 v1 S))
theorem W_X12_row_14b (C : mC p l s m args meth c cX12_row "MoonWashModel" 5 (some FieldType.int) g) (N : Nat) {Q : mSt → Int → Prop} {ko14 : Int → Int → Int → mSt → Prop} {ko63 : Int → mSt → Prop} (hko14 : ∀ (x1 : Int) (ox1 : okI x1) (x2 : Int) (ox2 : okI x2) (x3 : Int) (ox3 : okI x3) (S : mSt) (H : Heap) (locs : List Loc) (ls : Array Slot), lv_has ls 5 [(1, .int (mI x1)), (2, .int (mI x2)), (3, .int (mI x3))] → mW g b KM S H → va_S (mA b KM s.heap.size) s.heap H locs → ko14 x1 x2 x3 S → W p l e { frames := 122, cells := 0, slots := 0, locals := 3206 } s m args below meth c H locs 0 0 (vx_MQ below (mQi g b KM Q (mA b KM s.heap.size)) (mEx g b KM (fun _ _ => False) (mA b KM s.heap.size)) args s 0 0 (mA b KM s.heap.size)) (F0 m 14 ls [])) (hko63 : ∀ (x2 : Int) (ox2 : okI x2) (S : mSt) (H : Heap) (locs : List Loc) (ls : Array Slot), lv_has ls 5 [(2, .int (mI x2))] → mW g b KM S H → va_S (mA b KM s.heap.size) s.heap H locs → ko63 x2 S → W p l e { frames := 122, cells := 0, slots := 0, locals := 3206 } s m args below meth c H locs 0 0 (vx_MQ below (mQi g b KM Q (mA b KM s.heap.size)) (mEx g b KM (fun _ _ => False) (mA b KM s.heap.size)) args s 0 0 (mA b KM s.heap.size)) (F0 m 63 ls [])) (x1 : Int) (ox1 : okI x1) (x2 : Int) (ox2 : okI x2) (x3 : Int) (ox3 : okI x3) (S : mSt) (H : Heap) (locs : List Loc) (ls : Array Slot) (hl : lv_has ls 5 [(1, .int (mI x1)), (2, .int (mI x2)), (3, .int (mI x3))]) (hW : mW g b KM S H) (hS : va_S (mA b KM s.heap.size) s.heap H locs) (h : w_X12_row_14b N Q ko14 ko63 x1 x2 x3 S) : W p l e { frames := 122, cells := 0, slots := 0, locals := 3206 } s m args below meth c H locs 0 0 (vx_MQ below (mQi g b KM Q (mA b KM s.heap.size)) (mEx g b KM (fun _ _ => False) (mA b KM s.heap.size)) args s 0 0 (mA b KM s.heap.size)) (F0 m 14 ls []) := by
  unfold w_X12_row_14b at h
  refine m_iload_n (pc := 14) C.1 dX12_row_14 rfl hl 2 rfl ?_
  refine m_bipush (pc := 15) C.1 dX12_row_15 rfl ?_
  refine m_icmp_ge (pc := 17) (tgt := 63) C.1 ox3 (by decide : okI 8) dX12_row_17 (by decide) (fun hc => ?_) (fun hc => ?_)
  · replace h := h.1 hc
    exact hko63 x2 ox2 S _ _ _ (lv_sub hl [1] rfl) hW hS h
  · replace h := h.2 hc
    refine m_iconst (pc := 20) C.1 dX12_row_20 ?_
    refine m_istore (pc := 21) C.1 dX12_row_21 hl (by decide) (fun v => [(4, .int v), (1, .int (mI x1)), (2, .int (mI x2)), (3, .int (mI x3))]) (fun _ => rfl) (by decide : okI 0) (fun v1 ls ev1 ov1 hl => ?_)
    replace h := h v1 ev1
    refine W_X12_row_23 C N ?_ N x1 ox1 x2 ox2 x3 ox3 v1 ov1 S _ _ _ (lv_sub hl [1, 2, 3, 0] rfl) hW hS h
    · intro x1_2 ox1_2 x2_2 ox2_2 x3_2 ox3_2 x4_2 ox4_2 S_2 H locs ls hl hW_2 hS h
      exact W_X12_row_50 C N hko14 x1_2 ox1_2 x2_2 ox2_2 x3_2 ox3_2 x4_2 ox4_2 S_2 _ _ _ (lv_sub hl [0, 1, 2, 3] rfl) hW_2 hS h
def w_X12_row_14 (N : Nat) (Q : mSt → Int → Prop) (ko63 : Int → mSt → Prop) : Nat → Int → Int → Int → mSt → Prop
  | 0 => fun _ _ _ _ => False
  | k + 1 => w_X12_row_14b N Q (w_X12_row_14 N Q ko63 k) ko63
theorem W_X12_row_14 (C : mC p l s m args meth c cX12_row "MoonWashModel" 5 (some FieldType.int) g) (N : Nat) {Q : mSt → Int → Prop} {ko63 : Int → mSt → Prop} (hko63 : ∀ (x2 : Int) (ox2 : okI x2) (S : mSt) (H : Heap) (locs : List Loc) (ls : Array Slot), lv_has ls 5 [(2, .int (mI x2))] → mW g b KM S H → va_S (mA b KM s.heap.size) s.heap H locs → ko63 x2 S → W p l e { frames := 122, cells := 0, slots := 0, locals := 3206 } s m args below meth c H locs 0 0 (vx_MQ below (mQi g b KM Q (mA b KM s.heap.size)) (mEx g b KM (fun _ _ => False) (mA b KM s.heap.size)) args s 0 0 (mA b KM s.heap.size)) (F0 m 63 ls [])) : ∀ (k : Nat) (x1 : Int) (ox1 : okI x1) (x2 : Int) (ox2 : okI x2) (x3 : Int) (ox3 : okI x3) (S : mSt) (H : Heap) (locs : List Loc) (ls : Array Slot) (hl : lv_has ls 5 [(1, .int (mI x1)), (2, .int (mI x2)), (3, .int (mI x3))]) (hW : mW g b KM S H) (hS : va_S (mA b KM s.heap.size) s.heap H locs) (h : w_X12_row_14 N Q ko63 k x1 x2 x3 S), W p l e { frames := 122, cells := 0, slots := 0, locals := 3206 } s m args below meth c H locs 0 0 (vx_MQ below (mQi g b KM Q (mA b KM s.heap.size)) (mEx g b KM (fun _ _ => False) (mA b KM s.heap.size)) args s 0 0 (mA b KM s.heap.size)) (F0 m 14 ls []) := by
  intro k
  induction k with
  | zero => intro x1 ox1 x2 ox2 x3 ox3 S H locs ls hl hW hS h; exact False.elim h
  | succ k ih => intro x1 ox1 x2 ox2 x3 ox3 S H locs ls hl hW hS h; exact W_X12_row_14b C N ih hko63 x1 ox1 x2 ox2 x3 ox3 S H locs ls hl hW hS h
end
def w_X12_row (N : Nat) (r0 : Nat) (S : mSt) (Q : mSt → Int → Prop) : Prop :=
  ∀ S1 : mSt, S1 = mup S r0 0 0 → w_X12_shining N r0 S1 (fun (S2 : mSt) (v2 : Int) => ∀ v3 : Int, v3 = v2 → ∀ v4 : Int, v4 = 0 → ∀ v5 : Int, v5 = 0 → w_X12_row_14 N Q (fun (x2_6 : Int) (S_6 : mSt) => Q S_6 x2_6) N v3 v4 v5 S2)
theorem T_X12_row {l : Launch} (hl0 : l.stackTraces = false) {g : mG} {b : Nat} (N : Nat) (r0 : Nat) (kr0 : KM r0 = (0, 10, 0)) {S : mSt} {Q : mSt → Int → Prop} (h : w_X12_row N r0 S Q) (sz : Nat) : vx_Met l yX12_row (Cond.code yX12_row cX12_row 5 (some FieldType.int) :: wsG) { frames := 122, cells := 0, slots := 0, locals := 3206 } (mPc g b KM S [.ref (b + r0)] sz) (mQi g b KM Q (mA b KM sz)) (mEx g b KM (fun _ _ => False) (mA b KM sz)) 0 0 (mA b KM sz) :=
  m_of (av := [.ref (b + r0)]) (Qf := fun A => mQi g b KM Q A) (Xf := fun A => mEx g b KM (fun _ _ => False) A) (by decide) (Nat.le_of_ble_eq_true rfl) (fun p e s m args below meth c ls X hK hml hr hlk hout hnm hW hl => by
    have C : mC p l s m args meth c cX12_row "MoonWashModel" 5 (some FieldType.int) g := ⟨X, hK, hml, hr, hlk, hout, hl0⟩
    have hS : va_S (mA b KM s.heap.size) s.heap s.heap [] := va_S.rf
    have hl : lv_has ls 5 [(0, .ref (b + r0))] := hl
    unfold w_X12_row at h
    refine m_aload_n (pc := 0) C.1 dX12_row_0 rfl hl 0 rfl ?_
    refine m_iconst (pc := 1) C.1 dX12_row_1 ?_
    refine p_10_0 (pc := 2) C hW hS kr0 q_1383 (by decide : okI 0) dX12_row_2 (fun S1 H locs e1 hW1 hS => ?_)
    replace h := h S1 e1
    refine m_aload_n (pc := 5) C.1 dX12_row_5 rfl hl 0 rfl ?_
    refine m_callVi (pc := 6) C.1 C.2.2.1 hl.1 C.2.1 hW1 hS (As := []) (rest := []) (r := r0) (T_X12_shining C.2.2.2.2.2.2 N r0 kr0 h) kr0 rfl q_1756 q_1758 q_67 q_92 q_1759 pl_X12_shining (by decide) (Nat.le_of_ble_eq_true rfl) dX12_row_6 (fun v2 S2 H locs ov2 h hW2 hS => ?_)
    refine m_istore_n (pc := 9) C.1 dX12_row_9 rfl hl (by decide) (fun v => [(1, .int v), (0, .ref (b + r0))]) (fun _ => rfl) ov2 (fun v3 ls ev3 ov3 hl => ?_)
    replace h := h v3 ev3
    refine m_iconst (pc := 10) C.1 dX12_row_10 ?_
    refine m_istore_n (pc := 11) C.1 dX12_row_11 rfl hl (by decide) (fun v => [(2, .int v), (1, .int (mI v3)), (0, .ref (b + r0))]) (fun _ => rfl) (by decide : okI 0) (fun v4 ls ev4 ov4 hl => ?_)
    replace h := h v4 ev4
    refine m_iconst (pc := 12) C.1 dX12_row_12 ?_
    refine m_istore_n (pc := 13) C.1 dX12_row_13 rfl hl (by decide) (fun v => [(3, .int v), (2, .int (mI v4)), (1, .int (mI v3)), (0, .ref (b + r0))]) (fun _ => rfl) (by decide : okI 0) (fun v5 ls ev5 ov5 hl => ?_)
    replace h := h v5 ev5
    refine W_X12_row_14 C N ?_ N v3 ov3 v4 ov4 v5 ov5 S2 _ _ _ (lv_sub hl [2, 1, 0] rfl) hW2 hS h
    · intro x2_6 ox2_6 S_6 H locs ls hl hW_6 hS h
      refine m_iload_n (pc := 63) C.1 dX12_row_63 rfl hl 0 rfl ?_
      exact m_iret (pc := 64) C.1 C.2.2.2.1 C.2.2.2.2.1 hW_6 hS ox2_6 h (by decide) (by decide) dX12_row_64) sz
section
variable {p : Program} {l : Launch} {e : Env} {s : State} {m : MethodId} {args : Array Value} {below : List Frame} {meth : Method} {c : Code} {g : mG} {b : Nat}
def w_X12_looks_2b (N : Nat) (Q : mSt → Prop) (ko2 : Nat → Int → mSt → Prop) (ko25 : mSt → Prop) (r0 : Nat) (x1 : Int) (S : mSt) : Prop :=
  ((8 ≤ x1 → ko25 S) ∧ (x1 < 8 → w_X12_lightOf N r0 x1 S (fun (S1 : mSt) (v1 : Int) => (0 ≤ x1 ∧ x1 < 8 ∧ ∀ S3 : mSt, S3 = mup S1 (r0 + 12) x1 v1 → ∀ v4 : Int, v4 = nm (x1 + 1) → ko2 r0 v4 S3))))
theorem W_X12_looks_2b (C : mC p l s m args meth c cX12_looks "MoonWashModel" 2 none g) (N : Nat) {Q : mSt → Prop} {ko2 : Nat → Int → mSt → Prop} {ko25 : mSt → Prop} (hko2 : ∀ (r0 : Nat) (kr0 : KM r0 = (0, 10, 0)) (x1 : Int) (ox1 : okI x1) (S : mSt) (H : Heap) (locs : List Loc) (ls : Array Slot), lv_has ls 2 [(0, .ref (b + r0)), (1, .int (mI x1))] → mW g b KM S H → va_S (mA b KM s.heap.size) s.heap H locs → ko2 r0 x1 S → W p l e { frames := 121, cells := 0, slots := 0, locals := 3184 } s m args below meth c H locs 0 0 (vx_MQ below (mQv g b KM Q (mA b KM s.heap.size)) (mEx g b KM (fun _ _ => False) (mA b KM s.heap.size)) args s 0 0 (mA b KM s.heap.size)) (F0 m 2 ls [])) (hko25 : ∀  (S : mSt) (H : Heap) (locs : List Loc) (ls : Array Slot), lv_has ls 2 [] → mW g b KM S H → va_S (mA b KM s.heap.size) s.heap H locs → ko25 S → W p l e { frames := 121, cells := 0, slots := 0, locals := 3184 } s m args below meth c H locs 0 0 (vx_MQ below (mQv g b KM Q (mA b KM s.heap.size)) (mEx g b KM (fun _ _ => False) (mA b KM s.heap.size)) args s 0 0 (mA b KM s.heap.size)) (F0 m 25 ls [])) (r0 : Nat) (kr0 : KM r0 = (0, 10, 0)) (x1 : Int) (ox1 : okI x1) (S : mSt) (H : Heap) (locs : List Loc) (ls : Array Slot) (hl : lv_has ls 2 [(0, .ref (b + r0)), (1, .int (mI x1))]) (hW : mW g b KM S H) (hS : va_S (mA b KM s.heap.size) s.heap H locs) (h : w_X12_looks_2b N Q ko2 ko25 r0 x1 S) : W p l e { frames := 121, cells := 0, slots := 0, locals := 3184 } s m args below meth c H locs 0 0 (vx_MQ below (mQv g b KM Q (mA b KM s.heap.size)) (mEx g b KM (fun _ _ => False) (mA b KM s.heap.size)) args s 0 0 (mA b KM s.heap.size)) (F0 m 2 ls []) := by
  unfold w_X12_looks_2b at h
  refine m_iload_n (pc := 2) C.1 dX12_looks_2 rfl hl 1 rfl ?_
  refine m_bipush (pc := 3) C.1 dX12_looks_3 rfl ?_
  refine m_icmp_ge (pc := 5) (tgt := 25) C.1 ox1 (by decide : okI 8) dX12_looks_5 (by decide) (fun hc => ?_) (fun hc => ?_)
  · replace h := h.1 hc
    exact hko25  S _ _ _ (lv_sub hl [] rfl) hW hS h
  · replace h := h.2 hc
    refine m_aload_n (pc := 8) C.1 dX12_looks_8 rfl hl 0 rfl ?_
    refine g_10_25 (pc := 9) C hW kr0 q_1408 dX12_looks_9 ?_
    refine m_iload_n (pc := 12) C.1 dX12_looks_12 rfl hl 1 rfl ?_
    refine m_aload_n (pc := 13) C.1 dX12_looks_13 rfl hl 0 rfl ?_
    refine m_iload_n (pc := 14) C.1 dX12_looks_14 rfl hl 1 rfl ?_
    refine m_callVi (pc := 15) C.1 C.2.2.1 hl.1 C.2.1 hW hS (As := [.int (mI x1)]) (rest := [.int (mI x1), .ref (b + (r0 + 12))]) (r := r0) (T_X12_lightOf C.2.2.2.2.2.2 N r0 kr0 x1 ox1 h) kr0 rfl q_1634 q_1636 q_49 q_92 q_1637 pl_X12_lightOf (by decide) (Nat.le_of_ble_eq_true rfl) dX12_looks_15 (fun v1 S1 H locs ov1 h hW1 hS => ?_)
    obtain ⟨hb2a, hb2b, h⟩ := h
    refine m_iast (pc := 18) C.1 C.2.1 hW1 hS (k_10_25 kr0) ox1 ov1 hb2a hb2b dX12_looks_18 (fun S3 H locs e3 hW3 hS => ?_)
    replace h := h S3 e3
    refine m_iinc (pc := 19) C.1 dX12_looks_19 hl (by decide) (q0 := 1) rfl (fun v => [(1, .int v), (0, .ref (b + r0))]) (fun _ => rfl) (fun v4 ls ev4 ov4 hl => ?_)
    replace h := h v4 ev4
    refine m_goto (pc := 22) (tgt := 2) C.1 dX12_looks_22 (by decide) ?_
    exact hko2 r0 kr0 v4 ov4 S3 _ _ _ (lv_sub hl [1, 0] rfl) hW3 hS h
def w_X12_looks_2 (N : Nat) (Q : mSt → Prop) (ko25 : mSt → Prop) : Nat → Nat → Int → mSt → Prop
  | 0 => fun _ _ _ => False
  | k + 1 => w_X12_looks_2b N Q (w_X12_looks_2 N Q ko25 k) ko25
theorem W_X12_looks_2 (C : mC p l s m args meth c cX12_looks "MoonWashModel" 2 none g) (N : Nat) {Q : mSt → Prop} {ko25 : mSt → Prop} (hko25 : ∀  (S : mSt) (H : Heap) (locs : List Loc) (ls : Array Slot), lv_has ls 2 [] → mW g b KM S H → va_S (mA b KM s.heap.size) s.heap H locs → ko25 S → W p l e { frames := 121, cells := 0, slots := 0, locals := 3184 } s m args below meth c H locs 0 0 (vx_MQ below (mQv g b KM Q (mA b KM s.heap.size)) (mEx g b KM (fun _ _ => False) (mA b KM s.heap.size)) args s 0 0 (mA b KM s.heap.size)) (F0 m 25 ls [])) : ∀ (k : Nat) (r0 : Nat) (kr0 : KM r0 = (0, 10, 0)) (x1 : Int) (ox1 : okI x1) (S : mSt) (H : Heap) (locs : List Loc) (ls : Array Slot) (hl : lv_has ls 2 [(0, .ref (b + r0)), (1, .int (mI x1))]) (hW : mW g b KM S H) (hS : va_S (mA b KM s.heap.size) s.heap H locs) (h : w_X12_looks_2 N Q ko25 k r0 x1 S), W p l e { frames := 121, cells := 0, slots := 0, locals := 3184 } s m args below meth c H locs 0 0 (vx_MQ below (mQv g b KM Q (mA b KM s.heap.size)) (mEx g b KM (fun _ _ => False) (mA b KM s.heap.size)) args s 0 0 (mA b KM s.heap.size)) (F0 m 2 ls []) := by
  intro k
  induction k with
  | zero => intro r0 kr0 x1 ox1 S H locs ls hl hW hS h; exact False.elim h
  | succ k ih => intro r0 kr0 x1 ox1 S H locs ls hl hW hS h; exact W_X12_looks_2b C N ih hko25 r0 kr0 x1 ox1 S H locs ls hl hW hS h
end
def w_X12_looks (N : Nat) (r0 : Nat) (S : mSt) (Q : mSt → Prop) : Prop :=
  ∀ v1 : Int, v1 = 0 → w_X12_looks_2 N Q (fun  (S_2 : mSt) => Q S_2) N r0 v1 S
theorem T_X12_looks {l : Launch} (hl0 : l.stackTraces = false) {g : mG} {b : Nat} (N : Nat) (r0 : Nat) (kr0 : KM r0 = (0, 10, 0)) {S : mSt} {Q : mSt → Prop} (h : w_X12_looks N r0 S Q) (sz : Nat) : vx_Met l yX12_looks (Cond.code yX12_looks cX12_looks 2 none :: wsG) { frames := 121, cells := 0, slots := 0, locals := 3184 } (mPc g b KM S [.ref (b + r0)] sz) (mQv g b KM Q (mA b KM sz)) (mEx g b KM (fun _ _ => False) (mA b KM sz)) 0 0 (mA b KM sz) :=
  m_of (av := [.ref (b + r0)]) (Qf := fun A => mQv g b KM Q A) (Xf := fun A => mEx g b KM (fun _ _ => False) A) (by decide) (Nat.le_of_ble_eq_true rfl) (fun p e s m args below meth c ls X hK hml hr hlk hout hnm hW hl => by
    have C : mC p l s m args meth c cX12_looks "MoonWashModel" 2 none g := ⟨X, hK, hml, hr, hlk, hout, hl0⟩
    have hS : va_S (mA b KM s.heap.size) s.heap s.heap [] := va_S.rf
    have hl : lv_has ls 2 [(0, .ref (b + r0))] := hl
    unfold w_X12_looks at h
    refine m_iconst (pc := 0) C.1 dX12_looks_0 ?_
    refine m_istore_n (pc := 1) C.1 dX12_looks_1 rfl hl (by decide) (fun v => [(1, .int v), (0, .ref (b + r0))]) (fun _ => rfl) (by decide : okI 0) (fun v1 ls ev1 ov1 hl => ?_)
    replace h := h v1 ev1
    refine W_X12_looks_2 C N ?_ N r0 kr0 v1 ov1 S _ _ _ (lv_sub hl [1, 0] rfl) hW hS h
    · intro S_2 H locs ls hl hW_2 hS h
      exact m_vret (pc := 25) C.1 C.2.2.2.1 C.2.2.2.2.1 hW_2 hS h (by decide) (by decide) dX12_looks_25) sz
section
variable {p : Program} {l : Launch} {e : Env} {s : State} {m : MethodId} {args : Array Value} {below : List Frame} {meth : Method} {c : Code} {g : mG} {b : Nat}
def w_X12_darkest_36 (N : Nat) (Q : mSt → Int → Prop) (ko13 : Nat → Int → Int → mSt → Prop) (r0 : Nat) (x1 : Int) (x2 : Int) (S : mSt) : Prop :=
  ∀ v1 : Int, v1 = nm (x2 + 1) → ko13 r0 x1 v1 S
theorem W_X12_darkest_36 (C : mC p l s m args meth c cX12_darkest "MoonWashModel" 3 (some FieldType.int) g) (N : Nat) {Q : mSt → Int → Prop} {ko13 : Nat → Int → Int → mSt → Prop} (hko13 : ∀ (r0 : Nat) (kr0 : KM r0 = (0, 10, 0)) (x1 : Int) (ox1 : okI x1) (x2 : Int) (ox2 : okI x2) (S : mSt) (H : Heap) (locs : List Loc) (ls : Array Slot), lv_has ls 3 [(0, .ref (b + r0)), (1, .int (mI x1)), (2, .int (mI x2))] → mW g b KM S H → va_S (mA b KM s.heap.size) s.heap H locs → ko13 r0 x1 x2 S → W p l e { frames := 122, cells := 0, slots := 0, locals := 3205 } s m args below meth c H locs 0 0 (vx_MQ below (mQi g b KM Q (mA b KM s.heap.size)) (mEx g b KM (fun _ _ => False) (mA b KM s.heap.size)) args s 0 0 (mA b KM s.heap.size)) (F0 m 13 ls [])) (r0 : Nat) (kr0 : KM r0 = (0, 10, 0)) (x1 : Int) (ox1 : okI x1) (x2 : Int) (ox2 : okI x2) (S : mSt) (H : Heap) (locs : List Loc) (ls : Array Slot) (hl : lv_has ls 3 [(0, .ref (b + r0)), (1, .int (mI x1)), (2, .int (mI x2))]) (hW : mW g b KM S H) (hS : va_S (mA b KM s.heap.size) s.heap H locs) (h : w_X12_darkest_36 N Q ko13 r0 x1 x2 S) : W p l e { frames := 122, cells := 0, slots := 0, locals := 3205 } s m args below meth c H locs 0 0 (vx_MQ below (mQi g b KM Q (mA b KM s.heap.size)) (mEx g b KM (fun _ _ => False) (mA b KM s.heap.size)) args s 0 0 (mA b KM s.heap.size)) (F0 m 36 ls []) := by
  unfold w_X12_darkest_36 at h
  refine m_iinc (pc := 36) C.1 dX12_darkest_36 hl (by decide) (q0 := 2) rfl (fun v => [(2, .int v), (0, .ref (b + r0)), (1, .int (mI x1))]) (fun _ => rfl) (fun v1 ls ev1 ov1 hl => ?_)
  replace h := h v1 ev1
  refine m_goto (pc := 39) (tgt := 13) C.1 dX12_darkest_39 (by decide) ?_
  exact hko13 r0 kr0 x1 ox1 v1 ov1 S _ _ _ (lv_sub hl [1, 2, 0] rfl) hW hS h
def w_X12_darkest_13b (N : Nat) (Q : mSt → Int → Prop) (ko13 : Nat → Int → Int → mSt → Prop) (ko42 : Int → mSt → Prop) (r0 : Nat) (x1 : Int) (x2 : Int) (S : mSt) : Prop :=
  ((8 ≤ x2 → ko42 x1 S) ∧ (x2 < 8 → (0 ≤ x2 ∧ x2 < 8 ∧ (0 ≤ x1 ∧ x1 < 8 ∧ (((S (r0 + 12) x1) ≤ (S (r0 + 12) x2) → w_X12_darkest_36 N Q ko13 r0 x1 x2 S) ∧ ((S (r0 + 12) x2) < (S (r0 + 12) x1) → ∀ v3 : Int, v3 = x2 → w_X12_darkest_36 N Q ko13 r0 v3 x2 S))))))
theorem W_X12_darkest_13b (C : mC p l s m args meth c cX12_darkest "MoonWashModel" 3 (some FieldType.int) g) (N : Nat) {Q : mSt → Int → Prop} {ko13 : Nat → Int → Int → mSt → Prop} {ko42 : Int → mSt → Prop} (hko13 : ∀ (r0 : Nat) (kr0 : KM r0 = (0, 10, 0)) (x1 : Int) (ox1 : okI x1) (x2 : Int) (ox2 : okI x2) (S : mSt) (H : Heap) (locs : List Loc) (ls : Array Slot), lv_has ls 3 [(0, .ref (b + r0)), (1, .int (mI x1)), (2, .int (mI x2))] → mW g b KM S H → va_S (mA b KM s.heap.size) s.heap H locs → ko13 r0 x1 x2 S → W p l e { frames := 122, cells := 0, slots := 0, locals := 3205 } s m args below meth c H locs 0 0 (vx_MQ below (mQi g b KM Q (mA b KM s.heap.size)) (mEx g b KM (fun _ _ => False) (mA b KM s.heap.size)) args s 0 0 (mA b KM s.heap.size)) (F0 m 13 ls [])) (hko42 : ∀ (x1 : Int) (ox1 : okI x1) (S : mSt) (H : Heap) (locs : List Loc) (ls : Array Slot), lv_has ls 3 [(1, .int (mI x1))] → mW g b KM S H → va_S (mA b KM s.heap.size) s.heap H locs → ko42 x1 S → W p l e { frames := 122, cells := 0, slots := 0, locals := 3205 } s m args below meth c H locs 0 0 (vx_MQ below (mQi g b KM Q (mA b KM s.heap.size)) (mEx g b KM (fun _ _ => False) (mA b KM s.heap.size)) args s 0 0 (mA b KM s.heap.size)) (F0 m 42 ls [])) (r0 : Nat) (kr0 : KM r0 = (0, 10, 0)) (x1 : Int) (ox1 : okI x1) (x2 : Int) (ox2 : okI x2) (S : mSt) (H : Heap) (locs : List Loc) (ls : Array Slot) (hl : lv_has ls 3 [(0, .ref (b + r0)), (1, .int (mI x1)), (2, .int (mI x2))]) (hW : mW g b KM S H) (hS : va_S (mA b KM s.heap.size) s.heap H locs) (h : w_X12_darkest_13b N Q ko13 ko42 r0 x1 x2 S) : W p l e { frames := 122, cells := 0, slots := 0, locals := 3205 } s m args below meth c H locs 0 0 (vx_MQ below (mQi g b KM Q (mA b KM s.heap.size)) (mEx g b KM (fun _ _ => False) (mA b KM s.heap.size)) args s 0 0 (mA b KM s.heap.size)) (F0 m 13 ls []) := by
  unfold w_X12_darkest_13b at h
  refine m_iload_n (pc := 13) C.1 dX12_darkest_13 rfl hl 2 rfl ?_
  refine m_bipush (pc := 14) C.1 dX12_darkest_14 rfl ?_
  refine m_icmp_ge (pc := 16) (tgt := 42) C.1 ox2 (by decide : okI 8) dX12_darkest_16 (by decide) (fun hc => ?_) (fun hc => ?_)
  · replace h := h.1 hc
    exact hko42 x1 ox1 S _ _ _ (lv_sub hl [1] rfl) hW hS h
  · replace h := h.2 hc
    refine m_aload_n (pc := 19) C.1 dX12_darkest_19 rfl hl 0 rfl ?_
    refine g_10_25 (pc := 20) C hW kr0 q_1408 dX12_darkest_20 ?_
    refine m_iload_n (pc := 23) C.1 dX12_darkest_23 rfl hl 2 rfl ?_
    obtain ⟨hb1a, hb1b, h⟩ := h
    refine m_iald (pc := 24) C.1 C.2.1 hW (k_10_25 kr0) ox2 hb1a hb1b dX12_darkest_24 ?_
    refine m_aload_n (pc := 25) C.1 dX12_darkest_25 rfl hl 0 rfl ?_
    refine g_10_25 (pc := 26) C hW kr0 q_1408 dX12_darkest_26 ?_
    refine m_iload_n (pc := 29) C.1 dX12_darkest_29 rfl hl 1 rfl ?_
    obtain ⟨hb2a, hb2b, h⟩ := h
    refine m_iald (pc := 30) C.1 C.2.1 hW (k_10_25 kr0) ox1 hb2a hb2b dX12_darkest_30 ?_
    refine m_icmp_ge (pc := 31) (tgt := 36) C.1 (hW.2.1 _ _) (hW.2.1 _ _) dX12_darkest_31 (by decide) (fun hc => ?_) (fun hc => ?_)
    · replace h := h.1 hc
      exact W_X12_darkest_36 C N hko13 r0 kr0 x1 ox1 x2 ox2 S _ _ _ (lv_sub hl [0, 1, 2] rfl) hW hS h
    · replace h := h.2 hc
      refine m_iload_n (pc := 34) C.1 dX12_darkest_34 rfl hl 2 rfl ?_
      refine m_istore_n (pc := 35) C.1 dX12_darkest_35 rfl hl (by decide) (fun v => [(1, .int v), (0, .ref (b + r0)), (2, .int (mI x2))]) (fun _ => rfl) ox2 (fun v3 ls ev3 ov3 hl => ?_)
      replace h := h v3 ev3
      exact W_X12_darkest_36 C N hko13 r0 kr0 v3 ov3 x2 ox2 S _ _ _ (lv_sub hl [1, 0, 2] rfl) hW hS h
def w_X12_darkest_13 (N : Nat) (Q : mSt → Int → Prop) (ko42 : Int → mSt → Prop) : Nat → Nat → Int → Int → mSt → Prop
  | 0 => fun _ _ _ _ => False
  | k + 1 => w_X12_darkest_13b N Q (w_X12_darkest_13 N Q ko42 k) ko42
theorem W_X12_darkest_13 (C : mC p l s m args meth c cX12_darkest "MoonWashModel" 3 (some FieldType.int) g) (N : Nat) {Q : mSt → Int → Prop} {ko42 : Int → mSt → Prop} (hko42 : ∀ (x1 : Int) (ox1 : okI x1) (S : mSt) (H : Heap) (locs : List Loc) (ls : Array Slot), lv_has ls 3 [(1, .int (mI x1))] → mW g b KM S H → va_S (mA b KM s.heap.size) s.heap H locs → ko42 x1 S → W p l e { frames := 122, cells := 0, slots := 0, locals := 3205 } s m args below meth c H locs 0 0 (vx_MQ below (mQi g b KM Q (mA b KM s.heap.size)) (mEx g b KM (fun _ _ => False) (mA b KM s.heap.size)) args s 0 0 (mA b KM s.heap.size)) (F0 m 42 ls [])) : ∀ (k : Nat) (r0 : Nat) (kr0 : KM r0 = (0, 10, 0)) (x1 : Int) (ox1 : okI x1) (x2 : Int) (ox2 : okI x2) (S : mSt) (H : Heap) (locs : List Loc) (ls : Array Slot) (hl : lv_has ls 3 [(0, .ref (b + r0)), (1, .int (mI x1)), (2, .int (mI x2))]) (hW : mW g b KM S H) (hS : va_S (mA b KM s.heap.size) s.heap H locs) (h : w_X12_darkest_13 N Q ko42 k r0 x1 x2 S), W p l e { frames := 122, cells := 0, slots := 0, locals := 3205 } s m args below meth c H locs 0 0 (vx_MQ below (mQi g b KM Q (mA b KM s.heap.size)) (mEx g b KM (fun _ _ => False) (mA b KM s.heap.size)) args s 0 0 (mA b KM s.heap.size)) (F0 m 13 ls []) := by
  intro k
  induction k with
  | zero => intro r0 kr0 x1 ox1 x2 ox2 S H locs ls hl hW hS h; exact False.elim h
  | succ k ih => intro r0 kr0 x1 ox1 x2 ox2 S H locs ls hl hW hS h; exact W_X12_darkest_13b C N ih hko42 r0 kr0 x1 ox1 x2 ox2 S H locs ls hl hW hS h
end
def w_X12_darkest (N : Nat) (r0 : Nat) (S : mSt) (Q : mSt → Int → Prop) : Prop :=
  ∀ S1 : mSt, S1 = mup S r0 0 0 → w_X12_looks N r0 S1 (fun (S2 : mSt) => ∀ v3 : Int, v3 = 0 → ∀ v4 : Int, v4 = 1 → w_X12_darkest_13 N Q (fun (x1_5 : Int) (S_5 : mSt) => Q S_5 x1_5) N r0 v3 v4 S2)
theorem T_X12_darkest {l : Launch} (hl0 : l.stackTraces = false) {g : mG} {b : Nat} (N : Nat) (r0 : Nat) (kr0 : KM r0 = (0, 10, 0)) {S : mSt} {Q : mSt → Int → Prop} (h : w_X12_darkest N r0 S Q) (sz : Nat) : vx_Met l yX12_darkest (Cond.code yX12_darkest cX12_darkest 3 (some FieldType.int) :: wsG) { frames := 122, cells := 0, slots := 0, locals := 3205 } (mPc g b KM S [.ref (b + r0)] sz) (mQi g b KM Q (mA b KM sz)) (mEx g b KM (fun _ _ => False) (mA b KM sz)) 0 0 (mA b KM sz) :=
  m_of (av := [.ref (b + r0)]) (Qf := fun A => mQi g b KM Q A) (Xf := fun A => mEx g b KM (fun _ _ => False) A) (by decide) (Nat.le_of_ble_eq_true rfl) (fun p e s m args below meth c ls X hK hml hr hlk hout hnm hW hl => by
    have C : mC p l s m args meth c cX12_darkest "MoonWashModel" 3 (some FieldType.int) g := ⟨X, hK, hml, hr, hlk, hout, hl0⟩
    have hS : va_S (mA b KM s.heap.size) s.heap s.heap [] := va_S.rf
    have hl : lv_has ls 3 [(0, .ref (b + r0))] := hl
    unfold w_X12_darkest at h
    refine m_aload_n (pc := 0) C.1 dX12_darkest_0 rfl hl 0 rfl ?_
    refine m_iconst (pc := 1) C.1 dX12_darkest_1 ?_
    refine p_10_0 (pc := 2) C hW hS kr0 q_1383 (by decide : okI 0) dX12_darkest_2 (fun S1 H locs e1 hW1 hS => ?_)
    replace h := h S1 e1
    refine m_aload_n (pc := 5) C.1 dX12_darkest_5 rfl hl 0 rfl ?_
    refine m_callVv (pc := 6) C.1 C.2.2.1 hl.1 C.2.1 hW1 hS (As := []) (rest := []) (r := r0) (T_X12_looks C.2.2.2.2.2.2 N r0 kr0 h) kr0 rfl q_1868 q_1870 q_76 q_92 q_1871 pl_X12_looks (by decide) (Nat.le_of_ble_eq_true rfl) dX12_darkest_6 (fun S2 H locs h hW2 hS => ?_)
    refine m_iconst (pc := 9) C.1 dX12_darkest_9 ?_
    refine m_istore_n (pc := 10) C.1 dX12_darkest_10 rfl hl (by decide) (fun v => [(1, .int v), (0, .ref (b + r0))]) (fun _ => rfl) (by decide : okI 0) (fun v3 ls ev3 ov3 hl => ?_)
    replace h := h v3 ev3
    refine m_iconst (pc := 11) C.1 dX12_darkest_11 ?_
    refine m_istore_n (pc := 12) C.1 dX12_darkest_12 rfl hl (by decide) (fun v => [(2, .int v), (1, .int (mI v3)), (0, .ref (b + r0))]) (fun _ => rfl) (by decide : okI 1) (fun v4 ls ev4 ov4 hl => ?_)
    replace h := h v4 ev4
    refine W_X12_darkest_13 C N ?_ N r0 kr0 v3 ov3 v4 ov4 S2 _ _ _ (lv_sub hl [2, 1, 0] rfl) hW2 hS h
    · intro x1_5 ox1_5 S_5 H locs ls hl hW_5 hS h
      refine m_iload_n (pc := 42) C.1 dX12_darkest_42 rfl hl 0 rfl ?_
      exact m_iret (pc := 43) C.1 C.2.2.2.1 C.2.2.2.2.1 hW_5 hS ox1_5 h (by decide) (by decide) dX12_darkest_43) sz
section
variable {p : Program} {l : Launch} {e : Env} {s : State} {m : MethodId} {args : Array Value} {below : List Frame} {meth : Method} {c : Code} {g : mG} {b : Nat}
def w_X12_halves_72 (N : Nat) (Q : mSt → Int → Prop) (ko29 : Nat → Int → Int → Int → Int → Int → mSt → Prop) (r0 : Nat) (x1 : Int) (x2 : Int) (x3 : Int) (x5 : Int) (xs0 : Int) (xs1 : Int) (S : mSt) : Prop :=
  ∀ v1 : Int, v1 = (nm (xs1 + xs0)) → ∀ v2 : Int, v2 = nm (x5 + 1) → ko29 r0 x1 x2 x3 v1 v2 S
theorem W_X12_halves_72 (C : mC p l s m args meth c cX12_halves "MoonWashModel" 6 (some FieldType.int) g) (N : Nat) {Q : mSt → Int → Prop} {ko29 : Nat → Int → Int → Int → Int → Int → mSt → Prop} (hko29 : ∀ (r0 : Nat) (kr0 : KM r0 = (0, 10, 0)) (x1 : Int) (ox1 : okI x1) (x2 : Int) (ox2 : okI x2) (x3 : Int) (ox3 : okI x3) (x4 : Int) (ox4 : okI x4) (x5 : Int) (ox5 : okI x5) (S : mSt) (H : Heap) (locs : List Loc) (ls : Array Slot), lv_has ls 6 [(0, .ref (b + r0)), (1, .int (mI x1)), (2, .int (mI x2)), (3, .int (mI x3)), (4, .int (mI x4)), (5, .int (mI x5))] → mW g b KM S H → va_S (mA b KM s.heap.size) s.heap H locs → ko29 r0 x1 x2 x3 x4 x5 S → W p l e { frames := 122, cells := 0, slots := 0, locals := 3205 } s m args below meth c H locs 0 0 (vx_MQ below (mQi g b KM Q (mA b KM s.heap.size)) (mEx g b KM (fun _ _ => False) (mA b KM s.heap.size)) args s 0 0 (mA b KM s.heap.size)) (F0 m 29 ls [])) (r0 : Nat) (kr0 : KM r0 = (0, 10, 0)) (x1 : Int) (ox1 : okI x1) (x2 : Int) (ox2 : okI x2) (x3 : Int) (ox3 : okI x3) (x5 : Int) (ox5 : okI x5) (xs0 : Int) (oxs0 : okI xs0) (xs1 : Int) (oxs1 : okI xs1) (S : mSt) (H : Heap) (locs : List Loc) (ls : Array Slot) (hl : lv_has ls 6 [(0, .ref (b + r0)), (1, .int (mI x1)), (2, .int (mI x2)), (3, .int (mI x3)), (5, .int (mI x5))]) (hW : mW g b KM S H) (hS : va_S (mA b KM s.heap.size) s.heap H locs) (h : w_X12_halves_72 N Q ko29 r0 x1 x2 x3 x5 xs0 xs1 S) : W p l e { frames := 122, cells := 0, slots := 0, locals := 3205 } s m args below meth c H locs 0 0 (vx_MQ below (mQi g b KM Q (mA b KM s.heap.size)) (mEx g b KM (fun _ _ => False) (mA b KM s.heap.size)) args s 0 0 (mA b KM s.heap.size)) (F0 m 72 ls [.int (mI xs0), .int (mI xs1)]) := by
  unfold w_X12_halves_72 at h
  refine m_iadd (pc := 72) C.1 dX12_halves_72 ?_
  refine m_istore (pc := 73) C.1 dX12_halves_73 hl (by decide) (fun v => [(4, .int v), (0, .ref (b + r0)), (1, .int (mI x1)), (2, .int (mI x2)), (3, .int (mI x3)), (5, .int (mI x5))]) (fun _ => rfl) (nm_ok _) (fun v1 ls ev1 ov1 hl => ?_)
  replace h := h v1 ev1
  refine m_iinc (pc := 75) C.1 dX12_halves_75 hl (by decide) (q0 := 5) rfl (fun v => [(5, .int v), (4, .int (mI v1)), (0, .ref (b + r0)), (1, .int (mI x1)), (2, .int (mI x2)), (3, .int (mI x3))]) (fun _ => rfl) (fun v2 ls ev2 ov2 hl => ?_)
  replace h := h v2 ev2
  refine m_goto (pc := 78) (tgt := 29) C.1 dX12_halves_78 (by decide) ?_
  exact hko29 r0 kr0 x1 ox1 x2 ox2 x3 ox3 v1 ov1 v2 ov2 S _ _ _ (lv_sub hl [2, 3, 4, 5, 1, 0] rfl) hW hS h
def w_X12_halves_29b (N : Nat) (Q : mSt → Int → Prop) (ko29 : Nat → Int → Int → Int → Int → Int → mSt → Prop) (ko81 : Nat → Int → Int → Int → Int → mSt → Prop) (r0 : Nat) (x1 : Int) (x2 : Int) (x3 : Int) (x4 : Int) (x5 : Int) (S : mSt) : Prop :=
  ((8 ≤ x5 → ko81 r0 x1 x2 x3 x4 S) ∧ (x5 < 8 → ((4 ≤ x5 → (0 ≤ (iRem (nm (x3 + x5)) 8) ∧ (iRem (nm (x3 + x5)) 8) < 8 ∧ w_X12_halves_72 N Q ko29 r0 x1 x2 x3 x5 (nm (-(S (r0 + 12) (iRem (nm (x3 + x5)) 8)))) x4 S)) ∧ (x5 < 4 → (0 ≤ (iRem (nm (x3 + x5)) 8) ∧ (iRem (nm (x3 + x5)) 8) < 8 ∧ w_X12_halves_72 N Q ko29 r0 x1 x2 x3 x5 (S (r0 + 12) (iRem (nm (x3 + x5)) 8)) x4 S)))))
theorem W_X12_halves_29b (C : mC p l s m args meth c cX12_halves "MoonWashModel" 6 (some FieldType.int) g) (N : Nat) {Q : mSt → Int → Prop} {ko29 : Nat → Int → Int → Int → Int → Int → mSt → Prop} {ko81 : Nat → Int → Int → Int → Int → mSt → Prop} (hko29 : ∀ (r0 : Nat) (kr0 : KM r0 = (0, 10, 0)) (x1 : Int) (ox1 : okI x1) (x2 : Int) (ox2 : okI x2) (x3 : Int) (ox3 : okI x3) (x4 : Int) (ox4 : okI x4) (x5 : Int) (ox5 : okI x5) (S : mSt) (H : Heap) (locs : List Loc) (ls : Array Slot), lv_has ls 6 [(0, .ref (b + r0)), (1, .int (mI x1)), (2, .int (mI x2)), (3, .int (mI x3)), (4, .int (mI x4)), (5, .int (mI x5))] → mW g b KM S H → va_S (mA b KM s.heap.size) s.heap H locs → ko29 r0 x1 x2 x3 x4 x5 S → W p l e { frames := 122, cells := 0, slots := 0, locals := 3205 } s m args below meth c H locs 0 0 (vx_MQ below (mQi g b KM Q (mA b KM s.heap.size)) (mEx g b KM (fun _ _ => False) (mA b KM s.heap.size)) args s 0 0 (mA b KM s.heap.size)) (F0 m 29 ls [])) (hko81 : ∀ (r0 : Nat) (kr0 : KM r0 = (0, 10, 0)) (x1 : Int) (ox1 : okI x1) (x2 : Int) (ox2 : okI x2) (x3 : Int) (ox3 : okI x3) (x4 : Int) (ox4 : okI x4) (S : mSt) (H : Heap) (locs : List Loc) (ls : Array Slot), lv_has ls 6 [(0, .ref (b + r0)), (1, .int (mI x1)), (2, .int (mI x2)), (3, .int (mI x3)), (4, .int (mI x4))] → mW g b KM S H → va_S (mA b KM s.heap.size) s.heap H locs → ko81 r0 x1 x2 x3 x4 S → W p l e { frames := 122, cells := 0, slots := 0, locals := 3205 } s m args below meth c H locs 0 0 (vx_MQ below (mQi g b KM Q (mA b KM s.heap.size)) (mEx g b KM (fun _ _ => False) (mA b KM s.heap.size)) args s 0 0 (mA b KM s.heap.size)) (F0 m 81 ls [])) (r0 : Nat) (kr0 : KM r0 = (0, 10, 0)) (x1 : Int) (ox1 : okI x1) (x2 : Int) (ox2 : okI x2) (x3 : Int) (ox3 : okI x3) (x4 : Int) (ox4 : okI x4) (x5 : Int) (ox5 : okI x5) (S : mSt) (H : Heap) (locs : List Loc) (ls : Array Slot) (hl : lv_has ls 6 [(0, .ref (b + r0)), (1, .int (mI x1)), (2, .int (mI x2)), (3, .int (mI x3)), (4, .int (mI x4)), (5, .int (mI x5))]) (hW : mW g b KM S H) (hS : va_S (mA b KM s.heap.size) s.heap H locs) (h : w_X12_halves_29b N Q ko29 ko81 r0 x1 x2 x3 x4 x5 S) : W p l e { frames := 122, cells := 0, slots := 0, locals := 3205 } s m args below meth c H locs 0 0 (vx_MQ below (mQi g b KM Q (mA b KM s.heap.size)) (mEx g b KM (fun _ _ => False) (mA b KM s.heap.size)) args s 0 0 (mA b KM s.heap.size)) (F0 m 29 ls []) := by
  unfold w_X12_halves_29b at h
  refine m_iload (pc := 29) C.1 dX12_halves_29 hl 5 rfl ?_
  refine m_bipush (pc := 31) C.1 dX12_halves_31 rfl ?_
  refine m_icmp_ge (pc := 33) (tgt := 81) C.1 ox5 (by decide : okI 8) dX12_halves_33 (by decide) (fun hc => ?_) (fun hc => ?_)
  · replace h := h.1 hc
    exact hko81 r0 kr0 x1 ox1 x2 ox2 x3 ox3 x4 ox4 S _ _ _ (lv_sub hl [0, 1, 2, 3, 4] rfl) hW hS h
  · replace h := h.2 hc
    refine m_iload (pc := 36) C.1 dX12_halves_36 hl 4 rfl ?_
    refine m_iload (pc := 38) C.1 dX12_halves_38 hl 5 rfl ?_
    refine m_iconst (pc := 40) C.1 dX12_halves_40 ?_
    refine m_icmp_ge (pc := 41) (tgt := 59) C.1 ox5 (by decide : okI 4) dX12_halves_41 (by decide) (fun hc => ?_) (fun hc => ?_)
    · replace h := h.1 hc
      refine m_aload_n (pc := 59) C.1 dX12_halves_59 rfl hl 0 rfl ?_
      refine g_10_25 (pc := 60) C hW kr0 q_1408 dX12_halves_60 ?_
      refine m_iload_n (pc := 63) C.1 dX12_halves_63 rfl hl 3 rfl ?_
      refine m_iload (pc := 64) C.1 dX12_halves_64 hl 5 rfl ?_
      refine m_iadd (pc := 66) C.1 dX12_halves_66 ?_
      refine m_bipush (pc := 67) C.1 dX12_halves_67 rfl ?_
      refine m_irem (pc := 69) C.1 (by decide : okI 8) (by decide) dX12_halves_69 ?_
      obtain ⟨hb1a, hb1b, h⟩ := h
      refine m_iald (pc := 70) C.1 C.2.1 hW (k_10_25 kr0) (iRem_ok _ _) hb1a hb1b dX12_halves_70 ?_
      refine m_ineg (pc := 71) C.1 dX12_halves_71 ?_
      exact W_X12_halves_72 C N hko29 r0 kr0 x1 ox1 x2 ox2 x3 ox3 x5 ox5 (nm (-(S (r0 + 12) (iRem (nm (x3 + x5)) 8)))) (nm_ok _) x4 ox4 S _ _ _ (lv_sub hl [0, 1, 2, 3, 5] rfl) hW hS h
    · replace h := h.2 hc
      refine m_aload_n (pc := 44) C.1 dX12_halves_44 rfl hl 0 rfl ?_
      refine g_10_25 (pc := 45) C hW kr0 q_1408 dX12_halves_45 ?_
      refine m_iload_n (pc := 48) C.1 dX12_halves_48 rfl hl 3 rfl ?_
      refine m_iload (pc := 49) C.1 dX12_halves_49 hl 5 rfl ?_
      refine m_iadd (pc := 51) C.1 dX12_halves_51 ?_
      refine m_bipush (pc := 52) C.1 dX12_halves_52 rfl ?_
      refine m_irem (pc := 54) C.1 (by decide : okI 8) (by decide) dX12_halves_54 ?_
      obtain ⟨hb2a, hb2b, h⟩ := h
      refine m_iald (pc := 55) C.1 C.2.1 hW (k_10_25 kr0) (iRem_ok _ _) hb2a hb2b dX12_halves_55 ?_
      refine m_goto (pc := 56) (tgt := 72) C.1 dX12_halves_56 (by decide) ?_
      exact W_X12_halves_72 C N hko29 r0 kr0 x1 ox1 x2 ox2 x3 ox3 x5 ox5 (S (r0 + 12) (iRem (nm (x3 + x5)) 8)) (hW.2.1 _ _) x4 ox4 S _ _ _ (lv_sub hl [0, 1, 2, 3, 5] rfl) hW hS h
def w_X12_halves_29 (N : Nat) (Q : mSt → Int → Prop) (ko81 : Nat → Int → Int → Int → Int → mSt → Prop) : Nat → Nat → Int → Int → Int → Int → Int → mSt → Prop
  | 0 => fun _ _ _ _ _ _ _ => False
  | k + 1 => w_X12_halves_29b N Q (w_X12_halves_29 N Q ko81 k) ko81
theorem W_X12_halves_29 (C : mC p l s m args meth c cX12_halves "MoonWashModel" 6 (some FieldType.int) g) (N : Nat) {Q : mSt → Int → Prop} {ko81 : Nat → Int → Int → Int → Int → mSt → Prop} (hko81 : ∀ (r0 : Nat) (kr0 : KM r0 = (0, 10, 0)) (x1 : Int) (ox1 : okI x1) (x2 : Int) (ox2 : okI x2) (x3 : Int) (ox3 : okI x3) (x4 : Int) (ox4 : okI x4) (S : mSt) (H : Heap) (locs : List Loc) (ls : Array Slot), lv_has ls 6 [(0, .ref (b + r0)), (1, .int (mI x1)), (2, .int (mI x2)), (3, .int (mI x3)), (4, .int (mI x4))] → mW g b KM S H → va_S (mA b KM s.heap.size) s.heap H locs → ko81 r0 x1 x2 x3 x4 S → W p l e { frames := 122, cells := 0, slots := 0, locals := 3205 } s m args below meth c H locs 0 0 (vx_MQ below (mQi g b KM Q (mA b KM s.heap.size)) (mEx g b KM (fun _ _ => False) (mA b KM s.heap.size)) args s 0 0 (mA b KM s.heap.size)) (F0 m 81 ls [])) : ∀ (k : Nat) (r0 : Nat) (kr0 : KM r0 = (0, 10, 0)) (x1 : Int) (ox1 : okI x1) (x2 : Int) (ox2 : okI x2) (x3 : Int) (ox3 : okI x3) (x4 : Int) (ox4 : okI x4) (x5 : Int) (ox5 : okI x5) (S : mSt) (H : Heap) (locs : List Loc) (ls : Array Slot) (hl : lv_has ls 6 [(0, .ref (b + r0)), (1, .int (mI x1)), (2, .int (mI x2)), (3, .int (mI x3)), (4, .int (mI x4)), (5, .int (mI x5))]) (hW : mW g b KM S H) (hS : va_S (mA b KM s.heap.size) s.heap H locs) (h : w_X12_halves_29 N Q ko81 k r0 x1 x2 x3 x4 x5 S), W p l e { frames := 122, cells := 0, slots := 0, locals := 3205 } s m args below meth c H locs 0 0 (vx_MQ below (mQi g b KM Q (mA b KM s.heap.size)) (mEx g b KM (fun _ _ => False) (mA b KM s.heap.size)) args s 0 0 (mA b KM s.heap.size)) (F0 m 29 ls []) := by
  intro k
  induction k with
  | zero => intro r0 kr0 x1 ox1 x2 ox2 x3 ox3 x4 ox4 x5 ox5 S H locs ls hl hW hS h; exact False.elim h
  | succ k ih => intro r0 kr0 x1 ox1 x2 ox2 x3 ox3 x4 ox4 x5 ox5 S H locs ls hl hW hS h; exact W_X12_halves_29b C N ih hko81 r0 kr0 x1 ox1 x2 ox2 x3 ox3 x4 ox4 x5 ox5 S H locs ls hl hW hS h
def w_X12_halves_110 (N : Nat) (Q : mSt → Int → Prop) (ko17 : Nat → Int → Int → Int → mSt → Prop) (r0 : Nat) (x1 : Int) (x2 : Int) (x3 : Int) (S : mSt) : Prop :=
  ∀ v1 : Int, v1 = nm (x3 + 1) → ko17 r0 x1 x2 v1 S
theorem W_X12_halves_110 (C : mC p l s m args meth c cX12_halves "MoonWashModel" 6 (some FieldType.int) g) (N : Nat) {Q : mSt → Int → Prop} {ko17 : Nat → Int → Int → Int → mSt → Prop} (hko17 : ∀ (r0 : Nat) (kr0 : KM r0 = (0, 10, 0)) (x1 : Int) (ox1 : okI x1) (x2 : Int) (ox2 : okI x2) (x3 : Int) (ox3 : okI x3) (S : mSt) (H : Heap) (locs : List Loc) (ls : Array Slot), lv_has ls 6 [(0, .ref (b + r0)), (1, .int (mI x1)), (2, .int (mI x2)), (3, .int (mI x3))] → mW g b KM S H → va_S (mA b KM s.heap.size) s.heap H locs → ko17 r0 x1 x2 x3 S → W p l e { frames := 122, cells := 0, slots := 0, locals := 3205 } s m args below meth c H locs 0 0 (vx_MQ below (mQi g b KM Q (mA b KM s.heap.size)) (mEx g b KM (fun _ _ => False) (mA b KM s.heap.size)) args s 0 0 (mA b KM s.heap.size)) (F0 m 17 ls [])) (r0 : Nat) (kr0 : KM r0 = (0, 10, 0)) (x1 : Int) (ox1 : okI x1) (x2 : Int) (ox2 : okI x2) (x3 : Int) (ox3 : okI x3) (S : mSt) (H : Heap) (locs : List Loc) (ls : Array Slot) (hl : lv_has ls 6 [(0, .ref (b + r0)), (1, .int (mI x1)), (2, .int (mI x2)), (3, .int (mI x3))]) (hW : mW g b KM S H) (hS : va_S (mA b KM s.heap.size) s.heap H locs) (h : w_X12_halves_110 N Q ko17 r0 x1 x2 x3 S) : W p l e { frames := 122, cells := 0, slots := 0, locals := 3205 } s m args below meth c H locs 0 0 (vx_MQ below (mQi g b KM Q (mA b KM s.heap.size)) (mEx g b KM (fun _ _ => False) (mA b KM s.heap.size)) args s 0 0 (mA b KM s.heap.size)) (F0 m 110 ls []) := by
  unfold w_X12_halves_110 at h
  refine m_iinc (pc := 110) C.1 dX12_halves_110 hl (by decide) (q0 := 3) rfl (fun v => [(3, .int v), (0, .ref (b + r0)), (1, .int (mI x1)), (2, .int (mI x2))]) (fun _ => rfl) (fun v1 ls ev1 ov1 hl => ?_)
  replace h := h v1 ev1
  refine m_goto (pc := 113) (tgt := 17) C.1 dX12_halves_113 (by decide) ?_
  exact hko17 r0 kr0 x1 ox1 x2 ox2 v1 ov1 S _ _ _ (lv_sub hl [1, 2, 3, 0] rfl) hW hS h
def w_X12_halves_94 (N : Nat) (Q : mSt → Int → Prop) (ko17 : Nat → Int → Int → Int → mSt → Prop) (r0 : Nat) (x1 : Int) (x2 : Int) (x3 : Int) (xs0 : Int) (S : mSt) : Prop :=
  ∀ v1 : Int, v1 = xs0 → ((v1 < x2 → ∀ v2 : Int, v2 = v1 → ∀ v3 : Int, v3 = x3 → w_X12_halves_110 N Q ko17 r0 v3 v2 x3 S) ∧ (x2 ≤ v1 → w_X12_halves_110 N Q ko17 r0 x1 x2 x3 S))
theorem W_X12_halves_94 (C : mC p l s m args meth c cX12_halves "MoonWashModel" 6 (some FieldType.int) g) (N : Nat) {Q : mSt → Int → Prop} {ko17 : Nat → Int → Int → Int → mSt → Prop} (hko17 : ∀ (r0 : Nat) (kr0 : KM r0 = (0, 10, 0)) (x1 : Int) (ox1 : okI x1) (x2 : Int) (ox2 : okI x2) (x3 : Int) (ox3 : okI x3) (S : mSt) (H : Heap) (locs : List Loc) (ls : Array Slot), lv_has ls 6 [(0, .ref (b + r0)), (1, .int (mI x1)), (2, .int (mI x2)), (3, .int (mI x3))] → mW g b KM S H → va_S (mA b KM s.heap.size) s.heap H locs → ko17 r0 x1 x2 x3 S → W p l e { frames := 122, cells := 0, slots := 0, locals := 3205 } s m args below meth c H locs 0 0 (vx_MQ below (mQi g b KM Q (mA b KM s.heap.size)) (mEx g b KM (fun _ _ => False) (mA b KM s.heap.size)) args s 0 0 (mA b KM s.heap.size)) (F0 m 17 ls [])) (r0 : Nat) (kr0 : KM r0 = (0, 10, 0)) (x1 : Int) (ox1 : okI x1) (x2 : Int) (ox2 : okI x2) (x3 : Int) (ox3 : okI x3) (xs0 : Int) (oxs0 : okI xs0) (S : mSt) (H : Heap) (locs : List Loc) (ls : Array Slot) (hl : lv_has ls 6 [(0, .ref (b + r0)), (1, .int (mI x1)), (2, .int (mI x2)), (3, .int (mI x3))]) (hW : mW g b KM S H) (hS : va_S (mA b KM s.heap.size) s.heap H locs) (h : w_X12_halves_94 N Q ko17 r0 x1 x2 x3 xs0 S) : W p l e { frames := 122, cells := 0, slots := 0, locals := 3205 } s m args below meth c H locs 0 0 (vx_MQ below (mQi g b KM Q (mA b KM s.heap.size)) (mEx g b KM (fun _ _ => False) (mA b KM s.heap.size)) args s 0 0 (mA b KM s.heap.size)) (F0 m 94 ls [.int (mI xs0)]) := by
  unfold w_X12_halves_94 at h
  refine m_istore (pc := 94) C.1 dX12_halves_94 hl (by decide) (fun v => [(4, .int v), (0, .ref (b + r0)), (1, .int (mI x1)), (2, .int (mI x2)), (3, .int (mI x3))]) (fun _ => rfl) oxs0 (fun v1 ls ev1 ov1 hl => ?_)
  replace h := h v1 ev1
  refine m_iload (pc := 96) C.1 dX12_halves_96 hl 0 rfl ?_
  refine m_iload_n (pc := 98) C.1 dX12_halves_98 rfl hl 3 rfl ?_
  refine m_icmp_lt (pc := 99) (tgt := 105) C.1 ov1 ox2 dX12_halves_99 (by decide) (fun hc => ?_) (fun hc => ?_)
  · replace h := h.1 hc
    refine m_iload (pc := 105) C.1 dX12_halves_105 hl 0 rfl ?_
    refine m_istore_n (pc := 107) C.1 dX12_halves_107 rfl hl (by decide) (fun v => [(2, .int v), (4, .int (mI v1)), (0, .ref (b + r0)), (1, .int (mI x1)), (3, .int (mI x3))]) (fun _ => rfl) ov1 (fun v2 ls ev2 ov2 hl => ?_)
    replace h := h v2 ev2
    refine m_iload_n (pc := 108) C.1 dX12_halves_108 rfl hl 4 rfl ?_
    refine m_istore_n (pc := 109) C.1 dX12_halves_109 rfl hl (by decide) (fun v => [(1, .int v), (2, .int (mI v2)), (4, .int (mI v1)), (0, .ref (b + r0)), (3, .int (mI x3))]) (fun _ => rfl) ox3 (fun v3 ls ev3 ov3 hl => ?_)
    replace h := h v3 ev3
    exact W_X12_halves_110 C N hko17 r0 kr0 v3 ov3 v2 ov2 x3 ox3 S _ _ _ (lv_sub hl [3, 0, 1, 4] rfl) hW hS h
  · replace h := h.2 hc
    refine m_goto (pc := 102) (tgt := 110) C.1 dX12_halves_102 (by decide) ?_
    exact W_X12_halves_110 C N hko17 r0 kr0 x1 ox1 x2 ox2 x3 ox3 S _ _ _ (lv_sub hl [1, 2, 3, 4] rfl) hW hS h
def w_X12_halves_17b (N : Nat) (Q : mSt → Int → Prop) (ko17 : Nat → Int → Int → Int → mSt → Prop) (ko116 : Int → mSt → Prop) (r0 : Nat) (x1 : Int) (x2 : Int) (x3 : Int) (S : mSt) : Prop :=
  ((8 ≤ x3 → ko116 x1 S) ∧ (x3 < 8 → ∀ v1 : Int, v1 = 0 → ∀ v2 : Int, v2 = 0 → w_X12_halves_29 N Q (fun (r0_3 : Nat) (x1_3 : Int) (x2_3 : Int) (x3_3 : Int) (x4_3 : Int) (S_3 : mSt) => ((0 ≤ x4_3 → w_X12_halves_94 N Q ko17 r0_3 x1_3 x2_3 x3_3 x4_3 S_3) ∧ (x4_3 < 0 → w_X12_halves_94 N Q ko17 r0_3 x1_3 x2_3 x3_3 (nm (-x4_3)) S_3))) N r0 x1 x2 x3 v1 v2 S))
theorem W_X12_halves_17b (C : mC p l s m args meth c cX12_halves "MoonWashModel" 6 (some FieldType.int) g) (N : Nat) {Q : mSt → Int → Prop} {ko17 : Nat → Int → Int → Int → mSt → Prop} {ko116 : Int → mSt → Prop} (hko17 : ∀ (r0 : Nat) (kr0 : KM r0 = (0, 10, 0)) (x1 : Int) (ox1 : okI x1) (x2 : Int) (ox2 : okI x2) (x3 : Int) (ox3 : okI x3) (S : mSt) (H : Heap) (locs : List Loc) (ls : Array Slot), lv_has ls 6 [(0, .ref (b + r0)), (1, .int (mI x1)), (2, .int (mI x2)), (3, .int (mI x3))] → mW g b KM S H → va_S (mA b KM s.heap.size) s.heap H locs → ko17 r0 x1 x2 x3 S → W p l e { frames := 122, cells := 0, slots := 0, locals := 3205 } s m args below meth c H locs 0 0 (vx_MQ below (mQi g b KM Q (mA b KM s.heap.size)) (mEx g b KM (fun _ _ => False) (mA b KM s.heap.size)) args s 0 0 (mA b KM s.heap.size)) (F0 m 17 ls [])) (hko116 : ∀ (x1 : Int) (ox1 : okI x1) (S : mSt) (H : Heap) (locs : List Loc) (ls : Array Slot), lv_has ls 6 [(1, .int (mI x1))] → mW g b KM S H → va_S (mA b KM s.heap.size) s.heap H locs → ko116 x1 S → W p l e { frames := 122, cells := 0, slots := 0, locals := 3205 } s m args below meth c H locs 0 0 (vx_MQ below (mQi g b KM Q (mA b KM s.heap.size)) (mEx g b KM (fun _ _ => False) (mA b KM s.heap.size)) args s 0 0 (mA b KM s.heap.size)) (F0 m 116 ls [])) (r0 : Nat) (kr0 : KM r0 = (0, 10, 0)) (x1 : Int) (ox1 : okI x1) (x2 : Int) (ox2 : okI x2) (x3 : Int) (ox3 : okI x3) (S : mSt) (H : Heap) (locs : List Loc) (ls : Array Slot) (hl : lv_has ls 6 [(0, .ref (b + r0)), (1, .int (mI x1)), (2, .int (mI x2)), (3, .int (mI x3))]) (hW : mW g b KM S H) (hS : va_S (mA b KM s.heap.size) s.heap H locs) (h : w_X12_halves_17b N Q ko17 ko116 r0 x1 x2 x3 S) : W p l e { frames := 122, cells := 0, slots := 0, locals := 3205 } s m args below meth c H locs 0 0 (vx_MQ below (mQi g b KM Q (mA b KM s.heap.size)) (mEx g b KM (fun _ _ => False) (mA b KM s.heap.size)) args s 0 0 (mA b KM s.heap.size)) (F0 m 17 ls []) := by
  unfold w_X12_halves_17b at h
  refine m_iload_n (pc := 17) C.1 dX12_halves_17 rfl hl 3 rfl ?_
  refine m_bipush (pc := 18) C.1 dX12_halves_18 rfl ?_
  refine m_icmp_ge (pc := 20) (tgt := 116) C.1 ox3 (by decide : okI 8) dX12_halves_20 (by decide) (fun hc => ?_) (fun hc => ?_)
  · replace h := h.1 hc
    exact hko116 x1 ox1 S _ _ _ (lv_sub hl [1] rfl) hW hS h
  · replace h := h.2 hc
    refine m_iconst (pc := 23) C.1 dX12_halves_23 ?_
    refine m_istore (pc := 24) C.1 dX12_halves_24 hl (by decide) (fun v => [(4, .int v), (0, .ref (b + r0)), (1, .int (mI x1)), (2, .int (mI x2)), (3, .int (mI x3))]) (fun _ => rfl) (by decide : okI 0) (fun v1 ls ev1 ov1 hl => ?_)
    replace h := h v1 ev1
    refine m_iconst (pc := 26) C.1 dX12_halves_26 ?_
    refine m_istore (pc := 27) C.1 dX12_halves_27 hl (by decide) (fun v => [(5, .int v), (4, .int (mI v1)), (0, .ref (b + r0)), (1, .int (mI x1)), (2, .int (mI x2)), (3, .int (mI x3))]) (fun _ => rfl) (by decide : okI 0) (fun v2 ls ev2 ov2 hl => ?_)
    replace h := h v2 ev2
    refine W_X12_halves_29 C N ?_ N r0 kr0 x1 ox1 x2 ox2 x3 ox3 v1 ov1 v2 ov2 S _ _ _ (lv_sub hl [2, 3, 4, 5, 1, 0] rfl) hW hS h
    · intro r0_3 kr0_3 x1_3 ox1_3 x2_3 ox2_3 x3_3 ox3_3 x4_3 ox4_3 S_3 H locs ls hl hW_3 hS h
      refine m_iload (pc := 81) C.1 dX12_halves_81 hl 4 rfl ?_
      refine m_if_ge (pc := 83) (tgt := 92) C.1 ox4_3 dX12_halves_83 (by decide) (fun hc => ?_) (fun hc => ?_)
      · replace h := h.1 hc
        refine m_iload (pc := 92) C.1 dX12_halves_92 hl 4 rfl ?_
        exact W_X12_halves_94 C N hko17 r0_3 kr0_3 x1_3 ox1_3 x2_3 ox2_3 x3_3 ox3_3 x4_3 ox4_3 S_3 _ _ _ (lv_sub hl [0, 1, 2, 3] rfl) hW_3 hS h
      · replace h := h.2 hc
        refine m_iload (pc := 86) C.1 dX12_halves_86 hl 4 rfl ?_
        refine m_ineg (pc := 88) C.1 dX12_halves_88 ?_
        refine m_goto (pc := 89) (tgt := 94) C.1 dX12_halves_89 (by decide) ?_
        exact W_X12_halves_94 C N hko17 r0_3 kr0_3 x1_3 ox1_3 x2_3 ox2_3 x3_3 ox3_3 (nm (-x4_3)) (nm_ok _) S_3 _ _ _ (lv_sub hl [0, 1, 2, 3] rfl) hW_3 hS h
def w_X12_halves_17 (N : Nat) (Q : mSt → Int → Prop) (ko116 : Int → mSt → Prop) : Nat → Nat → Int → Int → Int → mSt → Prop
  | 0 => fun _ _ _ _ _ => False
  | k + 1 => w_X12_halves_17b N Q (w_X12_halves_17 N Q ko116 k) ko116
theorem W_X12_halves_17 (C : mC p l s m args meth c cX12_halves "MoonWashModel" 6 (some FieldType.int) g) (N : Nat) {Q : mSt → Int → Prop} {ko116 : Int → mSt → Prop} (hko116 : ∀ (x1 : Int) (ox1 : okI x1) (S : mSt) (H : Heap) (locs : List Loc) (ls : Array Slot), lv_has ls 6 [(1, .int (mI x1))] → mW g b KM S H → va_S (mA b KM s.heap.size) s.heap H locs → ko116 x1 S → W p l e { frames := 122, cells := 0, slots := 0, locals := 3205 } s m args below meth c H locs 0 0 (vx_MQ below (mQi g b KM Q (mA b KM s.heap.size)) (mEx g b KM (fun _ _ => False) (mA b KM s.heap.size)) args s 0 0 (mA b KM s.heap.size)) (F0 m 116 ls [])) : ∀ (k : Nat) (r0 : Nat) (kr0 : KM r0 = (0, 10, 0)) (x1 : Int) (ox1 : okI x1) (x2 : Int) (ox2 : okI x2) (x3 : Int) (ox3 : okI x3) (S : mSt) (H : Heap) (locs : List Loc) (ls : Array Slot) (hl : lv_has ls 6 [(0, .ref (b + r0)), (1, .int (mI x1)), (2, .int (mI x2)), (3, .int (mI x3))]) (hW : mW g b KM S H) (hS : va_S (mA b KM s.heap.size) s.heap H locs) (h : w_X12_halves_17 N Q ko116 k r0 x1 x2 x3 S), W p l e { frames := 122, cells := 0, slots := 0, locals := 3205 } s m args below meth c H locs 0 0 (vx_MQ below (mQi g b KM Q (mA b KM s.heap.size)) (mEx g b KM (fun _ _ => False) (mA b KM s.heap.size)) args s 0 0 (mA b KM s.heap.size)) (F0 m 17 ls []) := by
  intro k
  induction k with
  | zero => intro r0 kr0 x1 ox1 x2 ox2 x3 ox3 S H locs ls hl hW hS h; exact False.elim h
  | succ k ih => intro r0 kr0 x1 ox1 x2 ox2 x3 ox3 S H locs ls hl hW hS h; exact W_X12_halves_17b C N ih hko116 r0 kr0 x1 ox1 x2 ox2 x3 ox3 S H locs ls hl hW hS h
end
def w_X12_halves (N : Nat) (r0 : Nat) (S : mSt) (Q : mSt → Int → Prop) : Prop :=
  ∀ S1 : mSt, S1 = mup S r0 0 0 → w_X12_looks N r0 S1 (fun (S2 : mSt) => ∀ v3 : Int, v3 = (-1) → ∀ v4 : Int, v4 = 2000000000 → ∀ v5 : Int, v5 = 0 → w_X12_halves_17 N Q (fun (x1_6 : Int) (S_6 : mSt) => Q S_6 x1_6) N r0 v3 v4 v5 S2)
theorem T_X12_halves {l : Launch} (hl0 : l.stackTraces = false) {g : mG} {b : Nat} (N : Nat) (r0 : Nat) (kr0 : KM r0 = (0, 10, 0)) {S : mSt} {Q : mSt → Int → Prop} (h : w_X12_halves N r0 S Q) (sz : Nat) : vx_Met l yX12_halves (Cond.code yX12_halves cX12_halves 6 (some FieldType.int) :: wsG) { frames := 122, cells := 0, slots := 0, locals := 3205 } (mPc g b KM S [.ref (b + r0)] sz) (mQi g b KM Q (mA b KM sz)) (mEx g b KM (fun _ _ => False) (mA b KM sz)) 0 0 (mA b KM sz) :=
  m_of (av := [.ref (b + r0)]) (Qf := fun A => mQi g b KM Q A) (Xf := fun A => mEx g b KM (fun _ _ => False) A) (by decide) (Nat.le_of_ble_eq_true rfl) (fun p e s m args below meth c ls X hK hml hr hlk hout hnm hW hl => by
    have C : mC p l s m args meth c cX12_halves "MoonWashModel" 6 (some FieldType.int) g := ⟨X, hK, hml, hr, hlk, hout, hl0⟩
    have hS : va_S (mA b KM s.heap.size) s.heap s.heap [] := va_S.rf
    have hl : lv_has ls 6 [(0, .ref (b + r0))] := hl
    unfold w_X12_halves at h
    refine m_aload_n (pc := 0) C.1 dX12_halves_0 rfl hl 0 rfl ?_
    refine m_iconst (pc := 1) C.1 dX12_halves_1 ?_
    refine p_10_0 (pc := 2) C hW hS kr0 q_1383 (by decide : okI 0) dX12_halves_2 (fun S1 H locs e1 hW1 hS => ?_)
    replace h := h S1 e1
    refine m_aload_n (pc := 5) C.1 dX12_halves_5 rfl hl 0 rfl ?_
    refine m_callVv (pc := 6) C.1 C.2.2.1 hl.1 C.2.1 hW1 hS (As := []) (rest := []) (r := r0) (T_X12_looks C.2.2.2.2.2.2 N r0 kr0 h) kr0 rfl q_1868 q_1870 q_76 q_92 q_1871 pl_X12_looks (by decide) (Nat.le_of_ble_eq_true rfl) dX12_halves_6 (fun S2 H locs h hW2 hS => ?_)
    refine m_iconst (pc := 9) C.1 dX12_halves_9 ?_
    refine m_istore_n (pc := 10) C.1 dX12_halves_10 rfl hl (by decide) (fun v => [(1, .int v), (0, .ref (b + r0))]) (fun _ => rfl) (by decide : okI (-1)) (fun v3 ls ev3 ov3 hl => ?_)
    replace h := h v3 ev3
    refine m_ldcw (pc := 11) (n := 2000000000) C.1 q_1780 rfl dX12_halves_11 ?_
    refine m_istore_n (pc := 14) C.1 dX12_halves_14 rfl hl (by decide) (fun v => [(2, .int v), (1, .int (mI v3)), (0, .ref (b + r0))]) (fun _ => rfl) (by decide : okI 2000000000) (fun v4 ls ev4 ov4 hl => ?_)
    replace h := h v4 ev4
    refine m_iconst (pc := 15) C.1 dX12_halves_15 ?_
    refine m_istore_n (pc := 16) C.1 dX12_halves_16 rfl hl (by decide) (fun v => [(3, .int v), (2, .int (mI v4)), (1, .int (mI v3)), (0, .ref (b + r0))]) (fun _ => rfl) (by decide : okI 0) (fun v5 ls ev5 ov5 hl => ?_)
    replace h := h v5 ev5
    refine W_X12_halves_17 C N ?_ N r0 kr0 v3 ov3 v4 ov4 v5 ov5 S2 _ _ _ (lv_sub hl [3, 2, 1, 0] rfl) hW2 hS h
    · intro x1_6 ox1_6 S_6 H locs ls hl hW_6 hS h
      refine m_iload_n (pc := 116) C.1 dX12_halves_116 rfl hl 0 rfl ?_
      exact m_iret (pc := 117) C.1 C.2.2.2.1 C.2.2.2.2.1 hW_6 hS ox1_6 h (by decide) (by decide) dX12_halves_117) sz
section
variable {p : Program} {l : Launch} {e : Env} {s : State} {m : MethodId} {args : Array Value} {below : List Frame} {meth : Method} {c : Code} {g : mG} {b : Nat}
def w_X12_like_20b (N : Nat) (Q : mSt → Int → Prop) (ko20 : Nat → Int → mSt → Prop) (ko57 : Nat → mSt → Prop) (r0 : Nat) (x1 : Int) (S : mSt) : Prop :=
  ((750 ≤ x1 → ko57 r0 S) ∧ (x1 < 750 → (0 ≤ x1 ∧ x1 < 750 ∧ (0 ≤ x1 ∧ x1 < 750 ∧ ∀ S3 : mSt, S3 = mup S (r0 + 3) x1 (S (r0 + 1) x1) → (0 ≤ x1 ∧ x1 < 750 ∧ (0 ≤ x1 ∧ x1 < 750 ∧ ∀ S6 : mSt, S6 = mup S3 (r0 + 1) x1 (S3 (r0 + 2) x1) → ∀ v7 : Int, v7 = nm (x1 + 1) → ko20 r0 v7 S6))))))
theorem W_X12_like_20b (C : mC p l s m args meth c cX12_like "MoonWashModel" 3 (some FieldType.int) g) (N : Nat) {Q : mSt → Int → Prop} {ko20 : Nat → Int → mSt → Prop} {ko57 : Nat → mSt → Prop} (hko20 : ∀ (r0 : Nat) (kr0 : KM r0 = (0, 10, 0)) (x1 : Int) (ox1 : okI x1) (S : mSt) (H : Heap) (locs : List Loc) (ls : Array Slot), lv_has ls 3 [(0, .ref (b + r0)), (1, .int (mI x1))] → mW g b KM S H → va_S (mA b KM s.heap.size) s.heap H locs → ko20 r0 x1 S → W p l e { frames := 122, cells := 0, slots := 0, locals := 3205 } s m args below meth c H locs 0 0 (vx_MQ below (mQi g b KM Q (mA b KM s.heap.size)) (mEx g b KM (fun _ _ => False) (mA b KM s.heap.size)) args s 0 0 (mA b KM s.heap.size)) (F0 m 20 ls [])) (hko57 : ∀ (r0 : Nat) (kr0 : KM r0 = (0, 10, 0)) (S : mSt) (H : Heap) (locs : List Loc) (ls : Array Slot), lv_has ls 3 [(0, .ref (b + r0))] → mW g b KM S H → va_S (mA b KM s.heap.size) s.heap H locs → ko57 r0 S → W p l e { frames := 122, cells := 0, slots := 0, locals := 3205 } s m args below meth c H locs 0 0 (vx_MQ below (mQi g b KM Q (mA b KM s.heap.size)) (mEx g b KM (fun _ _ => False) (mA b KM s.heap.size)) args s 0 0 (mA b KM s.heap.size)) (F0 m 57 ls [])) (r0 : Nat) (kr0 : KM r0 = (0, 10, 0)) (x1 : Int) (ox1 : okI x1) (S : mSt) (H : Heap) (locs : List Loc) (ls : Array Slot) (hl : lv_has ls 3 [(0, .ref (b + r0)), (1, .int (mI x1))]) (hW : mW g b KM S H) (hS : va_S (mA b KM s.heap.size) s.heap H locs) (h : w_X12_like_20b N Q ko20 ko57 r0 x1 S) : W p l e { frames := 122, cells := 0, slots := 0, locals := 3205 } s m args below meth c H locs 0 0 (vx_MQ below (mQi g b KM Q (mA b KM s.heap.size)) (mEx g b KM (fun _ _ => False) (mA b KM s.heap.size)) args s 0 0 (mA b KM s.heap.size)) (F0 m 20 ls []) := by
  unfold w_X12_like_20b at h
  refine m_iload_n (pc := 20) C.1 dX12_like_20 rfl hl 1 rfl ?_
  refine m_sipush (pc := 21) C.1 dX12_like_21 rfl ?_
  refine m_icmp_ge (pc := 24) (tgt := 57) C.1 ox1 (by decide : okI 750) dX12_like_24 (by decide) (fun hc => ?_) (fun hc => ?_)
  · replace h := h.1 hc
    exact hko57 r0 kr0 S _ _ _ (lv_sub hl [0] rfl) hW hS h
  · replace h := h.2 hc
    refine m_aload_n (pc := 27) C.1 dX12_like_27 rfl hl 0 rfl ?_
    refine g_10_3 (pc := 28) C hW kr0 q_1386 dX12_like_28 ?_
    refine m_iload_n (pc := 31) C.1 dX12_like_31 rfl hl 1 rfl ?_
    refine m_aload_n (pc := 32) C.1 dX12_like_32 rfl hl 0 rfl ?_
    refine g_10_1 (pc := 33) C hW kr0 q_1384 dX12_like_33 ?_
    refine m_iload_n (pc := 36) C.1 dX12_like_36 rfl hl 1 rfl ?_
    obtain ⟨hb1a, hb1b, h⟩ := h
    refine m_iald (pc := 37) C.1 C.2.1 hW (k_10_1 kr0) ox1 hb1a hb1b dX12_like_37 ?_
    obtain ⟨hb2a, hb2b, h⟩ := h
    refine m_iast (pc := 38) C.1 C.2.1 hW hS (k_10_3 kr0) ox1 (hW.2.1 _ _) hb2a hb2b dX12_like_38 (fun S3 H locs e3 hW3 hS => ?_)
    replace h := h S3 e3
    refine m_aload_n (pc := 39) C.1 dX12_like_39 rfl hl 0 rfl ?_
    refine g_10_1 (pc := 40) C hW3 kr0 q_1384 dX12_like_40 ?_
    refine m_iload_n (pc := 43) C.1 dX12_like_43 rfl hl 1 rfl ?_
    refine m_aload_n (pc := 44) C.1 dX12_like_44 rfl hl 0 rfl ?_
    refine g_10_2 (pc := 45) C hW3 kr0 q_1385 dX12_like_45 ?_
    refine m_iload_n (pc := 48) C.1 dX12_like_48 rfl hl 1 rfl ?_
    obtain ⟨hb4a, hb4b, h⟩ := h
    refine m_iald (pc := 49) C.1 C.2.1 hW3 (k_10_2 kr0) ox1 hb4a hb4b dX12_like_49 ?_
    obtain ⟨hb5a, hb5b, h⟩ := h
    refine m_iast (pc := 50) C.1 C.2.1 hW3 hS (k_10_1 kr0) ox1 (hW3.2.1 _ _) hb5a hb5b dX12_like_50 (fun S6 H locs e6 hW6 hS => ?_)
    replace h := h S6 e6
    refine m_iinc (pc := 51) C.1 dX12_like_51 hl (by decide) (q0 := 1) rfl (fun v => [(1, .int v), (0, .ref (b + r0))]) (fun _ => rfl) (fun v7 ls ev7 ov7 hl => ?_)
    replace h := h v7 ev7
    refine m_goto (pc := 54) (tgt := 20) C.1 dX12_like_54 (by decide) ?_
    exact hko20 r0 kr0 v7 ov7 S6 _ _ _ (lv_sub hl [1, 0] rfl) hW6 hS h
def w_X12_like_20 (N : Nat) (Q : mSt → Int → Prop) (ko57 : Nat → mSt → Prop) : Nat → Nat → Int → mSt → Prop
  | 0 => fun _ _ _ => False
  | k + 1 => w_X12_like_20b N Q (w_X12_like_20 N Q ko57 k) ko57
theorem W_X12_like_20 (C : mC p l s m args meth c cX12_like "MoonWashModel" 3 (some FieldType.int) g) (N : Nat) {Q : mSt → Int → Prop} {ko57 : Nat → mSt → Prop} (hko57 : ∀ (r0 : Nat) (kr0 : KM r0 = (0, 10, 0)) (S : mSt) (H : Heap) (locs : List Loc) (ls : Array Slot), lv_has ls 3 [(0, .ref (b + r0))] → mW g b KM S H → va_S (mA b KM s.heap.size) s.heap H locs → ko57 r0 S → W p l e { frames := 122, cells := 0, slots := 0, locals := 3205 } s m args below meth c H locs 0 0 (vx_MQ below (mQi g b KM Q (mA b KM s.heap.size)) (mEx g b KM (fun _ _ => False) (mA b KM s.heap.size)) args s 0 0 (mA b KM s.heap.size)) (F0 m 57 ls [])) : ∀ (k : Nat) (r0 : Nat) (kr0 : KM r0 = (0, 10, 0)) (x1 : Int) (ox1 : okI x1) (S : mSt) (H : Heap) (locs : List Loc) (ls : Array Slot) (hl : lv_has ls 3 [(0, .ref (b + r0)), (1, .int (mI x1))]) (hW : mW g b KM S H) (hS : va_S (mA b KM s.heap.size) s.heap H locs) (h : w_X12_like_20 N Q ko57 k r0 x1 S), W p l e { frames := 122, cells := 0, slots := 0, locals := 3205 } s m args below meth c H locs 0 0 (vx_MQ below (mQi g b KM Q (mA b KM s.heap.size)) (mEx g b KM (fun _ _ => False) (mA b KM s.heap.size)) args s 0 0 (mA b KM s.heap.size)) (F0 m 20 ls []) := by
  intro k
  induction k with
  | zero => intro r0 kr0 x1 ox1 S H locs ls hl hW hS h; exact False.elim h
  | succ k ih => intro r0 kr0 x1 ox1 S H locs ls hl hW hS h; exact W_X12_like_20b C N ih hko57 r0 kr0 x1 ox1 S H locs ls hl hW hS h
def w_X12_like_87 (N : Nat) (Q : mSt → Int → Prop) (ko61 : Nat → Int → Int → mSt → Prop) (r0 : Nat) (x2 : Int) (xs0 : Int) (xs1 : Int) (S : mSt) : Prop :=
  ∀ v1 : Int, v1 = (nm (xs1 + xs0)) → ∀ v2 : Int, v2 = nm (x2 + 1) → ko61 r0 v1 v2 S
theorem W_X12_like_87 (C : mC p l s m args meth c cX12_like "MoonWashModel" 3 (some FieldType.int) g) (N : Nat) {Q : mSt → Int → Prop} {ko61 : Nat → Int → Int → mSt → Prop} (hko61 : ∀ (r0 : Nat) (kr0 : KM r0 = (0, 10, 0)) (x1 : Int) (ox1 : okI x1) (x2 : Int) (ox2 : okI x2) (S : mSt) (H : Heap) (locs : List Loc) (ls : Array Slot), lv_has ls 3 [(0, .ref (b + r0)), (1, .int (mI x1)), (2, .int (mI x2))] → mW g b KM S H → va_S (mA b KM s.heap.size) s.heap H locs → ko61 r0 x1 x2 S → W p l e { frames := 122, cells := 0, slots := 0, locals := 3205 } s m args below meth c H locs 0 0 (vx_MQ below (mQi g b KM Q (mA b KM s.heap.size)) (mEx g b KM (fun _ _ => False) (mA b KM s.heap.size)) args s 0 0 (mA b KM s.heap.size)) (F0 m 61 ls [])) (r0 : Nat) (kr0 : KM r0 = (0, 10, 0)) (x2 : Int) (ox2 : okI x2) (xs0 : Int) (oxs0 : okI xs0) (xs1 : Int) (oxs1 : okI xs1) (S : mSt) (H : Heap) (locs : List Loc) (ls : Array Slot) (hl : lv_has ls 3 [(0, .ref (b + r0)), (2, .int (mI x2))]) (hW : mW g b KM S H) (hS : va_S (mA b KM s.heap.size) s.heap H locs) (h : w_X12_like_87 N Q ko61 r0 x2 xs0 xs1 S) : W p l e { frames := 122, cells := 0, slots := 0, locals := 3205 } s m args below meth c H locs 0 0 (vx_MQ below (mQi g b KM Q (mA b KM s.heap.size)) (mEx g b KM (fun _ _ => False) (mA b KM s.heap.size)) args s 0 0 (mA b KM s.heap.size)) (F0 m 87 ls [.int (mI xs0), .int (mI xs1)]) := by
  unfold w_X12_like_87 at h
  refine m_iadd (pc := 87) C.1 dX12_like_87 ?_
  refine m_istore_n (pc := 88) C.1 dX12_like_88 rfl hl (by decide) (fun v => [(1, .int v), (0, .ref (b + r0)), (2, .int (mI x2))]) (fun _ => rfl) (nm_ok _) (fun v1 ls ev1 ov1 hl => ?_)
  replace h := h v1 ev1
  refine m_iinc (pc := 89) C.1 dX12_like_89 hl (by decide) (q0 := 2) rfl (fun v => [(2, .int v), (1, .int (mI v1)), (0, .ref (b + r0))]) (fun _ => rfl) (fun v2 ls ev2 ov2 hl => ?_)
  replace h := h v2 ev2
  refine m_goto (pc := 92) (tgt := 61) C.1 dX12_like_92 (by decide) ?_
  exact hko61 r0 kr0 v1 ov1 v2 ov2 S _ _ _ (lv_sub hl [2, 1, 0] rfl) hW hS h
def w_X12_like_61b (N : Nat) (Q : mSt → Int → Prop) (ko61 : Nat → Int → Int → mSt → Prop) (ko95 : Nat → Int → mSt → Prop) (r0 : Nat) (x1 : Int) (x2 : Int) (S : mSt) : Prop :=
  ((8 ≤ x2 → ko95 r0 x1 S) ∧ (x2 < 8 → w_X12_lightOf N r0 x2 S (fun (S1 : mSt) (v1 : Int) => (0 ≤ x2 ∧ x2 < 8 ∧ ((v1 ≠ (S1 (r0 + 12) x2) → w_X12_like_87 N Q ko61 r0 x2 0 x1 S1) ∧ (v1 = (S1 (r0 + 12) x2) → w_X12_like_87 N Q ko61 r0 x2 1 x1 S1))))))
theorem W_X12_like_61b (C : mC p l s m args meth c cX12_like "MoonWashModel" 3 (some FieldType.int) g) (N : Nat) {Q : mSt → Int → Prop} {ko61 : Nat → Int → Int → mSt → Prop} {ko95 : Nat → Int → mSt → Prop} (hko61 : ∀ (r0 : Nat) (kr0 : KM r0 = (0, 10, 0)) (x1 : Int) (ox1 : okI x1) (x2 : Int) (ox2 : okI x2) (S : mSt) (H : Heap) (locs : List Loc) (ls : Array Slot), lv_has ls 3 [(0, .ref (b + r0)), (1, .int (mI x1)), (2, .int (mI x2))] → mW g b KM S H → va_S (mA b KM s.heap.size) s.heap H locs → ko61 r0 x1 x2 S → W p l e { frames := 122, cells := 0, slots := 0, locals := 3205 } s m args below meth c H locs 0 0 (vx_MQ below (mQi g b KM Q (mA b KM s.heap.size)) (mEx g b KM (fun _ _ => False) (mA b KM s.heap.size)) args s 0 0 (mA b KM s.heap.size)) (F0 m 61 ls [])) (hko95 : ∀ (r0 : Nat) (kr0 : KM r0 = (0, 10, 0)) (x1 : Int) (ox1 : okI x1) (S : mSt) (H : Heap) (locs : List Loc) (ls : Array Slot), lv_has ls 3 [(0, .ref (b + r0)), (1, .int (mI x1))] → mW g b KM S H → va_S (mA b KM s.heap.size) s.heap H locs → ko95 r0 x1 S → W p l e { frames := 122, cells := 0, slots := 0, locals := 3205 } s m args below meth c H locs 0 0 (vx_MQ below (mQi g b KM Q (mA b KM s.heap.size)) (mEx g b KM (fun _ _ => False) (mA b KM s.heap.size)) args s 0 0 (mA b KM s.heap.size)) (F0 m 95 ls [])) (r0 : Nat) (kr0 : KM r0 = (0, 10, 0)) (x1 : Int) (ox1 : okI x1) (x2 : Int) (ox2 : okI x2) (S : mSt) (H : Heap) (locs : List Loc) (ls : Array Slot) (hl : lv_has ls 3 [(0, .ref (b + r0)), (1, .int (mI x1)), (2, .int (mI x2))]) (hW : mW g b KM S H) (hS : va_S (mA b KM s.heap.size) s.heap H locs) (h : w_X12_like_61b N Q ko61 ko95 r0 x1 x2 S) : W p l e { frames := 122, cells := 0, slots := 0, locals := 3205 } s m args below meth c H locs 0 0 (vx_MQ below (mQi g b KM Q (mA b KM s.heap.size)) (mEx g b KM (fun _ _ => False) (mA b KM s.heap.size)) args s 0 0 (mA b KM s.heap.size)) (F0 m 61 ls []) := by
  unfold w_X12_like_61b at h
  refine m_iload_n (pc := 61) C.1 dX12_like_61 rfl hl 2 rfl ?_
  refine m_bipush (pc := 62) C.1 dX12_like_62 rfl ?_
  refine m_icmp_ge (pc := 64) (tgt := 95) C.1 ox2 (by decide : okI 8) dX12_like_64 (by decide) (fun hc => ?_) (fun hc => ?_)
  · replace h := h.1 hc
    exact hko95 r0 kr0 x1 ox1 S _ _ _ (lv_sub hl [0, 1] rfl) hW hS h
  · replace h := h.2 hc
    refine m_iload_n (pc := 67) C.1 dX12_like_67 rfl hl 1 rfl ?_
    refine m_aload_n (pc := 68) C.1 dX12_like_68 rfl hl 0 rfl ?_
    refine m_iload_n (pc := 69) C.1 dX12_like_69 rfl hl 2 rfl ?_
    refine m_callVi (pc := 70) C.1 C.2.2.1 hl.1 C.2.1 hW hS (As := [.int (mI x2)]) (rest := [.int (mI x1)]) (r := r0) (T_X12_lightOf C.2.2.2.2.2.2 N r0 kr0 x2 ox2 h) kr0 rfl q_1634 q_1636 q_49 q_92 q_1637 pl_X12_lightOf (by decide) (Nat.le_of_ble_eq_true rfl) dX12_like_70 (fun v1 S1 H locs ov1 h hW1 hS => ?_)
    refine m_aload_n (pc := 73) C.1 dX12_like_73 rfl hl 0 rfl ?_
    refine g_10_25 (pc := 74) C hW1 kr0 q_1408 dX12_like_74 ?_
    refine m_iload_n (pc := 77) C.1 dX12_like_77 rfl hl 2 rfl ?_
    obtain ⟨hb2a, hb2b, h⟩ := h
    refine m_iald (pc := 78) C.1 C.2.1 hW1 (k_10_25 kr0) ox2 hb2a hb2b dX12_like_78 ?_
    refine m_icmp_ne (pc := 79) (tgt := 86) C.1 ov1 (hW1.2.1 _ _) dX12_like_79 (by decide) (fun hc => ?_) (fun hc => ?_)
    · replace h := h.1 hc
      refine m_iconst (pc := 86) C.1 dX12_like_86 ?_
      exact W_X12_like_87 C N hko61 r0 kr0 x2 ox2 0 (by decide : okI 0) x1 ox1 S1 _ _ _ (lv_sub hl [0, 2] rfl) hW1 hS h
    · replace h := h.2 hc
      refine m_iconst (pc := 82) C.1 dX12_like_82 ?_
      refine m_goto (pc := 83) (tgt := 87) C.1 dX12_like_83 (by decide) ?_
      exact W_X12_like_87 C N hko61 r0 kr0 x2 ox2 1 (by decide : okI 1) x1 ox1 S1 _ _ _ (lv_sub hl [0, 2] rfl) hW1 hS h
def w_X12_like_61 (N : Nat) (Q : mSt → Int → Prop) (ko95 : Nat → Int → mSt → Prop) : Nat → Nat → Int → Int → mSt → Prop
  | 0 => fun _ _ _ _ => False
  | k + 1 => w_X12_like_61b N Q (w_X12_like_61 N Q ko95 k) ko95
theorem W_X12_like_61 (C : mC p l s m args meth c cX12_like "MoonWashModel" 3 (some FieldType.int) g) (N : Nat) {Q : mSt → Int → Prop} {ko95 : Nat → Int → mSt → Prop} (hko95 : ∀ (r0 : Nat) (kr0 : KM r0 = (0, 10, 0)) (x1 : Int) (ox1 : okI x1) (S : mSt) (H : Heap) (locs : List Loc) (ls : Array Slot), lv_has ls 3 [(0, .ref (b + r0)), (1, .int (mI x1))] → mW g b KM S H → va_S (mA b KM s.heap.size) s.heap H locs → ko95 r0 x1 S → W p l e { frames := 122, cells := 0, slots := 0, locals := 3205 } s m args below meth c H locs 0 0 (vx_MQ below (mQi g b KM Q (mA b KM s.heap.size)) (mEx g b KM (fun _ _ => False) (mA b KM s.heap.size)) args s 0 0 (mA b KM s.heap.size)) (F0 m 95 ls [])) : ∀ (k : Nat) (r0 : Nat) (kr0 : KM r0 = (0, 10, 0)) (x1 : Int) (ox1 : okI x1) (x2 : Int) (ox2 : okI x2) (S : mSt) (H : Heap) (locs : List Loc) (ls : Array Slot) (hl : lv_has ls 3 [(0, .ref (b + r0)), (1, .int (mI x1)), (2, .int (mI x2))]) (hW : mW g b KM S H) (hS : va_S (mA b KM s.heap.size) s.heap H locs) (h : w_X12_like_61 N Q ko95 k r0 x1 x2 S), W p l e { frames := 122, cells := 0, slots := 0, locals := 3205 } s m args below meth c H locs 0 0 (vx_MQ below (mQi g b KM Q (mA b KM s.heap.size)) (mEx g b KM (fun _ _ => False) (mA b KM s.heap.size)) args s 0 0 (mA b KM s.heap.size)) (F0 m 61 ls []) := by
  intro k
  induction k with
  | zero => intro r0 kr0 x1 ox1 x2 ox2 S H locs ls hl hW hS h; exact False.elim h
  | succ k ih => intro r0 kr0 x1 ox1 x2 ox2 S H locs ls hl hW hS h; exact W_X12_like_61b C N ih hko95 r0 kr0 x1 ox1 x2 ox2 S H locs ls hl hW hS h
def w_X12_like_97b (N : Nat) (Q : mSt → Int → Prop) (ko97 : Nat → Int → Int → mSt → Prop) (ko122 : Int → mSt → Prop) (r0 : Nat) (x1 : Int) (x2 : Int) (S : mSt) : Prop :=
  ((750 ≤ x2 → ko122 x1 S) ∧ (x2 < 750 → (0 ≤ x2 ∧ x2 < 750 ∧ (0 ≤ x2 ∧ x2 < 750 ∧ ∀ S3 : mSt, S3 = mup S (r0 + 1) x2 (S (r0 + 3) x2) → ∀ v4 : Int, v4 = nm (x2 + 1) → ko97 r0 x1 v4 S3))))
theorem W_X12_like_97b (C : mC p l s m args meth c cX12_like "MoonWashModel" 3 (some FieldType.int) g) (N : Nat) {Q : mSt → Int → Prop} {ko97 : Nat → Int → Int → mSt → Prop} {ko122 : Int → mSt → Prop} (hko97 : ∀ (r0 : Nat) (kr0 : KM r0 = (0, 10, 0)) (x1 : Int) (ox1 : okI x1) (x2 : Int) (ox2 : okI x2) (S : mSt) (H : Heap) (locs : List Loc) (ls : Array Slot), lv_has ls 3 [(0, .ref (b + r0)), (1, .int (mI x1)), (2, .int (mI x2))] → mW g b KM S H → va_S (mA b KM s.heap.size) s.heap H locs → ko97 r0 x1 x2 S → W p l e { frames := 122, cells := 0, slots := 0, locals := 3205 } s m args below meth c H locs 0 0 (vx_MQ below (mQi g b KM Q (mA b KM s.heap.size)) (mEx g b KM (fun _ _ => False) (mA b KM s.heap.size)) args s 0 0 (mA b KM s.heap.size)) (F0 m 97 ls [])) (hko122 : ∀ (x1 : Int) (ox1 : okI x1) (S : mSt) (H : Heap) (locs : List Loc) (ls : Array Slot), lv_has ls 3 [(1, .int (mI x1))] → mW g b KM S H → va_S (mA b KM s.heap.size) s.heap H locs → ko122 x1 S → W p l e { frames := 122, cells := 0, slots := 0, locals := 3205 } s m args below meth c H locs 0 0 (vx_MQ below (mQi g b KM Q (mA b KM s.heap.size)) (mEx g b KM (fun _ _ => False) (mA b KM s.heap.size)) args s 0 0 (mA b KM s.heap.size)) (F0 m 122 ls [])) (r0 : Nat) (kr0 : KM r0 = (0, 10, 0)) (x1 : Int) (ox1 : okI x1) (x2 : Int) (ox2 : okI x2) (S : mSt) (H : Heap) (locs : List Loc) (ls : Array Slot) (hl : lv_has ls 3 [(0, .ref (b + r0)), (1, .int (mI x1)), (2, .int (mI x2))]) (hW : mW g b KM S H) (hS : va_S (mA b KM s.heap.size) s.heap H locs) (h : w_X12_like_97b N Q ko97 ko122 r0 x1 x2 S) : W p l e { frames := 122, cells := 0, slots := 0, locals := 3205 } s m args below meth c H locs 0 0 (vx_MQ below (mQi g b KM Q (mA b KM s.heap.size)) (mEx g b KM (fun _ _ => False) (mA b KM s.heap.size)) args s 0 0 (mA b KM s.heap.size)) (F0 m 97 ls []) := by
  unfold w_X12_like_97b at h
  refine m_iload_n (pc := 97) C.1 dX12_like_97 rfl hl 2 rfl ?_
  refine m_sipush (pc := 98) C.1 dX12_like_98 rfl ?_
  refine m_icmp_ge (pc := 101) (tgt := 122) C.1 ox2 (by decide : okI 750) dX12_like_101 (by decide) (fun hc => ?_) (fun hc => ?_)
  · replace h := h.1 hc
    exact hko122 x1 ox1 S _ _ _ (lv_sub hl [1] rfl) hW hS h
  · replace h := h.2 hc
    refine m_aload_n (pc := 104) C.1 dX12_like_104 rfl hl 0 rfl ?_
    refine g_10_1 (pc := 105) C hW kr0 q_1384 dX12_like_105 ?_
    refine m_iload_n (pc := 108) C.1 dX12_like_108 rfl hl 2 rfl ?_
    refine m_aload_n (pc := 109) C.1 dX12_like_109 rfl hl 0 rfl ?_
    refine g_10_3 (pc := 110) C hW kr0 q_1386 dX12_like_110 ?_
    refine m_iload_n (pc := 113) C.1 dX12_like_113 rfl hl 2 rfl ?_
    obtain ⟨hb1a, hb1b, h⟩ := h
    refine m_iald (pc := 114) C.1 C.2.1 hW (k_10_3 kr0) ox2 hb1a hb1b dX12_like_114 ?_
    obtain ⟨hb2a, hb2b, h⟩ := h
    refine m_iast (pc := 115) C.1 C.2.1 hW hS (k_10_1 kr0) ox2 (hW.2.1 _ _) hb2a hb2b dX12_like_115 (fun S3 H locs e3 hW3 hS => ?_)
    replace h := h S3 e3
    refine m_iinc (pc := 116) C.1 dX12_like_116 hl (by decide) (q0 := 2) rfl (fun v => [(2, .int v), (0, .ref (b + r0)), (1, .int (mI x1))]) (fun _ => rfl) (fun v4 ls ev4 ov4 hl => ?_)
    replace h := h v4 ev4
    refine m_goto (pc := 119) (tgt := 97) C.1 dX12_like_119 (by decide) ?_
    exact hko97 r0 kr0 x1 ox1 v4 ov4 S3 _ _ _ (lv_sub hl [1, 2, 0] rfl) hW3 hS h
def w_X12_like_97 (N : Nat) (Q : mSt → Int → Prop) (ko122 : Int → mSt → Prop) : Nat → Nat → Int → Int → mSt → Prop
  | 0 => fun _ _ _ _ => False
  | k + 1 => w_X12_like_97b N Q (w_X12_like_97 N Q ko122 k) ko122
theorem W_X12_like_97 (C : mC p l s m args meth c cX12_like "MoonWashModel" 3 (some FieldType.int) g) (N : Nat) {Q : mSt → Int → Prop} {ko122 : Int → mSt → Prop} (hko122 : ∀ (x1 : Int) (ox1 : okI x1) (S : mSt) (H : Heap) (locs : List Loc) (ls : Array Slot), lv_has ls 3 [(1, .int (mI x1))] → mW g b KM S H → va_S (mA b KM s.heap.size) s.heap H locs → ko122 x1 S → W p l e { frames := 122, cells := 0, slots := 0, locals := 3205 } s m args below meth c H locs 0 0 (vx_MQ below (mQi g b KM Q (mA b KM s.heap.size)) (mEx g b KM (fun _ _ => False) (mA b KM s.heap.size)) args s 0 0 (mA b KM s.heap.size)) (F0 m 122 ls [])) : ∀ (k : Nat) (r0 : Nat) (kr0 : KM r0 = (0, 10, 0)) (x1 : Int) (ox1 : okI x1) (x2 : Int) (ox2 : okI x2) (S : mSt) (H : Heap) (locs : List Loc) (ls : Array Slot) (hl : lv_has ls 3 [(0, .ref (b + r0)), (1, .int (mI x1)), (2, .int (mI x2))]) (hW : mW g b KM S H) (hS : va_S (mA b KM s.heap.size) s.heap H locs) (h : w_X12_like_97 N Q ko122 k r0 x1 x2 S), W p l e { frames := 122, cells := 0, slots := 0, locals := 3205 } s m args below meth c H locs 0 0 (vx_MQ below (mQi g b KM Q (mA b KM s.heap.size)) (mEx g b KM (fun _ _ => False) (mA b KM s.heap.size)) args s 0 0 (mA b KM s.heap.size)) (F0 m 97 ls []) := by
  intro k
  induction k with
  | zero => intro r0 kr0 x1 ox1 x2 ox2 S H locs ls hl hW hS h; exact False.elim h
  | succ k ih => intro r0 kr0 x1 ox1 x2 ox2 S H locs ls hl hW hS h; exact W_X12_like_97b C N ih hko122 r0 kr0 x1 ox1 x2 ox2 S H locs ls hl hW hS h
end
def w_X12_like (N : Nat) (r0 : Nat) (S : mSt) (Q : mSt → Int → Prop) : Prop :=
  ∀ S1 : mSt, S1 = mup S r0 0 0 → (((S1 r0 4) ≠ 0 → w_X12_looks N r0 S1 (fun (S2 : mSt) => ∀ v3 : Int, v3 = 0 → w_X12_like_20 N Q (fun (r0_4 : Nat) (S_4 : mSt) => ∀ v5 : Int, v5 = 0 → ∀ v6 : Int, v6 = 0 → w_X12_like_61 N Q (fun (r0_7 : Nat) (x1_7 : Int) (S_7 : mSt) => ∀ v8 : Int, v8 = 0 → w_X12_like_97 N Q (fun (x1_9 : Int) (S_9 : mSt) => Q S_9 x1_9) N r0_7 x1_7 v8 S_7) N r0_4 v5 v6 S_4) N r0 v3 S2)) ∧ ((S1 r0 4) = 0 → Q S1 (-1)))
theorem T_X12_like {l : Launch} (hl0 : l.stackTraces = false) {g : mG} {b : Nat} (N : Nat) (r0 : Nat) (kr0 : KM r0 = (0, 10, 0)) {S : mSt} {Q : mSt → Int → Prop} (h : w_X12_like N r0 S Q) (sz : Nat) : vx_Met l yX12_like (Cond.code yX12_like cX12_like 3 (some FieldType.int) :: wsG) { frames := 122, cells := 0, slots := 0, locals := 3205 } (mPc g b KM S [.ref (b + r0)] sz) (mQi g b KM Q (mA b KM sz)) (mEx g b KM (fun _ _ => False) (mA b KM sz)) 0 0 (mA b KM sz) :=
  m_of (av := [.ref (b + r0)]) (Qf := fun A => mQi g b KM Q A) (Xf := fun A => mEx g b KM (fun _ _ => False) A) (by decide) (Nat.le_of_ble_eq_true rfl) (fun p e s m args below meth c ls X hK hml hr hlk hout hnm hW hl => by
    have C : mC p l s m args meth c cX12_like "MoonWashModel" 3 (some FieldType.int) g := ⟨X, hK, hml, hr, hlk, hout, hl0⟩
    have hS : va_S (mA b KM s.heap.size) s.heap s.heap [] := va_S.rf
    have hl : lv_has ls 3 [(0, .ref (b + r0))] := hl
    unfold w_X12_like at h
    refine m_aload_n (pc := 0) C.1 dX12_like_0 rfl hl 0 rfl ?_
    refine m_iconst (pc := 1) C.1 dX12_like_1 ?_
    refine p_10_0 (pc := 2) C hW hS kr0 q_1383 (by decide : okI 0) dX12_like_2 (fun S1 H locs e1 hW1 hS => ?_)
    replace h := h S1 e1
    refine m_aload_n (pc := 5) C.1 dX12_like_5 rfl hl 0 rfl ?_
    refine g_10_4 (pc := 6) C hW1 kr0 q_1387 dX12_like_6 ?_
    refine m_if_ne (pc := 9) (tgt := 14) C.1 (hW1.2.1 _ _) dX12_like_9 (by decide) (fun hc => ?_) (fun hc => ?_)
    · replace h := h.1 hc
      refine m_aload_n (pc := 14) C.1 dX12_like_14 rfl hl 0 rfl ?_
      refine m_callVv (pc := 15) C.1 C.2.2.1 hl.1 C.2.1 hW1 hS (As := []) (rest := []) (r := r0) (T_X12_looks C.2.2.2.2.2.2 N r0 kr0 h) kr0 rfl q_1868 q_1870 q_76 q_92 q_1871 pl_X12_looks (by decide) (Nat.le_of_ble_eq_true rfl) dX12_like_15 (fun S2 H locs h hW2 hS => ?_)
      refine m_iconst (pc := 18) C.1 dX12_like_18 ?_
      refine m_istore_n (pc := 19) C.1 dX12_like_19 rfl hl (by decide) (fun v => [(1, .int v), (0, .ref (b + r0))]) (fun _ => rfl) (by decide : okI 0) (fun v3 ls ev3 ov3 hl => ?_)
      replace h := h v3 ev3
      refine W_X12_like_20 C N ?_ N r0 kr0 v3 ov3 S2 _ _ _ (lv_sub hl [1, 0] rfl) hW2 hS h
      · intro r0_4 kr0_4 S_4 H locs ls hl hW_4 hS h
        refine m_iconst (pc := 57) C.1 dX12_like_57 ?_
        refine m_istore_n (pc := 58) C.1 dX12_like_58 rfl hl (by decide) (fun v => [(1, .int v), (0, .ref (b + r0_4))]) (fun _ => rfl) (by decide : okI 0) (fun v5 ls ev5 ov5 hl => ?_)
        replace h := h v5 ev5
        refine m_iconst (pc := 59) C.1 dX12_like_59 ?_
        refine m_istore_n (pc := 60) C.1 dX12_like_60 rfl hl (by decide) (fun v => [(2, .int v), (1, .int (mI v5)), (0, .ref (b + r0_4))]) (fun _ => rfl) (by decide : okI 0) (fun v6 ls ev6 ov6 hl => ?_)
        replace h := h v6 ev6
        refine W_X12_like_61 C N ?_ N r0_4 kr0_4 v5 ov5 v6 ov6 S_4 _ _ _ (lv_sub hl [2, 1, 0] rfl) hW_4 hS h
        · intro r0_7 kr0_7 x1_7 ox1_7 S_7 H locs ls hl hW_7 hS h
          refine m_iconst (pc := 95) C.1 dX12_like_95 ?_
          refine m_istore_n (pc := 96) C.1 dX12_like_96 rfl hl (by decide) (fun v => [(2, .int v), (0, .ref (b + r0_7)), (1, .int (mI x1_7))]) (fun _ => rfl) (by decide : okI 0) (fun v8 ls ev8 ov8 hl => ?_)
          replace h := h v8 ev8
          refine W_X12_like_97 C N ?_ N r0_7 kr0_7 x1_7 ox1_7 v8 ov8 S_7 _ _ _ (lv_sub hl [1, 2, 0] rfl) hW_7 hS h
          · intro x1_9 ox1_9 S_9 H locs ls hl hW_9 hS h
            refine m_iload_n (pc := 122) C.1 dX12_like_122 rfl hl 0 rfl ?_
            exact m_iret (pc := 123) C.1 C.2.2.2.1 C.2.2.2.2.1 hW_9 hS ox1_9 h (by decide) (by decide) dX12_like_123
    · replace h := h.2 hc
      refine m_iconst (pc := 12) C.1 dX12_like_12 ?_
      exact m_iret (pc := 13) C.1 C.2.2.2.1 C.2.2.2.2.1 hW1 hS (by decide : okI (-1)) h (by decide) (by decide) dX12_like_13) sz
section
variable {p : Program} {l : Launch} {e : Env} {s : State} {m : MethodId} {args : Array Value} {below : List Frame} {meth : Method} {c : Code} {g : mG} {b : Nat}
def w_X12_stains_4b (N : Nat) (Q : mSt → Int → Prop) (ko4 : Nat → Int → Int → mSt → Prop) (ko28 : Int → mSt → Prop) (r0 : Nat) (x1 : Int) (x2 : Int) (S : mSt) : Prop :=
  ((8 ≤ x2 → ko28 x1 S) ∧ (x2 < 8 → w_X12_of N r0 x2 3 S (fun (S1 : mSt) (v1 : Int) => w_X12_bits N v1 S1 (fun (S2 : mSt) (v2 : Int) => ∀ v3 : Int, v3 = (nm (x1 + v2)) → ∀ v4 : Int, v4 = nm (x2 + 1) → ko4 r0 v3 v4 S2))))
theorem W_X12_stains_4b (C : mC p l s m args meth c cX12_stains "MoonWashModel" 3 (some FieldType.int) g) (N : Nat) {Q : mSt → Int → Prop} {ko4 : Nat → Int → Int → mSt → Prop} {ko28 : Int → mSt → Prop} (hko4 : ∀ (r0 : Nat) (kr0 : KM r0 = (0, 10, 0)) (x1 : Int) (ox1 : okI x1) (x2 : Int) (ox2 : okI x2) (S : mSt) (H : Heap) (locs : List Loc) (ls : Array Slot), lv_has ls 3 [(0, .ref (b + r0)), (1, .int (mI x1)), (2, .int (mI x2))] → mW g b KM S H → va_S (mA b KM s.heap.size) s.heap H locs → ko4 r0 x1 x2 S → W p l e { frames := 1, cells := 0, slots := 0, locals := 22 } s m args below meth c H locs 0 0 (vx_MQ below (mQi g b KM Q (mA b KM s.heap.size)) (mEx g b KM (fun _ _ => False) (mA b KM s.heap.size)) args s 0 0 (mA b KM s.heap.size)) (F0 m 4 ls [])) (hko28 : ∀ (x1 : Int) (ox1 : okI x1) (S : mSt) (H : Heap) (locs : List Loc) (ls : Array Slot), lv_has ls 3 [(1, .int (mI x1))] → mW g b KM S H → va_S (mA b KM s.heap.size) s.heap H locs → ko28 x1 S → W p l e { frames := 1, cells := 0, slots := 0, locals := 22 } s m args below meth c H locs 0 0 (vx_MQ below (mQi g b KM Q (mA b KM s.heap.size)) (mEx g b KM (fun _ _ => False) (mA b KM s.heap.size)) args s 0 0 (mA b KM s.heap.size)) (F0 m 28 ls [])) (r0 : Nat) (kr0 : KM r0 = (0, 10, 0)) (x1 : Int) (ox1 : okI x1) (x2 : Int) (ox2 : okI x2) (S : mSt) (H : Heap) (locs : List Loc) (ls : Array Slot) (hl : lv_has ls 3 [(0, .ref (b + r0)), (1, .int (mI x1)), (2, .int (mI x2))]) (hW : mW g b KM S H) (hS : va_S (mA b KM s.heap.size) s.heap H locs) (h : w_X12_stains_4b N Q ko4 ko28 r0 x1 x2 S) : W p l e { frames := 1, cells := 0, slots := 0, locals := 22 } s m args below meth c H locs 0 0 (vx_MQ below (mQi g b KM Q (mA b KM s.heap.size)) (mEx g b KM (fun _ _ => False) (mA b KM s.heap.size)) args s 0 0 (mA b KM s.heap.size)) (F0 m 4 ls []) := by
  unfold w_X12_stains_4b at h
  refine m_iload_n (pc := 4) C.1 dX12_stains_4 rfl hl 2 rfl ?_
  refine m_bipush (pc := 5) C.1 dX12_stains_5 rfl ?_
  refine m_icmp_ge (pc := 7) (tgt := 28) C.1 ox2 (by decide : okI 8) dX12_stains_7 (by decide) (fun hc => ?_) (fun hc => ?_)
  · replace h := h.1 hc
    exact hko28 x1 ox1 S _ _ _ (lv_sub hl [1] rfl) hW hS h
  · replace h := h.2 hc
    refine m_iload_n (pc := 10) C.1 dX12_stains_10 rfl hl 1 rfl ?_
    refine m_aload_n (pc := 11) C.1 dX12_stains_11 rfl hl 0 rfl ?_
    refine m_iload_n (pc := 12) C.1 dX12_stains_12 rfl hl 2 rfl ?_
    refine m_iconst (pc := 13) C.1 dX12_stains_13 ?_
    refine m_callVi (pc := 14) C.1 C.2.2.1 hl.1 C.2.1 hW hS (As := [.int (mI x2), .int (mI 3)]) (rest := [.int (mI x1)]) (r := r0) (T_X12_of C.2.2.2.2.2.2 N r0 kr0 x2 ox2 3 (by decide : okI 3) h) kr0 rfl q_1630 q_1632 q_48 q_92 q_1633 pl_X12_of (by decide) (Nat.le_of_ble_eq_true rfl) dX12_stains_14 (fun v1 S1 H locs ov1 h hW1 hS => ?_)
    refine m_callSi (pc := 17) C.1 C.2.2.1 hl.1 C.2.1 hW1 hS (As := [.int (mI v1)]) (rest := [.int (mI x1)]) (T_X12_bits C.2.2.2.2.2.2 N v1 ov1 h) q_1646 q_1647 q_92 q_1648 pl_X12_bits (by decide) (Nat.le_of_ble_eq_true rfl) dX12_stains_17 (fun v2 S2 H locs ov2 h hW2 hS => ?_)
    refine m_iadd (pc := 20) C.1 dX12_stains_20 ?_
    refine m_istore_n (pc := 21) C.1 dX12_stains_21 rfl hl (by decide) (fun v => [(1, .int v), (0, .ref (b + r0)), (2, .int (mI x2))]) (fun _ => rfl) (nm_ok _) (fun v3 ls ev3 ov3 hl => ?_)
    replace h := h v3 ev3
    refine m_iinc (pc := 22) C.1 dX12_stains_22 hl (by decide) (q0 := 2) rfl (fun v => [(2, .int v), (1, .int (mI v3)), (0, .ref (b + r0))]) (fun _ => rfl) (fun v4 ls ev4 ov4 hl => ?_)
    replace h := h v4 ev4
    refine m_goto (pc := 25) (tgt := 4) C.1 dX12_stains_25 (by decide) ?_
    exact hko4 r0 kr0 v3 ov3 v4 ov4 S2 _ _ _ (lv_sub hl [2, 1, 0] rfl) hW2 hS h
def w_X12_stains_4 (N : Nat) (Q : mSt → Int → Prop) (ko28 : Int → mSt → Prop) : Nat → Nat → Int → Int → mSt → Prop
  | 0 => fun _ _ _ _ => False
  | k + 1 => w_X12_stains_4b N Q (w_X12_stains_4 N Q ko28 k) ko28
theorem W_X12_stains_4 (C : mC p l s m args meth c cX12_stains "MoonWashModel" 3 (some FieldType.int) g) (N : Nat) {Q : mSt → Int → Prop} {ko28 : Int → mSt → Prop} (hko28 : ∀ (x1 : Int) (ox1 : okI x1) (S : mSt) (H : Heap) (locs : List Loc) (ls : Array Slot), lv_has ls 3 [(1, .int (mI x1))] → mW g b KM S H → va_S (mA b KM s.heap.size) s.heap H locs → ko28 x1 S → W p l e { frames := 1, cells := 0, slots := 0, locals := 22 } s m args below meth c H locs 0 0 (vx_MQ below (mQi g b KM Q (mA b KM s.heap.size)) (mEx g b KM (fun _ _ => False) (mA b KM s.heap.size)) args s 0 0 (mA b KM s.heap.size)) (F0 m 28 ls [])) : ∀ (k : Nat) (r0 : Nat) (kr0 : KM r0 = (0, 10, 0)) (x1 : Int) (ox1 : okI x1) (x2 : Int) (ox2 : okI x2) (S : mSt) (H : Heap) (locs : List Loc) (ls : Array Slot) (hl : lv_has ls 3 [(0, .ref (b + r0)), (1, .int (mI x1)), (2, .int (mI x2))]) (hW : mW g b KM S H) (hS : va_S (mA b KM s.heap.size) s.heap H locs) (h : w_X12_stains_4 N Q ko28 k r0 x1 x2 S), W p l e { frames := 1, cells := 0, slots := 0, locals := 22 } s m args below meth c H locs 0 0 (vx_MQ below (mQi g b KM Q (mA b KM s.heap.size)) (mEx g b KM (fun _ _ => False) (mA b KM s.heap.size)) args s 0 0 (mA b KM s.heap.size)) (F0 m 4 ls []) := by
  intro k
  induction k with
  | zero => intro r0 kr0 x1 ox1 x2 ox2 S H locs ls hl hW hS h; exact False.elim h
  | succ k ih => intro r0 kr0 x1 ox1 x2 ox2 S H locs ls hl hW hS h; exact W_X12_stains_4b C N ih hko28 r0 kr0 x1 ox1 x2 ox2 S H locs ls hl hW hS h
end
def w_X12_stains (N : Nat) (r0 : Nat) (S : mSt) (Q : mSt → Int → Prop) : Prop :=
  ∀ v1 : Int, v1 = 0 → ∀ v2 : Int, v2 = 0 → w_X12_stains_4 N Q (fun (x1_3 : Int) (S_3 : mSt) => Q S_3 x1_3) N r0 v1 v2 S
theorem T_X12_stains {l : Launch} (hl0 : l.stackTraces = false) {g : mG} {b : Nat} (N : Nat) (r0 : Nat) (kr0 : KM r0 = (0, 10, 0)) {S : mSt} {Q : mSt → Int → Prop} (h : w_X12_stains N r0 S Q) (sz : Nat) : vx_Met l yX12_stains (Cond.code yX12_stains cX12_stains 3 (some FieldType.int) :: wsG) { frames := 1, cells := 0, slots := 0, locals := 22 } (mPc g b KM S [.ref (b + r0)] sz) (mQi g b KM Q (mA b KM sz)) (mEx g b KM (fun _ _ => False) (mA b KM sz)) 0 0 (mA b KM sz) :=
  m_of (av := [.ref (b + r0)]) (Qf := fun A => mQi g b KM Q A) (Xf := fun A => mEx g b KM (fun _ _ => False) A) (by decide) (Nat.le_of_ble_eq_true rfl) (fun p e s m args below meth c ls X hK hml hr hlk hout hnm hW hl => by
    have C : mC p l s m args meth c cX12_stains "MoonWashModel" 3 (some FieldType.int) g := ⟨X, hK, hml, hr, hlk, hout, hl0⟩
    have hS : va_S (mA b KM s.heap.size) s.heap s.heap [] := va_S.rf
    have hl : lv_has ls 3 [(0, .ref (b + r0))] := hl
    unfold w_X12_stains at h
    refine m_iconst (pc := 0) C.1 dX12_stains_0 ?_
    refine m_istore_n (pc := 1) C.1 dX12_stains_1 rfl hl (by decide) (fun v => [(1, .int v), (0, .ref (b + r0))]) (fun _ => rfl) (by decide : okI 0) (fun v1 ls ev1 ov1 hl => ?_)
    replace h := h v1 ev1
    refine m_iconst (pc := 2) C.1 dX12_stains_2 ?_
    refine m_istore_n (pc := 3) C.1 dX12_stains_3 rfl hl (by decide) (fun v => [(2, .int v), (1, .int (mI v1)), (0, .ref (b + r0))]) (fun _ => rfl) (by decide : okI 0) (fun v2 ls ev2 ov2 hl => ?_)
    replace h := h v2 ev2
    refine W_X12_stains_4 C N ?_ N r0 kr0 v1 ov1 v2 ov2 S _ _ _ (lv_sub hl [2, 1, 0] rfl) hW hS h
    · intro x1_3 ox1_3 S_3 H locs ls hl hW_3 hS h
      refine m_iload_n (pc := 28) C.1 dX12_stains_28 rfl hl 0 rfl ?_
      exact m_iret (pc := 29) C.1 C.2.2.2.1 C.2.2.2.2.1 hW_3 hS ox1_3 h (by decide) (by decide) dX12_stains_29) sz
section
variable {p : Program} {l : Launch} {e : Env} {s : State} {m : MethodId} {args : Array Value} {below : List Frame} {meth : Method} {c : Code} {g : mG} {b : Nat}
def w_X12_trial_53 (N : Nat) (Q : mSt → Int → Prop)  (r0 : Nat) (xs0 : Int) (S : mSt) : Prop :=
  ∀ v1 : Int, v1 = xs0 → w_X12_comesBack N r0 S (fun (S2 : mSt) => Q S2 v1)
theorem W_X12_trial_53 (C : mC p l s m args meth c cX12_trial "MoonWashModel" 5 (some FieldType.int) g) (N : Nat) {Q : mSt → Int → Prop}   (r0 : Nat) (kr0 : KM r0 = (0, 10, 0)) (xs0 : Int) (oxs0 : okI xs0) (S : mSt) (H : Heap) (locs : List Loc) (ls : Array Slot) (hl : lv_has ls 5 [(0, .ref (b + r0))]) (hW : mW g b KM S H) (hS : va_S (mA b KM s.heap.size) s.heap H locs) (h : w_X12_trial_53 N Q  r0 xs0 S) : W p l e { frames := 124, cells := 0, slots := 0, locals := 3252 } s m args below meth c H locs 0 0 (vx_MQ below (mQi g b KM Q (mA b KM s.heap.size)) (mEx g b KM (fun _ _ => False) (mA b KM s.heap.size)) args s 0 0 (mA b KM s.heap.size)) (F0 m 53 ls [.int (mI xs0)]) := by
  unfold w_X12_trial_53 at h
  refine m_istore (pc := 53) C.1 dX12_trial_53 hl (by decide) (fun v => [(4, .int v), (0, .ref (b + r0))]) (fun _ => rfl) oxs0 (fun v1 ls ev1 ov1 hl => ?_)
  replace h := h v1 ev1
  refine m_aload_n (pc := 55) C.1 dX12_trial_55 rfl hl 1 rfl ?_
  refine m_callVv (pc := 56) C.1 C.2.2.1 hl.1 C.2.1 hW hS (As := []) (rest := []) (r := r0) (T_X12_comesBack C.2.2.2.2.2.2 N r0 kr0 h) kr0 rfl q_1610 q_1612 q_47 q_92 q_1613 pl_X12_comesBack (by decide) (Nat.le_of_ble_eq_true rfl) dX12_trial_56 (fun S2 H locs h hW2 hS => ?_)
  refine m_iload (pc := 59) C.1 dX12_trial_59 hl 0 rfl ?_
  exact m_iret (pc := 61) C.1 C.2.2.2.1 C.2.2.2.2.1 hW2 hS ov1 h (by decide) (by decide) dX12_trial_61
def w_X12_trial_16 (N : Nat) (Q : mSt → Int → Prop)  (r0 : Nat) (x1 : Int) (x2 : Int) (xs0 : Int) (rs1 : Nat) (S : mSt) : Prop :=
  ∀ S1 : mSt, S1 = mup S rs1 0 xs0 → (((S1 r0 0) ≤ 0 → w_X12_putsAside N r0 S1 (fun (S2 : mSt) => w_X12_goes N r0 x1 S2 (fun (S3 : mSt) (v3 : Int) => ∀ v4 : Int, v4 = v3 → ((x2 = 0 → w_X12_lightOfAll N r0 S3 (fun (S5 : mSt) (v5 : Int) => w_X12_trial_53 N Q  r0 v5 S5)) ∧ (x2 ≠ 0 → w_X12_stains N r0 S3 (fun (S6 : mSt) (v6 : Int) => w_X12_trial_53 N Q  r0 v6 S6)))))) ∧ (0 < (S1 r0 0) → Q S1 0))
theorem W_X12_trial_16 (C : mC p l s m args meth c cX12_trial "MoonWashModel" 5 (some FieldType.int) g) (N : Nat) {Q : mSt → Int → Prop}   (r0 : Nat) (kr0 : KM r0 = (0, 10, 0)) (x1 : Int) (ox1 : okI x1) (x2 : Int) (ox2 : okI x2) (xs0 : Int) (oxs0 : okI xs0) (rs1 : Nat) (krs1 : KM rs1 = (0, 10, 0)) (S : mSt) (H : Heap) (locs : List Loc) (ls : Array Slot) (hl : lv_has ls 5 [(0, .ref (b + r0)), (1, .int (mI x1)), (2, .int (mI x2))]) (hW : mW g b KM S H) (hS : va_S (mA b KM s.heap.size) s.heap H locs) (h : w_X12_trial_16 N Q  r0 x1 x2 xs0 rs1 S) : W p l e { frames := 124, cells := 0, slots := 0, locals := 3252 } s m args below meth c H locs 0 0 (vx_MQ below (mQi g b KM Q (mA b KM s.heap.size)) (mEx g b KM (fun _ _ => False) (mA b KM s.heap.size)) args s 0 0 (mA b KM s.heap.size)) (F0 m 16 ls [.int (mI xs0), .ref (b + rs1)]) := by
  unfold w_X12_trial_16 at h
  refine p_10_0 (pc := 16) C hW hS krs1 q_1383 oxs0 dX12_trial_16 (fun S1 H locs e1 hW1 hS => ?_)
  replace h := h S1 e1
  refine m_aload_n (pc := 19) C.1 dX12_trial_19 rfl hl 0 rfl ?_
  refine g_10_0 (pc := 20) C hW1 kr0 q_1383 dX12_trial_20 ?_
  refine m_if_le (pc := 23) (tgt := 28) C.1 (hW1.2.1 _ _) dX12_trial_23 (by decide) (fun hc => ?_) (fun hc => ?_)
  · replace h := h.1 hc
    refine m_aload_n (pc := 28) C.1 dX12_trial_28 rfl hl 0 rfl ?_
    refine m_callVv (pc := 29) C.1 C.2.2.1 hl.1 C.2.1 hW1 hS (As := []) (rest := []) (r := r0) (T_X12_putsAside C.2.2.2.2.2.2 N r0 kr0 h) kr0 rfl q_1482 q_1484 q_23 q_92 q_1485 pl_X12_putsAside (by decide) (Nat.le_of_ble_eq_true rfl) dX12_trial_29 (fun S2 H locs h hW2 hS => ?_)
    refine m_aload_n (pc := 32) C.1 dX12_trial_32 rfl hl 0 rfl ?_
    refine m_iload_n (pc := 33) C.1 dX12_trial_33 rfl hl 1 rfl ?_
    refine m_callVi (pc := 34) C.1 C.2.2.1 hl.1 C.2.1 hW2 hS (As := [.int (mI x1)]) (rest := []) (r := r0) (T_X12_goes C.2.2.2.2.2.2 N r0 kr0 x1 ox1 h) kr0 rfl q_1727 q_1729 q_61 q_92 q_1730 pl_X12_goes (by decide) (Nat.le_of_ble_eq_true rfl) dX12_trial_34 (fun v3 S3 H locs ov3 h hW3 hS => ?_)
    refine m_istore_n (pc := 37) C.1 dX12_trial_37 rfl hl (by decide) (fun v => [(3, .int v), (0, .ref (b + r0)), (1, .int (mI x1)), (2, .int (mI x2))]) (fun _ => rfl) ov3 (fun v4 ls ev4 ov4 hl => ?_)
    replace h := h v4 ev4
    refine m_iload_n (pc := 38) C.1 dX12_trial_38 rfl hl 3 rfl ?_
    refine m_if_eq (pc := 39) (tgt := 49) C.1 ox2 dX12_trial_39 (by decide) (fun hc => ?_) (fun hc => ?_)
    · replace h := h.1 hc
      refine m_aload_n (pc := 49) C.1 dX12_trial_49 rfl hl 1 rfl ?_
      refine m_callVi (pc := 50) C.1 C.2.2.1 hl.1 C.2.1 hW3 hS (As := []) (rest := []) (r := r0) (T_X12_lightOfAll C.2.2.2.2.2.2 N r0 kr0 h) kr0 rfl q_1663 q_1665 q_54 q_92 q_1666 pl_X12_lightOfAll (by decide) (Nat.le_of_ble_eq_true rfl) dX12_trial_50 (fun v5 S5 H locs ov5 h hW5 hS => ?_)
      exact W_X12_trial_53 C N  r0 kr0 v5 ov5 S5 _ _ _ (lv_sub hl [1] rfl) hW5 hS h
    · replace h := h.2 hc
      refine m_aload_n (pc := 42) C.1 dX12_trial_42 rfl hl 1 rfl ?_
      refine m_callVi (pc := 43) C.1 C.2.2.1 hl.1 C.2.1 hW3 hS (As := []) (rest := []) (r := r0) (T_X12_stains C.2.2.2.2.2.2 N r0 kr0 h) kr0 rfl q_1884 q_1886 q_77 q_92 q_1887 pl_X12_stains (by decide) (Nat.le_of_ble_eq_true rfl) dX12_trial_43 (fun v6 S6 H locs ov6 h hW6 hS => ?_)
      refine m_goto (pc := 46) (tgt := 53) C.1 dX12_trial_46 (by decide) ?_
      exact W_X12_trial_53 C N  r0 kr0 v6 ov6 S6 _ _ _ (lv_sub hl [1] rfl) hW6 hS h
  · replace h := h.2 hc
    refine m_iconst (pc := 26) C.1 dX12_trial_26 ?_
    exact m_iret (pc := 27) C.1 C.2.2.2.1 C.2.2.2.2.1 hW1 hS (by decide : okI 0) h (by decide) (by decide) dX12_trial_27
end
def w_X12_trial (N : Nat) (r0 : Nat) (x1 : Int) (x2 : Int) (S : mSt) (Q : mSt → Int → Prop) : Prop :=
  w_X12_isIn N x1 0 40 S (fun (S1 : mSt) (v1 : Int) => ((v1 ≠ 0 → w_X12_trial_16 N Q  r0 x1 x2 0 r0 S1) ∧ (v1 = 0 → w_X12_trial_16 N Q  r0 x1 x2 1 r0 S1)))
theorem T_X12_trial {l : Launch} (hl0 : l.stackTraces = false) {g : mG} {b : Nat} (N : Nat) (r0 : Nat) (kr0 : KM r0 = (0, 10, 0)) (x1 : Int) (ox1 : okI x1) (x2 : Int) (ox2 : okI x2) {S : mSt} {Q : mSt → Int → Prop} (h : w_X12_trial N r0 x1 x2 S Q) (sz : Nat) : vx_Met l yX12_trial (Cond.code yX12_trial cX12_trial 5 (some FieldType.int) :: wsG) { frames := 124, cells := 0, slots := 0, locals := 3252 } (mPc g b KM S [.ref (b + r0), .int (mI x1), .int (mI x2)] sz) (mQi g b KM Q (mA b KM sz)) (mEx g b KM (fun _ _ => False) (mA b KM sz)) 0 0 (mA b KM sz) :=
  m_of (av := [.ref (b + r0), .int (mI x1), .int (mI x2)]) (Qf := fun A => mQi g b KM Q A) (Xf := fun A => mEx g b KM (fun _ _ => False) A) (by decide) (Nat.le_of_ble_eq_true rfl) (fun p e s m args below meth c ls X hK hml hr hlk hout hnm hW hl => by
    have C : mC p l s m args meth c cX12_trial "MoonWashModel" 5 (some FieldType.int) g := ⟨X, hK, hml, hr, hlk, hout, hl0⟩
    have hS : va_S (mA b KM s.heap.size) s.heap s.heap [] := va_S.rf
    have hl : lv_has ls 5 [(0, .ref (b + r0)), (1, .int (mI x1)), (2, .int (mI x2))] := hl
    unfold w_X12_trial at h
    refine m_aload_n (pc := 0) C.1 dX12_trial_0 rfl hl 0 rfl ?_
    refine m_iload_n (pc := 1) C.1 dX12_trial_1 rfl hl 1 rfl ?_
    refine m_iconst (pc := 2) C.1 dX12_trial_2 ?_
    refine m_bipush (pc := 3) C.1 dX12_trial_3 rfl ?_
    refine m_callSi (pc := 5) C.1 C.2.2.1 hl.1 C.2.1 hW hS (As := [.int (mI x1), .int (mI 0), .int (mI 40)]) (rest := [.ref (b + r0)]) (T_X12_isIn C.2.2.2.2.2.2 N x1 ox1 0 (by decide : okI 0) 40 (by decide : okI 40) h) q_1475 q_1476 q_92 q_1477 pl_X12_isIn (by decide) (Nat.le_of_ble_eq_true rfl) dX12_trial_5 (fun v1 S1 H locs ov1 h hW1 hS => ?_)
    refine m_if_ne (pc := 8) (tgt := 15) C.1 ov1 dX12_trial_8 (by decide) (fun hc => ?_) (fun hc => ?_)
    · replace h := h.1 hc
      refine m_iconst (pc := 15) C.1 dX12_trial_15 ?_
      exact W_X12_trial_16 C N  r0 kr0 x1 ox1 x2 ox2 0 (by decide : okI 0) r0 kr0 S1 _ _ _ (lv_sub hl [0, 1, 2] rfl) hW1 hS h
    · replace h := h.2 hc
      refine m_iconst (pc := 11) C.1 dX12_trial_11 ?_
      refine m_goto (pc := 12) (tgt := 16) C.1 dX12_trial_12 (by decide) ?_
      exact W_X12_trial_16 C N  r0 kr0 x1 ox1 x2 ox2 1 (by decide : okI 1) r0 kr0 S1 _ _ _ (lv_sub hl [0, 1, 2] rfl) hW1 hS h) sz
section
variable {p : Program} {l : Launch} {e : Env} {s : State} {m : MethodId} {args : Array Value} {below : List Frame} {meth : Method} {c : Code} {g : mG} {b : Nat}
def w_X12_span_99 (N : Nat) (Q : mSt → Int → Prop) (ko37 : Nat → Int → Int → Int → Int → mSt → Prop) (r0 : Nat) (x1 : Int) (x2 : Int) (x4 : Int) (xs0 : Int) (S : mSt) : Prop :=
  ∀ v1 : Int, v1 = xs0 → ∀ v2 : Int, v2 = nm (x4 + 1) → ko37 r0 x1 x2 v1 v2 S
theorem W_X12_span_99 (C : mC p l s m args meth c cX12_span "MoonWashModel" 7 (some FieldType.int) g) (N : Nat) {Q : mSt → Int → Prop} {ko37 : Nat → Int → Int → Int → Int → mSt → Prop} (hko37 : ∀ (r0 : Nat) (kr0 : KM r0 = (0, 10, 0)) (x1 : Int) (ox1 : okI x1) (x2 : Int) (ox2 : okI x2) (x3 : Int) (ox3 : okI x3) (x4 : Int) (ox4 : okI x4) (S : mSt) (H : Heap) (locs : List Loc) (ls : Array Slot), lv_has ls 7 [(0, .ref (b + r0)), (1, .int (mI x1)), (2, .int (mI x2)), (3, .int (mI x3)), (4, .int (mI x4))] → mW g b KM S H → va_S (mA b KM s.heap.size) s.heap H locs → ko37 r0 x1 x2 x3 x4 S → W p l e { frames := 124, cells := 0, slots := 0, locals := 3252 } s m args below meth c H locs 0 0 (vx_MQ below (mQi g b KM Q (mA b KM s.heap.size)) (mEx g b KM (fun _ _ => False) (mA b KM s.heap.size)) args s 0 0 (mA b KM s.heap.size)) (F0 m 37 ls [])) (r0 : Nat) (kr0 : KM r0 = (0, 10, 0)) (x1 : Int) (ox1 : okI x1) (x2 : Int) (ox2 : okI x2) (x4 : Int) (ox4 : okI x4) (xs0 : Int) (oxs0 : okI xs0) (S : mSt) (H : Heap) (locs : List Loc) (ls : Array Slot) (hl : lv_has ls 7 [(0, .ref (b + r0)), (1, .int (mI x1)), (2, .int (mI x2)), (4, .int (mI x4))]) (hW : mW g b KM S H) (hS : va_S (mA b KM s.heap.size) s.heap H locs) (h : w_X12_span_99 N Q ko37 r0 x1 x2 x4 xs0 S) : W p l e { frames := 124, cells := 0, slots := 0, locals := 3252 } s m args below meth c H locs 0 0 (vx_MQ below (mQi g b KM Q (mA b KM s.heap.size)) (mEx g b KM (fun _ _ => False) (mA b KM s.heap.size)) args s 0 0 (mA b KM s.heap.size)) (F0 m 99 ls [.int (mI xs0)]) := by
  unfold w_X12_span_99 at h
  refine m_istore_n (pc := 99) C.1 dX12_span_99 rfl hl (by decide) (fun v => [(3, .int v), (0, .ref (b + r0)), (1, .int (mI x1)), (2, .int (mI x2)), (4, .int (mI x4))]) (fun _ => rfl) oxs0 (fun v1 ls ev1 ov1 hl => ?_)
  replace h := h v1 ev1
  refine m_iinc (pc := 100) C.1 dX12_span_100 hl (by decide) (q0 := 4) rfl (fun v => [(4, .int v), (3, .int (mI v1)), (0, .ref (b + r0)), (1, .int (mI x1)), (2, .int (mI x2))]) (fun _ => rfl) (fun v2 ls ev2 ov2 hl => ?_)
  replace h := h v2 ev2
  refine m_goto (pc := 103) (tgt := 37) C.1 dX12_span_103 (by decide) ?_
  exact hko37 r0 kr0 x1 ox1 x2 ox2 v1 ov1 v2 ov2 S _ _ _ (lv_sub hl [2, 3, 4, 1, 0] rfl) hW hS h
def w_X12_span_37b (N : Nat) (Q : mSt → Int → Prop) (ko37 : Nat → Int → Int → Int → Int → mSt → Prop) (ko106 : Int → mSt → Prop) (r0 : Nat) (x1 : Int) (x2 : Int) (x3 : Int) (x4 : Int) (S : mSt) : Prop :=
  ((6 < x4 → ko106 x3 S) ∧ (x4 ≤ 6 → ∀ S1 : mSt, S1 = mup S (r0 + 1) 12 x4 → w_X12_goes N r0 x1 S1 (fun (S2 : mSt) (v2 : Int) => ∀ v3 : Int, v3 = v2 → w_X12_lightOfAll N r0 S2 (fun (S4 : mSt) (v4 : Int) => ∀ v5 : Int, v5 = v4 → w_X12_comesBack N r0 S4 (fun (S6 : mSt) => ((x3 ≠ (-1) → ((x2 = 0 → w_X12_lesser N x3 v5 S6 (fun (S7 : mSt) (v7 : Int) => w_X12_span_99 N Q ko37 r0 x1 x2 x4 v7 S7)) ∧ (x2 ≠ 0 → w_X12_greater N x3 v5 S6 (fun (S8 : mSt) (v8 : Int) => w_X12_span_99 N Q ko37 r0 x1 x2 x4 v8 S8)))) ∧ (x3 = (-1) → w_X12_span_99 N Q ko37 r0 x1 x2 x4 v5 S6)))))))
theorem W_X12_span_37b (C : mC p l s m args meth c cX12_span "MoonWashModel" 7 (some FieldType.int) g) (N : Nat) {Q : mSt → Int → Prop} {ko37 : Nat → Int → Int → Int → Int → mSt → Prop} {ko106 : Int → mSt → Prop} (hko37 : ∀ (r0 : Nat) (kr0 : KM r0 = (0, 10, 0)) (x1 : Int) (ox1 : okI x1) (x2 : Int) (ox2 : okI x2) (x3 : Int) (ox3 : okI x3) (x4 : Int) (ox4 : okI x4) (S : mSt) (H : Heap) (locs : List Loc) (ls : Array Slot), lv_has ls 7 [(0, .ref (b + r0)), (1, .int (mI x1)), (2, .int (mI x2)), (3, .int (mI x3)), (4, .int (mI x4))] → mW g b KM S H → va_S (mA b KM s.heap.size) s.heap H locs → ko37 r0 x1 x2 x3 x4 S → W p l e { frames := 124, cells := 0, slots := 0, locals := 3252 } s m args below meth c H locs 0 0 (vx_MQ below (mQi g b KM Q (mA b KM s.heap.size)) (mEx g b KM (fun _ _ => False) (mA b KM s.heap.size)) args s 0 0 (mA b KM s.heap.size)) (F0 m 37 ls [])) (hko106 : ∀ (x3 : Int) (ox3 : okI x3) (S : mSt) (H : Heap) (locs : List Loc) (ls : Array Slot), lv_has ls 7 [(3, .int (mI x3))] → mW g b KM S H → va_S (mA b KM s.heap.size) s.heap H locs → ko106 x3 S → W p l e { frames := 124, cells := 0, slots := 0, locals := 3252 } s m args below meth c H locs 0 0 (vx_MQ below (mQi g b KM Q (mA b KM s.heap.size)) (mEx g b KM (fun _ _ => False) (mA b KM s.heap.size)) args s 0 0 (mA b KM s.heap.size)) (F0 m 106 ls [])) (r0 : Nat) (kr0 : KM r0 = (0, 10, 0)) (x1 : Int) (ox1 : okI x1) (x2 : Int) (ox2 : okI x2) (x3 : Int) (ox3 : okI x3) (x4 : Int) (ox4 : okI x4) (S : mSt) (H : Heap) (locs : List Loc) (ls : Array Slot) (hl : lv_has ls 7 [(0, .ref (b + r0)), (1, .int (mI x1)), (2, .int (mI x2)), (3, .int (mI x3)), (4, .int (mI x4))]) (hW : mW g b KM S H) (hS : va_S (mA b KM s.heap.size) s.heap H locs) (h : w_X12_span_37b N Q ko37 ko106 r0 x1 x2 x3 x4 S) : W p l e { frames := 124, cells := 0, slots := 0, locals := 3252 } s m args below meth c H locs 0 0 (vx_MQ below (mQi g b KM Q (mA b KM s.heap.size)) (mEx g b KM (fun _ _ => False) (mA b KM s.heap.size)) args s 0 0 (mA b KM s.heap.size)) (F0 m 37 ls []) := by
  unfold w_X12_span_37b at h
  refine m_iload (pc := 37) C.1 dX12_span_37 hl 4 rfl ?_
  refine m_bipush (pc := 39) C.1 dX12_span_39 rfl ?_
  refine m_icmp_gt (pc := 41) (tgt := 106) C.1 ox4 (by decide : okI 6) dX12_span_41 (by decide) (fun hc => ?_) (fun hc => ?_)
  · replace h := h.1 hc
    exact hko106 x3 ox3 S _ _ _ (lv_sub hl [3] rfl) hW hS h
  · replace h := h.2 hc
    refine m_aload_n (pc := 44) C.1 dX12_span_44 rfl hl 0 rfl ?_
    refine g_10_1 (pc := 45) C hW kr0 q_1384 dX12_span_45 ?_
    refine m_bipush (pc := 48) C.1 dX12_span_48 rfl ?_
    refine m_iload (pc := 50) C.1 dX12_span_50 hl 4 rfl ?_
    refine m_iast (pc := 52) C.1 C.2.1 hW hS (k_10_1 kr0) (by decide : okI 12) ox4 (by decide) (by decide) dX12_span_52 (fun S1 H locs e1 hW1 hS => ?_)
    replace h := h S1 e1
    refine m_aload_n (pc := 53) C.1 dX12_span_53 rfl hl 0 rfl ?_
    refine m_iload_n (pc := 54) C.1 dX12_span_54 rfl hl 1 rfl ?_
    refine m_callVi (pc := 55) C.1 C.2.2.1 hl.1 C.2.1 hW1 hS (As := [.int (mI x1)]) (rest := []) (r := r0) (T_X12_goes C.2.2.2.2.2.2 N r0 kr0 x1 ox1 h) kr0 rfl q_1727 q_1729 q_61 q_92 q_1730 pl_X12_goes (by decide) (Nat.le_of_ble_eq_true rfl) dX12_span_55 (fun v2 S2 H locs ov2 h hW2 hS => ?_)
    refine m_istore (pc := 58) C.1 dX12_span_58 hl (by decide) (fun v => [(5, .int v), (0, .ref (b + r0)), (1, .int (mI x1)), (2, .int (mI x2)), (3, .int (mI x3)), (4, .int (mI x4))]) (fun _ => rfl) ov2 (fun v3 ls ev3 ov3 hl => ?_)
    replace h := h v3 ev3
    refine m_aload_n (pc := 60) C.1 dX12_span_60 rfl hl 1 rfl ?_
    refine m_callVi (pc := 61) C.1 C.2.2.1 hl.1 C.2.1 hW2 hS (As := []) (rest := []) (r := r0) (T_X12_lightOfAll C.2.2.2.2.2.2 N r0 kr0 h) kr0 rfl q_1663 q_1665 q_54 q_92 q_1666 pl_X12_lightOfAll (by decide) (Nat.le_of_ble_eq_true rfl) dX12_span_61 (fun v4 S4 H locs ov4 h hW4 hS => ?_)
    refine m_istore (pc := 64) C.1 dX12_span_64 hl (by decide) (fun v => [(6, .int v), (5, .int (mI v3)), (0, .ref (b + r0)), (1, .int (mI x1)), (2, .int (mI x2)), (3, .int (mI x3)), (4, .int (mI x4))]) (fun _ => rfl) ov4 (fun v5 ls ev5 ov5 hl => ?_)
    replace h := h v5 ev5
    refine m_aload_n (pc := 66) C.1 dX12_span_66 rfl hl 2 rfl ?_
    refine m_callVv (pc := 67) C.1 C.2.2.1 hl.1 C.2.1 hW4 hS (As := []) (rest := []) (r := r0) (T_X12_comesBack C.2.2.2.2.2.2 N r0 kr0 h) kr0 rfl q_1610 q_1612 q_47 q_92 q_1613 pl_X12_comesBack (by decide) (Nat.le_of_ble_eq_true rfl) dX12_span_67 (fun S6 H locs h hW6 hS => ?_)
    refine m_iload_n (pc := 70) C.1 dX12_span_70 rfl hl 5 rfl ?_
    refine m_iconst (pc := 71) C.1 dX12_span_71 ?_
    refine m_icmp_ne (pc := 72) (tgt := 80) C.1 ox3 (by decide : okI (-1)) dX12_span_72 (by decide) (fun hc => ?_) (fun hc => ?_)
    · replace h := h.1 hc
      refine m_iload_n (pc := 80) C.1 dX12_span_80 rfl hl 4 rfl ?_
      refine m_if_eq (pc := 81) (tgt := 93) C.1 ox2 dX12_span_81 (by decide) (fun hc => ?_) (fun hc => ?_)
      · replace h := h.1 hc
        refine m_iload_n (pc := 93) C.1 dX12_span_93 rfl hl 5 rfl ?_
        refine m_iload (pc := 94) C.1 dX12_span_94 hl 0 rfl ?_
        refine m_callSi (pc := 96) C.1 C.2.2.1 hl.1 C.2.1 hW6 hS (As := [.int (mI x3), .int (mI v5)]) (rest := []) (T_X12_lesser C.2.2.2.2.2.2 N x3 ox3 v5 ov5 h) q_1649 q_1650 q_92 q_1651 pl_X12_lesser (by decide) (Nat.le_of_ble_eq_true rfl) dX12_span_96 (fun v7 S7 H locs ov7 h hW7 hS => ?_)
        exact W_X12_span_99 C N hko37 r0 kr0 x1 ox1 x2 ox2 x4 ox4 v7 ov7 S7 _ _ _ (lv_sub hl [2, 3, 4, 6] rfl) hW7 hS h
      · replace h := h.2 hc
        refine m_iload_n (pc := 84) C.1 dX12_span_84 rfl hl 5 rfl ?_
        refine m_iload (pc := 85) C.1 dX12_span_85 hl 0 rfl ?_
        refine m_callSi (pc := 87) C.1 C.2.2.1 hl.1 C.2.1 hW6 hS (As := [.int (mI x3), .int (mI v5)]) (rest := []) (T_X12_greater C.2.2.2.2.2.2 N x3 ox3 v5 ov5 h) q_1652 q_1653 q_92 q_1654 pl_X12_greater (by decide) (Nat.le_of_ble_eq_true rfl) dX12_span_87 (fun v8 S8 H locs ov8 h hW8 hS => ?_)
        refine m_goto (pc := 90) (tgt := 99) C.1 dX12_span_90 (by decide) ?_
        exact W_X12_span_99 C N hko37 r0 kr0 x1 ox1 x2 ox2 x4 ox4 v8 ov8 S8 _ _ _ (lv_sub hl [2, 3, 4, 6] rfl) hW8 hS h
    · replace h := h.2 hc
      refine m_iload (pc := 75) C.1 dX12_span_75 hl 0 rfl ?_
      refine m_goto (pc := 77) (tgt := 99) C.1 dX12_span_77 (by decide) ?_
      exact W_X12_span_99 C N hko37 r0 kr0 x1 ox1 x2 ox2 x4 ox4 v5 ov5 S6 _ _ _ (lv_sub hl [2, 3, 4, 6] rfl) hW6 hS h
def w_X12_span_37 (N : Nat) (Q : mSt → Int → Prop) (ko106 : Int → mSt → Prop) : Nat → Nat → Int → Int → Int → Int → mSt → Prop
  | 0 => fun _ _ _ _ _ _ => False
  | k + 1 => w_X12_span_37b N Q (w_X12_span_37 N Q ko106 k) ko106
theorem W_X12_span_37 (C : mC p l s m args meth c cX12_span "MoonWashModel" 7 (some FieldType.int) g) (N : Nat) {Q : mSt → Int → Prop} {ko106 : Int → mSt → Prop} (hko106 : ∀ (x3 : Int) (ox3 : okI x3) (S : mSt) (H : Heap) (locs : List Loc) (ls : Array Slot), lv_has ls 7 [(3, .int (mI x3))] → mW g b KM S H → va_S (mA b KM s.heap.size) s.heap H locs → ko106 x3 S → W p l e { frames := 124, cells := 0, slots := 0, locals := 3252 } s m args below meth c H locs 0 0 (vx_MQ below (mQi g b KM Q (mA b KM s.heap.size)) (mEx g b KM (fun _ _ => False) (mA b KM s.heap.size)) args s 0 0 (mA b KM s.heap.size)) (F0 m 106 ls [])) : ∀ (k : Nat) (r0 : Nat) (kr0 : KM r0 = (0, 10, 0)) (x1 : Int) (ox1 : okI x1) (x2 : Int) (ox2 : okI x2) (x3 : Int) (ox3 : okI x3) (x4 : Int) (ox4 : okI x4) (S : mSt) (H : Heap) (locs : List Loc) (ls : Array Slot) (hl : lv_has ls 7 [(0, .ref (b + r0)), (1, .int (mI x1)), (2, .int (mI x2)), (3, .int (mI x3)), (4, .int (mI x4))]) (hW : mW g b KM S H) (hS : va_S (mA b KM s.heap.size) s.heap H locs) (h : w_X12_span_37 N Q ko106 k r0 x1 x2 x3 x4 S), W p l e { frames := 124, cells := 0, slots := 0, locals := 3252 } s m args below meth c H locs 0 0 (vx_MQ below (mQi g b KM Q (mA b KM s.heap.size)) (mEx g b KM (fun _ _ => False) (mA b KM s.heap.size)) args s 0 0 (mA b KM s.heap.size)) (F0 m 37 ls []) := by
  intro k
  induction k with
  | zero => intro r0 kr0 x1 ox1 x2 ox2 x3 ox3 x4 ox4 S H locs ls hl hW hS h; exact False.elim h
  | succ k ih => intro r0 kr0 x1 ox1 x2 ox2 x3 ox3 x4 ox4 S H locs ls hl hW hS h; exact W_X12_span_37b C N ih hko106 r0 kr0 x1 ox1 x2 ox2 x3 ox3 x4 ox4 S H locs ls hl hW hS h
def w_X12_span_16 (N : Nat) (Q : mSt → Int → Prop)  (r0 : Nat) (x1 : Int) (x2 : Int) (xs0 : Int) (rs1 : Nat) (S : mSt) : Prop :=
  ∀ S1 : mSt, S1 = mup S rs1 0 xs0 → (((S1 r0 0) ≤ 0 → w_X12_putsAside N r0 S1 (fun (S2 : mSt) => ∀ v3 : Int, v3 = (-1) → ∀ v4 : Int, v4 = 1 → w_X12_span_37 N Q (fun (x3_5 : Int) (S_5 : mSt) => Q S_5 x3_5) N r0 x1 x2 v3 v4 S2)) ∧ (0 < (S1 r0 0) → Q S1 0))
theorem W_X12_span_16 (C : mC p l s m args meth c cX12_span "MoonWashModel" 7 (some FieldType.int) g) (N : Nat) {Q : mSt → Int → Prop}   (r0 : Nat) (kr0 : KM r0 = (0, 10, 0)) (x1 : Int) (ox1 : okI x1) (x2 : Int) (ox2 : okI x2) (xs0 : Int) (oxs0 : okI xs0) (rs1 : Nat) (krs1 : KM rs1 = (0, 10, 0)) (S : mSt) (H : Heap) (locs : List Loc) (ls : Array Slot) (hl : lv_has ls 7 [(0, .ref (b + r0)), (1, .int (mI x1)), (2, .int (mI x2))]) (hW : mW g b KM S H) (hS : va_S (mA b KM s.heap.size) s.heap H locs) (h : w_X12_span_16 N Q  r0 x1 x2 xs0 rs1 S) : W p l e { frames := 124, cells := 0, slots := 0, locals := 3252 } s m args below meth c H locs 0 0 (vx_MQ below (mQi g b KM Q (mA b KM s.heap.size)) (mEx g b KM (fun _ _ => False) (mA b KM s.heap.size)) args s 0 0 (mA b KM s.heap.size)) (F0 m 16 ls [.int (mI xs0), .ref (b + rs1)]) := by
  unfold w_X12_span_16 at h
  refine p_10_0 (pc := 16) C hW hS krs1 q_1383 oxs0 dX12_span_16 (fun S1 H locs e1 hW1 hS => ?_)
  replace h := h S1 e1
  refine m_aload_n (pc := 19) C.1 dX12_span_19 rfl hl 0 rfl ?_
  refine g_10_0 (pc := 20) C hW1 kr0 q_1383 dX12_span_20 ?_
  refine m_if_le (pc := 23) (tgt := 28) C.1 (hW1.2.1 _ _) dX12_span_23 (by decide) (fun hc => ?_) (fun hc => ?_)
  · replace h := h.1 hc
    refine m_aload_n (pc := 28) C.1 dX12_span_28 rfl hl 0 rfl ?_
    refine m_callVv (pc := 29) C.1 C.2.2.1 hl.1 C.2.1 hW1 hS (As := []) (rest := []) (r := r0) (T_X12_putsAside C.2.2.2.2.2.2 N r0 kr0 h) kr0 rfl q_1482 q_1484 q_23 q_92 q_1485 pl_X12_putsAside (by decide) (Nat.le_of_ble_eq_true rfl) dX12_span_29 (fun S2 H locs h hW2 hS => ?_)
    refine m_iconst (pc := 32) C.1 dX12_span_32 ?_
    refine m_istore_n (pc := 33) C.1 dX12_span_33 rfl hl (by decide) (fun v => [(3, .int v), (0, .ref (b + r0)), (1, .int (mI x1)), (2, .int (mI x2))]) (fun _ => rfl) (by decide : okI (-1)) (fun v3 ls ev3 ov3 hl => ?_)
    replace h := h v3 ev3
    refine m_iconst (pc := 34) C.1 dX12_span_34 ?_
    refine m_istore (pc := 35) C.1 dX12_span_35 hl (by decide) (fun v => [(4, .int v), (3, .int (mI v3)), (0, .ref (b + r0)), (1, .int (mI x1)), (2, .int (mI x2))]) (fun _ => rfl) (by decide : okI 1) (fun v4 ls ev4 ov4 hl => ?_)
    replace h := h v4 ev4
    refine W_X12_span_37 C N ?_ N r0 kr0 x1 ox1 x2 ox2 v3 ov3 v4 ov4 S2 _ _ _ (lv_sub hl [2, 3, 4, 1, 0] rfl) hW2 hS h
    · intro x3_5 ox3_5 S_5 H locs ls hl hW_5 hS h
      refine m_iload_n (pc := 106) C.1 dX12_span_106 rfl hl 0 rfl ?_
      exact m_iret (pc := 107) C.1 C.2.2.2.1 C.2.2.2.2.1 hW_5 hS ox3_5 h (by decide) (by decide) dX12_span_107
  · replace h := h.2 hc
    refine m_iconst (pc := 26) C.1 dX12_span_26 ?_
    exact m_iret (pc := 27) C.1 C.2.2.2.1 C.2.2.2.2.1 hW1 hS (by decide : okI 0) h (by decide) (by decide) dX12_span_27
end
def w_X12_span (N : Nat) (r0 : Nat) (x1 : Int) (x2 : Int) (S : mSt) (Q : mSt → Int → Prop) : Prop :=
  w_X12_isIn N x1 0 40 S (fun (S1 : mSt) (v1 : Int) => ((v1 ≠ 0 → w_X12_span_16 N Q  r0 x1 x2 0 r0 S1) ∧ (v1 = 0 → w_X12_span_16 N Q  r0 x1 x2 1 r0 S1)))
theorem T_X12_span {l : Launch} (hl0 : l.stackTraces = false) {g : mG} {b : Nat} (N : Nat) (r0 : Nat) (kr0 : KM r0 = (0, 10, 0)) (x1 : Int) (ox1 : okI x1) (x2 : Int) (ox2 : okI x2) {S : mSt} {Q : mSt → Int → Prop} (h : w_X12_span N r0 x1 x2 S Q) (sz : Nat) : vx_Met l yX12_span (Cond.code yX12_span cX12_span 7 (some FieldType.int) :: wsG) { frames := 124, cells := 0, slots := 0, locals := 3252 } (mPc g b KM S [.ref (b + r0), .int (mI x1), .int (mI x2)] sz) (mQi g b KM Q (mA b KM sz)) (mEx g b KM (fun _ _ => False) (mA b KM sz)) 0 0 (mA b KM sz) :=
  m_of (av := [.ref (b + r0), .int (mI x1), .int (mI x2)]) (Qf := fun A => mQi g b KM Q A) (Xf := fun A => mEx g b KM (fun _ _ => False) A) (by decide) (Nat.le_of_ble_eq_true rfl) (fun p e s m args below meth c ls X hK hml hr hlk hout hnm hW hl => by
    have C : mC p l s m args meth c cX12_span "MoonWashModel" 7 (some FieldType.int) g := ⟨X, hK, hml, hr, hlk, hout, hl0⟩
    have hS : va_S (mA b KM s.heap.size) s.heap s.heap [] := va_S.rf
    have hl : lv_has ls 7 [(0, .ref (b + r0)), (1, .int (mI x1)), (2, .int (mI x2))] := hl
    unfold w_X12_span at h
    refine m_aload_n (pc := 0) C.1 dX12_span_0 rfl hl 0 rfl ?_
    refine m_iload_n (pc := 1) C.1 dX12_span_1 rfl hl 1 rfl ?_
    refine m_iconst (pc := 2) C.1 dX12_span_2 ?_
    refine m_bipush (pc := 3) C.1 dX12_span_3 rfl ?_
    refine m_callSi (pc := 5) C.1 C.2.2.1 hl.1 C.2.1 hW hS (As := [.int (mI x1), .int (mI 0), .int (mI 40)]) (rest := [.ref (b + r0)]) (T_X12_isIn C.2.2.2.2.2.2 N x1 ox1 0 (by decide : okI 0) 40 (by decide : okI 40) h) q_1475 q_1476 q_92 q_1477 pl_X12_isIn (by decide) (Nat.le_of_ble_eq_true rfl) dX12_span_5 (fun v1 S1 H locs ov1 h hW1 hS => ?_)
    refine m_if_ne (pc := 8) (tgt := 15) C.1 ov1 dX12_span_8 (by decide) (fun hc => ?_) (fun hc => ?_)
    · replace h := h.1 hc
      refine m_iconst (pc := 15) C.1 dX12_span_15 ?_
      exact W_X12_span_16 C N  r0 kr0 x1 ox1 x2 ox2 0 (by decide : okI 0) r0 kr0 S1 _ _ _ (lv_sub hl [0, 1, 2] rfl) hW1 hS h
    · replace h := h.2 hc
      refine m_iconst (pc := 11) C.1 dX12_span_11 ?_
      refine m_goto (pc := 12) (tgt := 16) C.1 dX12_span_12 (by decide) ?_
      exact W_X12_span_16 C N  r0 kr0 x1 ox1 x2 ox2 1 (by decide : okI 1) r0 kr0 S1 _ _ _ (lv_sub hl [0, 1, 2] rfl) hW1 hS h) sz
section
variable {p : Program} {l : Launch} {e : Env} {s : State} {m : MethodId} {args : Array Value} {below : List Frame} {meth : Method} {c : Code} {g : mG} {b : Nat}
end
def w_X12_logged (N : Nat) (r0 : Nat) (x1 : Int) (x2 : Int) (S : mSt) (Q : mSt → Int → Prop) : Prop :=
  (0 ≤ (nm ((nm (110 + (nm (4 * x1)))) + x2)) ∧ (nm ((nm (110 + (nm (4 * x1)))) + x2)) < 750 ∧ Q S (S (r0 + 1) (nm ((nm (110 + (nm (4 * x1)))) + x2))))
theorem T_X12_logged {l : Launch} (hl0 : l.stackTraces = false) {g : mG} {b : Nat} (N : Nat) (r0 : Nat) (kr0 : KM r0 = (0, 10, 0)) (x1 : Int) (ox1 : okI x1) (x2 : Int) (ox2 : okI x2) {S : mSt} {Q : mSt → Int → Prop} (h : w_X12_logged N r0 x1 x2 S Q) (sz : Nat) : vx_Met l yX12_logged (Cond.code yX12_logged cX12_logged 3 (some FieldType.int) :: wsG) { frames := 0, cells := 0, slots := 0, locals := 0 } (mPc g b KM S [.ref (b + r0), .int (mI x1), .int (mI x2)] sz) (mQi g b KM Q (mA b KM sz)) (mEx g b KM (fun _ _ => False) (mA b KM sz)) 0 0 (mA b KM sz) :=
  m_of (av := [.ref (b + r0), .int (mI x1), .int (mI x2)]) (Qf := fun A => mQi g b KM Q A) (Xf := fun A => mEx g b KM (fun _ _ => False) A) (by decide) (Nat.le_of_ble_eq_true rfl) (fun p e s m args below meth c ls X hK hml hr hlk hout hnm hW hl => by
    have C : mC p l s m args meth c cX12_logged "MoonWashModel" 3 (some FieldType.int) g := ⟨X, hK, hml, hr, hlk, hout, hl0⟩
    have hS : va_S (mA b KM s.heap.size) s.heap s.heap [] := va_S.rf
    have hl : lv_has ls 3 [(0, .ref (b + r0)), (1, .int (mI x1)), (2, .int (mI x2))] := hl
    unfold w_X12_logged at h
    refine m_aload_n (pc := 0) C.1 dX12_logged_0 rfl hl 0 rfl ?_
    refine g_10_1 (pc := 1) C hW kr0 q_1384 dX12_logged_1 ?_
    refine m_bipush (pc := 4) C.1 dX12_logged_4 rfl ?_
    refine m_iconst (pc := 6) C.1 dX12_logged_6 ?_
    refine m_iload_n (pc := 7) C.1 dX12_logged_7 rfl hl 1 rfl ?_
    refine m_imul (pc := 8) C.1 dX12_logged_8 ?_
    refine m_iadd (pc := 9) C.1 dX12_logged_9 ?_
    refine m_iload_n (pc := 10) C.1 dX12_logged_10 rfl hl 2 rfl ?_
    refine m_iadd (pc := 11) C.1 dX12_logged_11 ?_
    obtain ⟨hb1a, hb1b, h⟩ := h
    refine m_iald (pc := 12) C.1 C.2.1 hW (k_10_1 kr0) (nm_ok _) hb1a hb1b dX12_logged_12 ?_
    exact m_iret (pc := 13) C.1 C.2.2.2.1 C.2.2.2.2.1 hW hS (hW.2.1 _ _) h (by decide) (by decide) dX12_logged_13) sz
section
variable {p : Program} {l : Launch} {e : Env} {s : State} {m : MethodId} {args : Array Value} {below : List Frame} {meth : Method} {c : Code} {g : mG} {b : Nat}
def w_X12_led_72 (N : Nat) (Q : mSt → Int → Prop) (ko41 : Nat → Int → Int → Int → Int → Int → mSt → Prop) (r0 : Nat) (x1 : Int) (x2 : Int) (x3 : Int) (x4 : Int) (x5 : Int) (S : mSt) : Prop :=
  ∀ v1 : Int, v1 = nm (x5 + (-1)) → ko41 r0 x1 x2 x3 x4 v1 S
theorem W_X12_led_72 (C : mC p l s m args meth c cX12_led "MoonWashModel" 6 (some FieldType.int) g) (N : Nat) {Q : mSt → Int → Prop} {ko41 : Nat → Int → Int → Int → Int → Int → mSt → Prop} (hko41 : ∀ (r0 : Nat) (kr0 : KM r0 = (0, 10, 0)) (x1 : Int) (ox1 : okI x1) (x2 : Int) (ox2 : okI x2) (x3 : Int) (ox3 : okI x3) (x4 : Int) (ox4 : okI x4) (x5 : Int) (ox5 : okI x5) (S : mSt) (H : Heap) (locs : List Loc) (ls : Array Slot), lv_has ls 6 [(0, .ref (b + r0)), (1, .int (mI x1)), (2, .int (mI x2)), (3, .int (mI x3)), (4, .int (mI x4)), (5, .int (mI x5))] → mW g b KM S H → va_S (mA b KM s.heap.size) s.heap H locs → ko41 r0 x1 x2 x3 x4 x5 S → W p l e { frames := 2, cells := 0, slots := 0, locals := 42 } s m args below meth c H locs 0 0 (vx_MQ below (mQi g b KM Q (mA b KM s.heap.size)) (mEx g b KM (fun _ _ => False) (mA b KM s.heap.size)) args s 0 0 (mA b KM s.heap.size)) (F0 m 41 ls [])) (r0 : Nat) (kr0 : KM r0 = (0, 10, 0)) (x1 : Int) (ox1 : okI x1) (x2 : Int) (ox2 : okI x2) (x3 : Int) (ox3 : okI x3) (x4 : Int) (ox4 : okI x4) (x5 : Int) (ox5 : okI x5) (S : mSt) (H : Heap) (locs : List Loc) (ls : Array Slot) (hl : lv_has ls 6 [(0, .ref (b + r0)), (1, .int (mI x1)), (2, .int (mI x2)), (3, .int (mI x3)), (4, .int (mI x4)), (5, .int (mI x5))]) (hW : mW g b KM S H) (hS : va_S (mA b KM s.heap.size) s.heap H locs) (h : w_X12_led_72 N Q ko41 r0 x1 x2 x3 x4 x5 S) : W p l e { frames := 2, cells := 0, slots := 0, locals := 42 } s m args below meth c H locs 0 0 (vx_MQ below (mQi g b KM Q (mA b KM s.heap.size)) (mEx g b KM (fun _ _ => False) (mA b KM s.heap.size)) args s 0 0 (mA b KM s.heap.size)) (F0 m 72 ls []) := by
  unfold w_X12_led_72 at h
  refine m_iinc (pc := 72) C.1 dX12_led_72 hl (by decide) (q0 := 5) rfl (fun v => [(5, .int v), (0, .ref (b + r0)), (1, .int (mI x1)), (2, .int (mI x2)), (3, .int (mI x3)), (4, .int (mI x4))]) (fun _ => rfl) (fun v1 ls ev1 ov1 hl => ?_)
  replace h := h v1 ev1
  refine m_goto (pc := 75) (tgt := 41) C.1 dX12_led_75 (by decide) ?_
  exact hko41 r0 kr0 x1 ox1 x2 ox2 x3 ox3 x4 ox4 v1 ov1 S _ _ _ (lv_sub hl [1, 2, 3, 4, 5, 0] rfl) hW hS h
def w_X12_led_41b (N : Nat) (Q : mSt → Int → Prop) (ko41 : Nat → Int → Int → Int → Int → Int → mSt → Prop) (ko78 : Int → Int → Int → mSt → Prop) (r0 : Nat) (x1 : Int) (x2 : Int) (x3 : Int) (x4 : Int) (x5 : Int) (S : mSt) : Prop :=
  ((x5 < 0 → ko78 x2 x3 x4 S) ∧ (0 ≤ x5 → w_X12_logged N r0 x5 1 S (fun (S1 : mSt) (v1 : Int) => ((v1 = x1 → ∀ v2 : Int, v2 = nm (x3 + 1) → w_X12_logged N r0 x5 2 S1 (fun (S3 : mSt) (v3 : Int) => ∀ v4 : Int, v4 = v3 → w_X12_led_72 N Q ko41 r0 x1 x2 v2 v4 x5 S3)) ∧ (v1 ≠ x1 → w_X12_led_72 N Q ko41 r0 x1 x2 x3 x4 x5 S1)))))
theorem W_X12_led_41b (C : mC p l s m args meth c cX12_led "MoonWashModel" 6 (some FieldType.int) g) (N : Nat) {Q : mSt → Int → Prop} {ko41 : Nat → Int → Int → Int → Int → Int → mSt → Prop} {ko78 : Int → Int → Int → mSt → Prop} (hko41 : ∀ (r0 : Nat) (kr0 : KM r0 = (0, 10, 0)) (x1 : Int) (ox1 : okI x1) (x2 : Int) (ox2 : okI x2) (x3 : Int) (ox3 : okI x3) (x4 : Int) (ox4 : okI x4) (x5 : Int) (ox5 : okI x5) (S : mSt) (H : Heap) (locs : List Loc) (ls : Array Slot), lv_has ls 6 [(0, .ref (b + r0)), (1, .int (mI x1)), (2, .int (mI x2)), (3, .int (mI x3)), (4, .int (mI x4)), (5, .int (mI x5))] → mW g b KM S H → va_S (mA b KM s.heap.size) s.heap H locs → ko41 r0 x1 x2 x3 x4 x5 S → W p l e { frames := 2, cells := 0, slots := 0, locals := 42 } s m args below meth c H locs 0 0 (vx_MQ below (mQi g b KM Q (mA b KM s.heap.size)) (mEx g b KM (fun _ _ => False) (mA b KM s.heap.size)) args s 0 0 (mA b KM s.heap.size)) (F0 m 41 ls [])) (hko78 : ∀ (x2 : Int) (ox2 : okI x2) (x3 : Int) (ox3 : okI x3) (x4 : Int) (ox4 : okI x4) (S : mSt) (H : Heap) (locs : List Loc) (ls : Array Slot), lv_has ls 6 [(2, .int (mI x2)), (3, .int (mI x3)), (4, .int (mI x4))] → mW g b KM S H → va_S (mA b KM s.heap.size) s.heap H locs → ko78 x2 x3 x4 S → W p l e { frames := 2, cells := 0, slots := 0, locals := 42 } s m args below meth c H locs 0 0 (vx_MQ below (mQi g b KM Q (mA b KM s.heap.size)) (mEx g b KM (fun _ _ => False) (mA b KM s.heap.size)) args s 0 0 (mA b KM s.heap.size)) (F0 m 78 ls [])) (r0 : Nat) (kr0 : KM r0 = (0, 10, 0)) (x1 : Int) (ox1 : okI x1) (x2 : Int) (ox2 : okI x2) (x3 : Int) (ox3 : okI x3) (x4 : Int) (ox4 : okI x4) (x5 : Int) (ox5 : okI x5) (S : mSt) (H : Heap) (locs : List Loc) (ls : Array Slot) (hl : lv_has ls 6 [(0, .ref (b + r0)), (1, .int (mI x1)), (2, .int (mI x2)), (3, .int (mI x3)), (4, .int (mI x4)), (5, .int (mI x5))]) (hW : mW g b KM S H) (hS : va_S (mA b KM s.heap.size) s.heap H locs) (h : w_X12_led_41b N Q ko41 ko78 r0 x1 x2 x3 x4 x5 S) : W p l e { frames := 2, cells := 0, slots := 0, locals := 42 } s m args below meth c H locs 0 0 (vx_MQ below (mQi g b KM Q (mA b KM s.heap.size)) (mEx g b KM (fun _ _ => False) (mA b KM s.heap.size)) args s 0 0 (mA b KM s.heap.size)) (F0 m 41 ls []) := by
  unfold w_X12_led_41b at h
  refine m_iload (pc := 41) C.1 dX12_led_41 hl 5 rfl ?_
  refine m_if_lt (pc := 43) (tgt := 78) C.1 ox5 dX12_led_43 (by decide) (fun hc => ?_) (fun hc => ?_)
  · replace h := h.1 hc
    exact hko78 x2 ox2 x3 ox3 x4 ox4 S _ _ _ (lv_sub hl [2, 3, 4] rfl) hW hS h
  · replace h := h.2 hc
    refine m_aload_n (pc := 46) C.1 dX12_led_46 rfl hl 0 rfl ?_
    refine m_iload (pc := 47) C.1 dX12_led_47 hl 5 rfl ?_
    refine m_iconst (pc := 49) C.1 dX12_led_49 ?_
    refine m_callVi (pc := 50) C.1 C.2.2.1 hl.1 C.2.1 hW hS (As := [.int (mI x5), .int (mI 1)]) (rest := []) (r := r0) (T_X12_logged C.2.2.2.2.2.2 N r0 kr0 x5 ox5 1 (by decide : okI 1) h) kr0 rfl q_1896 q_1898 q_78 q_92 q_1899 pl_X12_logged (by decide) (Nat.le_of_ble_eq_true rfl) dX12_led_50 (fun v1 S1 H locs ov1 h hW1 hS => ?_)
    refine m_iload_n (pc := 53) C.1 dX12_led_53 rfl hl 1 rfl ?_
    refine m_icmp_eq (pc := 54) (tgt := 60) C.1 ov1 ox1 dX12_led_54 (by decide) (fun hc => ?_) (fun hc => ?_)
    · replace h := h.1 hc
      refine m_iinc (pc := 60) C.1 dX12_led_60 hl (by decide) (q0 := 3) rfl (fun v => [(3, .int v), (0, .ref (b + r0)), (1, .int (mI x1)), (2, .int (mI x2)), (4, .int (mI x4)), (5, .int (mI x5))]) (fun _ => rfl) (fun v2 ls ev2 ov2 hl => ?_)
      replace h := h v2 ev2
      refine m_aload_n (pc := 63) C.1 dX12_led_63 rfl hl 1 rfl ?_
      refine m_iload (pc := 64) C.1 dX12_led_64 hl 5 rfl ?_
      refine m_iconst (pc := 66) C.1 dX12_led_66 ?_
      refine m_callVi (pc := 67) C.1 C.2.2.1 hl.1 C.2.1 hW1 hS (As := [.int (mI x5), .int (mI 2)]) (rest := []) (r := r0) (T_X12_logged C.2.2.2.2.2.2 N r0 kr0 x5 ox5 2 (by decide : okI 2) h) kr0 rfl q_1896 q_1898 q_78 q_92 q_1899 pl_X12_logged (by decide) (Nat.le_of_ble_eq_true rfl) dX12_led_67 (fun v3 S3 H locs ov3 h hW3 hS => ?_)
      refine m_istore (pc := 70) C.1 dX12_led_70 hl (by decide) (fun v => [(4, .int v), (3, .int (mI v2)), (0, .ref (b + r0)), (1, .int (mI x1)), (2, .int (mI x2)), (5, .int (mI x5))]) (fun _ => rfl) ov3 (fun v4 ls ev4 ov4 hl => ?_)
      replace h := h v4 ev4
      exact W_X12_led_72 C N hko41 r0 kr0 x1 ox1 x2 ox2 v2 ov2 v4 ov4 x5 ox5 S3 _ _ _ (lv_sub hl [2, 3, 4, 1, 0, 5] rfl) hW3 hS h
    · replace h := h.2 hc
      refine m_goto (pc := 57) (tgt := 72) C.1 dX12_led_57 (by decide) ?_
      exact W_X12_led_72 C N hko41 r0 kr0 x1 ox1 x2 ox2 x3 ox3 x4 ox4 x5 ox5 S1 _ _ _ (lv_sub hl [0, 1, 2, 3, 4, 5] rfl) hW1 hS h
def w_X12_led_41 (N : Nat) (Q : mSt → Int → Prop) (ko78 : Int → Int → Int → mSt → Prop) : Nat → Nat → Int → Int → Int → Int → Int → mSt → Prop
  | 0 => fun _ _ _ _ _ _ _ => False
  | k + 1 => w_X12_led_41b N Q (w_X12_led_41 N Q ko78 k) ko78
theorem W_X12_led_41 (C : mC p l s m args meth c cX12_led "MoonWashModel" 6 (some FieldType.int) g) (N : Nat) {Q : mSt → Int → Prop} {ko78 : Int → Int → Int → mSt → Prop} (hko78 : ∀ (x2 : Int) (ox2 : okI x2) (x3 : Int) (ox3 : okI x3) (x4 : Int) (ox4 : okI x4) (S : mSt) (H : Heap) (locs : List Loc) (ls : Array Slot), lv_has ls 6 [(2, .int (mI x2)), (3, .int (mI x3)), (4, .int (mI x4))] → mW g b KM S H → va_S (mA b KM s.heap.size) s.heap H locs → ko78 x2 x3 x4 S → W p l e { frames := 2, cells := 0, slots := 0, locals := 42 } s m args below meth c H locs 0 0 (vx_MQ below (mQi g b KM Q (mA b KM s.heap.size)) (mEx g b KM (fun _ _ => False) (mA b KM s.heap.size)) args s 0 0 (mA b KM s.heap.size)) (F0 m 78 ls [])) : ∀ (k : Nat) (r0 : Nat) (kr0 : KM r0 = (0, 10, 0)) (x1 : Int) (ox1 : okI x1) (x2 : Int) (ox2 : okI x2) (x3 : Int) (ox3 : okI x3) (x4 : Int) (ox4 : okI x4) (x5 : Int) (ox5 : okI x5) (S : mSt) (H : Heap) (locs : List Loc) (ls : Array Slot) (hl : lv_has ls 6 [(0, .ref (b + r0)), (1, .int (mI x1)), (2, .int (mI x2)), (3, .int (mI x3)), (4, .int (mI x4)), (5, .int (mI x5))]) (hW : mW g b KM S H) (hS : va_S (mA b KM s.heap.size) s.heap H locs) (h : w_X12_led_41 N Q ko78 k r0 x1 x2 x3 x4 x5 S), W p l e { frames := 2, cells := 0, slots := 0, locals := 42 } s m args below meth c H locs 0 0 (vx_MQ below (mQi g b KM Q (mA b KM s.heap.size)) (mEx g b KM (fun _ _ => False) (mA b KM s.heap.size)) args s 0 0 (mA b KM s.heap.size)) (F0 m 41 ls []) := by
  intro k
  induction k with
  | zero => intro r0 kr0 x1 ox1 x2 ox2 x3 ox3 x4 ox4 x5 ox5 S H locs ls hl hW hS h; exact False.elim h
  | succ k ih => intro r0 kr0 x1 ox1 x2 ox2 x3 ox3 x4 ox4 x5 ox5 S H locs ls hl hW hS h; exact W_X12_led_41b C N ih hko78 r0 kr0 x1 ox1 x2 ox2 x3 ox3 x4 ox4 x5 ox5 S H locs ls hl hW hS h
def w_X12_led_13 (N : Nat) (Q : mSt → Int → Prop)  (r0 : Nat) (x1 : Int) (x2 : Int) (xs0 : Int) (rs1 : Nat) (S : mSt) : Prop :=
  ∀ S1 : mSt, S1 = mup S rs1 0 xs0 → (((S1 r0 0) ≤ 0 → ∀ v2 : Int, v2 = 0 → ∀ v3 : Int, v3 = (-1) → ∀ v4 : Int, v4 = (nm ((S1 (r0 + 1) 11) - 1)) → w_X12_led_41 N Q (fun (x2_5 : Int) (x3_5 : Int) (x4_5 : Int) (S_5 : mSt) => ((x2_5 = 0 → Q S_5 x3_5) ∧ (x2_5 ≠ 0 → Q S_5 x4_5))) N r0 x1 x2 v2 v3 v4 S1) ∧ (0 < (S1 r0 0) → Q S1 0))
theorem W_X12_led_13 (C : mC p l s m args meth c cX12_led "MoonWashModel" 6 (some FieldType.int) g) (N : Nat) {Q : mSt → Int → Prop}   (r0 : Nat) (kr0 : KM r0 = (0, 10, 0)) (x1 : Int) (ox1 : okI x1) (x2 : Int) (ox2 : okI x2) (xs0 : Int) (oxs0 : okI xs0) (rs1 : Nat) (krs1 : KM rs1 = (0, 10, 0)) (S : mSt) (H : Heap) (locs : List Loc) (ls : Array Slot) (hl : lv_has ls 6 [(0, .ref (b + r0)), (1, .int (mI x1)), (2, .int (mI x2))]) (hW : mW g b KM S H) (hS : va_S (mA b KM s.heap.size) s.heap H locs) (h : w_X12_led_13 N Q  r0 x1 x2 xs0 rs1 S) : W p l e { frames := 2, cells := 0, slots := 0, locals := 42 } s m args below meth c H locs 0 0 (vx_MQ below (mQi g b KM Q (mA b KM s.heap.size)) (mEx g b KM (fun _ _ => False) (mA b KM s.heap.size)) args s 0 0 (mA b KM s.heap.size)) (F0 m 13 ls [.int (mI xs0), .ref (b + rs1)]) := by
  unfold w_X12_led_13 at h
  refine p_10_0 (pc := 13) C hW hS krs1 q_1383 oxs0 dX12_led_13 (fun S1 H locs e1 hW1 hS => ?_)
  replace h := h S1 e1
  refine m_aload_n (pc := 16) C.1 dX12_led_16 rfl hl 0 rfl ?_
  refine g_10_0 (pc := 17) C hW1 kr0 q_1383 dX12_led_17 ?_
  refine m_if_le (pc := 20) (tgt := 25) C.1 (hW1.2.1 _ _) dX12_led_20 (by decide) (fun hc => ?_) (fun hc => ?_)
  · replace h := h.1 hc
    refine m_iconst (pc := 25) C.1 dX12_led_25 ?_
    refine m_istore_n (pc := 26) C.1 dX12_led_26 rfl hl (by decide) (fun v => [(3, .int v), (0, .ref (b + r0)), (1, .int (mI x1)), (2, .int (mI x2))]) (fun _ => rfl) (by decide : okI 0) (fun v2 ls ev2 ov2 hl => ?_)
    replace h := h v2 ev2
    refine m_iconst (pc := 27) C.1 dX12_led_27 ?_
    refine m_istore (pc := 28) C.1 dX12_led_28 hl (by decide) (fun v => [(4, .int v), (3, .int (mI v2)), (0, .ref (b + r0)), (1, .int (mI x1)), (2, .int (mI x2))]) (fun _ => rfl) (by decide : okI (-1)) (fun v3 ls ev3 ov3 hl => ?_)
    replace h := h v3 ev3
    refine m_aload_n (pc := 30) C.1 dX12_led_30 rfl hl 2 rfl ?_
    refine g_10_1 (pc := 31) C hW1 kr0 q_1384 dX12_led_31 ?_
    refine m_bipush (pc := 34) C.1 dX12_led_34 rfl ?_
    refine m_iald (pc := 36) C.1 C.2.1 hW1 (k_10_1 kr0) (by decide : okI 11) (by decide) (by decide) dX12_led_36 ?_
    refine m_iconst (pc := 37) C.1 dX12_led_37 ?_
    refine m_isub (pc := 38) C.1 dX12_led_38 ?_
    refine m_istore (pc := 39) C.1 dX12_led_39 hl (by decide) (fun v => [(5, .int v), (4, .int (mI v3)), (3, .int (mI v2)), (0, .ref (b + r0)), (1, .int (mI x1)), (2, .int (mI x2))]) (fun _ => rfl) (nm_ok _) (fun v4 ls ev4 ov4 hl => ?_)
    replace h := h v4 ev4
    refine W_X12_led_41 C N ?_ N r0 kr0 x1 ox1 x2 ox2 v2 ov2 v3 ov3 v4 ov4 S1 _ _ _ (lv_sub hl [3, 4, 5, 2, 1, 0] rfl) hW1 hS h
    · intro x2_5 ox2_5 x3_5 ox3_5 x4_5 ox4_5 S_5 H locs ls hl hW_5 hS h
      refine m_iload_n (pc := 78) C.1 dX12_led_78 rfl hl 0 rfl ?_
      refine m_if_eq (pc := 79) (tgt := 87) C.1 ox2_5 dX12_led_79 (by decide) (fun hc => ?_) (fun hc => ?_)
      · replace h := h.1 hc
        refine m_iload_n (pc := 87) C.1 dX12_led_87 rfl hl 1 rfl ?_
        exact m_iret (pc := 88) C.1 C.2.2.2.1 C.2.2.2.2.1 hW_5 hS ox3_5 h (by decide) (by decide) dX12_led_88
      · replace h := h.2 hc
        refine m_iload (pc := 82) C.1 dX12_led_82 hl 2 rfl ?_
        refine m_goto (pc := 84) (tgt := 88) C.1 dX12_led_84 (by decide) ?_
        exact m_iret (pc := 88) C.1 C.2.2.2.1 C.2.2.2.2.1 hW_5 hS ox4_5 h (by decide) (by decide) dX12_led_88
  · replace h := h.2 hc
    refine m_iconst (pc := 23) C.1 dX12_led_23 ?_
    exact m_iret (pc := 24) C.1 C.2.2.2.1 C.2.2.2.2.1 hW1 hS (by decide : okI 0) h (by decide) (by decide) dX12_led_24
end
def w_X12_led (N : Nat) (r0 : Nat) (x1 : Int) (x2 : Int) (S : mSt) (Q : mSt → Int → Prop) : Prop :=
  w_X12_isPart N x1 S (fun (S1 : mSt) (v1 : Int) => ((v1 ≠ 0 → w_X12_led_13 N Q  r0 x1 x2 0 r0 S1) ∧ (v1 = 0 → w_X12_led_13 N Q  r0 x1 x2 1 r0 S1)))
theorem T_X12_led {l : Launch} (hl0 : l.stackTraces = false) {g : mG} {b : Nat} (N : Nat) (r0 : Nat) (kr0 : KM r0 = (0, 10, 0)) (x1 : Int) (ox1 : okI x1) (x2 : Int) (ox2 : okI x2) {S : mSt} {Q : mSt → Int → Prop} (h : w_X12_led N r0 x1 x2 S Q) (sz : Nat) : vx_Met l yX12_led (Cond.code yX12_led cX12_led 6 (some FieldType.int) :: wsG) { frames := 2, cells := 0, slots := 0, locals := 42 } (mPc g b KM S [.ref (b + r0), .int (mI x1), .int (mI x2)] sz) (mQi g b KM Q (mA b KM sz)) (mEx g b KM (fun _ _ => False) (mA b KM sz)) 0 0 (mA b KM sz) :=
  m_of (av := [.ref (b + r0), .int (mI x1), .int (mI x2)]) (Qf := fun A => mQi g b KM Q A) (Xf := fun A => mEx g b KM (fun _ _ => False) A) (by decide) (Nat.le_of_ble_eq_true rfl) (fun p e s m args below meth c ls X hK hml hr hlk hout hnm hW hl => by
    have C : mC p l s m args meth c cX12_led "MoonWashModel" 6 (some FieldType.int) g := ⟨X, hK, hml, hr, hlk, hout, hl0⟩
    have hS : va_S (mA b KM s.heap.size) s.heap s.heap [] := va_S.rf
    have hl : lv_has ls 6 [(0, .ref (b + r0)), (1, .int (mI x1)), (2, .int (mI x2))] := hl
    unfold w_X12_led at h
    refine m_aload_n (pc := 0) C.1 dX12_led_0 rfl hl 0 rfl ?_
    refine m_iload_n (pc := 1) C.1 dX12_led_1 rfl hl 1 rfl ?_
    refine m_callSi (pc := 2) C.1 C.2.2.1 hl.1 C.2.1 hW hS (As := [.int (mI x1)]) (rest := [.ref (b + r0)]) (T_X12_isPart C.2.2.2.2.2.2 N x1 ox1 h) q_1627 q_1628 q_92 q_1629 pl_X12_isPart (by decide) (Nat.le_of_ble_eq_true rfl) dX12_led_2 (fun v1 S1 H locs ov1 h hW1 hS => ?_)
    refine m_if_ne (pc := 5) (tgt := 12) C.1 ov1 dX12_led_5 (by decide) (fun hc => ?_) (fun hc => ?_)
    · replace h := h.1 hc
      refine m_iconst (pc := 12) C.1 dX12_led_12 ?_
      exact W_X12_led_13 C N  r0 kr0 x1 ox1 x2 ox2 0 (by decide : okI 0) r0 kr0 S1 _ _ _ (lv_sub hl [0, 1, 2] rfl) hW1 hS h
    · replace h := h.2 hc
      refine m_iconst (pc := 8) C.1 dX12_led_8 ?_
      refine m_goto (pc := 9) (tgt := 13) C.1 dX12_led_9 (by decide) ?_
      exact W_X12_led_13 C N  r0 kr0 x1 ox1 x2 ox2 1 (by decide : okI 1) r0 kr0 S1 _ _ _ (lv_sub hl [0, 1, 2] rfl) hW1 hS h) sz
section
variable {p : Program} {l : Launch} {e : Env} {s : State} {m : MethodId} {args : Array Value} {below : List Frame} {meth : Method} {c : Code} {g : mG} {b : Nat}
def w_X12_log_15 (N : Nat) (Q : mSt → Int → Prop)  (r0 : Nat) (x1 : Int) (x2 : Int) (xs0 : Int) (rs1 : Nat) (S : mSt) : Prop :=
  ∀ S1 : mSt, S1 = mup S rs1 0 xs0 → (((S1 r0 0) ≤ 0 → w_X12_isIn N x1 0 (nm ((S1 (r0 + 1) 11) - 1)) S1 (fun (S2 : mSt) (v2 : Int) => ((v2 = 0 → Q S2 (-1)) ∧ (v2 ≠ 0 → w_X12_logged N r0 x1 x2 S2 (fun (S3 : mSt) (v3 : Int) => Q S3 v3))))) ∧ (0 < (S1 r0 0) → Q S1 0))
theorem W_X12_log_15 (C : mC p l s m args meth c cX12_log "MoonWashModel" 3 (some FieldType.int) g) (N : Nat) {Q : mSt → Int → Prop}   (r0 : Nat) (kr0 : KM r0 = (0, 10, 0)) (x1 : Int) (ox1 : okI x1) (x2 : Int) (ox2 : okI x2) (xs0 : Int) (oxs0 : okI xs0) (rs1 : Nat) (krs1 : KM rs1 = (0, 10, 0)) (S : mSt) (H : Heap) (locs : List Loc) (ls : Array Slot) (hl : lv_has ls 3 [(0, .ref (b + r0)), (1, .int (mI x1)), (2, .int (mI x2))]) (hW : mW g b KM S H) (hS : va_S (mA b KM s.heap.size) s.heap H locs) (h : w_X12_log_15 N Q  r0 x1 x2 xs0 rs1 S) : W p l e { frames := 1, cells := 0, slots := 0, locals := 22 } s m args below meth c H locs 0 0 (vx_MQ below (mQi g b KM Q (mA b KM s.heap.size)) (mEx g b KM (fun _ _ => False) (mA b KM s.heap.size)) args s 0 0 (mA b KM s.heap.size)) (F0 m 15 ls [.int (mI xs0), .ref (b + rs1)]) := by
  unfold w_X12_log_15 at h
  refine p_10_0 (pc := 15) C hW hS krs1 q_1383 oxs0 dX12_log_15 (fun S1 H locs e1 hW1 hS => ?_)
  replace h := h S1 e1
  refine m_aload_n (pc := 18) C.1 dX12_log_18 rfl hl 0 rfl ?_
  refine g_10_0 (pc := 19) C hW1 kr0 q_1383 dX12_log_19 ?_
  refine m_if_le (pc := 22) (tgt := 27) C.1 (hW1.2.1 _ _) dX12_log_22 (by decide) (fun hc => ?_) (fun hc => ?_)
  · replace h := h.1 hc
    refine m_iload_n (pc := 27) C.1 dX12_log_27 rfl hl 1 rfl ?_
    refine m_iconst (pc := 28) C.1 dX12_log_28 ?_
    refine m_aload_n (pc := 29) C.1 dX12_log_29 rfl hl 0 rfl ?_
    refine g_10_1 (pc := 30) C hW1 kr0 q_1384 dX12_log_30 ?_
    refine m_bipush (pc := 33) C.1 dX12_log_33 rfl ?_
    refine m_iald (pc := 35) C.1 C.2.1 hW1 (k_10_1 kr0) (by decide : okI 11) (by decide) (by decide) dX12_log_35 ?_
    refine m_iconst (pc := 36) C.1 dX12_log_36 ?_
    refine m_isub (pc := 37) C.1 dX12_log_37 ?_
    refine m_callSi (pc := 38) C.1 C.2.2.1 hl.1 C.2.1 hW1 hS (As := [.int (mI x1), .int (mI 0), .int (mI (nm ((S1 (r0 + 1) 11) - 1)))]) (rest := []) (T_X12_isIn C.2.2.2.2.2.2 N x1 ox1 0 (by decide : okI 0) (nm ((S1 (r0 + 1) 11) - 1)) (nm_ok _) h) q_1475 q_1476 q_92 q_1477 pl_X12_isIn (by decide) (Nat.le_of_ble_eq_true rfl) dX12_log_38 (fun v2 S2 H locs ov2 h hW2 hS => ?_)
    refine m_if_eq (pc := 41) (tgt := 53) C.1 ov2 dX12_log_41 (by decide) (fun hc => ?_) (fun hc => ?_)
    · replace h := h.1 hc
      refine m_iconst (pc := 53) C.1 dX12_log_53 ?_
      exact m_iret (pc := 54) C.1 C.2.2.2.1 C.2.2.2.2.1 hW2 hS (by decide : okI (-1)) h (by decide) (by decide) dX12_log_54
    · replace h := h.2 hc
      refine m_aload_n (pc := 44) C.1 dX12_log_44 rfl hl 0 rfl ?_
      refine m_iload_n (pc := 45) C.1 dX12_log_45 rfl hl 1 rfl ?_
      refine m_iload_n (pc := 46) C.1 dX12_log_46 rfl hl 2 rfl ?_
      refine m_callVi (pc := 47) C.1 C.2.2.1 hl.1 C.2.1 hW2 hS (As := [.int (mI x1), .int (mI x2)]) (rest := []) (r := r0) (T_X12_logged C.2.2.2.2.2.2 N r0 kr0 x1 ox1 x2 ox2 h) kr0 rfl q_1896 q_1898 q_78 q_92 q_1899 pl_X12_logged (by decide) (Nat.le_of_ble_eq_true rfl) dX12_log_47 (fun v3 S3 H locs ov3 h hW3 hS => ?_)
      refine m_goto (pc := 50) (tgt := 54) C.1 dX12_log_50 (by decide) ?_
      exact m_iret (pc := 54) C.1 C.2.2.2.1 C.2.2.2.2.1 hW3 hS ov3 h (by decide) (by decide) dX12_log_54
  · replace h := h.2 hc
    refine m_iconst (pc := 25) C.1 dX12_log_25 ?_
    exact m_iret (pc := 26) C.1 C.2.2.2.1 C.2.2.2.2.1 hW1 hS (by decide : okI 0) h (by decide) (by decide) dX12_log_26
end
def w_X12_log (N : Nat) (r0 : Nat) (x1 : Int) (x2 : Int) (S : mSt) (Q : mSt → Int → Prop) : Prop :=
  w_X12_isIn N x2 0 3 S (fun (S1 : mSt) (v1 : Int) => ((v1 ≠ 0 → w_X12_log_15 N Q  r0 x1 x2 0 r0 S1) ∧ (v1 = 0 → w_X12_log_15 N Q  r0 x1 x2 1 r0 S1)))
theorem T_X12_log {l : Launch} (hl0 : l.stackTraces = false) {g : mG} {b : Nat} (N : Nat) (r0 : Nat) (kr0 : KM r0 = (0, 10, 0)) (x1 : Int) (ox1 : okI x1) (x2 : Int) (ox2 : okI x2) {S : mSt} {Q : mSt → Int → Prop} (h : w_X12_log N r0 x1 x2 S Q) (sz : Nat) : vx_Met l yX12_log (Cond.code yX12_log cX12_log 3 (some FieldType.int) :: wsG) { frames := 1, cells := 0, slots := 0, locals := 22 } (mPc g b KM S [.ref (b + r0), .int (mI x1), .int (mI x2)] sz) (mQi g b KM Q (mA b KM sz)) (mEx g b KM (fun _ _ => False) (mA b KM sz)) 0 0 (mA b KM sz) :=
  m_of (av := [.ref (b + r0), .int (mI x1), .int (mI x2)]) (Qf := fun A => mQi g b KM Q A) (Xf := fun A => mEx g b KM (fun _ _ => False) A) (by decide) (Nat.le_of_ble_eq_true rfl) (fun p e s m args below meth c ls X hK hml hr hlk hout hnm hW hl => by
    have C : mC p l s m args meth c cX12_log "MoonWashModel" 3 (some FieldType.int) g := ⟨X, hK, hml, hr, hlk, hout, hl0⟩
    have hS : va_S (mA b KM s.heap.size) s.heap s.heap [] := va_S.rf
    have hl : lv_has ls 3 [(0, .ref (b + r0)), (1, .int (mI x1)), (2, .int (mI x2))] := hl
    unfold w_X12_log at h
    refine m_aload_n (pc := 0) C.1 dX12_log_0 rfl hl 0 rfl ?_
    refine m_iload_n (pc := 1) C.1 dX12_log_1 rfl hl 2 rfl ?_
    refine m_iconst (pc := 2) C.1 dX12_log_2 ?_
    refine m_iconst (pc := 3) C.1 dX12_log_3 ?_
    refine m_callSi (pc := 4) C.1 C.2.2.1 hl.1 C.2.1 hW hS (As := [.int (mI x2), .int (mI 0), .int (mI 3)]) (rest := [.ref (b + r0)]) (T_X12_isIn C.2.2.2.2.2.2 N x2 ox2 0 (by decide : okI 0) 3 (by decide : okI 3) h) q_1475 q_1476 q_92 q_1477 pl_X12_isIn (by decide) (Nat.le_of_ble_eq_true rfl) dX12_log_4 (fun v1 S1 H locs ov1 h hW1 hS => ?_)
    refine m_if_ne (pc := 7) (tgt := 14) C.1 ov1 dX12_log_7 (by decide) (fun hc => ?_) (fun hc => ?_)
    · replace h := h.1 hc
      refine m_iconst (pc := 14) C.1 dX12_log_14 ?_
      exact W_X12_log_15 C N  r0 kr0 x1 ox1 x2 ox2 0 (by decide : okI 0) r0 kr0 S1 _ _ _ (lv_sub hl [0, 1, 2] rfl) hW1 hS h
    · replace h := h.2 hc
      refine m_iconst (pc := 10) C.1 dX12_log_10 ?_
      refine m_goto (pc := 11) (tgt := 15) C.1 dX12_log_11 (by decide) ?_
      exact W_X12_log_15 C N  r0 kr0 x1 ox1 x2 ox2 1 (by decide : okI 1) r0 kr0 S1 _ _ _ (lv_sub hl [0, 1, 2] rfl) hW1 hS h) sz
section
variable {p : Program} {l : Launch} {e : Env} {s : State} {m : MethodId} {args : Array Value} {below : List Frame} {meth : Method} {c : Code} {g : mG} {b : Nat}
end
def w_X12_seed (N : Nat) (r0 : Nat) (x1 : Int) (S : mSt) (Q : mSt → Int → Prop) : Prop :=
  ∀ S1 : mSt, S1 = mup S r0 0 0 → ∀ v2 : Int, v2 = (S1 (r0 + 1) 12) → ∀ S3 : mSt, S3 = mup S1 (r0 + 1) 12 x1 → Q S3 v2
theorem T_X12_seed {l : Launch} (hl0 : l.stackTraces = false) {g : mG} {b : Nat} (N : Nat) (r0 : Nat) (kr0 : KM r0 = (0, 10, 0)) (x1 : Int) (ox1 : okI x1) {S : mSt} {Q : mSt → Int → Prop} (h : w_X12_seed N r0 x1 S Q) (sz : Nat) : vx_Met l yX12_seed (Cond.code yX12_seed cX12_seed 3 (some FieldType.int) :: wsG) { frames := 0, cells := 0, slots := 0, locals := 0 } (mPc g b KM S [.ref (b + r0), .int (mI x1)] sz) (mQi g b KM Q (mA b KM sz)) (mEx g b KM (fun _ _ => False) (mA b KM sz)) 0 0 (mA b KM sz) :=
  m_of (av := [.ref (b + r0), .int (mI x1)]) (Qf := fun A => mQi g b KM Q A) (Xf := fun A => mEx g b KM (fun _ _ => False) A) (by decide) (Nat.le_of_ble_eq_true rfl) (fun p e s m args below meth c ls X hK hml hr hlk hout hnm hW hl => by
    have C : mC p l s m args meth c cX12_seed "MoonWashModel" 3 (some FieldType.int) g := ⟨X, hK, hml, hr, hlk, hout, hl0⟩
    have hS : va_S (mA b KM s.heap.size) s.heap s.heap [] := va_S.rf
    have hl : lv_has ls 3 [(0, .ref (b + r0)), (1, .int (mI x1))] := hl
    unfold w_X12_seed at h
    refine m_aload_n (pc := 0) C.1 dX12_seed_0 rfl hl 0 rfl ?_
    refine m_iconst (pc := 1) C.1 dX12_seed_1 ?_
    refine p_10_0 (pc := 2) C hW hS kr0 q_1383 (by decide : okI 0) dX12_seed_2 (fun S1 H locs e1 hW1 hS => ?_)
    replace h := h S1 e1
    refine m_aload_n (pc := 5) C.1 dX12_seed_5 rfl hl 0 rfl ?_
    refine g_10_1 (pc := 6) C hW1 kr0 q_1384 dX12_seed_6 ?_
    refine m_bipush (pc := 9) C.1 dX12_seed_9 rfl ?_
    refine m_iald (pc := 11) C.1 C.2.1 hW1 (k_10_1 kr0) (by decide : okI 12) (by decide) (by decide) dX12_seed_11 ?_
    refine m_istore_n (pc := 12) C.1 dX12_seed_12 rfl hl (by decide) (fun v => [(2, .int v), (0, .ref (b + r0)), (1, .int (mI x1))]) (fun _ => rfl) (hW1.2.1 _ _) (fun v2 ls ev2 ov2 hl => ?_)
    replace h := h v2 ev2
    refine m_aload_n (pc := 13) C.1 dX12_seed_13 rfl hl 1 rfl ?_
    refine g_10_1 (pc := 14) C hW1 kr0 q_1384 dX12_seed_14 ?_
    refine m_bipush (pc := 17) C.1 dX12_seed_17 rfl ?_
    refine m_iload_n (pc := 19) C.1 dX12_seed_19 rfl hl 2 rfl ?_
    refine m_iast (pc := 20) C.1 C.2.1 hW1 hS (k_10_1 kr0) (by decide : okI 12) ox1 (by decide) (by decide) dX12_seed_20 (fun S3 H locs e3 hW3 hS => ?_)
    replace h := h S3 e3
    refine m_iload_n (pc := 21) C.1 dX12_seed_21 rfl hl 0 rfl ?_
    exact m_iret (pc := 22) C.1 C.2.2.2.1 C.2.2.2.2.1 hW3 hS ov2 h (by decide) (by decide) dX12_seed_22) sz
section
variable {p : Program} {l : Launch} {e : Env} {s : State} {m : MethodId} {args : Array Value} {below : List Frame} {meth : Method} {c : Code} {g : mG} {b : Nat}
def w_X12_undo_26b (N : Nat) (Q : mSt → Int → Prop) (ko26 : Nat → Int → mSt → Prop) (ko60 : mSt → Prop) (r0 : Nat) (x1 : Int) (S : mSt) : Prop :=
  ((350 ≤ x1 → ko60 S) ∧ (x1 < 350 → (0 ≤ (nm ((nm (350 * (S r0 7))) + x1)) ∧ (nm ((nm (350 * (S r0 7))) + x1)) < 4200 ∧ (0 ≤ x1 ∧ x1 < 750 ∧ ∀ S3 : mSt, S3 = mup S (r0 + 1) x1 (S (r0 + 5) (nm ((nm (350 * (S r0 7))) + x1))) → ∀ v4 : Int, v4 = nm (x1 + 1) → ko26 r0 v4 S3))))
theorem W_X12_undo_26b (C : mC p l s m args meth c cX12_undo "MoonWashModel" 2 (some FieldType.boolean) g) (N : Nat) {Q : mSt → Int → Prop} {ko26 : Nat → Int → mSt → Prop} {ko60 : mSt → Prop} (hko26 : ∀ (r0 : Nat) (kr0 : KM r0 = (0, 10, 0)) (x1 : Int) (ox1 : okI x1) (S : mSt) (H : Heap) (locs : List Loc) (ls : Array Slot), lv_has ls 2 [(0, .ref (b + r0)), (1, .int (mI x1))] → mW g b KM S H → va_S (mA b KM s.heap.size) s.heap H locs → ko26 r0 x1 S → W p l e { frames := 0, cells := 0, slots := 0, locals := 0 } s m args below meth c H locs 0 0 (vx_MQ below (mQi g b KM Q (mA b KM s.heap.size)) (mEx g b KM (fun _ _ => False) (mA b KM s.heap.size)) args s 0 0 (mA b KM s.heap.size)) (F0 m 26 ls [])) (hko60 : ∀  (S : mSt) (H : Heap) (locs : List Loc) (ls : Array Slot), lv_has ls 2 [] → mW g b KM S H → va_S (mA b KM s.heap.size) s.heap H locs → ko60 S → W p l e { frames := 0, cells := 0, slots := 0, locals := 0 } s m args below meth c H locs 0 0 (vx_MQ below (mQi g b KM Q (mA b KM s.heap.size)) (mEx g b KM (fun _ _ => False) (mA b KM s.heap.size)) args s 0 0 (mA b KM s.heap.size)) (F0 m 60 ls [])) (r0 : Nat) (kr0 : KM r0 = (0, 10, 0)) (x1 : Int) (ox1 : okI x1) (S : mSt) (H : Heap) (locs : List Loc) (ls : Array Slot) (hl : lv_has ls 2 [(0, .ref (b + r0)), (1, .int (mI x1))]) (hW : mW g b KM S H) (hS : va_S (mA b KM s.heap.size) s.heap H locs) (h : w_X12_undo_26b N Q ko26 ko60 r0 x1 S) : W p l e { frames := 0, cells := 0, slots := 0, locals := 0 } s m args below meth c H locs 0 0 (vx_MQ below (mQi g b KM Q (mA b KM s.heap.size)) (mEx g b KM (fun _ _ => False) (mA b KM s.heap.size)) args s 0 0 (mA b KM s.heap.size)) (F0 m 26 ls []) := by
  unfold w_X12_undo_26b at h
  refine m_iload_n (pc := 26) C.1 dX12_undo_26 rfl hl 1 rfl ?_
  refine m_sipush (pc := 27) C.1 dX12_undo_27 rfl ?_
  refine m_icmp_ge (pc := 30) (tgt := 60) C.1 ox1 (by decide : okI 350) dX12_undo_30 (by decide) (fun hc => ?_) (fun hc => ?_)
  · replace h := h.1 hc
    exact hko60  S _ _ _ (lv_sub hl [] rfl) hW hS h
  · replace h := h.2 hc
    refine m_aload_n (pc := 33) C.1 dX12_undo_33 rfl hl 0 rfl ?_
    refine g_10_1 (pc := 34) C hW kr0 q_1384 dX12_undo_34 ?_
    refine m_iload_n (pc := 37) C.1 dX12_undo_37 rfl hl 1 rfl ?_
    refine m_aload_n (pc := 38) C.1 dX12_undo_38 rfl hl 0 rfl ?_
    refine g_10_6 (pc := 39) C hW kr0 q_1389 dX12_undo_39 ?_
    refine m_sipush (pc := 42) C.1 dX12_undo_42 rfl ?_
    refine m_aload_n (pc := 45) C.1 dX12_undo_45 rfl hl 0 rfl ?_
    refine g_10_7 (pc := 46) C hW kr0 q_1390 dX12_undo_46 ?_
    refine m_imul (pc := 49) C.1 dX12_undo_49 ?_
    refine m_iload_n (pc := 50) C.1 dX12_undo_50 rfl hl 1 rfl ?_
    refine m_iadd (pc := 51) C.1 dX12_undo_51 ?_
    obtain ⟨hb1a, hb1b, h⟩ := h
    refine m_iald (pc := 52) C.1 C.2.1 hW (k_10_6 kr0) (nm_ok _) hb1a hb1b dX12_undo_52 ?_
    obtain ⟨hb2a, hb2b, h⟩ := h
    refine m_iast (pc := 53) C.1 C.2.1 hW hS (k_10_1 kr0) ox1 (hW.2.1 _ _) hb2a hb2b dX12_undo_53 (fun S3 H locs e3 hW3 hS => ?_)
    replace h := h S3 e3
    refine m_iinc (pc := 54) C.1 dX12_undo_54 hl (by decide) (q0 := 1) rfl (fun v => [(1, .int v), (0, .ref (b + r0))]) (fun _ => rfl) (fun v4 ls ev4 ov4 hl => ?_)
    replace h := h v4 ev4
    refine m_goto (pc := 57) (tgt := 26) C.1 dX12_undo_57 (by decide) ?_
    exact hko26 r0 kr0 v4 ov4 S3 _ _ _ (lv_sub hl [1, 0] rfl) hW3 hS h
def w_X12_undo_26 (N : Nat) (Q : mSt → Int → Prop) (ko60 : mSt → Prop) : Nat → Nat → Int → mSt → Prop
  | 0 => fun _ _ _ => False
  | k + 1 => w_X12_undo_26b N Q (w_X12_undo_26 N Q ko60 k) ko60
theorem W_X12_undo_26 (C : mC p l s m args meth c cX12_undo "MoonWashModel" 2 (some FieldType.boolean) g) (N : Nat) {Q : mSt → Int → Prop} {ko60 : mSt → Prop} (hko60 : ∀  (S : mSt) (H : Heap) (locs : List Loc) (ls : Array Slot), lv_has ls 2 [] → mW g b KM S H → va_S (mA b KM s.heap.size) s.heap H locs → ko60 S → W p l e { frames := 0, cells := 0, slots := 0, locals := 0 } s m args below meth c H locs 0 0 (vx_MQ below (mQi g b KM Q (mA b KM s.heap.size)) (mEx g b KM (fun _ _ => False) (mA b KM s.heap.size)) args s 0 0 (mA b KM s.heap.size)) (F0 m 60 ls [])) : ∀ (k : Nat) (r0 : Nat) (kr0 : KM r0 = (0, 10, 0)) (x1 : Int) (ox1 : okI x1) (S : mSt) (H : Heap) (locs : List Loc) (ls : Array Slot) (hl : lv_has ls 2 [(0, .ref (b + r0)), (1, .int (mI x1))]) (hW : mW g b KM S H) (hS : va_S (mA b KM s.heap.size) s.heap H locs) (h : w_X12_undo_26 N Q ko60 k r0 x1 S), W p l e { frames := 0, cells := 0, slots := 0, locals := 0 } s m args below meth c H locs 0 0 (vx_MQ below (mQi g b KM Q (mA b KM s.heap.size)) (mEx g b KM (fun _ _ => False) (mA b KM s.heap.size)) args s 0 0 (mA b KM s.heap.size)) (F0 m 26 ls []) := by
  intro k
  induction k with
  | zero => intro r0 kr0 x1 ox1 S H locs ls hl hW hS h; exact False.elim h
  | succ k ih => intro r0 kr0 x1 ox1 S H locs ls hl hW hS h; exact W_X12_undo_26b C N ih hko60 r0 kr0 x1 ox1 S H locs ls hl hW hS h
end
def w_X12_undo (N : Nat) (r0 : Nat) (S : mSt) (Q : mSt → Int → Prop) : Prop :=
  ∀ S1 : mSt, S1 = mup S r0 0 0 → (((S1 r0 7) ≠ 0 → ∀ S2 : mSt, S2 = mup S1 r0 7 (nm ((S1 r0 7) - 1)) → ∀ v3 : Int, v3 = 0 → w_X12_undo_26 N Q (fun  (S_4 : mSt) => Q S_4 1) N r0 v3 S2) ∧ ((S1 r0 7) = 0 → Q S1 0))
theorem T_X12_undo {l : Launch} (hl0 : l.stackTraces = false) {g : mG} {b : Nat} (N : Nat) (r0 : Nat) (kr0 : KM r0 = (0, 10, 0)) {S : mSt} {Q : mSt → Int → Prop} (h : w_X12_undo N r0 S Q) (sz : Nat) : vx_Met l yX12_undo (Cond.code yX12_undo cX12_undo 2 (some FieldType.boolean) :: wsG) { frames := 0, cells := 0, slots := 0, locals := 0 } (mPc g b KM S [.ref (b + r0)] sz) (mQi g b KM Q (mA b KM sz)) (mEx g b KM (fun _ _ => False) (mA b KM sz)) 0 0 (mA b KM sz) :=
  m_of (av := [.ref (b + r0)]) (Qf := fun A => mQi g b KM Q A) (Xf := fun A => mEx g b KM (fun _ _ => False) A) (by decide) (Nat.le_of_ble_eq_true rfl) (fun p e s m args below meth c ls X hK hml hr hlk hout hnm hW hl => by
    have C : mC p l s m args meth c cX12_undo "MoonWashModel" 2 (some FieldType.boolean) g := ⟨X, hK, hml, hr, hlk, hout, hl0⟩
    have hS : va_S (mA b KM s.heap.size) s.heap s.heap [] := va_S.rf
    have hl : lv_has ls 2 [(0, .ref (b + r0))] := hl
    unfold w_X12_undo at h
    refine m_aload_n (pc := 0) C.1 dX12_undo_0 rfl hl 0 rfl ?_
    refine m_iconst (pc := 1) C.1 dX12_undo_1 ?_
    refine p_10_0 (pc := 2) C hW hS kr0 q_1383 (by decide : okI 0) dX12_undo_2 (fun S1 H locs e1 hW1 hS => ?_)
    replace h := h S1 e1
    refine m_aload_n (pc := 5) C.1 dX12_undo_5 rfl hl 0 rfl ?_
    refine g_10_7 (pc := 6) C hW1 kr0 q_1390 dX12_undo_6 ?_
    refine m_if_ne (pc := 9) (tgt := 14) C.1 (hW1.2.1 _ _) dX12_undo_9 (by decide) (fun hc => ?_) (fun hc => ?_)
    · replace h := h.1 hc
      refine m_aload_n (pc := 14) C.1 dX12_undo_14 rfl hl 0 rfl ?_
      refine lv_dup (pc := 15) C.1.1 C.1.2.1 dX12_undo_15 rfl ?_
      refine g_10_7 (pc := 16) C hW1 kr0 q_1390 dX12_undo_16 ?_
      refine m_iconst (pc := 19) C.1 dX12_undo_19 ?_
      refine m_isub (pc := 20) C.1 dX12_undo_20 ?_
      refine p_10_7 (pc := 21) C hW1 hS kr0 q_1390 (nm_ok _) dX12_undo_21 (fun S2 H locs e2 hW2 hS => ?_)
      replace h := h S2 e2
      refine m_iconst (pc := 24) C.1 dX12_undo_24 ?_
      refine m_istore_n (pc := 25) C.1 dX12_undo_25 rfl hl (by decide) (fun v => [(1, .int v), (0, .ref (b + r0))]) (fun _ => rfl) (by decide : okI 0) (fun v3 ls ev3 ov3 hl => ?_)
      replace h := h v3 ev3
      refine W_X12_undo_26 C N ?_ N r0 kr0 v3 ov3 S2 _ _ _ (lv_sub hl [1, 0] rfl) hW2 hS h
      · intro S_4 H locs ls hl hW_4 hS h
        refine m_iconst (pc := 60) C.1 dX12_undo_60 ?_
        exact m_zret (pc := 61) C.1 C.2.2.2.1 C.2.2.2.2.1 hW_4 hS (by decide) h (by decide) (by decide) dX12_undo_61
    · replace h := h.2 hc
      refine m_iconst (pc := 12) C.1 dX12_undo_12 ?_
      exact m_zret (pc := 13) C.1 C.2.2.2.1 C.2.2.2.2.1 hW1 hS (by decide) h (by decide) (by decide) dX12_undo_13) sz
section
variable {p : Program} {l : Launch} {e : Env} {s : State} {m : MethodId} {args : Array Value} {below : List Frame} {meth : Method} {c : Code} {g : mG} {b : Nat}
def w_X12_image_7b (N : Nat) (Q : mSt → Prop) (ko7 : Nat → Int → mSt → Prop) (ko32 : Nat → mSt → Prop) (r0 : Nat) (x1 : Int) (S : mSt) : Prop :=
  ((750 ≤ x1 → ko32 r0 S) ∧ (x1 < 750 → (0 ≤ x1 ∧ x1 < 750 ∧ (0 ≤ x1 ∧ x1 < 750 ∧ ∀ S3 : mSt, S3 = mup S (r0 + 2) x1 (S (r0 + 1) x1) → ∀ v4 : Int, v4 = nm (x1 + 1) → ko7 r0 v4 S3))))
theorem W_X12_image_7b (C : mC p l s m args meth c cX12_image "MoonWashModel" 2 none g) (N : Nat) {Q : mSt → Prop} {ko7 : Nat → Int → mSt → Prop} {ko32 : Nat → mSt → Prop} (hko7 : ∀ (r0 : Nat) (kr0 : KM r0 = (0, 10, 0)) (x1 : Int) (ox1 : okI x1) (S : mSt) (H : Heap) (locs : List Loc) (ls : Array Slot), lv_has ls 2 [(0, .ref (b + r0)), (1, .int (mI x1))] → mW g b KM S H → va_S (mA b KM s.heap.size) s.heap H locs → ko7 r0 x1 S → W p l e { frames := 0, cells := 0, slots := 0, locals := 0 } s m args below meth c H locs 0 0 (vx_MQ below (mQv g b KM Q (mA b KM s.heap.size)) (mEx g b KM (fun _ _ => False) (mA b KM s.heap.size)) args s 0 0 (mA b KM s.heap.size)) (F0 m 7 ls [])) (hko32 : ∀ (r0 : Nat) (kr0 : KM r0 = (0, 10, 0)) (S : mSt) (H : Heap) (locs : List Loc) (ls : Array Slot), lv_has ls 2 [(0, .ref (b + r0))] → mW g b KM S H → va_S (mA b KM s.heap.size) s.heap H locs → ko32 r0 S → W p l e { frames := 0, cells := 0, slots := 0, locals := 0 } s m args below meth c H locs 0 0 (vx_MQ below (mQv g b KM Q (mA b KM s.heap.size)) (mEx g b KM (fun _ _ => False) (mA b KM s.heap.size)) args s 0 0 (mA b KM s.heap.size)) (F0 m 32 ls [])) (r0 : Nat) (kr0 : KM r0 = (0, 10, 0)) (x1 : Int) (ox1 : okI x1) (S : mSt) (H : Heap) (locs : List Loc) (ls : Array Slot) (hl : lv_has ls 2 [(0, .ref (b + r0)), (1, .int (mI x1))]) (hW : mW g b KM S H) (hS : va_S (mA b KM s.heap.size) s.heap H locs) (h : w_X12_image_7b N Q ko7 ko32 r0 x1 S) : W p l e { frames := 0, cells := 0, slots := 0, locals := 0 } s m args below meth c H locs 0 0 (vx_MQ below (mQv g b KM Q (mA b KM s.heap.size)) (mEx g b KM (fun _ _ => False) (mA b KM s.heap.size)) args s 0 0 (mA b KM s.heap.size)) (F0 m 7 ls []) := by
  unfold w_X12_image_7b at h
  refine m_iload_n (pc := 7) C.1 dX12_image_7 rfl hl 1 rfl ?_
  refine m_sipush (pc := 8) C.1 dX12_image_8 rfl ?_
  refine m_icmp_ge (pc := 11) (tgt := 32) C.1 ox1 (by decide : okI 750) dX12_image_11 (by decide) (fun hc => ?_) (fun hc => ?_)
  · replace h := h.1 hc
    exact hko32 r0 kr0 S _ _ _ (lv_sub hl [0] rfl) hW hS h
  · replace h := h.2 hc
    refine m_aload_n (pc := 14) C.1 dX12_image_14 rfl hl 0 rfl ?_
    refine g_10_2 (pc := 15) C hW kr0 q_1385 dX12_image_15 ?_
    refine m_iload_n (pc := 18) C.1 dX12_image_18 rfl hl 1 rfl ?_
    refine m_aload_n (pc := 19) C.1 dX12_image_19 rfl hl 0 rfl ?_
    refine g_10_1 (pc := 20) C hW kr0 q_1384 dX12_image_20 ?_
    refine m_iload_n (pc := 23) C.1 dX12_image_23 rfl hl 1 rfl ?_
    obtain ⟨hb1a, hb1b, h⟩ := h
    refine m_iald (pc := 24) C.1 C.2.1 hW (k_10_1 kr0) ox1 hb1a hb1b dX12_image_24 ?_
    obtain ⟨hb2a, hb2b, h⟩ := h
    refine m_iast (pc := 25) C.1 C.2.1 hW hS (k_10_2 kr0) ox1 (hW.2.1 _ _) hb2a hb2b dX12_image_25 (fun S3 H locs e3 hW3 hS => ?_)
    replace h := h S3 e3
    refine m_iinc (pc := 26) C.1 dX12_image_26 hl (by decide) (q0 := 1) rfl (fun v => [(1, .int v), (0, .ref (b + r0))]) (fun _ => rfl) (fun v4 ls ev4 ov4 hl => ?_)
    replace h := h v4 ev4
    refine m_goto (pc := 29) (tgt := 7) C.1 dX12_image_29 (by decide) ?_
    exact hko7 r0 kr0 v4 ov4 S3 _ _ _ (lv_sub hl [1, 0] rfl) hW3 hS h
def w_X12_image_7 (N : Nat) (Q : mSt → Prop) (ko32 : Nat → mSt → Prop) : Nat → Nat → Int → mSt → Prop
  | 0 => fun _ _ _ => False
  | k + 1 => w_X12_image_7b N Q (w_X12_image_7 N Q ko32 k) ko32
theorem W_X12_image_7 (C : mC p l s m args meth c cX12_image "MoonWashModel" 2 none g) (N : Nat) {Q : mSt → Prop} {ko32 : Nat → mSt → Prop} (hko32 : ∀ (r0 : Nat) (kr0 : KM r0 = (0, 10, 0)) (S : mSt) (H : Heap) (locs : List Loc) (ls : Array Slot), lv_has ls 2 [(0, .ref (b + r0))] → mW g b KM S H → va_S (mA b KM s.heap.size) s.heap H locs → ko32 r0 S → W p l e { frames := 0, cells := 0, slots := 0, locals := 0 } s m args below meth c H locs 0 0 (vx_MQ below (mQv g b KM Q (mA b KM s.heap.size)) (mEx g b KM (fun _ _ => False) (mA b KM s.heap.size)) args s 0 0 (mA b KM s.heap.size)) (F0 m 32 ls [])) : ∀ (k : Nat) (r0 : Nat) (kr0 : KM r0 = (0, 10, 0)) (x1 : Int) (ox1 : okI x1) (S : mSt) (H : Heap) (locs : List Loc) (ls : Array Slot) (hl : lv_has ls 2 [(0, .ref (b + r0)), (1, .int (mI x1))]) (hW : mW g b KM S H) (hS : va_S (mA b KM s.heap.size) s.heap H locs) (h : w_X12_image_7 N Q ko32 k r0 x1 S), W p l e { frames := 0, cells := 0, slots := 0, locals := 0 } s m args below meth c H locs 0 0 (vx_MQ below (mQv g b KM Q (mA b KM s.heap.size)) (mEx g b KM (fun _ _ => False) (mA b KM s.heap.size)) args s 0 0 (mA b KM s.heap.size)) (F0 m 7 ls []) := by
  intro k
  induction k with
  | zero => intro r0 kr0 x1 ox1 S H locs ls hl hW hS h; exact False.elim h
  | succ k ih => intro r0 kr0 x1 ox1 S H locs ls hl hW hS h; exact W_X12_image_7b C N ih hko32 r0 kr0 x1 ox1 S H locs ls hl hW hS h
end
def w_X12_image (N : Nat) (r0 : Nat) (S : mSt) (Q : mSt → Prop) : Prop :=
  ∀ S1 : mSt, S1 = mup S r0 0 0 → ∀ v2 : Int, v2 = 0 → w_X12_image_7 N Q (fun (r0_3 : Nat) (S_3 : mSt) => ∀ S4 : mSt, S4 = mup S_3 r0_3 4 1 → Q S4) N r0 v2 S1
theorem T_X12_image {l : Launch} (hl0 : l.stackTraces = false) {g : mG} {b : Nat} (N : Nat) (r0 : Nat) (kr0 : KM r0 = (0, 10, 0)) {S : mSt} {Q : mSt → Prop} (h : w_X12_image N r0 S Q) (sz : Nat) : vx_Met l yX12_image (Cond.code yX12_image cX12_image 2 none :: wsG) { frames := 0, cells := 0, slots := 0, locals := 0 } (mPc g b KM S [.ref (b + r0)] sz) (mQv g b KM Q (mA b KM sz)) (mEx g b KM (fun _ _ => False) (mA b KM sz)) 0 0 (mA b KM sz) :=
  m_of (av := [.ref (b + r0)]) (Qf := fun A => mQv g b KM Q A) (Xf := fun A => mEx g b KM (fun _ _ => False) A) (by decide) (Nat.le_of_ble_eq_true rfl) (fun p e s m args below meth c ls X hK hml hr hlk hout hnm hW hl => by
    have C : mC p l s m args meth c cX12_image "MoonWashModel" 2 none g := ⟨X, hK, hml, hr, hlk, hout, hl0⟩
    have hS : va_S (mA b KM s.heap.size) s.heap s.heap [] := va_S.rf
    have hl : lv_has ls 2 [(0, .ref (b + r0))] := hl
    unfold w_X12_image at h
    refine m_aload_n (pc := 0) C.1 dX12_image_0 rfl hl 0 rfl ?_
    refine m_iconst (pc := 1) C.1 dX12_image_1 ?_
    refine p_10_0 (pc := 2) C hW hS kr0 q_1383 (by decide : okI 0) dX12_image_2 (fun S1 H locs e1 hW1 hS => ?_)
    replace h := h S1 e1
    refine m_iconst (pc := 5) C.1 dX12_image_5 ?_
    refine m_istore_n (pc := 6) C.1 dX12_image_6 rfl hl (by decide) (fun v => [(1, .int v), (0, .ref (b + r0))]) (fun _ => rfl) (by decide : okI 0) (fun v2 ls ev2 ov2 hl => ?_)
    replace h := h v2 ev2
    refine W_X12_image_7 C N ?_ N r0 kr0 v2 ov2 S1 _ _ _ (lv_sub hl [1, 0] rfl) hW1 hS h
    · intro r0_3 kr0_3 S_3 H locs ls hl hW_3 hS h
      refine m_aload_n (pc := 32) C.1 dX12_image_32 rfl hl 0 rfl ?_
      refine m_iconst (pc := 33) C.1 dX12_image_33 ?_
      refine p_10_4 (pc := 34) C hW_3 hS kr0_3 q_1387 (by decide) dX12_image_34 (fun S4 H locs e4 hW4 hS => ?_)
      replace h := h S4 e4
      exact m_vret (pc := 37) C.1 C.2.2.2.1 C.2.2.2.2.1 hW4 hS h (by decide) (by decide) dX12_image_37) sz
