set_option maxHeartbeats 4000000
set_option maxRecDepth 20000
section
variable {p : Program} {l : Launch} {e : Env} {s : State} {m : MethodId} {args : Array Value} {below : List Frame} {meth : Method} {c : Code} {g : mG} {b : Nat}
def w_X10_typeOf_14 (N : Nat) (Q : mSt → Int → Prop)  (x0 : Int) (S : mSt) : Prop :=
  ((x0 < 48 → Q S 2) ∧ (48 ≤ x0 → ((57 < x0 → Q S 2) ∧ (x0 ≤ 57 → Q S 1))))
theorem W_X10_typeOf_14 (C : mC p l s m args meth c cX10_typeOf "MoonWash$Words" 1 (some FieldType.int) g) (N : Nat) {Q : mSt → Int → Prop}   (x0 : Int) (ox0 : okI x0) (S : mSt) (H : Heap) (locs : List Loc) (ls : Array Slot) (hl : lv_has ls 1 [(0, .int (mI x0))]) (hW : mW g b KX S H) (hS : va_S (mA b KX s.heap.size) s.heap H locs) (h : w_X10_typeOf_14 N Q  x0 S) : W p l e { frames := 0, cells := 0, slots := 0, locals := 0 } s m args below meth c H locs 0 0 (vx_MQ below (mQi g b KX Q (mA b KX s.heap.size)) (mEx g b KX (fun _ _ => False) (mA b KX s.heap.size)) args s 0 0 (mA b KX s.heap.size)) (F0 m 14 ls []) := by
  unfold w_X10_typeOf_14 at h
  refine m_iload_n (pc := 14) C.1 dX10_typeOf_14 rfl hl 0 rfl ?_
  refine m_bipush (pc := 15) C.1 dX10_typeOf_15 rfl ?_
  refine m_icmp_lt (pc := 17) (tgt := 30) C.1 ox0 (by decide : okI 48) dX10_typeOf_17 (by decide) (fun hc => ?_) (fun hc => ?_)
  · replace h := h.1 hc
    refine m_iconst (pc := 30) C.1 dX10_typeOf_30 ?_
    exact m_iret (pc := 31) C.1 C.2.2.2.1 C.2.2.2.2.1 hW hS (by decide : okI 2) h (by decide) (by decide) dX10_typeOf_31
  · replace h := h.2 hc
    refine m_iload_n (pc := 20) C.1 dX10_typeOf_20 rfl hl 0 rfl ?_
    refine m_bipush (pc := 21) C.1 dX10_typeOf_21 rfl ?_
    refine m_icmp_gt (pc := 23) (tgt := 30) C.1 ox0 (by decide : okI 57) dX10_typeOf_23 (by decide) (fun hc => ?_) (fun hc => ?_)
    · replace h := h.1 hc
      refine m_iconst (pc := 30) C.1 dX10_typeOf_30 ?_
      exact m_iret (pc := 31) C.1 C.2.2.2.1 C.2.2.2.2.1 hW hS (by decide : okI 2) h (by decide) (by decide) dX10_typeOf_31
    · replace h := h.2 hc
      refine m_iconst (pc := 26) C.1 dX10_typeOf_26 ?_
      refine m_goto (pc := 27) (tgt := 31) C.1 dX10_typeOf_27 (by decide) ?_
      exact m_iret (pc := 31) C.1 C.2.2.2.1 C.2.2.2.2.1 hW hS (by decide : okI 1) h (by decide) (by decide) dX10_typeOf_31
end
def w_X10_typeOf (N : Nat) (x0 : Int) (S : mSt) (Q : mSt → Int → Prop) : Prop :=
  ((x0 < 97 → w_X10_typeOf_14 N Q  x0 S) ∧ (97 ≤ x0 → ((122 < x0 → w_X10_typeOf_14 N Q  x0 S) ∧ (x0 ≤ 122 → Q S 0))))
theorem T_X10_typeOf {l : Launch} (hl0 : l.stackTraces = false) {g : mG} {b : Nat} (N : Nat) (x0 : Int) (ox0 : okI x0) {S : mSt} {Q : mSt → Int → Prop} (h : w_X10_typeOf N x0 S Q) (sz : Nat) : vx_Met l yX10_typeOf (Cond.code yX10_typeOf cX10_typeOf 1 (some FieldType.int) :: wsG) { frames := 0, cells := 0, slots := 0, locals := 0 } (mPc g b KX S [.int (mI x0)] sz) (mQi g b KX Q (mA b KX sz)) (mEx g b KX (fun _ _ => False) (mA b KX sz)) 0 0 (mA b KX sz) :=
  m_of (av := [.int (mI x0)]) (Qf := fun A => mQi g b KX Q A) (Xf := fun A => mEx g b KX (fun _ _ => False) A) (by decide) (Nat.le_of_ble_eq_true rfl) (fun p e s m args below meth c ls X hK hml hr hlk hout hnm hW hl => by
    have C : mC p l s m args meth c cX10_typeOf "MoonWash$Words" 1 (some FieldType.int) g := ⟨X, hK, hml, hr, hlk, hout, hl0⟩
    have hS : va_S (mA b KX s.heap.size) s.heap s.heap [] := va_S.rf
    have hl : lv_has ls 1 [(0, .int (mI x0))] := hl
    unfold w_X10_typeOf at h
    refine m_iload_n (pc := 0) C.1 dX10_typeOf_0 rfl hl 0 rfl ?_
    refine m_bipush (pc := 1) C.1 dX10_typeOf_1 rfl ?_
    refine m_icmp_lt (pc := 3) (tgt := 14) C.1 ox0 (by decide : okI 97) dX10_typeOf_3 (by decide) (fun hc => ?_) (fun hc => ?_)
    · replace h := h.1 hc
      exact W_X10_typeOf_14 C N  x0 ox0 S _ _ _ (lv_sub hl [0] rfl) hW hS h
    · replace h := h.2 hc
      refine m_iload_n (pc := 6) C.1 dX10_typeOf_6 rfl hl 0 rfl ?_
      refine m_bipush (pc := 7) C.1 dX10_typeOf_7 rfl ?_
      refine m_icmp_gt (pc := 9) (tgt := 14) C.1 ox0 (by decide : okI 122) dX10_typeOf_9 (by decide) (fun hc => ?_) (fun hc => ?_)
      · replace h := h.1 hc
        exact W_X10_typeOf_14 C N  x0 ox0 S _ _ _ (lv_sub hl [0] rfl) hW hS h
      · replace h := h.2 hc
        refine m_iconst (pc := 12) C.1 dX10_typeOf_12 ?_
        exact m_iret (pc := 13) C.1 C.2.2.2.1 C.2.2.2.2.1 hW hS (by decide : okI 0) h (by decide) (by decide) dX10_typeOf_13) sz
section
variable {p : Program} {l : Launch} {e : Env} {s : State} {m : MethodId} {args : Array Value} {below : List Frame} {meth : Method} {c : Code} {g : mG} {b : Nat}
def w_X10_numberAt_12b (N : Nat) (Q : mSt → Int → Prop) (ko12 : Nat → Int → Int → Int → Int → mSt → Prop) (ko42 : Int → mSt → Prop) (r0 : Nat) (x1 : Int) (x2 : Int) (x3 : Int) (x4 : Int) (S : mSt) : Prop :=
  ((x2 ≤ x4 → ko42 x3 S) ∧ (x4 < x2 → (0 ≤ (nm (x1 + x4)) ∧ (nm (x1 + x4)) < 400 ∧ ∀ v2 : Int, v2 = (nm ((nm ((nm (x3 * 10)) + (S (r0 + 1) (nm (x1 + x4))))) - 48)) → ∀ v3 : Int, v3 = nm (x4 + 1) → ko12 r0 x1 x2 v2 v3 S)))
theorem W_X10_numberAt_12b (C : mC p l s m args meth c cX10_numberAt "MoonWash$Words" 5 (some FieldType.int) g) (N : Nat) {Q : mSt → Int → Prop} {ko12 : Nat → Int → Int → Int → Int → mSt → Prop} {ko42 : Int → mSt → Prop} (hko12 : ∀ (r0 : Nat) (kr0 : KX r0 = (0, 8, 0)) (x1 : Int) (ox1 : okI x1) (x2 : Int) (ox2 : okI x2) (x3 : Int) (ox3 : okI x3) (x4 : Int) (ox4 : okI x4) (S : mSt) (H : Heap) (locs : List Loc) (ls : Array Slot), lv_has ls 5 [(0, .ref (b + r0)), (1, .int (mI x1)), (2, .int (mI x2)), (3, .int (mI x3)), (4, .int (mI x4))] → mW g b KX S H → va_S (mA b KX s.heap.size) s.heap H locs → ko12 r0 x1 x2 x3 x4 S → W p l e { frames := 0, cells := 0, slots := 0, locals := 0 } s m args below meth c H locs 0 0 (vx_MQ below (mQi g b KX Q (mA b KX s.heap.size)) (mEx g b KX (fun _ _ => False) (mA b KX s.heap.size)) args s 0 0 (mA b KX s.heap.size)) (F0 m 12 ls [])) (hko42 : ∀ (x3 : Int) (ox3 : okI x3) (S : mSt) (H : Heap) (locs : List Loc) (ls : Array Slot), lv_has ls 5 [(3, .int (mI x3))] → mW g b KX S H → va_S (mA b KX s.heap.size) s.heap H locs → ko42 x3 S → W p l e { frames := 0, cells := 0, slots := 0, locals := 0 } s m args below meth c H locs 0 0 (vx_MQ below (mQi g b KX Q (mA b KX s.heap.size)) (mEx g b KX (fun _ _ => False) (mA b KX s.heap.size)) args s 0 0 (mA b KX s.heap.size)) (F0 m 42 ls [])) (r0 : Nat) (kr0 : KX r0 = (0, 8, 0)) (x1 : Int) (ox1 : okI x1) (x2 : Int) (ox2 : okI x2) (x3 : Int) (ox3 : okI x3) (x4 : Int) (ox4 : okI x4) (S : mSt) (H : Heap) (locs : List Loc) (ls : Array Slot) (hl : lv_has ls 5 [(0, .ref (b + r0)), (1, .int (mI x1)), (2, .int (mI x2)), (3, .int (mI x3)), (4, .int (mI x4))]) (hW : mW g b KX S H) (hS : va_S (mA b KX s.heap.size) s.heap H locs) (h : w_X10_numberAt_12b N Q ko12 ko42 r0 x1 x2 x3 x4 S) : W p l e { frames := 0, cells := 0, slots := 0, locals := 0 } s m args below meth c H locs 0 0 (vx_MQ below (mQi g b KX Q (mA b KX s.heap.size)) (mEx g b KX (fun _ _ => False) (mA b KX s.heap.size)) args s 0 0 (mA b KX s.heap.size)) (F0 m 12 ls []) := by
  unfold w_X10_numberAt_12b at h
  refine m_iload (pc := 12) C.1 dX10_numberAt_12 hl 4 rfl ?_
  refine m_iload_n (pc := 14) C.1 dX10_numberAt_14 rfl hl 2 rfl ?_
  refine m_icmp_ge (pc := 15) (tgt := 42) C.1 ox4 ox2 dX10_numberAt_15 (by decide) (fun hc => ?_) (fun hc => ?_)
  · replace h := h.1 hc
    exact hko42 x3 ox3 S _ _ _ (lv_sub hl [3] rfl) hW hS h
  · replace h := h.2 hc
    refine m_iload_n (pc := 18) C.1 dX10_numberAt_18 rfl hl 3 rfl ?_
    refine m_bipush (pc := 19) C.1 dX10_numberAt_19 rfl ?_
    refine m_imul (pc := 21) C.1 dX10_numberAt_21 ?_
    refine m_aload_n (pc := 22) C.1 dX10_numberAt_22 rfl hl 0 rfl ?_
    refine g_8_0 (pc := 23) C hW kr0 q_284 dX10_numberAt_23 ?_
    refine m_iload_n (pc := 26) C.1 dX10_numberAt_26 rfl hl 1 rfl ?_
    refine m_iload (pc := 27) C.1 dX10_numberAt_27 hl 4 rfl ?_
    refine m_iadd (pc := 29) C.1 dX10_numberAt_29 ?_
    obtain ⟨hb1a, hb1b, h⟩ := h
    refine m_iald (pc := 30) C.1 C.2.1 hW (k_8_0 kr0) (nm_ok _) hb1a hb1b dX10_numberAt_30 ?_
    refine m_iadd (pc := 31) C.1 dX10_numberAt_31 ?_
    refine m_bipush (pc := 32) C.1 dX10_numberAt_32 rfl ?_
    refine m_isub (pc := 34) C.1 dX10_numberAt_34 ?_
    refine m_istore_n (pc := 35) C.1 dX10_numberAt_35 rfl hl (by decide) (fun v => [(3, .int v), (0, .ref (b + r0)), (1, .int (mI x1)), (2, .int (mI x2)), (4, .int (mI x4))]) (fun _ => rfl) (nm_ok _) (fun v2 ls ev2 ov2 hl => ?_)
    replace h := h v2 ev2
    refine m_iinc (pc := 36) C.1 dX10_numberAt_36 hl (by decide) (q0 := 4) rfl (fun v => [(4, .int v), (3, .int (mI v2)), (0, .ref (b + r0)), (1, .int (mI x1)), (2, .int (mI x2))]) (fun _ => rfl) (fun v3 ls ev3 ov3 hl => ?_)
    replace h := h v3 ev3
    refine m_goto (pc := 39) (tgt := 12) C.1 dX10_numberAt_39 (by decide) ?_
    exact hko12 r0 kr0 x1 ox1 x2 ox2 v2 ov2 v3 ov3 S _ _ _ (lv_sub hl [2, 3, 4, 1, 0] rfl) hW hS h
def w_X10_numberAt_12 (N : Nat) (Q : mSt → Int → Prop) (ko42 : Int → mSt → Prop) : Nat → Nat → Int → Int → Int → Int → mSt → Prop
  | 0 => fun _ _ _ _ _ _ => False
  | k + 1 => w_X10_numberAt_12b N Q (w_X10_numberAt_12 N Q ko42 k) ko42
theorem W_X10_numberAt_12 (C : mC p l s m args meth c cX10_numberAt "MoonWash$Words" 5 (some FieldType.int) g) (N : Nat) {Q : mSt → Int → Prop} {ko42 : Int → mSt → Prop} (hko42 : ∀ (x3 : Int) (ox3 : okI x3) (S : mSt) (H : Heap) (locs : List Loc) (ls : Array Slot), lv_has ls 5 [(3, .int (mI x3))] → mW g b KX S H → va_S (mA b KX s.heap.size) s.heap H locs → ko42 x3 S → W p l e { frames := 0, cells := 0, slots := 0, locals := 0 } s m args below meth c H locs 0 0 (vx_MQ below (mQi g b KX Q (mA b KX s.heap.size)) (mEx g b KX (fun _ _ => False) (mA b KX s.heap.size)) args s 0 0 (mA b KX s.heap.size)) (F0 m 42 ls [])) : ∀ (k : Nat) (r0 : Nat) (kr0 : KX r0 = (0, 8, 0)) (x1 : Int) (ox1 : okI x1) (x2 : Int) (ox2 : okI x2) (x3 : Int) (ox3 : okI x3) (x4 : Int) (ox4 : okI x4) (S : mSt) (H : Heap) (locs : List Loc) (ls : Array Slot) (hl : lv_has ls 5 [(0, .ref (b + r0)), (1, .int (mI x1)), (2, .int (mI x2)), (3, .int (mI x3)), (4, .int (mI x4))]) (hW : mW g b KX S H) (hS : va_S (mA b KX s.heap.size) s.heap H locs) (h : w_X10_numberAt_12 N Q ko42 k r0 x1 x2 x3 x4 S), W p l e { frames := 0, cells := 0, slots := 0, locals := 0 } s m args below meth c H locs 0 0 (vx_MQ below (mQi g b KX Q (mA b KX s.heap.size)) (mEx g b KX (fun _ _ => False) (mA b KX s.heap.size)) args s 0 0 (mA b KX s.heap.size)) (F0 m 12 ls []) := by
  intro k
  induction k with
  | zero => intro r0 kr0 x1 ox1 x2 ox2 x3 ox3 x4 ox4 S H locs ls hl hW hS h; exact False.elim h
  | succ k ih => intro r0 kr0 x1 ox1 x2 ox2 x3 ox3 x4 ox4 S H locs ls hl hW hS h; exact W_X10_numberAt_12b C N ih hko42 r0 kr0 x1 ox1 x2 ox2 x3 ox3 x4 ox4 S H locs ls hl hW hS h
end
def w_X10_numberAt (N : Nat) (r0 : Nat) (x1 : Int) (x2 : Int) (S : mSt) (Q : mSt → Int → Prop) : Prop :=
  ((x2 ≤ 3 → ∀ v1 : Int, v1 = 0 → ∀ v2 : Int, v2 = 0 → w_X10_numberAt_12 N Q (fun (x3_3 : Int) (S_3 : mSt) => Q S_3 x3_3) N r0 x1 x2 v1 v2 S) ∧ (3 < x2 → Q S (-1)))
theorem T_X10_numberAt {l : Launch} (hl0 : l.stackTraces = false) {g : mG} {b : Nat} (N : Nat) (r0 : Nat) (kr0 : KX r0 = (0, 8, 0)) (x1 : Int) (ox1 : okI x1) (x2 : Int) (ox2 : okI x2) {S : mSt} {Q : mSt → Int → Prop} (h : w_X10_numberAt N r0 x1 x2 S Q) (sz : Nat) : vx_Met l yX10_numberAt (Cond.code yX10_numberAt cX10_numberAt 5 (some FieldType.int) :: wsG) { frames := 0, cells := 0, slots := 0, locals := 0 } (mPc g b KX S [.ref (b + r0), .int (mI x1), .int (mI x2)] sz) (mQi g b KX Q (mA b KX sz)) (mEx g b KX (fun _ _ => False) (mA b KX sz)) 0 0 (mA b KX sz) :=
  m_of (av := [.ref (b + r0), .int (mI x1), .int (mI x2)]) (Qf := fun A => mQi g b KX Q A) (Xf := fun A => mEx g b KX (fun _ _ => False) A) (by decide) (Nat.le_of_ble_eq_true rfl) (fun p e s m args below meth c ls X hK hml hr hlk hout hnm hW hl => by
    have C : mC p l s m args meth c cX10_numberAt "MoonWash$Words" 5 (some FieldType.int) g := ⟨X, hK, hml, hr, hlk, hout, hl0⟩
    have hS : va_S (mA b KX s.heap.size) s.heap s.heap [] := va_S.rf
    have hl : lv_has ls 5 [(0, .ref (b + r0)), (1, .int (mI x1)), (2, .int (mI x2))] := hl
    unfold w_X10_numberAt at h
    refine m_iload_n (pc := 0) C.1 dX10_numberAt_0 rfl hl 2 rfl ?_
    refine m_iconst (pc := 1) C.1 dX10_numberAt_1 ?_
    refine m_icmp_le (pc := 2) (tgt := 7) C.1 ox2 (by decide : okI 3) dX10_numberAt_2 (by decide) (fun hc => ?_) (fun hc => ?_)
    · replace h := h.1 hc
      refine m_iconst (pc := 7) C.1 dX10_numberAt_7 ?_
      refine m_istore_n (pc := 8) C.1 dX10_numberAt_8 rfl hl (by decide) (fun v => [(3, .int v), (0, .ref (b + r0)), (1, .int (mI x1)), (2, .int (mI x2))]) (fun _ => rfl) (by decide : okI 0) (fun v1 ls ev1 ov1 hl => ?_)
      replace h := h v1 ev1
      refine m_iconst (pc := 9) C.1 dX10_numberAt_9 ?_
      refine m_istore (pc := 10) C.1 dX10_numberAt_10 hl (by decide) (fun v => [(4, .int v), (3, .int (mI v1)), (0, .ref (b + r0)), (1, .int (mI x1)), (2, .int (mI x2))]) (fun _ => rfl) (by decide : okI 0) (fun v2 ls ev2 ov2 hl => ?_)
      replace h := h v2 ev2
      refine W_X10_numberAt_12 C N ?_ N r0 kr0 x1 ox1 x2 ox2 v1 ov1 v2 ov2 S _ _ _ (lv_sub hl [2, 3, 4, 1, 0] rfl) hW hS h
      · intro x3_3 ox3_3 S_3 H locs ls hl hW_3 hS h
        refine m_iload_n (pc := 42) C.1 dX10_numberAt_42 rfl hl 0 rfl ?_
        exact m_iret (pc := 43) C.1 C.2.2.2.1 C.2.2.2.2.1 hW_3 hS ox3_3 h (by decide) (by decide) dX10_numberAt_43
    · replace h := h.2 hc
      refine m_iconst (pc := 5) C.1 dX10_numberAt_5 ?_
      exact m_iret (pc := 6) C.1 C.2.2.2.1 C.2.2.2.2.1 hW hS (by decide : okI (-1)) h (by decide) (by decide) dX10_numberAt_6) sz
section
variable {p : Program} {l : Launch} {e : Env} {s : State} {m : MethodId} {args : Array Value} {below : List Frame} {meth : Method} {c : Code} {g : mG} {b : Nat}
end
def w_X10_put (N : Nat) (r0 : Nat) (x1 : Int) (x2 : Int) (x3 : Int) (x4 : Int) (S : mSt) (Q : mSt → Prop) : Prop :=
  (0 ≤ x1 ∧ x1 < 401 ∧ ∀ S2 : mSt, S2 = mup S (r0 + 3) x1 x3 → (0 ≤ x1 ∧ x1 < 401 ∧ ∀ S4 : mSt, S4 = mup S2 (r0 + 4) x1 x4 → ((x2 ≠ 1 → w_X8_written N (r0 + 1) x3 x4 S4 (fun (S5 : mSt) (t5 : Nat) => (0 ≤ x1 ∧ x1 < 401 ∧ ∀ S7 : mSt, S7 = mup S5 (r0 + 2) x1 (t5 : Int) → (0 ≤ x1 ∧ x1 < 401 ∧ ∀ t9 : Nat, (t9 : Int) = S7 (r0 + 2) x1 → (0 ≤ x1 ∧ x1 < 401 ∧ ∀ S11 : mSt, S11 = mup S7 (r0 + 5) x1 (tkV t9) → Q S11))))) ∧ (x2 = 1 → (0 ≤ x1 ∧ x1 < 401 ∧ ∀ S13 : mSt, S13 = mup S4 (r0 + 2) x1 (1 : Int) → w_X10_numberAt N r0 x3 x4 S13 (fun (S14 : mSt) (v14 : Int) => (0 ≤ x1 ∧ x1 < 401 ∧ ∀ S16 : mSt, S16 = mup S14 (r0 + 5) x1 v14 → Q S16)))))))
theorem T_X10_put {l : Launch} (hl0 : l.stackTraces = false) {g : mG} {b : Nat} (N : Nat) (r0 : Nat) (kr0 : KX r0 = (0, 8, 0)) (x1 : Int) (ox1 : okI x1) (x2 : Int) (ox2 : okI x2) (x3 : Int) (ox3 : okI x3) (x4 : Int) (ox4 : okI x4) {S : mSt} {Q : mSt → Prop} (h : w_X10_put N r0 x1 x2 x3 x4 S Q) (sz : Nat) : vx_Met l yX10_put (Cond.code yX10_put cX10_put 5 none :: wsG) { frames := 7, cells := 0, slots := 0, locals := 197 } (mPc g b KX S [.ref (b + r0), .int (mI x1), .int (mI x2), .int (mI x3), .int (mI x4)] sz) (mQv g b KX Q (mA b KX sz)) (mEx g b KX (fun _ _ => False) (mA b KX sz)) 0 0 (mA b KX sz) :=
  m_of (av := [.ref (b + r0), .int (mI x1), .int (mI x2), .int (mI x3), .int (mI x4)]) (Qf := fun A => mQv g b KX Q A) (Xf := fun A => mEx g b KX (fun _ _ => False) A) (by decide) (Nat.le_of_ble_eq_true rfl) (fun p e s m args below meth c ls X hK hml hr hlk hout hnm hW hl => by
    have C : mC p l s m args meth c cX10_put "MoonWash$Words" 5 none g := ⟨X, hK, hml, hr, hlk, hout, hl0⟩
    have hS : va_S (mA b KX s.heap.size) s.heap s.heap [] := va_S.rf
    have hl : lv_has ls 5 [(0, .ref (b + r0)), (1, .int (mI x1)), (2, .int (mI x2)), (3, .int (mI x3)), (4, .int (mI x4))] := hl
    unfold w_X10_put at h
    refine m_aload_n (pc := 0) C.1 dX10_put_0 rfl hl 0 rfl ?_
    refine g_8_2 (pc := 1) C hW kr0 q_286 dX10_put_1 ?_
    refine m_iload_n (pc := 4) C.1 dX10_put_4 rfl hl 1 rfl ?_
    refine m_iload_n (pc := 5) C.1 dX10_put_5 rfl hl 3 rfl ?_
    obtain ⟨hb1a, hb1b, h⟩ := h
    refine m_iast (pc := 6) C.1 C.2.1 hW hS (k_8_2 kr0) ox1 ox3 hb1a hb1b dX10_put_6 (fun S2 H locs e2 hW2 hS => ?_)
    replace h := h S2 e2
    refine m_aload_n (pc := 7) C.1 dX10_put_7 rfl hl 0 rfl ?_
    refine g_8_3 (pc := 8) C hW2 kr0 q_287 dX10_put_8 ?_
    refine m_iload_n (pc := 11) C.1 dX10_put_11 rfl hl 1 rfl ?_
    refine m_iload (pc := 12) C.1 dX10_put_12 hl 4 rfl ?_
    obtain ⟨hb3a, hb3b, h⟩ := h
    refine m_iast (pc := 14) C.1 C.2.1 hW2 hS (k_8_3 kr0) ox1 ox4 hb3a hb3b dX10_put_14 (fun S4 H locs e4 hW4 hS => ?_)
    replace h := h S4 e4
    refine m_iload_n (pc := 15) C.1 dX10_put_15 rfl hl 2 rfl ?_
    refine m_iconst (pc := 16) C.1 dX10_put_16 ?_
    refine m_icmp_ne (pc := 17) (tgt := 45) C.1 ox2 (by decide : okI 1) dX10_put_17 (by decide) (fun hc => ?_) (fun hc => ?_)
    · replace h := h.1 hc
      refine m_aload_n (pc := 45) C.1 dX10_put_45 rfl hl 0 rfl ?_
      refine g_8_1 (pc := 46) C hW4 kr0 q_285 dX10_put_46 ?_
      refine m_iload_n (pc := 49) C.1 dX10_put_49 rfl hl 1 rfl ?_
      refine m_aload_n (pc := 50) C.1 dX10_put_50 rfl hl 0 rfl ?_
      refine g_8_0 (pc := 51) C hW4 kr0 q_284 dX10_put_51 ?_
      refine m_iload_n (pc := 54) C.1 dX10_put_54 rfl hl 3 rfl ?_
      refine m_iload (pc := 55) C.1 dX10_put_55 hl 4 rfl ?_
      refine m_callSt (pc := 57) C.1 C.2.2.1 hl.1 C.2.1 hW4 hS (As := [.ref (b + (r0 + 1)), .int (mI x3), .int (mI x4)]) (rest := [.int (mI x1), .ref (b + (r0 + 2))]) (T_X8_written C.2.2.2.2.2.2 N (r0 + 1) (k_8_0 kr0) x3 ox3 x4 ox4 h) q_623 q_624 q_87 q_625 pl_X8_written (by decide) (Nat.le_of_ble_eq_true rfl) dX10_put_57 (fun t5 S5 H locs ht5 h hW5 hS => ?_)
      obtain ⟨hb6a, hb6b, h⟩ := h
      refine m_aastT (pc := 60) C.1 C.2.1 hW5 hS (k_8_1 kr0) ht5 ox1 hb6a hb6b dX10_put_60 (fun S7 H locs e7 hW7 hS => ?_)
      replace h := h S7 e7
      refine m_aload_n (pc := 61) C.1 dX10_put_61 rfl hl 0 rfl ?_
      refine g_8_4 (pc := 62) C hW7 kr0 q_288 dX10_put_62 ?_
      refine m_iload_n (pc := 65) C.1 dX10_put_65 rfl hl 1 rfl ?_
      refine m_aload_n (pc := 66) C.1 dX10_put_66 rfl hl 0 rfl ?_
      refine g_8_1 (pc := 67) C hW7 kr0 q_285 dX10_put_67 ?_
      refine m_iload_n (pc := 70) C.1 dX10_put_70 rfl hl 1 rfl ?_
      obtain ⟨hb8a, hb8b, h⟩ := h
      refine m_aald5 (pc := 71) C.1 C.2.1 hW7 (k_8_1 kr0) ox1 hb8a hb8b dX10_put_71 (fun t9 et9 ht9 => ?_)
      replace h := h t9 et9
      refine m_tterm (pc := 72) C.1 C.2.1 hW7 hS ht9 q_1951 dX10_put_72 ?_
      obtain ⟨hb10a, hb10b, h⟩ := h
      refine m_iast (pc := 75) C.1 C.2.1 hW7 hS (k_8_4 kr0) ox1 (tkV_ok _) hb10a hb10b dX10_put_75 (fun S11 H locs e11 hW11 hS => ?_)
      replace h := h S11 e11
      exact m_vret (pc := 76) C.1 C.2.2.2.1 C.2.2.2.2.1 hW11 hS h (by decide) (by decide) dX10_put_76
    · replace h := h.2 hc
      refine m_aload_n (pc := 20) C.1 dX10_put_20 rfl hl 0 rfl ?_
      refine g_8_1 (pc := 21) C hW4 kr0 q_285 dX10_put_21 ?_
      refine m_iload_n (pc := 24) C.1 dX10_put_24 rfl hl 1 rfl ?_
      refine m_token (pc := 25) C.1 C.2.1 hW4 hS 1 (by decide) rfl q_617 dX10_put_25 ?_
      obtain ⟨hb12a, hb12b, h⟩ := h
      refine m_aastT (pc := 28) C.1 C.2.1 hW4 hS (k_8_1 kr0) (by decide : 1 < 36) ox1 hb12a hb12b dX10_put_28 (fun S13 H locs e13 hW13 hS => ?_)
      replace h := h S13 e13
      refine m_aload_n (pc := 29) C.1 dX10_put_29 rfl hl 0 rfl ?_
      refine g_8_4 (pc := 30) C hW13 kr0 q_288 dX10_put_30 ?_
      refine m_iload_n (pc := 33) C.1 dX10_put_33 rfl hl 1 rfl ?_
      refine m_aload_n (pc := 34) C.1 dX10_put_34 rfl hl 0 rfl ?_
      refine m_iload_n (pc := 35) C.1 dX10_put_35 rfl hl 3 rfl ?_
      refine m_iload (pc := 36) C.1 dX10_put_36 hl 4 rfl ?_
      refine m_callVi (pc := 38) C.1 C.2.2.1 hl.1 C.2.1 hW13 hS (As := [.int (mI x3), .int (mI x4)]) (rest := [.int (mI x1), .ref (b + (r0 + 5))]) (r := r0) (T_X10_numberAt C.2.2.2.2.2.2 N r0 kr0 x3 ox3 x4 ox4 h) kr0 rfl q_619 q_621 q_6 q_85 q_622 pl_X10_numberAt (by decide) (Nat.le_of_ble_eq_true rfl) dX10_put_38 (fun v14 S14 H locs ov14 h hW14 hS => ?_)
      obtain ⟨hb15a, hb15b, h⟩ := h
      refine m_iast (pc := 41) C.1 C.2.1 hW14 hS (k_8_4 kr0) ox1 ov14 hb15a hb15b dX10_put_41 (fun S16 H locs e16 hW16 hS => ?_)
      replace h := h S16 e16
      refine m_goto (pc := 42) (tgt := 76) C.1 dX10_put_42 (by decide) ?_
      exact m_vret (pc := 76) C.1 C.2.2.2.1 C.2.2.2.2.1 hW16 hS h (by decide) (by decide) dX10_put_76) sz
section
variable {p : Program} {l : Launch} {e : Env} {s : State} {m : MethodId} {args : Array Value} {below : List Frame} {meth : Method} {c : Code} {g : mG} {b : Nat}
def w_X10_cut_64b (N : Nat) (Q : mSt → Prop) (ko64 : Nat → Int → Int → Int → Int → Int → mSt → Prop) (ko97 : Nat → Int → Int → Int → Int → Int → mSt → Prop) (r0 : Nat) (x3 : Int) (x4 : Int) (x5 : Int) (x6 : Int) (x7 : Int) (S : mSt) : Prop :=
  ((x3 ≤ x5 → ko97 r0 x3 x4 x5 x6 x7 S) ∧ (x5 < x3 → ((x7 = 2 → ko97 r0 x3 x4 x5 x6 x7 S) ∧ (x7 ≠ 2 → (0 ≤ x5 ∧ x5 < 400 ∧ w_X10_typeOf N (S (r0 + 1) x5) S (fun (S2 : mSt) (v2 : Int) => ((v2 ≠ x7 → ko97 r0 x3 x4 x5 x6 x7 S2) ∧ (v2 = x7 → ∀ v3 : Int, v3 = nm (x5 + 1) → ko64 r0 x3 x4 v3 x6 x7 S2))))))))
theorem W_X10_cut_64b (C : mC p l s m args meth c cX10_cut "MoonWash$Words" 8 none g) (N : Nat) {Q : mSt → Prop} {ko64 : Nat → Int → Int → Int → Int → Int → mSt → Prop} {ko97 : Nat → Int → Int → Int → Int → Int → mSt → Prop} (hko64 : ∀ (r0 : Nat) (kr0 : KX r0 = (0, 8, 0)) (x3 : Int) (ox3 : okI x3) (x4 : Int) (ox4 : okI x4) (x5 : Int) (ox5 : okI x5) (x6 : Int) (ox6 : okI x6) (x7 : Int) (ox7 : okI x7) (S : mSt) (H : Heap) (locs : List Loc) (ls : Array Slot), lv_has ls 8 [(0, .ref (b + r0)), (3, .int (mI x3)), (4, .int (mI x4)), (5, .int (mI x5)), (6, .int (mI x6)), (7, .int (mI x7))] → mW g b KX S H → va_S (mA b KX s.heap.size) s.heap H locs → ko64 r0 x3 x4 x5 x6 x7 S → W p l e { frames := 8, cells := 0, slots := 0, locals := 221 } s m args below meth c H locs 0 0 (vx_MQ below (mQv g b KX Q (mA b KX s.heap.size)) (mEx g b KX (fun _ _ => False) (mA b KX s.heap.size)) args s 0 0 (mA b KX s.heap.size)) (F0 m 64 ls [])) (hko97 : ∀ (r0 : Nat) (kr0 : KX r0 = (0, 8, 0)) (x3 : Int) (ox3 : okI x3) (x4 : Int) (ox4 : okI x4) (x5 : Int) (ox5 : okI x5) (x6 : Int) (ox6 : okI x6) (x7 : Int) (ox7 : okI x7) (S : mSt) (H : Heap) (locs : List Loc) (ls : Array Slot), lv_has ls 8 [(0, .ref (b + r0)), (3, .int (mI x3)), (4, .int (mI x4)), (5, .int (mI x5)), (6, .int (mI x6)), (7, .int (mI x7))] → mW g b KX S H → va_S (mA b KX s.heap.size) s.heap H locs → ko97 r0 x3 x4 x5 x6 x7 S → W p l e { frames := 8, cells := 0, slots := 0, locals := 221 } s m args below meth c H locs 0 0 (vx_MQ below (mQv g b KX Q (mA b KX s.heap.size)) (mEx g b KX (fun _ _ => False) (mA b KX s.heap.size)) args s 0 0 (mA b KX s.heap.size)) (F0 m 97 ls [])) (r0 : Nat) (kr0 : KX r0 = (0, 8, 0)) (x3 : Int) (ox3 : okI x3) (x4 : Int) (ox4 : okI x4) (x5 : Int) (ox5 : okI x5) (x6 : Int) (ox6 : okI x6) (x7 : Int) (ox7 : okI x7) (S : mSt) (H : Heap) (locs : List Loc) (ls : Array Slot) (hl : lv_has ls 8 [(0, .ref (b + r0)), (3, .int (mI x3)), (4, .int (mI x4)), (5, .int (mI x5)), (6, .int (mI x6)), (7, .int (mI x7))]) (hW : mW g b KX S H) (hS : va_S (mA b KX s.heap.size) s.heap H locs) (h : w_X10_cut_64b N Q ko64 ko97 r0 x3 x4 x5 x6 x7 S) : W p l e { frames := 8, cells := 0, slots := 0, locals := 221 } s m args below meth c H locs 0 0 (vx_MQ below (mQv g b KX Q (mA b KX s.heap.size)) (mEx g b KX (fun _ _ => False) (mA b KX s.heap.size)) args s 0 0 (mA b KX s.heap.size)) (F0 m 64 ls []) := by
  unfold w_X10_cut_64b at h
  refine m_iload (pc := 64) C.1 dX10_cut_64 hl 3 rfl ?_
  refine m_iload_n (pc := 66) C.1 dX10_cut_66 rfl hl 1 rfl ?_
  refine m_icmp_ge (pc := 67) (tgt := 97) C.1 ox5 ox3 dX10_cut_67 (by decide) (fun hc => ?_) (fun hc => ?_)
  · replace h := h.1 hc
    exact hko97 r0 kr0 x3 ox3 x4 ox4 x5 ox5 x6 ox6 x7 ox7 S _ _ _ (lv_sub hl [0, 1, 2, 3, 4, 5] rfl) hW hS h
  · replace h := h.2 hc
    refine m_iload (pc := 70) C.1 dX10_cut_70 hl 5 rfl ?_
    refine m_iconst (pc := 72) C.1 dX10_cut_72 ?_
    refine m_icmp_eq (pc := 73) (tgt := 97) C.1 ox7 (by decide : okI 2) dX10_cut_73 (by decide) (fun hc => ?_) (fun hc => ?_)
    · replace h := h.1 hc
      exact hko97 r0 kr0 x3 ox3 x4 ox4 x5 ox5 x6 ox6 x7 ox7 S _ _ _ (lv_sub hl [0, 1, 2, 3, 4, 5] rfl) hW hS h
    · replace h := h.2 hc
      refine m_aload_n (pc := 76) C.1 dX10_cut_76 rfl hl 0 rfl ?_
      refine g_8_0 (pc := 77) C hW kr0 q_284 dX10_cut_77 ?_
      refine m_iload (pc := 80) C.1 dX10_cut_80 hl 3 rfl ?_
      obtain ⟨hb1a, hb1b, h⟩ := h
      refine m_iald (pc := 82) C.1 C.2.1 hW (k_8_0 kr0) ox5 hb1a hb1b dX10_cut_82 ?_
      refine m_callSi (pc := 83) C.1 C.2.2.1 hl.1 C.2.1 hW hS (As := [.int (mI (S (r0 + 1) x5))]) (rest := []) (T_X10_typeOf C.2.2.2.2.2.2 N (S (r0 + 1) x5) (hW.2.1 _ _) h) q_610 q_611 q_85 q_612 pl_X10_typeOf (by decide) (Nat.le_of_ble_eq_true rfl) dX10_cut_83 (fun v2 S2 H locs ov2 h hW2 hS => ?_)
      refine m_iload (pc := 86) C.1 dX10_cut_86 hl 5 rfl ?_
      refine m_icmp_ne (pc := 88) (tgt := 97) C.1 ov2 ox7 dX10_cut_88 (by decide) (fun hc => ?_) (fun hc => ?_)
      · replace h := h.1 hc
        exact hko97 r0 kr0 x3 ox3 x4 ox4 x5 ox5 x6 ox6 x7 ox7 S2 _ _ _ (lv_sub hl [0, 1, 2, 3, 4, 5] rfl) hW2 hS h
      · replace h := h.2 hc
        refine m_iinc (pc := 91) C.1 dX10_cut_91 hl (by decide) (q0 := 3) rfl (fun v => [(5, .int v), (0, .ref (b + r0)), (3, .int (mI x3)), (4, .int (mI x4)), (6, .int (mI x6)), (7, .int (mI x7))]) (fun _ => rfl) (fun v3 ls ev3 ov3 hl => ?_)
        replace h := h v3 ev3
        refine m_goto (pc := 94) (tgt := 64) C.1 dX10_cut_94 (by decide) ?_
        exact hko64 r0 kr0 x3 ox3 x4 ox4 v3 ov3 x6 ox6 x7 ox7 S2 _ _ _ (lv_sub hl [1, 2, 3, 0, 4, 5] rfl) hW2 hS h
def w_X10_cut_64 (N : Nat) (Q : mSt → Prop) (ko97 : Nat → Int → Int → Int → Int → Int → mSt → Prop) : Nat → Nat → Int → Int → Int → Int → Int → mSt → Prop
  | 0 => fun _ _ _ _ _ _ _ => False
  | k + 1 => w_X10_cut_64b N Q (w_X10_cut_64 N Q ko97 k) ko97
theorem W_X10_cut_64 (C : mC p l s m args meth c cX10_cut "MoonWash$Words" 8 none g) (N : Nat) {Q : mSt → Prop} {ko97 : Nat → Int → Int → Int → Int → Int → mSt → Prop} (hko97 : ∀ (r0 : Nat) (kr0 : KX r0 = (0, 8, 0)) (x3 : Int) (ox3 : okI x3) (x4 : Int) (ox4 : okI x4) (x5 : Int) (ox5 : okI x5) (x6 : Int) (ox6 : okI x6) (x7 : Int) (ox7 : okI x7) (S : mSt) (H : Heap) (locs : List Loc) (ls : Array Slot), lv_has ls 8 [(0, .ref (b + r0)), (3, .int (mI x3)), (4, .int (mI x4)), (5, .int (mI x5)), (6, .int (mI x6)), (7, .int (mI x7))] → mW g b KX S H → va_S (mA b KX s.heap.size) s.heap H locs → ko97 r0 x3 x4 x5 x6 x7 S → W p l e { frames := 8, cells := 0, slots := 0, locals := 221 } s m args below meth c H locs 0 0 (vx_MQ below (mQv g b KX Q (mA b KX s.heap.size)) (mEx g b KX (fun _ _ => False) (mA b KX s.heap.size)) args s 0 0 (mA b KX s.heap.size)) (F0 m 97 ls [])) : ∀ (k : Nat) (r0 : Nat) (kr0 : KX r0 = (0, 8, 0)) (x3 : Int) (ox3 : okI x3) (x4 : Int) (ox4 : okI x4) (x5 : Int) (ox5 : okI x5) (x6 : Int) (ox6 : okI x6) (x7 : Int) (ox7 : okI x7) (S : mSt) (H : Heap) (locs : List Loc) (ls : Array Slot) (hl : lv_has ls 8 [(0, .ref (b + r0)), (3, .int (mI x3)), (4, .int (mI x4)), (5, .int (mI x5)), (6, .int (mI x6)), (7, .int (mI x7))]) (hW : mW g b KX S H) (hS : va_S (mA b KX s.heap.size) s.heap H locs) (h : w_X10_cut_64 N Q ko97 k r0 x3 x4 x5 x6 x7 S), W p l e { frames := 8, cells := 0, slots := 0, locals := 221 } s m args below meth c H locs 0 0 (vx_MQ below (mQv g b KX Q (mA b KX s.heap.size)) (mEx g b KX (fun _ _ => False) (mA b KX s.heap.size)) args s 0 0 (mA b KX s.heap.size)) (F0 m 64 ls []) := by
  intro k
  induction k with
  | zero => intro r0 kr0 x3 ox3 x4 ox4 x5 ox5 x6 ox6 x7 ox7 S H locs ls hl hW hS h; exact False.elim h
  | succ k ih => intro r0 kr0 x3 ox3 x4 ox4 x5 ox5 x6 ox6 x7 ox7 S H locs ls hl hW hS h; exact W_X10_cut_64b C N ih hko97 r0 kr0 x3 ox3 x4 ox4 x5 ox5 x6 ox6 x7 ox7 S H locs ls hl hW hS h
def w_X10_cut_127 (N : Nat) (Q : mSt → Prop) (ko39 : Nat → Int → Int → Int → mSt → Prop) (r0 : Nat) (x3 : Int) (x4 : Int) (x5 : Int) (S : mSt) : Prop :=
  ko39 r0 x3 x4 x5 S
theorem W_X10_cut_127 (C : mC p l s m args meth c cX10_cut "MoonWash$Words" 8 none g) (N : Nat) {Q : mSt → Prop} {ko39 : Nat → Int → Int → Int → mSt → Prop} (hko39 : ∀ (r0 : Nat) (kr0 : KX r0 = (0, 8, 0)) (x3 : Int) (ox3 : okI x3) (x4 : Int) (ox4 : okI x4) (x5 : Int) (ox5 : okI x5) (S : mSt) (H : Heap) (locs : List Loc) (ls : Array Slot), lv_has ls 8 [(0, .ref (b + r0)), (3, .int (mI x3)), (4, .int (mI x4)), (5, .int (mI x5))] → mW g b KX S H → va_S (mA b KX s.heap.size) s.heap H locs → ko39 r0 x3 x4 x5 S → W p l e { frames := 8, cells := 0, slots := 0, locals := 221 } s m args below meth c H locs 0 0 (vx_MQ below (mQv g b KX Q (mA b KX s.heap.size)) (mEx g b KX (fun _ _ => False) (mA b KX s.heap.size)) args s 0 0 (mA b KX s.heap.size)) (F0 m 39 ls [])) (r0 : Nat) (kr0 : KX r0 = (0, 8, 0)) (x3 : Int) (ox3 : okI x3) (x4 : Int) (ox4 : okI x4) (x5 : Int) (ox5 : okI x5) (S : mSt) (H : Heap) (locs : List Loc) (ls : Array Slot) (hl : lv_has ls 8 [(0, .ref (b + r0)), (3, .int (mI x3)), (4, .int (mI x4)), (5, .int (mI x5))]) (hW : mW g b KX S H) (hS : va_S (mA b KX s.heap.size) s.heap H locs) (h : w_X10_cut_127 N Q ko39 r0 x3 x4 x5 S) : W p l e { frames := 8, cells := 0, slots := 0, locals := 221 } s m args below meth c H locs 0 0 (vx_MQ below (mQv g b KX Q (mA b KX s.heap.size)) (mEx g b KX (fun _ _ => False) (mA b KX s.heap.size)) args s 0 0 (mA b KX s.heap.size)) (F0 m 127 ls []) := by
  unfold w_X10_cut_127 at h
  refine m_goto (pc := 127) (tgt := 39) C.1 dX10_cut_127 (by decide) ?_
  exact hko39 r0 kr0 x3 ox3 x4 ox4 x5 ox5 S _ _ _ (lv_sub hl [0, 1, 2, 3] rfl) hW hS h
def w_X10_cut_97 (N : Nat) (Q : mSt → Prop) (ko39 : Nat → Int → Int → Int → mSt → Prop) (r0 : Nat) (x3 : Int) (x4 : Int) (x5 : Int) (x6 : Int) (x7 : Int) (S : mSt) : Prop :=
  (0 ≤ x6 ∧ x6 < 400 ∧ (((S (r0 + 1) x6) = 32 → w_X10_cut_127 N Q ko39 r0 x3 x4 x5 S) ∧ ((S (r0 + 1) x6) ≠ 32 → w_X10_put N r0 x4 x7 x6 (nm (x5 - x6)) S (fun (S2 : mSt) => ∀ v3 : Int, v3 = nm (x4 + 1) → w_X10_cut_127 N Q ko39 r0 x3 v3 x5 S2))))
theorem W_X10_cut_97 (C : mC p l s m args meth c cX10_cut "MoonWash$Words" 8 none g) (N : Nat) {Q : mSt → Prop} {ko39 : Nat → Int → Int → Int → mSt → Prop} (hko39 : ∀ (r0 : Nat) (kr0 : KX r0 = (0, 8, 0)) (x3 : Int) (ox3 : okI x3) (x4 : Int) (ox4 : okI x4) (x5 : Int) (ox5 : okI x5) (S : mSt) (H : Heap) (locs : List Loc) (ls : Array Slot), lv_has ls 8 [(0, .ref (b + r0)), (3, .int (mI x3)), (4, .int (mI x4)), (5, .int (mI x5))] → mW g b KX S H → va_S (mA b KX s.heap.size) s.heap H locs → ko39 r0 x3 x4 x5 S → W p l e { frames := 8, cells := 0, slots := 0, locals := 221 } s m args below meth c H locs 0 0 (vx_MQ below (mQv g b KX Q (mA b KX s.heap.size)) (mEx g b KX (fun _ _ => False) (mA b KX s.heap.size)) args s 0 0 (mA b KX s.heap.size)) (F0 m 39 ls [])) (r0 : Nat) (kr0 : KX r0 = (0, 8, 0)) (x3 : Int) (ox3 : okI x3) (x4 : Int) (ox4 : okI x4) (x5 : Int) (ox5 : okI x5) (x6 : Int) (ox6 : okI x6) (x7 : Int) (ox7 : okI x7) (S : mSt) (H : Heap) (locs : List Loc) (ls : Array Slot) (hl : lv_has ls 8 [(0, .ref (b + r0)), (3, .int (mI x3)), (4, .int (mI x4)), (5, .int (mI x5)), (6, .int (mI x6)), (7, .int (mI x7))]) (hW : mW g b KX S H) (hS : va_S (mA b KX s.heap.size) s.heap H locs) (h : w_X10_cut_97 N Q ko39 r0 x3 x4 x5 x6 x7 S) : W p l e { frames := 8, cells := 0, slots := 0, locals := 221 } s m args below meth c H locs 0 0 (vx_MQ below (mQv g b KX Q (mA b KX s.heap.size)) (mEx g b KX (fun _ _ => False) (mA b KX s.heap.size)) args s 0 0 (mA b KX s.heap.size)) (F0 m 97 ls []) := by
  unfold w_X10_cut_97 at h
  refine m_aload_n (pc := 97) C.1 dX10_cut_97 rfl hl 0 rfl ?_
  refine g_8_0 (pc := 98) C hW kr0 q_284 dX10_cut_98 ?_
  refine m_iload (pc := 101) C.1 dX10_cut_101 hl 4 rfl ?_
  obtain ⟨hb1a, hb1b, h⟩ := h
  refine m_iald (pc := 103) C.1 C.2.1 hW (k_8_0 kr0) ox6 hb1a hb1b dX10_cut_103 ?_
  refine m_bipush (pc := 104) C.1 dX10_cut_104 rfl ?_
  refine m_icmp_eq (pc := 106) (tgt := 127) C.1 (hW.2.1 _ _) (by decide : okI 32) dX10_cut_106 (by decide) (fun hc => ?_) (fun hc => ?_)
  · replace h := h.1 hc
    exact W_X10_cut_127 C N hko39 r0 kr0 x3 ox3 x4 ox4 x5 ox5 S _ _ _ (lv_sub hl [0, 1, 2, 3] rfl) hW hS h
  · replace h := h.2 hc
    refine m_aload_n (pc := 109) C.1 dX10_cut_109 rfl hl 0 rfl ?_
    refine m_iload (pc := 110) C.1 dX10_cut_110 hl 2 rfl ?_
    refine m_iload (pc := 112) C.1 dX10_cut_112 hl 5 rfl ?_
    refine m_iload (pc := 114) C.1 dX10_cut_114 hl 4 rfl ?_
    refine m_iload (pc := 116) C.1 dX10_cut_116 hl 3 rfl ?_
    refine m_iload (pc := 118) C.1 dX10_cut_118 hl 4 rfl ?_
    refine m_isub (pc := 120) C.1 dX10_cut_120 ?_
    refine m_callVv (pc := 121) C.1 C.2.2.1 hl.1 C.2.1 hW hS (As := [.int (mI x4), .int (mI x7), .int (mI x6), .int (mI (nm (x5 - x6)))]) (rest := []) (r := r0) (T_X10_put C.2.2.2.2.2.2 N r0 kr0 x4 ox4 x7 ox7 x6 ox6 (nm (x5 - x6)) (nm_ok _) h) kr0 rfl q_613 q_615 q_5 q_85 q_616 pl_X10_put (by decide) (Nat.le_of_ble_eq_true rfl) dX10_cut_121 (fun S2 H locs h hW2 hS => ?_)
    refine m_iinc (pc := 124) C.1 dX10_cut_124 hl (by decide) (q0 := 2) rfl (fun v => [(4, .int v), (0, .ref (b + r0)), (3, .int (mI x3)), (5, .int (mI x5)), (6, .int (mI x6)), (7, .int (mI x7))]) (fun _ => rfl) (fun v3 ls ev3 ov3 hl => ?_)
    replace h := h v3 ev3
    exact W_X10_cut_127 C N hko39 r0 kr0 x3 ox3 v3 ov3 x5 ox5 S2 _ _ _ (lv_sub hl [1, 2, 0, 3] rfl) hW2 hS h
def w_X10_cut_39b (N : Nat) (Q : mSt → Prop) (ko39 : Nat → Int → Int → Int → mSt → Prop) (ko130 : Nat → Int → Int → mSt → Prop) (r0 : Nat) (x3 : Int) (x4 : Int) (x5 : Int) (S : mSt) : Prop :=
  ((x3 ≤ x5 → ko130 r0 x3 x4 S) ∧ (x5 < x3 → ∀ v1 : Int, v1 = x5 → (0 ≤ v1 ∧ v1 < 400 ∧ w_X10_typeOf N (S (r0 + 1) v1) S (fun (S3 : mSt) (v3 : Int) => ∀ v4 : Int, v4 = v3 → ∀ v5 : Int, v5 = nm (x5 + 1) → w_X10_cut_64 N Q (fun (r0_6 : Nat) (x3_6 : Int) (x4_6 : Int) (x5_6 : Int) (x6_6 : Int) (x7_6 : Int) (S_6 : mSt) => w_X10_cut_97 N Q ko39 r0_6 x3_6 x4_6 x5_6 x6_6 x7_6 S_6) N r0 x3 x4 v5 v1 v4 S3))))
theorem W_X10_cut_39b (C : mC p l s m args meth c cX10_cut "MoonWash$Words" 8 none g) (N : Nat) {Q : mSt → Prop} {ko39 : Nat → Int → Int → Int → mSt → Prop} {ko130 : Nat → Int → Int → mSt → Prop} (hko39 : ∀ (r0 : Nat) (kr0 : KX r0 = (0, 8, 0)) (x3 : Int) (ox3 : okI x3) (x4 : Int) (ox4 : okI x4) (x5 : Int) (ox5 : okI x5) (S : mSt) (H : Heap) (locs : List Loc) (ls : Array Slot), lv_has ls 8 [(0, .ref (b + r0)), (3, .int (mI x3)), (4, .int (mI x4)), (5, .int (mI x5))] → mW g b KX S H → va_S (mA b KX s.heap.size) s.heap H locs → ko39 r0 x3 x4 x5 S → W p l e { frames := 8, cells := 0, slots := 0, locals := 221 } s m args below meth c H locs 0 0 (vx_MQ below (mQv g b KX Q (mA b KX s.heap.size)) (mEx g b KX (fun _ _ => False) (mA b KX s.heap.size)) args s 0 0 (mA b KX s.heap.size)) (F0 m 39 ls [])) (hko130 : ∀ (r0 : Nat) (kr0 : KX r0 = (0, 8, 0)) (x3 : Int) (ox3 : okI x3) (x4 : Int) (ox4 : okI x4) (S : mSt) (H : Heap) (locs : List Loc) (ls : Array Slot), lv_has ls 8 [(0, .ref (b + r0)), (3, .int (mI x3)), (4, .int (mI x4))] → mW g b KX S H → va_S (mA b KX s.heap.size) s.heap H locs → ko130 r0 x3 x4 S → W p l e { frames := 8, cells := 0, slots := 0, locals := 221 } s m args below meth c H locs 0 0 (vx_MQ below (mQv g b KX Q (mA b KX s.heap.size)) (mEx g b KX (fun _ _ => False) (mA b KX s.heap.size)) args s 0 0 (mA b KX s.heap.size)) (F0 m 130 ls [])) (r0 : Nat) (kr0 : KX r0 = (0, 8, 0)) (x3 : Int) (ox3 : okI x3) (x4 : Int) (ox4 : okI x4) (x5 : Int) (ox5 : okI x5) (S : mSt) (H : Heap) (locs : List Loc) (ls : Array Slot) (hl : lv_has ls 8 [(0, .ref (b + r0)), (3, .int (mI x3)), (4, .int (mI x4)), (5, .int (mI x5))]) (hW : mW g b KX S H) (hS : va_S (mA b KX s.heap.size) s.heap H locs) (h : w_X10_cut_39b N Q ko39 ko130 r0 x3 x4 x5 S) : W p l e { frames := 8, cells := 0, slots := 0, locals := 221 } s m args below meth c H locs 0 0 (vx_MQ below (mQv g b KX Q (mA b KX s.heap.size)) (mEx g b KX (fun _ _ => False) (mA b KX s.heap.size)) args s 0 0 (mA b KX s.heap.size)) (F0 m 39 ls []) := by
  unfold w_X10_cut_39b at h
  refine m_iload (pc := 39) C.1 dX10_cut_39 hl 3 rfl ?_
  refine m_iload_n (pc := 41) C.1 dX10_cut_41 rfl hl 1 rfl ?_
  refine m_icmp_ge (pc := 42) (tgt := 130) C.1 ox5 ox3 dX10_cut_42 (by decide) (fun hc => ?_) (fun hc => ?_)
  · replace h := h.1 hc
    exact hko130 r0 kr0 x3 ox3 x4 ox4 S _ _ _ (lv_sub hl [0, 1, 2] rfl) hW hS h
  · replace h := h.2 hc
    refine m_iload (pc := 45) C.1 dX10_cut_45 hl 3 rfl ?_
    refine m_istore (pc := 47) C.1 dX10_cut_47 hl (by decide) (fun v => [(6, .int v), (0, .ref (b + r0)), (3, .int (mI x3)), (4, .int (mI x4)), (5, .int (mI x5))]) (fun _ => rfl) ox5 (fun v1 ls ev1 ov1 hl => ?_)
    replace h := h v1 ev1
    refine m_aload_n (pc := 49) C.1 dX10_cut_49 rfl hl 1 rfl ?_
    refine g_8_0 (pc := 50) C hW kr0 q_284 dX10_cut_50 ?_
    refine m_iload (pc := 53) C.1 dX10_cut_53 hl 0 rfl ?_
    obtain ⟨hb2a, hb2b, h⟩ := h
    refine m_iald (pc := 55) C.1 C.2.1 hW (k_8_0 kr0) ov1 hb2a hb2b dX10_cut_55 ?_
    refine m_callSi (pc := 56) C.1 C.2.2.1 hl.1 C.2.1 hW hS (As := [.int (mI (S (r0 + 1) v1))]) (rest := []) (T_X10_typeOf C.2.2.2.2.2.2 N (S (r0 + 1) v1) (hW.2.1 _ _) h) q_610 q_611 q_85 q_612 pl_X10_typeOf (by decide) (Nat.le_of_ble_eq_true rfl) dX10_cut_56 (fun v3 S3 H locs ov3 h hW3 hS => ?_)
    refine m_istore (pc := 59) C.1 dX10_cut_59 hl (by decide) (fun v => [(7, .int v), (6, .int (mI v1)), (0, .ref (b + r0)), (3, .int (mI x3)), (4, .int (mI x4)), (5, .int (mI x5))]) (fun _ => rfl) ov3 (fun v4 ls ev4 ov4 hl => ?_)
    replace h := h v4 ev4
    refine m_iinc (pc := 61) C.1 dX10_cut_61 hl (by decide) (q0 := 5) rfl (fun v => [(5, .int v), (7, .int (mI v4)), (6, .int (mI v1)), (0, .ref (b + r0)), (3, .int (mI x3)), (4, .int (mI x4))]) (fun _ => rfl) (fun v5 ls ev5 ov5 hl => ?_)
    replace h := h v5 ev5
    refine W_X10_cut_64 C N ?_ N r0 kr0 x3 ox3 x4 ox4 v5 ov5 v1 ov1 v4 ov4 S3 _ _ _ (lv_sub hl [3, 4, 5, 0, 2, 1] rfl) hW3 hS h
    · intro r0_6 kr0_6 x3_6 ox3_6 x4_6 ox4_6 x5_6 ox5_6 x6_6 ox6_6 x7_6 ox7_6 S_6 H locs ls hl hW_6 hS h
      exact W_X10_cut_97 C N hko39 r0_6 kr0_6 x3_6 ox3_6 x4_6 ox4_6 x5_6 ox5_6 x6_6 ox6_6 x7_6 ox7_6 S_6 _ _ _ (lv_sub hl [0, 1, 2, 3, 4, 5] rfl) hW_6 hS h
def w_X10_cut_39 (N : Nat) (Q : mSt → Prop) (ko130 : Nat → Int → Int → mSt → Prop) : Nat → Nat → Int → Int → Int → mSt → Prop
  | 0 => fun _ _ _ _ _ => False
  | k + 1 => w_X10_cut_39b N Q (w_X10_cut_39 N Q ko130 k) ko130
theorem W_X10_cut_39 (C : mC p l s m args meth c cX10_cut "MoonWash$Words" 8 none g) (N : Nat) {Q : mSt → Prop} {ko130 : Nat → Int → Int → mSt → Prop} (hko130 : ∀ (r0 : Nat) (kr0 : KX r0 = (0, 8, 0)) (x3 : Int) (ox3 : okI x3) (x4 : Int) (ox4 : okI x4) (S : mSt) (H : Heap) (locs : List Loc) (ls : Array Slot), lv_has ls 8 [(0, .ref (b + r0)), (3, .int (mI x3)), (4, .int (mI x4))] → mW g b KX S H → va_S (mA b KX s.heap.size) s.heap H locs → ko130 r0 x3 x4 S → W p l e { frames := 8, cells := 0, slots := 0, locals := 221 } s m args below meth c H locs 0 0 (vx_MQ below (mQv g b KX Q (mA b KX s.heap.size)) (mEx g b KX (fun _ _ => False) (mA b KX s.heap.size)) args s 0 0 (mA b KX s.heap.size)) (F0 m 130 ls [])) : ∀ (k : Nat) (r0 : Nat) (kr0 : KX r0 = (0, 8, 0)) (x3 : Int) (ox3 : okI x3) (x4 : Int) (ox4 : okI x4) (x5 : Int) (ox5 : okI x5) (S : mSt) (H : Heap) (locs : List Loc) (ls : Array Slot) (hl : lv_has ls 8 [(0, .ref (b + r0)), (3, .int (mI x3)), (4, .int (mI x4)), (5, .int (mI x5))]) (hW : mW g b KX S H) (hS : va_S (mA b KX s.heap.size) s.heap H locs) (h : w_X10_cut_39 N Q ko130 k r0 x3 x4 x5 S), W p l e { frames := 8, cells := 0, slots := 0, locals := 221 } s m args below meth c H locs 0 0 (vx_MQ below (mQv g b KX Q (mA b KX s.heap.size)) (mEx g b KX (fun _ _ => False) (mA b KX s.heap.size)) args s 0 0 (mA b KX s.heap.size)) (F0 m 39 ls []) := by
  intro k
  induction k with
  | zero => intro r0 kr0 x3 ox3 x4 ox4 x5 ox5 S H locs ls hl hW hS h; exact False.elim h
  | succ k ih => intro r0 kr0 x3 ox3 x4 ox4 x5 ox5 S H locs ls hl hW hS h; exact W_X10_cut_39b C N ih hko130 r0 kr0 x3 ox3 x4 ox4 x5 ox5 S H locs ls hl hW hS h
end
def w_X10_cut (N : Nat) (r0 : Nat) (r1 : Nat) (x2 : Int) (S : mSt) (Q : mSt → Prop) : Prop :=
  ∀ v1 : Int, v1 = (iMax 0 (iMin x2 400)) → (0 ≤ v1 ∧ v1 ≤ 400 ∧ v1 ≤ 400 ∧ ∀ S3 : mSt, S3 = mcp S r1 (r0 + 1) v1 → ∀ S4 : mSt, S4 = mup S3 r0 6 (-1) → ∀ S5 : mSt, S5 = mup S4 r0 5 0 → ∀ v6 : Int, v6 = 0 → ∀ v7 : Int, v7 = 0 → w_X10_cut_39 N Q (fun (r0_8 : Nat) (x3_8 : Int) (x4_8 : Int) (S_8 : mSt) => (0 ≤ x4_8 ∧ x4_8 < 401 ∧ ∀ S10 : mSt, S10 = mup S_8 (r0_8 + 2) x4_8 (0 : Int) → (0 ≤ x4_8 ∧ x4_8 < 401 ∧ ∀ S12 : mSt, S12 = mup S10 (r0_8 + 3) x4_8 x3_8 → (0 ≤ x4_8 ∧ x4_8 < 401 ∧ ∀ S14 : mSt, S14 = mup S12 (r0_8 + 4) x4_8 0 → (0 ≤ x4_8 ∧ x4_8 < 401 ∧ ∀ S16 : mSt, S16 = mup S14 (r0_8 + 5) x4_8 (-1) → Q S16))))) N r0 v1 v6 v7 S5)
theorem T_X10_cut {l : Launch} (hl0 : l.stackTraces = false) {g : mG} {b : Nat} (N : Nat) (r0 : Nat) (kr0 : KX r0 = (0, 8, 0)) (r1 : Nat) (kr1 : KX r1 = (1, 400, 0)) (x2 : Int) (ox2 : okI x2) {S : mSt} {Q : mSt → Prop} (h : w_X10_cut N r0 r1 x2 S Q) (sz : Nat) : vx_Met l yX10_cut (Cond.code yX10_cut cX10_cut 8 none :: wsG) { frames := 8, cells := 0, slots := 0, locals := 221 } (mPc g b KX S [.ref (b + r0), .ref (b + r1), .int (mI x2)] sz) (mQv g b KX Q (mA b KX sz)) (mEx g b KX (fun _ _ => False) (mA b KX sz)) 0 0 (mA b KX sz) :=
  m_of (av := [.ref (b + r0), .ref (b + r1), .int (mI x2)]) (Qf := fun A => mQv g b KX Q A) (Xf := fun A => mEx g b KX (fun _ _ => False) A) (by decide) (Nat.le_of_ble_eq_true rfl) (fun p e s m args below meth c ls X hK hml hr hlk hout hnm hW hl => by
    have C : mC p l s m args meth c cX10_cut "MoonWash$Words" 8 none g := ⟨X, hK, hml, hr, hlk, hout, hl0⟩
    have hS : va_S (mA b KX s.heap.size) s.heap s.heap [] := va_S.rf
    have hl : lv_has ls 8 [(0, .ref (b + r0)), (1, .ref (b + r1)), (2, .int (mI x2))] := hl
    unfold w_X10_cut at h
    refine m_iconst (pc := 0) C.1 dX10_cut_0 ?_
    refine m_iload_n (pc := 1) C.1 dX10_cut_1 rfl hl 2 rfl ?_
    refine m_sipush (pc := 2) C.1 dX10_cut_2 rfl ?_
    refine m_min (pc := 5) C.1 C.2.2.1 hl.1 ox2 (by decide : okI 400) q_607 q_520 q_93 q_521 (by refine ⟨?_, Nat.le_of_ble_eq_true rfl, ?_, ?_⟩ <;> decide) dX10_cut_5 ?_
    refine m_max (pc := 8) C.1 C.2.2.1 hl.1 (by decide : okI 0) (iMin_ok ox2 (by decide : okI 400)) q_608 q_523 q_93 q_524 (by refine ⟨?_, Nat.le_of_ble_eq_true rfl, ?_, ?_⟩ <;> decide) dX10_cut_8 ?_
    refine m_istore_n (pc := 11) C.1 dX10_cut_11 rfl hl (by decide) (fun v => [(3, .int v), (0, .ref (b + r0)), (1, .ref (b + r1)), (2, .int (mI x2))]) (fun _ => rfl) (iMax_ok (by decide : okI 0) (iMin_ok ox2 (by decide : okI 400))) (fun v1 ls ev1 ov1 hl => ?_)
    replace h := h v1 ev1
    refine m_aload_n (pc := 12) C.1 dX10_cut_12 rfl hl 2 rfl ?_
    refine m_iconst (pc := 13) C.1 dX10_cut_13 ?_
    refine m_aload_n (pc := 14) C.1 dX10_cut_14 rfl hl 1 rfl ?_
    refine g_8_0 (pc := 15) C hW kr0 q_284 dX10_cut_15 ?_
    refine m_iconst (pc := 18) C.1 dX10_cut_18 ?_
    refine m_iload_n (pc := 19) C.1 dX10_cut_19 rfl hl 0 rfl ?_
    obtain ⟨hb2a, hb2b, hb2c, h⟩ := h
    refine m_copy (pc := 20) C.1 C.2.2.1 hl.1 C.2.1 hW hS q_609 q_470 q_469 q_94 kr1 (k_8_0 kr0) ov1 hb2a hb2b hb2c (by refine ⟨?_, Nat.le_of_ble_eq_true rfl⟩; decide) dX10_cut_20 (fun S3 H locs e3 hW3 hS => ?_)
    replace h := h S3 e3
    refine m_aload_n (pc := 23) C.1 dX10_cut_23 rfl hl 1 rfl ?_
    refine m_iconst (pc := 24) C.1 dX10_cut_24 ?_
    refine p_8_6 (pc := 25) C hW3 hS kr0 q_290 (by decide : okI (-1)) dX10_cut_25 (fun S4 H locs e4 hW4 hS => ?_)
    replace h := h S4 e4
    refine m_aload_n (pc := 28) C.1 dX10_cut_28 rfl hl 1 rfl ?_
    refine m_iconst (pc := 29) C.1 dX10_cut_29 ?_
    refine p_8_5 (pc := 30) C hW4 hS kr0 q_289 (by decide : okI 0) dX10_cut_30 (fun S5 H locs e5 hW5 hS => ?_)
    replace h := h S5 e5
    refine m_iconst (pc := 33) C.1 dX10_cut_33 ?_
    refine m_istore (pc := 34) C.1 dX10_cut_34 hl (by decide) (fun v => [(4, .int v), (3, .int (mI v1)), (0, .ref (b + r0)), (1, .ref (b + r1)), (2, .int (mI x2))]) (fun _ => rfl) (by decide : okI 0) (fun v6 ls ev6 ov6 hl => ?_)
    replace h := h v6 ev6
    refine m_iconst (pc := 36) C.1 dX10_cut_36 ?_
    refine m_istore (pc := 37) C.1 dX10_cut_37 hl (by decide) (fun v => [(5, .int v), (4, .int (mI v6)), (3, .int (mI v1)), (0, .ref (b + r0)), (1, .ref (b + r1)), (2, .int (mI x2))]) (fun _ => rfl) (by decide : okI 0) (fun v7 ls ev7 ov7 hl => ?_)
    replace h := h v7 ev7
    refine W_X10_cut_39 C N ?_ N r0 kr0 v1 ov1 v6 ov6 v7 ov7 S5 _ _ _ (lv_sub hl [3, 2, 1, 0] rfl) hW5 hS h
    · intro r0_8 kr0_8 x3_8 ox3_8 x4_8 ox4_8 S_8 H locs ls hl hW_8 hS h
      refine m_aload_n (pc := 130) C.1 dX10_cut_130 rfl hl 0 rfl ?_
      refine g_8_1 (pc := 131) C hW_8 kr0_8 q_285 dX10_cut_131 ?_
      refine m_iload (pc := 134) C.1 dX10_cut_134 hl 2 rfl ?_
      refine m_token (pc := 136) C.1 C.2.1 hW_8 hS 0 (by decide) rfl q_282 dX10_cut_136 ?_
      obtain ⟨hb9a, hb9b, h⟩ := h
      refine m_aastT (pc := 139) C.1 C.2.1 hW_8 hS (k_8_1 kr0_8) (by decide : 0 < 36) ox4_8 hb9a hb9b dX10_cut_139 (fun S10 H locs e10 hW10 hS => ?_)
      replace h := h S10 e10
      refine m_aload_n (pc := 140) C.1 dX10_cut_140 rfl hl 0 rfl ?_
      refine g_8_2 (pc := 141) C hW10 kr0_8 q_286 dX10_cut_141 ?_
      refine m_iload (pc := 144) C.1 dX10_cut_144 hl 2 rfl ?_
      refine m_iload_n (pc := 146) C.1 dX10_cut_146 rfl hl 1 rfl ?_
      obtain ⟨hb11a, hb11b, h⟩ := h
      refine m_iast (pc := 147) C.1 C.2.1 hW10 hS (k_8_2 kr0_8) ox4_8 ox3_8 hb11a hb11b dX10_cut_147 (fun S12 H locs e12 hW12 hS => ?_)
      replace h := h S12 e12
      refine m_aload_n (pc := 148) C.1 dX10_cut_148 rfl hl 0 rfl ?_
      refine g_8_3 (pc := 149) C hW12 kr0_8 q_287 dX10_cut_149 ?_
      refine m_iload (pc := 152) C.1 dX10_cut_152 hl 2 rfl ?_
      refine m_iconst (pc := 154) C.1 dX10_cut_154 ?_
      obtain ⟨hb13a, hb13b, h⟩ := h
      refine m_iast (pc := 155) C.1 C.2.1 hW12 hS (k_8_3 kr0_8) ox4_8 (by decide : okI 0) hb13a hb13b dX10_cut_155 (fun S14 H locs e14 hW14 hS => ?_)
      replace h := h S14 e14
      refine m_aload_n (pc := 156) C.1 dX10_cut_156 rfl hl 0 rfl ?_
      refine g_8_4 (pc := 157) C hW14 kr0_8 q_288 dX10_cut_157 ?_
      refine m_iload (pc := 160) C.1 dX10_cut_160 hl 2 rfl ?_
      refine m_iconst (pc := 162) C.1 dX10_cut_162 ?_
      obtain ⟨hb15a, hb15b, h⟩ := h
      refine m_iast (pc := 163) C.1 C.2.1 hW14 hS (k_8_4 kr0_8) ox4_8 (by decide : okI (-1)) hb15a hb15b dX10_cut_163 (fun S16 H locs e16 hW16 hS => ?_)
      replace h := h S16 e16
      exact m_vret (pc := 164) C.1 C.2.2.2.1 C.2.2.2.2.1 hW16 hS h (by decide) (by decide) dX10_cut_164) sz
section
variable {p : Program} {l : Launch} {e : Env} {s : State} {m : MethodId} {args : Array Value} {below : List Frame} {meth : Method} {c : Code} {g : mG} {b : Nat}
def w_X11_feedNumber_43 (N : Nat) (Q : mSt → Prop) (ko3 : Nat → Int → Int → mSt → Prop) (r0 : Nat) (x1 : Int) (x2 : Int) (S : mSt) : Prop :=
  ∀ v1 : Int, v1 = nm (x2 + (-8)) → ko3 r0 x1 v1 S
theorem W_X11_feedNumber_43 (C : mC p l s m args meth c cX11_feedNumber "MoonWash" 3 none g) (N : Nat) {Q : mSt → Prop} {ko3 : Nat → Int → Int → mSt → Prop} (hko3 : ∀ (r0 : Nat) (kr0 : KX r0 = (0, 9, 0)) (x1 : Int) (ox1 : okI x1) (x2 : Int) (ox2 : okI x2) (S : mSt) (H : Heap) (locs : List Loc) (ls : Array Slot), lv_has ls 3 [(0, .ref (b + r0)), (1, .int (mI x1)), (2, .int (mI x2))] → mW g b KX S H → va_S (mA b KX s.heap.size) s.heap H locs → ko3 r0 x1 x2 S → W p l e { frames := 0, cells := 0, slots := 0, locals := 0 } s m args below meth c H locs 0 0 (vx_MQ below (mQv g b KX Q (mA b KX s.heap.size)) (mEx g b KX (fun _ _ => False) (mA b KX s.heap.size)) args s 0 0 (mA b KX s.heap.size)) (F0 m 3 ls [])) (r0 : Nat) (kr0 : KX r0 = (0, 9, 0)) (x1 : Int) (ox1 : okI x1) (x2 : Int) (ox2 : okI x2) (S : mSt) (H : Heap) (locs : List Loc) (ls : Array Slot) (hl : lv_has ls 3 [(0, .ref (b + r0)), (1, .int (mI x1)), (2, .int (mI x2))]) (hW : mW g b KX S H) (hS : va_S (mA b KX s.heap.size) s.heap H locs) (h : w_X11_feedNumber_43 N Q ko3 r0 x1 x2 S) : W p l e { frames := 0, cells := 0, slots := 0, locals := 0 } s m args below meth c H locs 0 0 (vx_MQ below (mQv g b KX Q (mA b KX s.heap.size)) (mEx g b KX (fun _ _ => False) (mA b KX s.heap.size)) args s 0 0 (mA b KX s.heap.size)) (F0 m 43 ls []) := by
  unfold w_X11_feedNumber_43 at h
  refine m_iinc (pc := 43) C.1 dX11_feedNumber_43 hl (by decide) (q0 := 2) rfl (fun v => [(2, .int v), (0, .ref (b + r0)), (1, .int (mI x1))]) (fun _ => rfl) (fun v1 ls ev1 ov1 hl => ?_)
  replace h := h v1 ev1
  refine m_goto (pc := 46) (tgt := 3) C.1 dX11_feedNumber_46 (by decide) ?_
  exact hko3 r0 kr0 x1 ox1 v1 ov1 S _ _ _ (lv_sub hl [1, 2, 0] rfl) hW hS h
def w_X11_feedNumber_3b (N : Nat) (Q : mSt → Prop) (ko3 : Nat → Int → Int → mSt → Prop) (ko49 : mSt → Prop) (r0 : Nat) (x1 : Int) (x2 : Int) (S : mSt) : Prop :=
  ((x2 < 0 → ko49 S) ∧ (0 ≤ x2 → ((400 ≤ (S r0 1) → w_X11_feedNumber_43 N Q ko3 r0 x1 x2 S) ∧ ((S r0 1) < 400 → (0 ≤ (S r0 1) ∧ (S r0 1) < 400 ∧ ∀ S2 : mSt, S2 = mup S (r0 + 1) (S r0 1) (bAnd (bShr x1 x2) 255) → ∀ S3 : mSt, S3 = mup S2 r0 1 (nm ((S2 r0 1) + 1)) → w_X11_feedNumber_43 N Q ko3 r0 x1 x2 S3)))))
theorem W_X11_feedNumber_3b (C : mC p l s m args meth c cX11_feedNumber "MoonWash" 3 none g) (N : Nat) {Q : mSt → Prop} {ko3 : Nat → Int → Int → mSt → Prop} {ko49 : mSt → Prop} (hko3 : ∀ (r0 : Nat) (kr0 : KX r0 = (0, 9, 0)) (x1 : Int) (ox1 : okI x1) (x2 : Int) (ox2 : okI x2) (S : mSt) (H : Heap) (locs : List Loc) (ls : Array Slot), lv_has ls 3 [(0, .ref (b + r0)), (1, .int (mI x1)), (2, .int (mI x2))] → mW g b KX S H → va_S (mA b KX s.heap.size) s.heap H locs → ko3 r0 x1 x2 S → W p l e { frames := 0, cells := 0, slots := 0, locals := 0 } s m args below meth c H locs 0 0 (vx_MQ below (mQv g b KX Q (mA b KX s.heap.size)) (mEx g b KX (fun _ _ => False) (mA b KX s.heap.size)) args s 0 0 (mA b KX s.heap.size)) (F0 m 3 ls [])) (hko49 : ∀  (S : mSt) (H : Heap) (locs : List Loc) (ls : Array Slot), lv_has ls 3 [] → mW g b KX S H → va_S (mA b KX s.heap.size) s.heap H locs → ko49 S → W p l e { frames := 0, cells := 0, slots := 0, locals := 0 } s m args below meth c H locs 0 0 (vx_MQ below (mQv g b KX Q (mA b KX s.heap.size)) (mEx g b KX (fun _ _ => False) (mA b KX s.heap.size)) args s 0 0 (mA b KX s.heap.size)) (F0 m 49 ls [])) (r0 : Nat) (kr0 : KX r0 = (0, 9, 0)) (x1 : Int) (ox1 : okI x1) (x2 : Int) (ox2 : okI x2) (S : mSt) (H : Heap) (locs : List Loc) (ls : Array Slot) (hl : lv_has ls 3 [(0, .ref (b + r0)), (1, .int (mI x1)), (2, .int (mI x2))]) (hW : mW g b KX S H) (hS : va_S (mA b KX s.heap.size) s.heap H locs) (h : w_X11_feedNumber_3b N Q ko3 ko49 r0 x1 x2 S) : W p l e { frames := 0, cells := 0, slots := 0, locals := 0 } s m args below meth c H locs 0 0 (vx_MQ below (mQv g b KX Q (mA b KX s.heap.size)) (mEx g b KX (fun _ _ => False) (mA b KX s.heap.size)) args s 0 0 (mA b KX s.heap.size)) (F0 m 3 ls []) := by
  unfold w_X11_feedNumber_3b at h
  refine m_iload_n (pc := 3) C.1 dX11_feedNumber_3 rfl hl 2 rfl ?_
  refine m_if_lt (pc := 4) (tgt := 49) C.1 ox2 dX11_feedNumber_4 (by decide) (fun hc => ?_) (fun hc => ?_)
  · replace h := h.1 hc
    exact hko49  S _ _ _ (lv_sub hl [] rfl) hW hS h
  · replace h := h.2 hc
    refine m_aload_n (pc := 7) C.1 dX11_feedNumber_7 rfl hl 0 rfl ?_
    refine g_9_1 (pc := 8) C hW kr0 q_393 dX11_feedNumber_8 ?_
    refine m_sipush (pc := 11) C.1 dX11_feedNumber_11 rfl ?_
    refine m_icmp_ge (pc := 14) (tgt := 43) C.1 (hW.2.1 _ _) (by decide : okI 400) dX11_feedNumber_14 (by decide) (fun hc => ?_) (fun hc => ?_)
    · replace h := h.1 hc
      exact W_X11_feedNumber_43 C N hko3 r0 kr0 x1 ox1 x2 ox2 S _ _ _ (lv_sub hl [0, 1, 2] rfl) hW hS h
    · replace h := h.2 hc
      refine m_aload_n (pc := 17) C.1 dX11_feedNumber_17 rfl hl 0 rfl ?_
      refine g_9_0 (pc := 18) C hW kr0 q_392 dX11_feedNumber_18 ?_
      refine m_aload_n (pc := 21) C.1 dX11_feedNumber_21 rfl hl 0 rfl ?_
      refine g_9_1 (pc := 22) C hW kr0 q_393 dX11_feedNumber_22 ?_
      refine m_iload_n (pc := 25) C.1 dX11_feedNumber_25 rfl hl 1 rfl ?_
      refine m_iload_n (pc := 26) C.1 dX11_feedNumber_26 rfl hl 2 rfl ?_
      refine m_ishr (pc := 27) C.1 dX11_feedNumber_27 ?_
      refine m_sipush (pc := 28) C.1 dX11_feedNumber_28 rfl ?_
      refine m_iand (pc := 31) C.1 dX11_feedNumber_31 ?_
      obtain ⟨hb1a, hb1b, h⟩ := h
      refine m_iast (pc := 32) C.1 C.2.1 hW hS (k_9_0 kr0) (hW.2.1 _ _) (bAnd_ok _ _) hb1a hb1b dX11_feedNumber_32 (fun S2 H locs e2 hW2 hS => ?_)
      replace h := h S2 e2
      refine m_aload_n (pc := 33) C.1 dX11_feedNumber_33 rfl hl 0 rfl ?_
      refine lv_dup (pc := 34) C.1.1 C.1.2.1 dX11_feedNumber_34 rfl ?_
      refine g_9_1 (pc := 35) C hW2 kr0 q_393 dX11_feedNumber_35 ?_
      refine m_iconst (pc := 38) C.1 dX11_feedNumber_38 ?_
      refine m_iadd (pc := 39) C.1 dX11_feedNumber_39 ?_
      refine p_9_1 (pc := 40) C hW2 hS kr0 q_393 (nm_ok _) dX11_feedNumber_40 (fun S3 H locs e3 hW3 hS => ?_)
      replace h := h S3 e3
      exact W_X11_feedNumber_43 C N hko3 r0 kr0 x1 ox1 x2 ox2 S3 _ _ _ (lv_sub hl [0, 1, 2] rfl) hW3 hS h
def w_X11_feedNumber_3 (N : Nat) (Q : mSt → Prop) (ko49 : mSt → Prop) : Nat → Nat → Int → Int → mSt → Prop
  | 0 => fun _ _ _ _ => False
  | k + 1 => w_X11_feedNumber_3b N Q (w_X11_feedNumber_3 N Q ko49 k) ko49
theorem W_X11_feedNumber_3 (C : mC p l s m args meth c cX11_feedNumber "MoonWash" 3 none g) (N : Nat) {Q : mSt → Prop} {ko49 : mSt → Prop} (hko49 : ∀  (S : mSt) (H : Heap) (locs : List Loc) (ls : Array Slot), lv_has ls 3 [] → mW g b KX S H → va_S (mA b KX s.heap.size) s.heap H locs → ko49 S → W p l e { frames := 0, cells := 0, slots := 0, locals := 0 } s m args below meth c H locs 0 0 (vx_MQ below (mQv g b KX Q (mA b KX s.heap.size)) (mEx g b KX (fun _ _ => False) (mA b KX s.heap.size)) args s 0 0 (mA b KX s.heap.size)) (F0 m 49 ls [])) : ∀ (k : Nat) (r0 : Nat) (kr0 : KX r0 = (0, 9, 0)) (x1 : Int) (ox1 : okI x1) (x2 : Int) (ox2 : okI x2) (S : mSt) (H : Heap) (locs : List Loc) (ls : Array Slot) (hl : lv_has ls 3 [(0, .ref (b + r0)), (1, .int (mI x1)), (2, .int (mI x2))]) (hW : mW g b KX S H) (hS : va_S (mA b KX s.heap.size) s.heap H locs) (h : w_X11_feedNumber_3 N Q ko49 k r0 x1 x2 S), W p l e { frames := 0, cells := 0, slots := 0, locals := 0 } s m args below meth c H locs 0 0 (vx_MQ below (mQv g b KX Q (mA b KX s.heap.size)) (mEx g b KX (fun _ _ => False) (mA b KX s.heap.size)) args s 0 0 (mA b KX s.heap.size)) (F0 m 3 ls []) := by
  intro k
  induction k with
  | zero => intro r0 kr0 x1 ox1 x2 ox2 S H locs ls hl hW hS h; exact False.elim h
  | succ k ih => intro r0 kr0 x1 ox1 x2 ox2 S H locs ls hl hW hS h; exact W_X11_feedNumber_3b C N ih hko49 r0 kr0 x1 ox1 x2 ox2 S H locs ls hl hW hS h
end
def w_X11_feedNumber (N : Nat) (r0 : Nat) (x1 : Int) (S : mSt) (Q : mSt → Prop) : Prop :=
  ∀ v1 : Int, v1 = 24 → w_X11_feedNumber_3 N Q (fun  (S_2 : mSt) => Q S_2) N r0 x1 v1 S
theorem T_X11_feedNumber {l : Launch} (hl0 : l.stackTraces = false) {g : mG} {b : Nat} (N : Nat) (r0 : Nat) (kr0 : KX r0 = (0, 9, 0)) (x1 : Int) (ox1 : okI x1) {S : mSt} {Q : mSt → Prop} (h : w_X11_feedNumber N r0 x1 S Q) (sz : Nat) : vx_Met l yX11_feedNumber (Cond.code yX11_feedNumber cX11_feedNumber 3 none :: wsG) { frames := 0, cells := 0, slots := 0, locals := 0 } (mPc g b KX S [.ref (b + r0), .int (mI x1)] sz) (mQv g b KX Q (mA b KX sz)) (mEx g b KX (fun _ _ => False) (mA b KX sz)) 0 0 (mA b KX sz) :=
  m_of (av := [.ref (b + r0), .int (mI x1)]) (Qf := fun A => mQv g b KX Q A) (Xf := fun A => mEx g b KX (fun _ _ => False) A) (by decide) (Nat.le_of_ble_eq_true rfl) (fun p e s m args below meth c ls X hK hml hr hlk hout hnm hW hl => by
    have C : mC p l s m args meth c cX11_feedNumber "MoonWash" 3 none g := ⟨X, hK, hml, hr, hlk, hout, hl0⟩
    have hS : va_S (mA b KX s.heap.size) s.heap s.heap [] := va_S.rf
    have hl : lv_has ls 3 [(0, .ref (b + r0)), (1, .int (mI x1))] := hl
    unfold w_X11_feedNumber at h
    refine m_bipush (pc := 0) C.1 dX11_feedNumber_0 rfl ?_
    refine m_istore_n (pc := 2) C.1 dX11_feedNumber_2 rfl hl (by decide) (fun v => [(2, .int v), (0, .ref (b + r0)), (1, .int (mI x1))]) (fun _ => rfl) (by decide : okI 24) (fun v1 ls ev1 ov1 hl => ?_)
    replace h := h v1 ev1
    refine W_X11_feedNumber_3 C N ?_ N r0 kr0 x1 ox1 v1 ov1 S _ _ _ (lv_sub hl [1, 2, 0] rfl) hW hS h
    · intro S_2 H locs ls hl hW_2 hS h
      exact m_vret (pc := 49) C.1 C.2.2.2.1 C.2.2.2.2.1 hW_2 hS h (by decide) (by decide) dX11_feedNumber_49) sz
section
variable {p : Program} {l : Launch} {e : Env} {s : State} {m : MethodId} {args : Array Value} {below : List Frame} {meth : Method} {c : Code} {g : mG} {b : Nat}
end
def w_X11_feed (N : Nat) (r0 : Nat) (x1 : Int) (x2 : Int) (x3 : Int) (x4 : Int) (x5 : Int) (S : mSt) (Q : mSt → Int → Prop) : Prop :=
  (((S r0 1) ≤ 380 → w_X11_feedNumber N r0 x1 S (fun (S1 : mSt) => w_X11_feedNumber N r0 x2 S1 (fun (S2 : mSt) => w_X11_feedNumber N r0 x3 S2 (fun (S3 : mSt) => w_X11_feedNumber N r0 x4 S3 (fun (S4 : mSt) => w_X11_feedNumber N r0 x5 S4 (fun (S5 : mSt) => Q S5 (S5 r0 1))))))) ∧ (380 < (S r0 1) → Q S (-1)))
theorem T_X11_feed {l : Launch} (hl0 : l.stackTraces = false) {g : mG} {b : Nat} (N : Nat) (r0 : Nat) (kr0 : KX r0 = (0, 9, 0)) (x1 : Int) (ox1 : okI x1) (x2 : Int) (ox2 : okI x2) (x3 : Int) (ox3 : okI x3) (x4 : Int) (ox4 : okI x4) (x5 : Int) (ox5 : okI x5) {S : mSt} {Q : mSt → Int → Prop} (h : w_X11_feed N r0 x1 x2 x3 x4 x5 S Q) (sz : Nat) : vx_Met l yX11_feed (Cond.code yX11_feed cX11_feed 6 (some FieldType.int) :: wsG) { frames := 1, cells := 0, slots := 0, locals := 22 } (mPc g b KX S [.ref (b + r0), .int (mI x1), .int (mI x2), .int (mI x3), .int (mI x4), .int (mI x5)] sz) (mQi g b KX Q (mA b KX sz)) (mEx g b KX (fun _ _ => False) (mA b KX sz)) 0 0 (mA b KX sz) :=
  m_of (av := [.ref (b + r0), .int (mI x1), .int (mI x2), .int (mI x3), .int (mI x4), .int (mI x5)]) (Qf := fun A => mQi g b KX Q A) (Xf := fun A => mEx g b KX (fun _ _ => False) A) (by decide) (Nat.le_of_ble_eq_true rfl) (fun p e s m args below meth c ls X hK hml hr hlk hout hnm hW hl => by
    have C : mC p l s m args meth c cX11_feed "MoonWash" 6 (some FieldType.int) g := ⟨X, hK, hml, hr, hlk, hout, hl0⟩
    have hS : va_S (mA b KX s.heap.size) s.heap s.heap [] := va_S.rf
    have hl : lv_has ls 6 [(0, .ref (b + r0)), (1, .int (mI x1)), (2, .int (mI x2)), (3, .int (mI x3)), (4, .int (mI x4)), (5, .int (mI x5))] := hl
    unfold w_X11_feed at h
    refine m_aload_n (pc := 0) C.1 dX11_feed_0 rfl hl 0 rfl ?_
    refine g_9_1 (pc := 1) C hW kr0 q_393 dX11_feed_1 ?_
    refine m_sipush (pc := 4) C.1 dX11_feed_4 rfl ?_
    refine m_icmp_le (pc := 7) (tgt := 12) C.1 (hW.2.1 _ _) (by decide : okI 380) dX11_feed_7 (by decide) (fun hc => ?_) (fun hc => ?_)
    · replace h := h.1 hc
      refine m_aload_n (pc := 12) C.1 dX11_feed_12 rfl hl 0 rfl ?_
      refine m_iload_n (pc := 13) C.1 dX11_feed_13 rfl hl 1 rfl ?_
      refine m_callVv (pc := 14) C.1 C.2.2.1 hl.1 C.2.1 hW hS (As := [.int (mI x1)]) (rest := []) (r := r0) (T_X11_feedNumber C.2.2.2.2.2.2 N r0 kr0 x1 ox1 h) kr0 rfl q_436 q_438 q_0 q_81 q_439 pl_X11_feedNumber (by decide) (Nat.le_of_ble_eq_true rfl) dX11_feed_14 (fun S1 H locs h hW1 hS => ?_)
      refine m_aload_n (pc := 17) C.1 dX11_feed_17 rfl hl 0 rfl ?_
      refine m_iload_n (pc := 18) C.1 dX11_feed_18 rfl hl 2 rfl ?_
      refine m_callVv (pc := 19) C.1 C.2.2.1 hl.1 C.2.1 hW1 hS (As := [.int (mI x2)]) (rest := []) (r := r0) (T_X11_feedNumber C.2.2.2.2.2.2 N r0 kr0 x2 ox2 h) kr0 rfl q_436 q_438 q_0 q_81 q_439 pl_X11_feedNumber (by decide) (Nat.le_of_ble_eq_true rfl) dX11_feed_19 (fun S2 H locs h hW2 hS => ?_)
      refine m_aload_n (pc := 22) C.1 dX11_feed_22 rfl hl 0 rfl ?_
      refine m_iload_n (pc := 23) C.1 dX11_feed_23 rfl hl 3 rfl ?_
      refine m_callVv (pc := 24) C.1 C.2.2.1 hl.1 C.2.1 hW2 hS (As := [.int (mI x3)]) (rest := []) (r := r0) (T_X11_feedNumber C.2.2.2.2.2.2 N r0 kr0 x3 ox3 h) kr0 rfl q_436 q_438 q_0 q_81 q_439 pl_X11_feedNumber (by decide) (Nat.le_of_ble_eq_true rfl) dX11_feed_24 (fun S3 H locs h hW3 hS => ?_)
      refine m_aload_n (pc := 27) C.1 dX11_feed_27 rfl hl 0 rfl ?_
      refine m_iload (pc := 28) C.1 dX11_feed_28 hl 4 rfl ?_
      refine m_callVv (pc := 30) C.1 C.2.2.1 hl.1 C.2.1 hW3 hS (As := [.int (mI x4)]) (rest := []) (r := r0) (T_X11_feedNumber C.2.2.2.2.2.2 N r0 kr0 x4 ox4 h) kr0 rfl q_436 q_438 q_0 q_81 q_439 pl_X11_feedNumber (by decide) (Nat.le_of_ble_eq_true rfl) dX11_feed_30 (fun S4 H locs h hW4 hS => ?_)
      refine m_aload_n (pc := 33) C.1 dX11_feed_33 rfl hl 0 rfl ?_
      refine m_iload (pc := 34) C.1 dX11_feed_34 hl 5 rfl ?_
      refine m_callVv (pc := 36) C.1 C.2.2.1 hl.1 C.2.1 hW4 hS (As := [.int (mI x5)]) (rest := []) (r := r0) (T_X11_feedNumber C.2.2.2.2.2.2 N r0 kr0 x5 ox5 h) kr0 rfl q_436 q_438 q_0 q_81 q_439 pl_X11_feedNumber (by decide) (Nat.le_of_ble_eq_true rfl) dX11_feed_36 (fun S5 H locs h hW5 hS => ?_)
      refine m_aload_n (pc := 39) C.1 dX11_feed_39 rfl hl 0 rfl ?_
      refine g_9_1 (pc := 40) C hW5 kr0 q_393 dX11_feed_40 ?_
      exact m_iret (pc := 43) C.1 C.2.2.2.1 C.2.2.2.2.1 hW5 hS (hW5.2.1 _ _) h (by decide) (by decide) dX11_feed_43
    · replace h := h.2 hc
      refine m_iconst (pc := 10) C.1 dX11_feed_10 ?_
      exact m_iret (pc := 11) C.1 C.2.2.2.1 C.2.2.2.2.1 hW hS (by decide : okI (-1)) h (by decide) (by decide) dX11_feed_11) sz
section
variable {p : Program} {l : Launch} {e : Env} {s : State} {m : MethodId} {args : Array Value} {below : List Frame} {meth : Method} {c : Code} {g : mG} {b : Nat}
end
def w_X11_end (N : Nat) (r0 : Nat) (x1 : Int) (S : mSt) (Q : mSt → Int → Prop) : Prop :=
  ((x1 < 0 → Q S 0) ∧ (0 ≤ x1 → ((x1 ≤ (S r0 1) → ∀ S1 : mSt, S1 = mup S r0 1 x1 → Q S1 1) ∧ ((S r0 1) < x1 → Q S 0))))
theorem T_X11_end {l : Launch} (hl0 : l.stackTraces = false) {g : mG} {b : Nat} (N : Nat) (r0 : Nat) (kr0 : KX r0 = (0, 9, 0)) (x1 : Int) (ox1 : okI x1) {S : mSt} {Q : mSt → Int → Prop} (h : w_X11_end N r0 x1 S Q) (sz : Nat) : vx_Met l yX11_end (Cond.code yX11_end cX11_end 2 (some FieldType.boolean) :: wsG) { frames := 0, cells := 0, slots := 0, locals := 0 } (mPc g b KX S [.ref (b + r0), .int (mI x1)] sz) (mQi g b KX Q (mA b KX sz)) (mEx g b KX (fun _ _ => False) (mA b KX sz)) 0 0 (mA b KX sz) :=
  m_of (av := [.ref (b + r0), .int (mI x1)]) (Qf := fun A => mQi g b KX Q A) (Xf := fun A => mEx g b KX (fun _ _ => False) A) (by decide) (Nat.le_of_ble_eq_true rfl) (fun p e s m args below meth c ls X hK hml hr hlk hout hnm hW hl => by
    have C : mC p l s m args meth c cX11_end "MoonWash" 2 (some FieldType.boolean) g := ⟨X, hK, hml, hr, hlk, hout, hl0⟩
    have hS : va_S (mA b KX s.heap.size) s.heap s.heap [] := va_S.rf
    have hl : lv_has ls 2 [(0, .ref (b + r0)), (1, .int (mI x1))] := hl
    unfold w_X11_end at h
    refine m_iload_n (pc := 0) C.1 dX11_end_0 rfl hl 1 rfl ?_
    refine m_if_lt (pc := 1) (tgt := 12) C.1 ox1 dX11_end_1 (by decide) (fun hc => ?_) (fun hc => ?_)
    · replace h := h.1 hc
      refine m_iconst (pc := 12) C.1 dX11_end_12 ?_
      exact m_zret (pc := 13) C.1 C.2.2.2.1 C.2.2.2.2.1 hW hS (by decide) h (by decide) (by decide) dX11_end_13
    · replace h := h.2 hc
      refine m_iload_n (pc := 4) C.1 dX11_end_4 rfl hl 1 rfl ?_
      refine m_aload_n (pc := 5) C.1 dX11_end_5 rfl hl 0 rfl ?_
      refine g_9_1 (pc := 6) C hW kr0 q_393 dX11_end_6 ?_
      refine m_icmp_le (pc := 9) (tgt := 14) C.1 ox1 (hW.2.1 _ _) dX11_end_9 (by decide) (fun hc => ?_) (fun hc => ?_)
      · replace h := h.1 hc
        refine m_aload_n (pc := 14) C.1 dX11_end_14 rfl hl 0 rfl ?_
        refine m_iload_n (pc := 15) C.1 dX11_end_15 rfl hl 1 rfl ?_
        refine p_9_1 (pc := 16) C hW hS kr0 q_393 ox1 dX11_end_16 (fun S1 H locs e1 hW1 hS => ?_)
        replace h := h S1 e1
        refine m_iconst (pc := 19) C.1 dX11_end_19 ?_
        exact m_zret (pc := 20) C.1 C.2.2.2.1 C.2.2.2.2.1 hW1 hS (by decide) h (by decide) (by decide) dX11_end_20
      · replace h := h.2 hc
        refine m_iconst (pc := 12) C.1 dX11_end_12 ?_
        exact m_zret (pc := 13) C.1 C.2.2.2.1 C.2.2.2.2.1 hW hS (by decide) h (by decide) (by decide) dX11_end_13) sz
section
variable {p : Program} {l : Launch} {e : Env} {s : State} {m : MethodId} {args : Array Value} {below : List Frame} {meth : Method} {c : Code} {g : mG} {b : Nat}
end
def w_X11_cutTape (N : Nat) (r0 : Nat) (S : mSt) (Q : mSt → Prop) : Prop :=
  w_X10_cut N (r0 + 38) (r0 + 1) (S r0 1) S (fun (S1 : mSt) => ∀ S2 : mSt, S2 = mup S1 r0 1 0 → Q S2)
theorem T_X11_cutTape {l : Launch} (hl0 : l.stackTraces = false) {g : mG} {b : Nat} (N : Nat) (r0 : Nat) (kr0 : KX r0 = (0, 9, 0)) {S : mSt} {Q : mSt → Prop} (h : w_X11_cutTape N r0 S Q) (sz : Nat) : vx_Met l yX11_cutTape (Cond.code yX11_cutTape cX11_cutTape 1 none :: wsG) { frames := 9, cells := 0, slots := 0, locals := 248 } (mPc g b KX S [.ref (b + r0)] sz) (mQv g b KX Q (mA b KX sz)) (mEx g b KX (fun _ _ => False) (mA b KX sz)) 0 0 (mA b KX sz) :=
  m_of (av := [.ref (b + r0)]) (Qf := fun A => mQv g b KX Q A) (Xf := fun A => mEx g b KX (fun _ _ => False) A) (by decide) (Nat.le_of_ble_eq_true rfl) (fun p e s m args below meth c ls X hK hml hr hlk hout hnm hW hl => by
    have C : mC p l s m args meth c cX11_cutTape "MoonWash" 1 none g := ⟨X, hK, hml, hr, hlk, hout, hl0⟩
    have hS : va_S (mA b KX s.heap.size) s.heap s.heap [] := va_S.rf
    have hl : lv_has ls 1 [(0, .ref (b + r0))] := hl
    unfold w_X11_cutTape at h
    refine m_aload_n (pc := 0) C.1 dX11_cutTape_0 rfl hl 0 rfl ?_
    refine g_9_7 (pc := 1) C hW kr0 q_399 dX11_cutTape_1 ?_
    refine m_aload_n (pc := 4) C.1 dX11_cutTape_4 rfl hl 0 rfl ?_
    refine g_9_0 (pc := 5) C hW kr0 q_392 dX11_cutTape_5 ?_
    refine m_aload_n (pc := 8) C.1 dX11_cutTape_8 rfl hl 0 rfl ?_
    refine g_9_1 (pc := 9) C hW kr0 q_393 dX11_cutTape_9 ?_
    refine m_callVv (pc := 12) C.1 C.2.2.1 hl.1 C.2.1 hW hS (As := [.ref (b + (r0 + 1)), .int (mI (S r0 1))]) (rest := []) (r := (r0 + 38)) (T_X10_cut C.2.2.2.2.2.2 N (r0 + 38) (k_9_7 kr0) (r0 + 1) (k_9_0 kr0) (S r0 1) (hW.2.1 _ _) h) (k_9_7 kr0) rfl q_603 q_604 q_605 q_85 q_606 pl_X10_cut (by decide) (Nat.le_of_ble_eq_true rfl) dX11_cutTape_12 (fun S1 H locs h hW1 hS => ?_)
    refine m_aload_n (pc := 15) C.1 dX11_cutTape_15 rfl hl 0 rfl ?_
    refine m_iconst (pc := 16) C.1 dX11_cutTape_16 ?_
    refine p_9_1 (pc := 17) C hW1 hS kr0 q_393 (by decide : okI 0) dX11_cutTape_17 (fun S2 H locs e2 hW2 hS => ?_)
    replace h := h S2 e2
    exact m_vret (pc := 20) C.1 C.2.2.2.1 C.2.2.2.2.1 hW2 hS h (by decide) (by decide) dX11_cutTape_20) sz
section
variable {p : Program} {l : Launch} {e : Env} {s : State} {m : MethodId} {args : Array Value} {below : List Frame} {meth : Method} {c : Code} {g : mG} {b : Nat}
end
def w_X11_checkText (N : Nat) (r0 : Nat) (S : mSt) (Q : mSt → Prop) (E : String → mSt → Prop) : Prop :=
  ∀ S1 : mSt, S1 = mup S r0 2 (S (r0 + 38) 6) → (((S1 r0 2) = (-1) → Q S1) ∧ ((S1 r0 2) ≠ (-1) → E "java/lang/IllegalArgumentException" S1))
theorem T_X11_checkText {l : Launch} (hl0 : l.stackTraces = false) {g : mG} {b : Nat} (N : Nat) (r0 : Nat) (kr0 : KX r0 = (0, 9, 0)) {S : mSt} {Q : mSt → Prop} {E : String → mSt → Prop} (h : w_X11_checkText N r0 S Q E) (sz : Nat) : vx_Met l yX11_checkText (Cond.code yX11_checkText cX11_checkText 1 none :: wsG) { frames := 6, cells := 1, slots := 6, locals := 100 } (mPc g b KX S [.ref (b + r0)] sz) (mQv g b KX Q (mA b KX sz)) (mEx g b KX E (mA b KX sz)) 1 6 (mA b KX sz) :=
  m_of (av := [.ref (b + r0)]) (Qf := fun A => mQv g b KX Q A) (Xf := fun A => mEx g b KX E A) (by decide) (Nat.le_of_ble_eq_true rfl) (fun p e s m args below meth c ls X hK hml hr hlk hout hnm hW hl => by
    have C : mC p l s m args meth c cX11_checkText "MoonWash" 1 none g := ⟨X, hK, hml, hr, hlk, hout, hl0⟩
    have hS : va_S (mA b KX s.heap.size) s.heap s.heap [] := va_S.rf
    have hl : lv_has ls 1 [(0, .ref (b + r0))] := hl
    unfold w_X11_checkText at h
    refine m_aload_n (pc := 0) C.1 dX11_checkText_0 rfl hl 0 rfl ?_
    refine m_aload_n (pc := 1) C.1 dX11_checkText_1 rfl hl 0 rfl ?_
    refine g_9_7 (pc := 2) C hW kr0 q_399 dX11_checkText_2 ?_
    refine g_8_6 (pc := 5) C hW (k_9_7 kr0) q_291 dX11_checkText_5 ?_
    refine p_9_2 (pc := 8) C hW hS kr0 q_394 (hW.2.1 _ _) dX11_checkText_8 (fun S1 H locs e1 hW1 hS => ?_)
    replace h := h S1 e1
    refine m_aload_n (pc := 11) C.1 dX11_checkText_11 rfl hl 0 rfl ?_
    refine g_9_2 (pc := 12) C hW1 kr0 q_394 dX11_checkText_12 ?_
    refine m_iconst (pc := 15) C.1 dX11_checkText_15 ?_
    refine m_icmp_eq (pc := 16) (tgt := 27) C.1 (hW1.2.1 _ _) (by decide : okI (-1)) dX11_checkText_16 (by decide) (fun hc => ?_) (fun hc => ?_)
    · replace h := h.1 hc
      exact m_vret (pc := 27) C.1 C.2.2.2.1 C.2.2.2.2.1 hW1 hS h (by decide) (by decide) dX11_checkText_27
    · replace h := h.2 hc
      exact m_throw (pc := 19) C.1 C.2.2.2.2.2.2 C.2.1 hW1 hS (cls := "java/lang/IllegalArgumentException") (names := ["java/lang/RuntimeException", "java/lang/Exception"]) (by decide) (by decide) q_771 q_103 thr_X11_128_a thr_X11_128_g (hl.1.trans C.2.2.1.symm) dX11_checkText_19 dX11_checkText_22 dX11_checkText_23 dX11_checkText_26 C.2.2.2.2.2.1 C.2.2.2.2.1 (by decide) (Nat.le_of_ble_eq_true rfl) (by decide) (by decide) h (by decide) (by decide)) sz
section
variable {p : Program} {l : Launch} {e : Env} {s : State} {m : MethodId} {args : Array Value} {below : List Frame} {meth : Method} {c : Code} {g : mG} {b : Nat}
end
def w_X11_house (N : Nat) (r0 : Nat) (S : mSt) (Q : mSt → Int → Prop) (E : String → mSt → Prop) : Prop :=
  w_X11_cutTape N r0 S (fun (S1 : mSt) => ∀ q2 : Nat, (q2 : Int) = S1 r0 4 → ∀ q3 : Nat, (q3 : Int) = S1 r0 3 → w_X2_become N q2 q3 S1 (fun (S4 : mSt) => ∀ q5 : Nat, (q5 : Int) = S4 r0 4 → w_X0_read N (r0 + 38) q5 S4 (fun (S6 : mSt) => w_X11_checkText N r0 S6 (fun (S7 : mSt) => ∀ q8 : Nat, (q8 : Int) = S7 r0 3 → (((S7 q8 5) < 12 → ∀ q9 : Nat, (q9 : Int) = S7 r0 3 → ∀ q10 : Nat, (q10 : Int) = S7 r0 4 → ∀ S11 : mSt, S11 = mup S7 r0 3 (q10 : Int) → ∀ S12 : mSt, S12 = mup S11 r0 4 (q9 : Int) → ∀ q13 : Nat, (q13 : Int) = S12 r0 3 → ∀ S14 : mSt, S14 = mup S12 q13 5 (nm ((S12 q13 5) + 1)) → w_X6_forget N (r0 + 44) S14 (fun (S15 : mSt) => ∀ q16 : Nat, (q16 : Int) = S15 r0 3 → Q S15 (S15 q16 5))) ∧ (12 ≤ (S7 q8 5) → E "java/lang/UnsupportedOperationException" S7))) E)))
theorem T_X11_house {l : Launch} (hl0 : l.stackTraces = false) {g : mG} {b : Nat} (N : Nat) (r0 : Nat) (kr0 : KX r0 = (0, 9, 0)) {S : mSt} {Q : mSt → Int → Prop} {E : String → mSt → Prop} (h : w_X11_house N r0 S Q E) (sz : Nat) : vx_Met l yX11_house (Cond.code yX11_house cX11_house 2 (some FieldType.int) :: wsG) { frames := 10, cells := 2, slots := 12, locals := 268 } (mPc g b KX S [.ref (b + r0)] sz) (mQi g b KX Q (mA b KX sz)) (mEx g b KX E (mA b KX sz)) 2 12 (mA b KX sz) :=
  m_of (av := [.ref (b + r0)]) (Qf := fun A => mQi g b KX Q A) (Xf := fun A => mEx g b KX E A) (by decide) (Nat.le_of_ble_eq_true rfl) (fun p e s m args below meth c ls X hK hml hr hlk hout hnm hW hl => by
    have C : mC p l s m args meth c cX11_house "MoonWash" 2 (some FieldType.int) g := ⟨X, hK, hml, hr, hlk, hout, hl0⟩
    have hS : va_S (mA b KX s.heap.size) s.heap s.heap [] := va_S.rf
    have hl : lv_has ls 2 [(0, .ref (b + r0))] := hl
    unfold w_X11_house at h
    refine m_aload_n (pc := 0) C.1 dX11_house_0 rfl hl 0 rfl ?_
    refine m_callVv (pc := 1) C.1 C.2.2.1 hl.1 C.2.1 hW hS (As := []) (rest := []) (r := r0) (T_X11_cutTape C.2.2.2.2.2.2 N r0 kr0 h) kr0 rfl q_599 q_601 q_4 q_81 q_602 pl_X11_cutTape (by decide) (Nat.le_of_ble_eq_true rfl) dX11_house_1 (fun S1 H locs h hW1 hS => ?_)
    refine m_aload_n (pc := 4) C.1 dX11_house_4 rfl hl 0 rfl ?_
    refine g_9_4 (pc := 5) C hW1 kr0 q_396 dX11_house_5 (fun q2 eq2 kq2 => ?_)
    replace h := h q2 eq2
    refine m_aload_n (pc := 8) C.1 dX11_house_8 rfl hl 0 rfl ?_
    refine g_9_3 (pc := 9) C hW1 kr0 q_395 dX11_house_9 (fun q3 eq3 kq3 => ?_)
    replace h := h q3 eq3
    refine m_callVv (pc := 12) C.1 C.2.2.1 hl.1 C.2.1 hW1 hS (As := [.ref (b + q3)]) (rest := []) (r := q2) (T_X2_become C.2.2.2.2.2.2 N q2 kq2 q3 kq3 h) kq2 rfl q_529 q_461 q_462 q_82 q_463 pl_X2_become (by decide) (Nat.le_of_ble_eq_true rfl) dX11_house_12 (fun S4 H locs h hW4 hS => ?_)
    refine m_aload_n (pc := 15) C.1 dX11_house_15 rfl hl 0 rfl ?_
    refine g_9_7 (pc := 16) C hW4 kr0 q_399 dX11_house_16 ?_
    refine m_aload_n (pc := 19) C.1 dX11_house_19 rfl hl 0 rfl ?_
    refine g_9_4 (pc := 20) C hW4 kr0 q_396 dX11_house_20 (fun q5 eq5 kq5 => ?_)
    replace h := h q5 eq5
    refine m_callSv (pc := 23) C.1 C.2.2.1 hl.1 C.2.1 hW4 hS (As := [.ref (b + (r0 + 38)), .ref (b + q5)]) (rest := []) (T_X0_read C.2.2.2.2.2.2 N (r0 + 38) (k_9_7 kr0) q5 kq5 h) q_683 q_684 q_99 q_685 pl_X0_read (by decide) (Nat.le_of_ble_eq_true rfl) dX11_house_23 (fun S6 H locs h hW6 hS => ?_)
    refine m_aload_n (pc := 26) C.1 dX11_house_26 rfl hl 0 rfl ?_
    refine m_callVvx (pc := 27) C.1 C.2.2.1 hl.1 C.2.1 hW6 hS (As := []) (rest := []) (r := r0) (T_X11_checkText C.2.2.2.2.2.2 N r0 kr0 h) kr0 rfl q_767 q_769 q_8 q_81 q_770 pl_X11_checkText (by decide) (Nat.le_of_ble_eq_true rfl) dX11_house_27 (fun En S7 H locs ce q9 hE hW7 hS h1 h2 h3 => m_prop C.2.2.2.2.2.1 C.2.2.2.2.1 hW7 hS hE h1 h2 h3 (by decide) (by decide)) (fun S7 H locs h hW7 hS => ?_)
    refine m_aload_n (pc := 30) C.1 dX11_house_30 rfl hl 0 rfl ?_
    refine g_9_3 (pc := 31) C hW7 kr0 q_395 dX11_house_31 (fun q8 eq8 kq8 => ?_)
    replace h := h q8 eq8
    refine g_1_5 (pc := 34) C hW7 kq8 q_198 dX11_house_34 ?_
    refine m_bipush (pc := 37) C.1 dX11_house_37 rfl ?_
    refine m_icmp_lt (pc := 39) (tgt := 50) C.1 (hW7.2.1 _ _) (by decide : okI 12) dX11_house_39 (by decide) (fun hc => ?_) (fun hc => ?_)
    · replace h := h.1 hc
      refine m_aload_n (pc := 50) C.1 dX11_house_50 rfl hl 0 rfl ?_
      refine g_9_3 (pc := 51) C hW7 kr0 q_395 dX11_house_51 (fun q9 eq9 kq9 => ?_)
      replace h := h q9 eq9
      refine m_astore_n (pc := 54) C.1 dX11_house_54 rfl hl (by decide) rfl (fun ls hl => ?_)
      refine m_aload_n (pc := 55) C.1 dX11_house_55 rfl hl 1 rfl ?_
      refine m_aload_n (pc := 56) C.1 dX11_house_56 rfl hl 1 rfl ?_
      refine g_9_4 (pc := 57) C hW7 kr0 q_396 dX11_house_57 (fun q10 eq10 kq10 => ?_)
      replace h := h q10 eq10
      refine p_9_3 (pc := 60) C hW7 hS kr0 q_395 kq10 (ptr_ok kq10) dX11_house_60 (fun S11 H locs e11 hW11 hS => ?_)
      replace h := h S11 e11
      refine m_aload_n (pc := 63) C.1 dX11_house_63 rfl hl 1 rfl ?_
      refine m_aload_n (pc := 64) C.1 dX11_house_64 rfl hl 0 rfl ?_
      refine p_9_4 (pc := 65) C hW11 hS kr0 q_396 kq9 (ptr_ok kq9) dX11_house_65 (fun S12 H locs e12 hW12 hS => ?_)
      replace h := h S12 e12
      refine m_aload_n (pc := 68) C.1 dX11_house_68 rfl hl 1 rfl ?_
      refine g_9_3 (pc := 69) C hW12 kr0 q_395 dX11_house_69 (fun q13 eq13 kq13 => ?_)
      replace h := h q13 eq13
      refine lv_dup (pc := 72) C.1.1 C.1.2.1 dX11_house_72 rfl ?_
      refine g_1_5 (pc := 73) C hW12 kq13 q_198 dX11_house_73 ?_
      refine m_iconst (pc := 76) C.1 dX11_house_76 ?_
      refine m_iadd (pc := 77) C.1 dX11_house_77 ?_
      refine p_1_5 (pc := 78) C hW12 hS kq13 q_198 (nm_ok _) dX11_house_78 (fun S14 H locs e14 hW14 hS => ?_)
      replace h := h S14 e14
      refine m_aload_n (pc := 81) C.1 dX11_house_81 rfl hl 1 rfl ?_
      refine g_9_8 (pc := 82) C hW14 kr0 q_400 dX11_house_82 ?_
      refine m_callVv (pc := 85) C.1 C.2.2.1 hl.1 C.2.1 hW14 hS (As := []) (rest := []) (r := (r0 + 44)) (T_X6_forget C.2.2.2.2.2.2 N (r0 + 44) (k_9_8 kr0) h) (k_9_8 kr0) rfl q_531 q_532 q_533 q_88 q_534 pl_X6_forget (by decide) (Nat.le_of_ble_eq_true rfl) dX11_house_85 (fun S15 H locs h hW15 hS => ?_)
      refine m_aload_n (pc := 88) C.1 dX11_house_88 rfl hl 1 rfl ?_
      refine g_9_3 (pc := 89) C hW15 kr0 q_395 dX11_house_89 (fun q16 eq16 kq16 => ?_)
      replace h := h q16 eq16
      refine g_1_5 (pc := 92) C hW15 kq16 q_198 dX11_house_92 ?_
      exact m_iret (pc := 95) C.1 C.2.2.2.1 C.2.2.2.2.1 hW15 hS (hW15.2.1 _ _) h (by decide) (by decide) dX11_house_95
    · replace h := h.2 hc
      exact m_throw (pc := 42) C.1 C.2.2.2.2.2.2 C.2.1 hW7 hS (cls := "java/lang/UnsupportedOperationException") (names := ["java/lang/RuntimeException", "java/lang/Exception"]) (by decide) (by decide) q_836 q_104 thr_X11_107_a thr_X11_107_g (hl.1.trans C.2.2.1.symm) dX11_house_42 dX11_house_45 dX11_house_46 dX11_house_49 C.2.2.2.2.2.1 C.2.2.2.2.1 (by decide) (Nat.le_of_ble_eq_true rfl) (by decide) (by decide) h (by decide) (by decide)) sz
section
variable {p : Program} {l : Launch} {e : Env} {s : State} {m : MethodId} {args : Array Value} {below : List Frame} {meth : Method} {c : Code} {g : mG} {b : Nat}
end
def w_X11_law (N : Nat) (r0 : Nat) (S : mSt) (Q : mSt → Int → Prop) (E : String → mSt → Prop) : Prop :=
  w_X11_cutTape N r0 S (fun (S1 : mSt) => ∀ q2 : Nat, (q2 : Int) = S1 r0 6 → w_X4_read N (r0 + 38) q2 S1 (fun (S3 : mSt) => w_X11_checkText N r0 S3 (fun (S4 : mSt) => ∀ q5 : Nat, (q5 : Int) = S4 r0 5 → ∀ q6 : Nat, (q6 : Int) = S4 r0 6 → ∀ S7 : mSt, S7 = mup S4 r0 5 (q6 : Int) → ∀ S8 : mSt, S8 = mup S7 r0 6 (q5 : Int) → w_X6_forget N (r0 + 44) S8 (fun (S9 : mSt) => ∀ q10 : Nat, (q10 : Int) = S9 r0 5 → Q S9 (S9 q10 0))) E))
theorem T_X11_law {l : Launch} (hl0 : l.stackTraces = false) {g : mG} {b : Nat} (N : Nat) (r0 : Nat) (kr0 : KX r0 = (0, 9, 0)) {S : mSt} {Q : mSt → Int → Prop} {E : String → mSt → Prop} (h : w_X11_law N r0 S Q E) (sz : Nat) : vx_Met l yX11_law (Cond.code yX11_law cX11_law 2 (some FieldType.int) :: wsG) { frames := 40, cells := 1, slots := 6, locals := 851 } (mPc g b KX S [.ref (b + r0)] sz) (mQi g b KX Q (mA b KX sz)) (mEx g b KX E (mA b KX sz)) 1 6 (mA b KX sz) :=
  m_of (av := [.ref (b + r0)]) (Qf := fun A => mQi g b KX Q A) (Xf := fun A => mEx g b KX E A) (by decide) (Nat.le_of_ble_eq_true rfl) (fun p e s m args below meth c ls X hK hml hr hlk hout hnm hW hl => by
    have C : mC p l s m args meth c cX11_law "MoonWash" 2 (some FieldType.int) g := ⟨X, hK, hml, hr, hlk, hout, hl0⟩
    have hS : va_S (mA b KX s.heap.size) s.heap s.heap [] := va_S.rf
    have hl : lv_has ls 2 [(0, .ref (b + r0))] := hl
    unfold w_X11_law at h
    refine m_aload_n (pc := 0) C.1 dX11_law_0 rfl hl 0 rfl ?_
    refine m_callVv (pc := 1) C.1 C.2.2.1 hl.1 C.2.1 hW hS (As := []) (rest := []) (r := r0) (T_X11_cutTape C.2.2.2.2.2.2 N r0 kr0 h) kr0 rfl q_599 q_601 q_4 q_81 q_602 pl_X11_cutTape (by decide) (Nat.le_of_ble_eq_true rfl) dX11_law_1 (fun S1 H locs h hW1 hS => ?_)
    refine m_aload_n (pc := 4) C.1 dX11_law_4 rfl hl 0 rfl ?_
    refine g_9_7 (pc := 5) C hW1 kr0 q_399 dX11_law_5 ?_
    refine m_aload_n (pc := 8) C.1 dX11_law_8 rfl hl 0 rfl ?_
    refine g_9_6 (pc := 9) C hW1 kr0 q_398 dX11_law_9 (fun q2 eq2 kq2 => ?_)
    replace h := h q2 eq2
    refine m_callSv (pc := 12) C.1 C.2.2.1 hl.1 C.2.1 hW1 hS (As := [.ref (b + (r0 + 38)), .ref (b + q2)]) (rest := []) (T_X4_read C.2.2.2.2.2.2 N (r0 + 38) (k_9_7 kr0) q2 kq2 h) q_858 q_859 q_105 q_860 pl_X4_read (by decide) (Nat.le_of_ble_eq_true rfl) dX11_law_12 (fun S3 H locs h hW3 hS => ?_)
    refine m_aload_n (pc := 15) C.1 dX11_law_15 rfl hl 0 rfl ?_
    refine m_callVvx (pc := 16) C.1 C.2.2.1 hl.1 C.2.1 hW3 hS (As := []) (rest := []) (r := r0) (T_X11_checkText C.2.2.2.2.2.2 N r0 kr0 h) kr0 rfl q_767 q_769 q_8 q_81 q_770 pl_X11_checkText (by decide) (Nat.le_of_ble_eq_true rfl) dX11_law_16 (fun En S4 H locs ce q9 hE hW4 hS h1 h2 h3 => m_prop C.2.2.2.2.2.1 C.2.2.2.2.1 hW4 hS hE h1 h2 h3 (by decide) (by decide)) (fun S4 H locs h hW4 hS => ?_)
    refine m_aload_n (pc := 19) C.1 dX11_law_19 rfl hl 0 rfl ?_
    refine g_9_5 (pc := 20) C hW4 kr0 q_397 dX11_law_20 (fun q5 eq5 kq5 => ?_)
    replace h := h q5 eq5
    refine m_astore_n (pc := 23) C.1 dX11_law_23 rfl hl (by decide) rfl (fun ls hl => ?_)
    refine m_aload_n (pc := 24) C.1 dX11_law_24 rfl hl 1 rfl ?_
    refine m_aload_n (pc := 25) C.1 dX11_law_25 rfl hl 1 rfl ?_
    refine g_9_6 (pc := 26) C hW4 kr0 q_398 dX11_law_26 (fun q6 eq6 kq6 => ?_)
    replace h := h q6 eq6
    refine p_9_5 (pc := 29) C hW4 hS kr0 q_397 kq6 (ptr_ok kq6) dX11_law_29 (fun S7 H locs e7 hW7 hS => ?_)
    replace h := h S7 e7
    refine m_aload_n (pc := 32) C.1 dX11_law_32 rfl hl 1 rfl ?_
    refine m_aload_n (pc := 33) C.1 dX11_law_33 rfl hl 0 rfl ?_
    refine p_9_6 (pc := 34) C hW7 hS kr0 q_398 kq5 (ptr_ok kq5) dX11_law_34 (fun S8 H locs e8 hW8 hS => ?_)
    replace h := h S8 e8
    refine m_aload_n (pc := 37) C.1 dX11_law_37 rfl hl 1 rfl ?_
    refine g_9_8 (pc := 38) C hW8 kr0 q_400 dX11_law_38 ?_
    refine m_callVv (pc := 41) C.1 C.2.2.1 hl.1 C.2.1 hW8 hS (As := []) (rest := []) (r := (r0 + 44)) (T_X6_forget C.2.2.2.2.2.2 N (r0 + 44) (k_9_8 kr0) h) (k_9_8 kr0) rfl q_531 q_532 q_533 q_88 q_534 pl_X6_forget (by decide) (Nat.le_of_ble_eq_true rfl) dX11_law_41 (fun S9 H locs h hW9 hS => ?_)
    refine m_aload_n (pc := 44) C.1 dX11_law_44 rfl hl 1 rfl ?_
    refine g_9_5 (pc := 45) C hW9 kr0 q_397 dX11_law_45 (fun q10 eq10 kq10 => ?_)
    replace h := h q10 eq10
    refine g_2_0 (pc := 48) C hW9 kq10 q_249 dX11_law_48 ?_
    exact m_iret (pc := 51) C.1 C.2.2.2.1 C.2.2.2.2.1 hW9 hS (hW9.2.1 _ _) h (by decide) (by decide) dX11_law_51) sz
section
variable {p : Program} {l : Launch} {e : Env} {s : State} {m : MethodId} {args : Array Value} {below : List Frame} {meth : Method} {c : Code} {g : mG} {b : Nat}
end
def w_X11_fault (N : Nat) (r0 : Nat) (S : mSt) (Q : mSt → Int → Prop) : Prop :=
  Q S (S r0 2)
theorem T_X11_fault {l : Launch} (hl0 : l.stackTraces = false) {g : mG} {b : Nat} (N : Nat) (r0 : Nat) (kr0 : KX r0 = (0, 9, 0)) {S : mSt} {Q : mSt → Int → Prop} (h : w_X11_fault N r0 S Q) (sz : Nat) : vx_Met l yX11_fault (Cond.code yX11_fault cX11_fault 1 (some FieldType.int) :: wsG) { frames := 0, cells := 0, slots := 0, locals := 0 } (mPc g b KX S [.ref (b + r0)] sz) (mQi g b KX Q (mA b KX sz)) (mEx g b KX (fun _ _ => False) (mA b KX sz)) 0 0 (mA b KX sz) :=
  m_of (av := [.ref (b + r0)]) (Qf := fun A => mQi g b KX Q A) (Xf := fun A => mEx g b KX (fun _ _ => False) A) (by decide) (Nat.le_of_ble_eq_true rfl) (fun p e s m args below meth c ls X hK hml hr hlk hout hnm hW hl => by
    have C : mC p l s m args meth c cX11_fault "MoonWash" 1 (some FieldType.int) g := ⟨X, hK, hml, hr, hlk, hout, hl0⟩
    have hS : va_S (mA b KX s.heap.size) s.heap s.heap [] := va_S.rf
    have hl : lv_has ls 1 [(0, .ref (b + r0))] := hl
    unfold w_X11_fault at h
    refine m_aload_n (pc := 0) C.1 dX11_fault_0 rfl hl 0 rfl ?_
    refine g_9_2 (pc := 1) C hW kr0 q_394 dX11_fault_1 ?_
    exact m_iret (pc := 4) C.1 C.2.2.2.1 C.2.2.2.2.1 hW hS (hW.2.1 _ _) h (by decide) (by decide) dX11_fault_4) sz
section
variable {p : Program} {l : Launch} {e : Env} {s : State} {m : MethodId} {args : Array Value} {below : List Frame} {meth : Method} {c : Code} {g : mG} {b : Nat}
end
def w_X11_checkPart (N : Nat) (x0 : Int) (S : mSt) (Q : mSt → Prop) (E : String → mSt → Prop) : Prop :=
  ((x0 < 0 → E "java/lang/IndexOutOfBoundsException" S) ∧ (0 ≤ x0 → ((x0 < 8 → Q S) ∧ (8 ≤ x0 → E "java/lang/IndexOutOfBoundsException" S))))
theorem T_X11_checkPart {l : Launch} (hl0 : l.stackTraces = false) {g : mG} {b : Nat} (N : Nat) (x0 : Int) (ox0 : okI x0) {S : mSt} {Q : mSt → Prop} {E : String → mSt → Prop} (h : w_X11_checkPart N x0 S Q E) (sz : Nat) : vx_Met l yX11_checkPart (Cond.code yX11_checkPart cX11_checkPart 1 none :: wsG) { frames := 6, cells := 1, slots := 6, locals := 100 } (mPc g b KX S [.int (mI x0)] sz) (mQv g b KX Q (mA b KX sz)) (mEx g b KX E (mA b KX sz)) 1 6 (mA b KX sz) :=
  m_of (av := [.int (mI x0)]) (Qf := fun A => mQv g b KX Q A) (Xf := fun A => mEx g b KX E A) (by decide) (Nat.le_of_ble_eq_true rfl) (fun p e s m args below meth c ls X hK hml hr hlk hout hnm hW hl => by
    have C : mC p l s m args meth c cX11_checkPart "MoonWash" 1 none g := ⟨X, hK, hml, hr, hlk, hout, hl0⟩
    have hS : va_S (mA b KX s.heap.size) s.heap s.heap [] := va_S.rf
    have hl : lv_has ls 1 [(0, .int (mI x0))] := hl
    unfold w_X11_checkPart at h
    refine m_iload_n (pc := 0) C.1 dX11_checkPart_0 rfl hl 0 rfl ?_
    refine m_if_lt (pc := 1) (tgt := 10) C.1 ox0 dX11_checkPart_1 (by decide) (fun hc => ?_) (fun hc => ?_)
    · replace h := h.1 hc
      exact m_throw (pc := 10) C.1 C.2.2.2.2.2.2 C.2.1 hW hS (cls := "java/lang/IndexOutOfBoundsException") (names := ["java/lang/RuntimeException", "java/lang/Exception"]) (by decide) (by decide) q_939 q_106 thr_X11_205_a thr_X11_205_g (hl.1.trans C.2.2.1.symm) dX11_checkPart_10 dX11_checkPart_13 dX11_checkPart_14 dX11_checkPart_17 C.2.2.2.2.2.1 C.2.2.2.2.1 (by decide) (Nat.le_of_ble_eq_true rfl) (by decide) (by decide) h (by decide) (by decide)
    · replace h := h.2 hc
      refine m_iload_n (pc := 4) C.1 dX11_checkPart_4 rfl hl 0 rfl ?_
      refine m_bipush (pc := 5) C.1 dX11_checkPart_5 rfl ?_
      refine m_icmp_lt (pc := 7) (tgt := 18) C.1 ox0 (by decide : okI 8) dX11_checkPart_7 (by decide) (fun hc => ?_) (fun hc => ?_)
      · replace h := h.1 hc
        exact m_vret (pc := 18) C.1 C.2.2.2.1 C.2.2.2.2.1 hW hS h (by decide) (by decide) dX11_checkPart_18
      · replace h := h.2 hc
        exact m_throw (pc := 10) C.1 C.2.2.2.2.2.2 C.2.1 hW hS (cls := "java/lang/IndexOutOfBoundsException") (names := ["java/lang/RuntimeException", "java/lang/Exception"]) (by decide) (by decide) q_939 q_106 thr_X11_205_a thr_X11_205_g (hl.1.trans C.2.2.1.symm) dX11_checkPart_10 dX11_checkPart_13 dX11_checkPart_14 dX11_checkPart_17 C.2.2.2.2.2.1 C.2.2.2.2.1 (by decide) (Nat.le_of_ble_eq_true rfl) (by decide) (by decide) h (by decide) (by decide)) sz
section
variable {p : Program} {l : Launch} {e : Env} {s : State} {m : MethodId} {args : Array Value} {below : List Frame} {meth : Method} {c : Code} {g : mG} {b : Nat}
end
def w_X11_shareOf (N : Nat) (r0 : Nat) (x1 : Int) (S : mSt) (Q : mSt → Int → Prop) : Prop :=
  ∀ q1 : Nat, (q1 : Int) = S r0 5 → ∀ q2 : Nat, (q2 : Int) = S r0 3 → w_X3_allLight N q1 (q2 + 1) S (fun (S3 : mSt) (v3 : Int) => ∀ v4 : Int, v4 = v3 → ((v4 ≠ 0 → ∀ q5 : Nat, (q5 : Int) = S3 r0 5 → ∀ q6 : Nat, (q6 : Int) = S3 r0 3 → w_X3_lightOf N q5 (q6 + 1) x1 S3 (fun (S7 : mSt) (v7 : Int) => (v4 ≠ 0 ∧ Q S7 (iDiv (nm (v7 * 100)) v4)))) ∧ (v4 = 0 → Q S3 0)))
theorem T_X11_shareOf {l : Launch} (hl0 : l.stackTraces = false) {g : mG} {b : Nat} (N : Nat) (r0 : Nat) (kr0 : KX r0 = (0, 9, 0)) (x1 : Int) (ox1 : okI x1) {S : mSt} {Q : mSt → Int → Prop} (h : w_X11_shareOf N r0 x1 S Q) (sz : Nat) : vx_Met l yX11_shareOf (Cond.code yX11_shareOf cX11_shareOf 3 (some FieldType.int) :: wsG) { frames := 6, cells := 0, slots := 0, locals := 142 } (mPc g b KX S [.ref (b + r0), .int (mI x1)] sz) (mQi g b KX Q (mA b KX sz)) (mEx g b KX (fun _ _ => False) (mA b KX sz)) 0 0 (mA b KX sz) :=
  m_of (av := [.ref (b + r0), .int (mI x1)]) (Qf := fun A => mQi g b KX Q A) (Xf := fun A => mEx g b KX (fun _ _ => False) A) (by decide) (Nat.le_of_ble_eq_true rfl) (fun p e s m args below meth c ls X hK hml hr hlk hout hnm hW hl => by
    have C : mC p l s m args meth c cX11_shareOf "MoonWash" 3 (some FieldType.int) g := ⟨X, hK, hml, hr, hlk, hout, hl0⟩
    have hS : va_S (mA b KX s.heap.size) s.heap s.heap [] := va_S.rf
    have hl : lv_has ls 3 [(0, .ref (b + r0)), (1, .int (mI x1))] := hl
    unfold w_X11_shareOf at h
    refine m_aload_n (pc := 0) C.1 dX11_shareOf_0 rfl hl 0 rfl ?_
    refine g_9_5 (pc := 1) C hW kr0 q_397 dX11_shareOf_1 (fun q1 eq1 kq1 => ?_)
    replace h := h q1 eq1
    refine m_aload_n (pc := 4) C.1 dX11_shareOf_4 rfl hl 0 rfl ?_
    refine g_9_3 (pc := 5) C hW kr0 q_395 dX11_shareOf_5 (fun q2 eq2 kq2 => ?_)
    replace h := h q2 eq2
    refine g_1_0 (pc := 8) C hW kq2 q_187 dX11_shareOf_8 ?_
    refine m_callVi (pc := 11) C.1 C.2.2.1 hl.1 C.2.1 hW hS (As := [.ref (b + (q2 + 1))]) (rest := []) (r := q1) (T_X3_allLight C.2.2.2.2.2.2 N q1 kq1 (q2 + 1) (k_1_0 kq2) h) kq1 rfl q_544 q_545 q_546 q_84 q_547 pl_X3_allLight (by decide) (Nat.le_of_ble_eq_true rfl) dX11_shareOf_11 (fun v3 S3 H locs ov3 h hW3 hS => ?_)
    refine m_istore_n (pc := 14) C.1 dX11_shareOf_14 rfl hl (by decide) (fun v => [(2, .int v), (0, .ref (b + r0)), (1, .int (mI x1))]) (fun _ => rfl) ov3 (fun v4 ls ev4 ov4 hl => ?_)
    replace h := h v4 ev4
    refine m_iload_n (pc := 15) C.1 dX11_shareOf_15 rfl hl 0 rfl ?_
    refine m_if_ne (pc := 16) (tgt := 23) C.1 ov4 dX11_shareOf_16 (by decide) (fun hc => ?_) (fun hc => ?_)
    · replace h := h.1 hc
      refine m_aload_n (pc := 23) C.1 dX11_shareOf_23 rfl hl 1 rfl ?_
      refine g_9_5 (pc := 24) C hW3 kr0 q_397 dX11_shareOf_24 (fun q5 eq5 kq5 => ?_)
      replace h := h q5 eq5
      refine m_aload_n (pc := 27) C.1 dX11_shareOf_27 rfl hl 1 rfl ?_
      refine g_9_3 (pc := 28) C hW3 kr0 q_395 dX11_shareOf_28 (fun q6 eq6 kq6 => ?_)
      replace h := h q6 eq6
      refine g_1_0 (pc := 31) C hW3 kq6 q_187 dX11_shareOf_31 ?_
      refine m_iload_n (pc := 34) C.1 dX11_shareOf_34 rfl hl 2 rfl ?_
      refine m_callVi (pc := 35) C.1 C.2.2.1 hl.1 C.2.1 hW3 hS (As := [.ref (b + (q6 + 1)), .int (mI x1)]) (rest := []) (r := q5) (T_X3_lightOf C.2.2.2.2.2.2 N q5 kq5 (q6 + 1) (k_1_0 kq6) x1 ox1 h) kq5 rfl q_539 q_487 q_488 q_84 q_489 pl_X3_lightOf (by decide) (Nat.le_of_ble_eq_true rfl) dX11_shareOf_35 (fun v7 S7 H locs ov7 h hW7 hS => ?_)
      refine m_bipush (pc := 38) C.1 dX11_shareOf_38 rfl ?_
      refine m_imul (pc := 40) C.1 dX11_shareOf_40 ?_
      refine m_iload_n (pc := 41) C.1 dX11_shareOf_41 rfl hl 0 rfl ?_
      obtain ⟨hz8, h⟩ := h
      refine m_idiv (pc := 42) C.1 ov4 hz8 dX11_shareOf_42 ?_
      exact m_iret (pc := 43) C.1 C.2.2.2.1 C.2.2.2.2.1 hW7 hS (iDiv_ok _ _) h (by decide) (by decide) dX11_shareOf_43
    · replace h := h.2 hc
      refine m_iconst (pc := 19) C.1 dX11_shareOf_19 ?_
      refine m_goto (pc := 20) (tgt := 43) C.1 dX11_shareOf_20 (by decide) ?_
      exact m_iret (pc := 43) C.1 C.2.2.2.1 C.2.2.2.2.1 hW3 hS (by decide : okI 0) h (by decide) (by decide) dX11_shareOf_43) sz
section
variable {p : Program} {l : Launch} {e : Env} {s : State} {m : MethodId} {args : Array Value} {below : List Frame} {meth : Method} {c : Code} {g : mG} {b : Nat}
end
def w_X11_part (N : Nat) (r0 : Nat) (x1 : Int) (x2 : Int) (S : mSt) (Q : mSt → Int → Prop) (E : String → mSt → Prop) : Prop :=
  w_X11_checkPart N x1 S (fun (S1 : mSt) => ∀ q2 : Nat, (q2 : Int) = S1 r0 3 → ((x2 = 0 → (0 ≤ x1 ∧ x1 < 8 ∧ Q S1 (S1 ((q2 + 1) + 1) x1))) ∧ (x2 = 1 → (0 ≤ x1 ∧ x1 < 8 ∧ Q S1 (S1 ((q2 + 1) + 2) x1))) ∧ (x2 = 2 → (0 ≤ x1 ∧ x1 < 8 ∧ Q S1 (S1 ((q2 + 1) + 3) x1))) ∧ (x2 = 3 → (0 ≤ x1 ∧ x1 < 8 ∧ Q S1 (S1 ((q2 + 1) + 4) x1))) ∧ (x2 = 4 → w_X5_isHung N (q2 + 1) x1 S1 (fun (S7 : mSt) (v7 : Int) => ((v7 = 0 → Q S7 0) ∧ (v7 ≠ 0 → Q S7 1)))) ∧ (x2 = 5 → (0 ≤ x1 ∧ x1 < 8 ∧ Q S1 (S1 ((q2 + 1) + 5) x1))) ∧ (x2 = 6 → ∀ q9 : Nat, (q9 : Int) = S1 r0 5 → w_X3_lightOf N q9 (q2 + 1) x1 S1 (fun (S10 : mSt) (v10 : Int) => Q S10 v10)) ∧ (x2 = 7 → ∀ q11 : Nat, (q11 : Int) = S1 r0 5 → w_X3_whiteOf N q11 (q2 + 1) x1 S1 (fun (S12 : mSt) (v12 : Int) => Q S12 v12)) ∧ (x2 = 8 → ∀ q13 : Nat, (q13 : Int) = S1 r0 5 → w_X3_driesBy N q13 (q2 + 1) x1 S1 (fun (S14 : mSt) (v14 : Int) => Q S14 v14)) ∧ (x2 = 9 → w_X11_shareOf N r0 x1 S1 (fun (S15 : mSt) (v15 : Int) => Q S15 v15)) ∧ (x2 = 10 → (0 ≤ x1 ∧ x1 < 8 ∧ ∀ q17 : Nat, (q17 : Int) = S1 r0 3 → w_X2_takenByAny N q17 S1 (fun (S18 : mSt) (v18 : Int) => Q S18 (bAnd (S1 ((q2 + 1) + 4) x1) (bXor v18 (-1)))))) ∧ ((x2 < 0 ∨ 10 < x2) → E "java/util/NoSuchElementException" S1))) E
theorem T_X11_part {l : Launch} (hl0 : l.stackTraces = false) {g : mG} {b : Nat} (N : Nat) (r0 : Nat) (kr0 : KX r0 = (0, 9, 0)) (x1 : Int) (ox1 : okI x1) (x2 : Int) (ox2 : okI x2) {S : mSt} {Q : mSt → Int → Prop} {E : String → mSt → Prop} (h : w_X11_part N r0 x1 x2 S Q E) (sz : Nat) : vx_Met l yX11_part (Cond.code yX11_part cX11_part 4 (some FieldType.int) :: wsG) { frames := 7, cells := 2, slots := 12, locals := 164 } (mPc g b KX S [.ref (b + r0), .int (mI x1), .int (mI x2)] sz) (mQi g b KX Q (mA b KX sz)) (mEx g b KX E (mA b KX sz)) 2 12 (mA b KX sz) :=
  m_of (av := [.ref (b + r0), .int (mI x1), .int (mI x2)]) (Qf := fun A => mQi g b KX Q A) (Xf := fun A => mEx g b KX E A) (by decide) (Nat.le_of_ble_eq_true rfl) (fun p e s m args below meth c ls X hK hml hr hlk hout hnm hW hl => by
    have C : mC p l s m args meth c cX11_part "MoonWash" 4 (some FieldType.int) g := ⟨X, hK, hml, hr, hlk, hout, hl0⟩
    have hS : va_S (mA b KX s.heap.size) s.heap s.heap [] := va_S.rf
    have hl : lv_has ls 4 [(0, .ref (b + r0)), (1, .int (mI x1)), (2, .int (mI x2))] := hl
    unfold w_X11_part at h
    refine m_iload_n (pc := 0) C.1 dX11_part_0 rfl hl 1 rfl ?_
    refine m_callSvx (pc := 1) C.1 C.2.2.1 hl.1 C.2.1 hW hS (As := [.int (mI x1)]) (rest := []) (T_X11_checkPart C.2.2.2.2.2.2 N x1 ox1 h) q_936 q_937 q_81 q_938 pl_X11_checkPart (by decide) (Nat.le_of_ble_eq_true rfl) dX11_part_1 (fun En S1 H locs ce q9 hE hW1 hS h1 h2 h3 => m_prop C.2.2.2.2.2.1 C.2.2.2.2.1 hW1 hS hE h1 h2 h3 (by decide) (by decide)) (fun S1 H locs h hW1 hS => ?_)
    refine m_aload_n (pc := 4) C.1 dX11_part_4 rfl hl 0 rfl ?_
    refine g_9_3 (pc := 5) C hW1 kr0 q_395 dX11_part_5 (fun q2 eq2 kq2 => ?_)
    replace h := h q2 eq2
    refine g_1_0 (pc := 8) C hW1 kq2 q_187 dX11_part_8 ?_
    refine m_astore_n (pc := 11) C.1 dX11_part_11 rfl hl (by decide) rfl (fun ls hl => ?_)
    refine m_iload_n (pc := 12) C.1 dX11_part_12 rfl hl 3 rfl ?_
    by_cases hc13_0 : x2 = 0
    · replace h := h.1 hc13_0
      refine m_tabIn (pc := 13) (tgt := 72) C.1 ox2 hc13_0 (by decide) (by decide) rfl dX11_part_13 (by decide) ?_
      refine m_aload_n (pc := 72) C.1 dX11_part_72 rfl hl 0 rfl ?_
      refine g_3_0 (pc := 73) C hW1 (k_1_0 kq2) q_133 dX11_part_73 ?_
      refine m_iload_n (pc := 76) C.1 dX11_part_76 rfl hl 2 rfl ?_
      obtain ⟨hb3a, hb3b, h⟩ := h
      refine m_iald (pc := 77) C.1 C.2.1 hW1 (k_3_0 (k_1_0 kq2)) ox1 hb3a hb3b dX11_part_77 ?_
      exact m_iret (pc := 78) C.1 C.2.2.2.1 C.2.2.2.2.1 hW1 hS (hW1.2.1 _ _) h (by decide) (by decide) dX11_part_78
    replace h := h.2
    by_cases hc13_1 : x2 = 1
    · replace h := h.1 hc13_1
      refine m_tabIn (pc := 13) (tgt := 79) C.1 ox2 hc13_1 (by decide) (by decide) rfl dX11_part_13 (by decide) ?_
      refine m_aload_n (pc := 79) C.1 dX11_part_79 rfl hl 0 rfl ?_
      refine g_3_1 (pc := 80) C hW1 (k_1_0 kq2) q_137 dX11_part_80 ?_
      refine m_iload_n (pc := 83) C.1 dX11_part_83 rfl hl 2 rfl ?_
      obtain ⟨hb4a, hb4b, h⟩ := h
      refine m_iald (pc := 84) C.1 C.2.1 hW1 (k_3_1 (k_1_0 kq2)) ox1 hb4a hb4b dX11_part_84 ?_
      exact m_iret (pc := 85) C.1 C.2.2.2.1 C.2.2.2.2.1 hW1 hS (hW1.2.1 _ _) h (by decide) (by decide) dX11_part_85
    replace h := h.2
    by_cases hc13_2 : x2 = 2
    · replace h := h.1 hc13_2
      refine m_tabIn (pc := 13) (tgt := 86) C.1 ox2 hc13_2 (by decide) (by decide) rfl dX11_part_13 (by decide) ?_
      refine m_aload_n (pc := 86) C.1 dX11_part_86 rfl hl 0 rfl ?_
      refine g_3_2 (pc := 87) C hW1 (k_1_0 kq2) q_141 dX11_part_87 ?_
      refine m_iload_n (pc := 90) C.1 dX11_part_90 rfl hl 2 rfl ?_
      obtain ⟨hb5a, hb5b, h⟩ := h
      refine m_iald (pc := 91) C.1 C.2.1 hW1 (k_3_2 (k_1_0 kq2)) ox1 hb5a hb5b dX11_part_91 ?_
      exact m_iret (pc := 92) C.1 C.2.2.2.1 C.2.2.2.2.1 hW1 hS (hW1.2.1 _ _) h (by decide) (by decide) dX11_part_92
    replace h := h.2
    by_cases hc13_3 : x2 = 3
    · replace h := h.1 hc13_3
      refine m_tabIn (pc := 13) (tgt := 93) C.1 ox2 hc13_3 (by decide) (by decide) rfl dX11_part_13 (by decide) ?_
      refine m_aload_n (pc := 93) C.1 dX11_part_93 rfl hl 0 rfl ?_
      refine g_3_3 (pc := 94) C hW1 (k_1_0 kq2) q_145 dX11_part_94 ?_
      refine m_iload_n (pc := 97) C.1 dX11_part_97 rfl hl 2 rfl ?_
      obtain ⟨hb6a, hb6b, h⟩ := h
      refine m_iald (pc := 98) C.1 C.2.1 hW1 (k_3_3 (k_1_0 kq2)) ox1 hb6a hb6b dX11_part_98 ?_
      exact m_iret (pc := 99) C.1 C.2.2.2.1 C.2.2.2.2.1 hW1 hS (hW1.2.1 _ _) h (by decide) (by decide) dX11_part_99
    replace h := h.2
    by_cases hc13_4 : x2 = 4
    · replace h := h.1 hc13_4
      refine m_tabIn (pc := 13) (tgt := 100) C.1 ox2 hc13_4 (by decide) (by decide) rfl dX11_part_13 (by decide) ?_
      refine m_aload_n (pc := 100) C.1 dX11_part_100 rfl hl 0 rfl ?_
      refine m_iload_n (pc := 101) C.1 dX11_part_101 rfl hl 2 rfl ?_
      refine m_callVi (pc := 102) C.1 C.2.2.1 hl.1 C.2.1 hW1 hS (As := [.int (mI x1)]) (rest := []) (r := (q2 + 1)) (T_X5_isHung C.2.2.2.2.2.2 N (q2 + 1) (k_1_0 kq2) x1 ox1 h) (k_1_0 kq2) rfl q_575 q_491 q_492 q_83 q_493 pl_X5_isHung (by decide) (Nat.le_of_ble_eq_true rfl) dX11_part_102 (fun v7 S7 H locs ov7 h hW7 hS => ?_)
      refine m_if_eq (pc := 105) (tgt := 112) C.1 ov7 dX11_part_105 (by decide) (fun hc => ?_) (fun hc => ?_)
      · replace h := h.1 hc
        refine m_iconst (pc := 112) C.1 dX11_part_112 ?_
        exact m_iret (pc := 113) C.1 C.2.2.2.1 C.2.2.2.2.1 hW7 hS (by decide : okI 0) h (by decide) (by decide) dX11_part_113
      · replace h := h.2 hc
        refine m_iconst (pc := 108) C.1 dX11_part_108 ?_
        refine m_goto (pc := 109) (tgt := 113) C.1 dX11_part_109 (by decide) ?_
        exact m_iret (pc := 113) C.1 C.2.2.2.1 C.2.2.2.2.1 hW7 hS (by decide : okI 1) h (by decide) (by decide) dX11_part_113
    replace h := h.2
    by_cases hc13_5 : x2 = 5
    · replace h := h.1 hc13_5
      refine m_tabIn (pc := 13) (tgt := 114) C.1 ox2 hc13_5 (by decide) (by decide) rfl dX11_part_13 (by decide) ?_
      refine m_aload_n (pc := 114) C.1 dX11_part_114 rfl hl 0 rfl ?_
      refine g_3_4 (pc := 115) C hW1 (k_1_0 kq2) q_149 dX11_part_115 ?_
      refine m_iload_n (pc := 118) C.1 dX11_part_118 rfl hl 2 rfl ?_
      obtain ⟨hb8a, hb8b, h⟩ := h
      refine m_iald (pc := 119) C.1 C.2.1 hW1 (k_3_4 (k_1_0 kq2)) ox1 hb8a hb8b dX11_part_119 ?_
      exact m_iret (pc := 120) C.1 C.2.2.2.1 C.2.2.2.2.1 hW1 hS (hW1.2.1 _ _) h (by decide) (by decide) dX11_part_120
    replace h := h.2
    by_cases hc13_6 : x2 = 6
    · replace h := h.1 hc13_6
      refine m_tabIn (pc := 13) (tgt := 121) C.1 ox2 hc13_6 (by decide) (by decide) rfl dX11_part_13 (by decide) ?_
      refine m_aload_n (pc := 121) C.1 dX11_part_121 rfl hl 1 rfl ?_
      refine g_9_5 (pc := 122) C hW1 kr0 q_397 dX11_part_122 (fun q9 eq9 kq9 => ?_)
      replace h := h q9 eq9
      refine m_aload_n (pc := 125) C.1 dX11_part_125 rfl hl 0 rfl ?_
      refine m_iload_n (pc := 126) C.1 dX11_part_126 rfl hl 2 rfl ?_
      refine m_callVi (pc := 127) C.1 C.2.2.1 hl.1 C.2.1 hW1 hS (As := [.ref (b + (q2 + 1)), .int (mI x1)]) (rest := []) (r := q9) (T_X3_lightOf C.2.2.2.2.2.2 N q9 kq9 (q2 + 1) (k_1_0 kq2) x1 ox1 h) kq9 rfl q_539 q_487 q_488 q_84 q_489 pl_X3_lightOf (by decide) (Nat.le_of_ble_eq_true rfl) dX11_part_127 (fun v10 S10 H locs ov10 h hW10 hS => ?_)
      exact m_iret (pc := 130) C.1 C.2.2.2.1 C.2.2.2.2.1 hW10 hS ov10 h (by decide) (by decide) dX11_part_130
    replace h := h.2
    by_cases hc13_7 : x2 = 7
    · replace h := h.1 hc13_7
      refine m_tabIn (pc := 13) (tgt := 131) C.1 ox2 hc13_7 (by decide) (by decide) rfl dX11_part_13 (by decide) ?_
      refine m_aload_n (pc := 131) C.1 dX11_part_131 rfl hl 1 rfl ?_
      refine g_9_5 (pc := 132) C hW1 kr0 q_397 dX11_part_132 (fun q11 eq11 kq11 => ?_)
      replace h := h q11 eq11
      refine m_aload_n (pc := 135) C.1 dX11_part_135 rfl hl 0 rfl ?_
      refine m_iload_n (pc := 136) C.1 dX11_part_136 rfl hl 2 rfl ?_
      refine m_callVi (pc := 137) C.1 C.2.2.1 hl.1 C.2.1 hW1 hS (As := [.ref (b + (q2 + 1)), .int (mI x1)]) (rest := []) (r := q11) (T_X3_whiteOf C.2.2.2.2.2.2 N q11 kq11 (q2 + 1) (k_1_0 kq2) x1 ox1 h) kq11 rfl q_954 q_495 q_496 q_84 q_497 pl_X3_whiteOf (by decide) (Nat.le_of_ble_eq_true rfl) dX11_part_137 (fun v12 S12 H locs ov12 h hW12 hS => ?_)
      exact m_iret (pc := 140) C.1 C.2.2.2.1 C.2.2.2.2.1 hW12 hS ov12 h (by decide) (by decide) dX11_part_140
    replace h := h.2
    by_cases hc13_8 : x2 = 8
    · replace h := h.1 hc13_8
      refine m_tabIn (pc := 13) (tgt := 141) C.1 ox2 hc13_8 (by decide) (by decide) rfl dX11_part_13 (by decide) ?_
      refine m_aload_n (pc := 141) C.1 dX11_part_141 rfl hl 1 rfl ?_
      refine g_9_5 (pc := 142) C hW1 kr0 q_397 dX11_part_142 (fun q13 eq13 kq13 => ?_)
      replace h := h q13 eq13
      refine m_aload_n (pc := 145) C.1 dX11_part_145 rfl hl 0 rfl ?_
      refine m_iload_n (pc := 146) C.1 dX11_part_146 rfl hl 2 rfl ?_
      refine m_callVi (pc := 147) C.1 C.2.2.1 hl.1 C.2.1 hW1 hS (As := [.ref (b + (q2 + 1)), .int (mI x1)]) (rest := []) (r := q13) (T_X3_driesBy C.2.2.2.2.2.2 N q13 kq13 (q2 + 1) (k_1_0 kq2) x1 ox1 h) kq13 rfl q_955 q_956 q_957 q_84 q_958 pl_X3_driesBy (by decide) (Nat.le_of_ble_eq_true rfl) dX11_part_147 (fun v14 S14 H locs ov14 h hW14 hS => ?_)
      exact m_iret (pc := 150) C.1 C.2.2.2.1 C.2.2.2.2.1 hW14 hS ov14 h (by decide) (by decide) dX11_part_150
    replace h := h.2
    by_cases hc13_9 : x2 = 9
    · replace h := h.1 hc13_9
      refine m_tabIn (pc := 13) (tgt := 151) C.1 ox2 hc13_9 (by decide) (by decide) rfl dX11_part_13 (by decide) ?_
      refine m_aload_n (pc := 151) C.1 dX11_part_151 rfl hl 1 rfl ?_
      refine m_iload_n (pc := 152) C.1 dX11_part_152 rfl hl 2 rfl ?_
      refine m_callVi (pc := 153) C.1 C.2.2.1 hl.1 C.2.1 hW1 hS (As := [.int (mI x1)]) (rest := []) (r := r0) (T_X11_shareOf C.2.2.2.2.2.2 N r0 kr0 x1 ox1 h) kr0 rfl q_959 q_961 q_10 q_81 q_962 pl_X11_shareOf (by decide) (Nat.le_of_ble_eq_true rfl) dX11_part_153 (fun v15 S15 H locs ov15 h hW15 hS => ?_)
      exact m_iret (pc := 156) C.1 C.2.2.2.1 C.2.2.2.2.1 hW15 hS ov15 h (by decide) (by decide) dX11_part_156
    replace h := h.2
    by_cases hc13_10 : x2 = 10
    · replace h := h.1 hc13_10
      refine m_tabIn (pc := 13) (tgt := 157) C.1 ox2 hc13_10 (by decide) (by decide) rfl dX11_part_13 (by decide) ?_
      refine m_aload_n (pc := 157) C.1 dX11_part_157 rfl hl 0 rfl ?_
      refine g_3_3 (pc := 158) C hW1 (k_1_0 kq2) q_145 dX11_part_158 ?_
      refine m_iload_n (pc := 161) C.1 dX11_part_161 rfl hl 2 rfl ?_
      obtain ⟨hb16a, hb16b, h⟩ := h
      refine m_iald (pc := 162) C.1 C.2.1 hW1 (k_3_3 (k_1_0 kq2)) ox1 hb16a hb16b dX11_part_162 ?_
      refine m_aload_n (pc := 163) C.1 dX11_part_163 rfl hl 1 rfl ?_
      refine g_9_3 (pc := 164) C hW1 kr0 q_395 dX11_part_164 (fun q17 eq17 kq17 => ?_)
      replace h := h q17 eq17
      refine m_callVi (pc := 167) C.1 C.2.2.1 hl.1 C.2.1 hW1 hS (As := []) (rest := [.int (mI (S1 ((q2 + 1) + 4) x1))]) (r := q17) (T_X2_takenByAny C.2.2.2.2.2.2 N q17 kq17 h) kq17 rfl q_963 q_964 q_965 q_82 q_966 pl_X2_takenByAny (by decide) (Nat.le_of_ble_eq_true rfl) dX11_part_167 (fun v18 S18 H locs ov18 h hW18 hS => ?_)
      refine m_iconst (pc := 170) C.1 dX11_part_170 ?_
      refine m_ixor (pc := 171) C.1 dX11_part_171 ?_
      refine m_iand (pc := 172) C.1 dX11_part_172 ?_
      exact m_iret (pc := 173) C.1 C.2.2.2.1 C.2.2.2.2.1 hW18 hS (bAnd_ok _ _) h (by decide) (by decide) dX11_part_173
    replace h := h.2
    have hc13 : x2 < 0 ∨ 10 < x2 := by omega
    replace h := h hc13
    refine m_tabOut (pc := 13) (tgt := 174) C.1 ox2 hc13 dX11_part_13 (by decide) ?_
    exact m_throw (pc := 174) C.1 C.2.2.2.2.2.2 C.2.1 hW1 hS (cls := "java/util/NoSuchElementException") (names := ["java/lang/RuntimeException", "java/lang/Exception"]) (by decide) (by decide) q_975 q_108 thr_X11_174_a thr_X11_174_g (hl.1.trans C.2.2.1.symm) dX11_part_174 dX11_part_177 dX11_part_178 dX11_part_181 C.2.2.2.2.2.1 C.2.2.2.2.1 (by decide) (Nat.le_of_ble_eq_true rfl) (by decide) (by decide) h (by decide) (by decide)) sz
section
variable {p : Program} {l : Launch} {e : Env} {s : State} {m : MethodId} {args : Array Value} {below : List Frame} {meth : Method} {c : Code} {g : mG} {b : Nat}
end
def w_X11_checkSoap (N : Nat) (r0 : Nat) (x1 : Int) (S : mSt) (Q : mSt → Prop) (E : String → mSt → Prop) : Prop :=
  ((x1 < 0 → E "java/lang/IndexOutOfBoundsException" S) ∧ (0 ≤ x1 → ∀ q1 : Nat, (q1 : Int) = S r0 3 → ((x1 < (S q1 2) → Q S) ∧ ((S q1 2) ≤ x1 → E "java/lang/IndexOutOfBoundsException" S))))
theorem T_X11_checkSoap {l : Launch} (hl0 : l.stackTraces = false) {g : mG} {b : Nat} (N : Nat) (r0 : Nat) (kr0 : KX r0 = (0, 9, 0)) (x1 : Int) (ox1 : okI x1) {S : mSt} {Q : mSt → Prop} {E : String → mSt → Prop} (h : w_X11_checkSoap N r0 x1 S Q E) (sz : Nat) : vx_Met l yX11_checkSoap (Cond.code yX11_checkSoap cX11_checkSoap 2 none :: wsG) { frames := 6, cells := 1, slots := 6, locals := 100 } (mPc g b KX S [.ref (b + r0), .int (mI x1)] sz) (mQv g b KX Q (mA b KX sz)) (mEx g b KX E (mA b KX sz)) 1 6 (mA b KX sz) :=
  m_of (av := [.ref (b + r0), .int (mI x1)]) (Qf := fun A => mQv g b KX Q A) (Xf := fun A => mEx g b KX E A) (by decide) (Nat.le_of_ble_eq_true rfl) (fun p e s m args below meth c ls X hK hml hr hlk hout hnm hW hl => by
    have C : mC p l s m args meth c cX11_checkSoap "MoonWash" 2 none g := ⟨X, hK, hml, hr, hlk, hout, hl0⟩
    have hS : va_S (mA b KX s.heap.size) s.heap s.heap [] := va_S.rf
    have hl : lv_has ls 2 [(0, .ref (b + r0)), (1, .int (mI x1))] := hl
    unfold w_X11_checkSoap at h
    refine m_iload_n (pc := 0) C.1 dX11_checkSoap_0 rfl hl 1 rfl ?_
    refine m_if_lt (pc := 1) (tgt := 15) C.1 ox1 dX11_checkSoap_1 (by decide) (fun hc => ?_) (fun hc => ?_)
    · replace h := h.1 hc
      exact m_throw (pc := 15) C.1 C.2.2.2.2.2.2 C.2.1 hW hS (cls := "java/lang/IndexOutOfBoundsException") (names := ["java/lang/RuntimeException", "java/lang/Exception"]) (by decide) (by decide) q_939 q_106 thr_X11_205_a thr_X11_205_g (hl.1.trans C.2.2.1.symm) dX11_checkSoap_15 dX11_checkSoap_18 dX11_checkSoap_19 dX11_checkSoap_22 C.2.2.2.2.2.1 C.2.2.2.2.1 (by decide) (Nat.le_of_ble_eq_true rfl) (by decide) (by decide) h (by decide) (by decide)
    · replace h := h.2 hc
      refine m_iload_n (pc := 4) C.1 dX11_checkSoap_4 rfl hl 1 rfl ?_
      refine m_aload_n (pc := 5) C.1 dX11_checkSoap_5 rfl hl 0 rfl ?_
      refine g_9_3 (pc := 6) C hW kr0 q_395 dX11_checkSoap_6 (fun q1 eq1 kq1 => ?_)
      replace h := h q1 eq1
      refine g_1_2 (pc := 9) C hW kq1 q_192 dX11_checkSoap_9 ?_
      refine m_icmp_lt (pc := 12) (tgt := 23) C.1 ox1 (hW.2.1 _ _) dX11_checkSoap_12 (by decide) (fun hc => ?_) (fun hc => ?_)
      · replace h := h.1 hc
        exact m_vret (pc := 23) C.1 C.2.2.2.1 C.2.2.2.2.1 hW hS h (by decide) (by decide) dX11_checkSoap_23
      · replace h := h.2 hc
        exact m_throw (pc := 15) C.1 C.2.2.2.2.2.2 C.2.1 hW hS (cls := "java/lang/IndexOutOfBoundsException") (names := ["java/lang/RuntimeException", "java/lang/Exception"]) (by decide) (by decide) q_939 q_106 thr_X11_205_a thr_X11_205_g (hl.1.trans C.2.2.1.symm) dX11_checkSoap_15 dX11_checkSoap_18 dX11_checkSoap_19 dX11_checkSoap_22 C.2.2.2.2.2.1 C.2.2.2.2.1 (by decide) (Nat.le_of_ble_eq_true rfl) (by decide) (by decide) h (by decide) (by decide)) sz
section
variable {p : Program} {l : Launch} {e : Env} {s : State} {m : MethodId} {args : Array Value} {below : List Frame} {meth : Method} {c : Code} {g : mG} {b : Nat}
end
def w_X11_soap (N : Nat) (r0 : Nat) (x1 : Int) (x2 : Int) (S : mSt) (Q : mSt → Int → Prop) (E : String → mSt → Prop) : Prop :=
  w_X11_checkSoap N r0 x1 S (fun (S1 : mSt) => ((x2 = 0 → ∀ q2 : Nat, (q2 : Int) = S1 r0 3 → w_X2_strength N q2 x1 S1 (fun (S3 : mSt) (v3 : Int) => Q S3 v3)) ∧ (x2 = 1 → ∀ q4 : Nat, (q4 : Int) = S1 r0 3 → w_X2_price N q4 x1 S1 (fun (S5 : mSt) (v5 : Int) => Q S5 v5)) ∧ (x2 = 2 → ∀ q6 : Nat, (q6 : Int) = S1 r0 3 → w_X2_rough N q6 x1 S1 (fun (S7 : mSt) (v7 : Int) => Q S7 v7)) ∧ (x2 = 3 → ∀ q8 : Nat, (q8 : Int) = S1 r0 3 → w_X2_takes N q8 x1 S1 (fun (S9 : mSt) (v9 : Int) => Q S9 v9)) ∧ ((x2 < 0 ∨ 3 < x2) → E "java/util/NoSuchElementException" S1))) E
theorem T_X11_soap {l : Launch} (hl0 : l.stackTraces = false) {g : mG} {b : Nat} (N : Nat) (r0 : Nat) (kr0 : KX r0 = (0, 9, 0)) (x1 : Int) (ox1 : okI x1) (x2 : Int) (ox2 : okI x2) {S : mSt} {Q : mSt → Int → Prop} {E : String → mSt → Prop} (h : w_X11_soap N r0 x1 x2 S Q E) (sz : Nat) : vx_Met l yX11_soap (Cond.code yX11_soap cX11_soap 3 (some FieldType.int) :: wsG) { frames := 7, cells := 2, slots := 12, locals := 121 } (mPc g b KX S [.ref (b + r0), .int (mI x1), .int (mI x2)] sz) (mQi g b KX Q (mA b KX sz)) (mEx g b KX E (mA b KX sz)) 2 12 (mA b KX sz) :=
  m_of (av := [.ref (b + r0), .int (mI x1), .int (mI x2)]) (Qf := fun A => mQi g b KX Q A) (Xf := fun A => mEx g b KX E A) (by decide) (Nat.le_of_ble_eq_true rfl) (fun p e s m args below meth c ls X hK hml hr hlk hout hnm hW hl => by
    have C : mC p l s m args meth c cX11_soap "MoonWash" 3 (some FieldType.int) g := ⟨X, hK, hml, hr, hlk, hout, hl0⟩
    have hS : va_S (mA b KX s.heap.size) s.heap s.heap [] := va_S.rf
    have hl : lv_has ls 3 [(0, .ref (b + r0)), (1, .int (mI x1)), (2, .int (mI x2))] := hl
    unfold w_X11_soap at h
    refine m_aload_n (pc := 0) C.1 dX11_soap_0 rfl hl 0 rfl ?_
    refine m_iload_n (pc := 1) C.1 dX11_soap_1 rfl hl 1 rfl ?_
    refine m_callVvx (pc := 2) C.1 C.2.2.1 hl.1 C.2.1 hW hS (As := [.int (mI x1)]) (rest := []) (r := r0) (T_X11_checkSoap C.2.2.2.2.2.2 N r0 kr0 x1 ox1 h) kr0 rfl q_997 q_999 q_11 q_81 q_1000 pl_X11_checkSoap (by decide) (Nat.le_of_ble_eq_true rfl) dX11_soap_2 (fun En S1 H locs ce q9 hE hW1 hS h1 h2 h3 => m_prop C.2.2.2.2.2.1 C.2.2.2.2.1 hW1 hS hE h1 h2 h3 (by decide) (by decide)) (fun S1 H locs h hW1 hS => ?_)
    refine m_iload_n (pc := 5) C.1 dX11_soap_5 rfl hl 2 rfl ?_
    by_cases hc6_0 : x2 = 0
    · replace h := h.1 hc6_0
      refine m_tabIn (pc := 6) (tgt := 36) C.1 ox2 hc6_0 (by decide) (by decide) rfl dX11_soap_6 (by decide) ?_
      refine m_aload_n (pc := 36) C.1 dX11_soap_36 rfl hl 0 rfl ?_
      refine g_9_3 (pc := 37) C hW1 kr0 q_395 dX11_soap_37 (fun q2 eq2 kq2 => ?_)
      replace h := h q2 eq2
      refine m_iload_n (pc := 40) C.1 dX11_soap_40 rfl hl 1 rfl ?_
      refine m_callVi (pc := 41) C.1 C.2.2.1 hl.1 C.2.1 hW1 hS (As := [.int (mI x1)]) (rest := []) (r := q2) (T_X2_strength C.2.2.2.2.2.2 N q2 kq2 x1 ox1 h) kq2 rfl q_1001 q_1002 q_1003 q_82 q_1004 pl_X2_strength (by decide) (Nat.le_of_ble_eq_true rfl) dX11_soap_41 (fun v3 S3 H locs ov3 h hW3 hS => ?_)
      exact m_iret (pc := 44) C.1 C.2.2.2.1 C.2.2.2.2.1 hW3 hS ov3 h (by decide) (by decide) dX11_soap_44
    replace h := h.2
    by_cases hc6_1 : x2 = 1
    · replace h := h.1 hc6_1
      refine m_tabIn (pc := 6) (tgt := 45) C.1 ox2 hc6_1 (by decide) (by decide) rfl dX11_soap_6 (by decide) ?_
      refine m_aload_n (pc := 45) C.1 dX11_soap_45 rfl hl 0 rfl ?_
      refine g_9_3 (pc := 46) C hW1 kr0 q_395 dX11_soap_46 (fun q4 eq4 kq4 => ?_)
      replace h := h q4 eq4
      refine m_iload_n (pc := 49) C.1 dX11_soap_49 rfl hl 1 rfl ?_
      refine m_callVi (pc := 50) C.1 C.2.2.1 hl.1 C.2.1 hW1 hS (As := [.int (mI x1)]) (rest := []) (r := q4) (T_X2_price C.2.2.2.2.2.2 N q4 kq4 x1 ox1 h) kq4 rfl q_1005 q_1006 q_1007 q_82 q_1008 pl_X2_price (by decide) (Nat.le_of_ble_eq_true rfl) dX11_soap_50 (fun v5 S5 H locs ov5 h hW5 hS => ?_)
      exact m_iret (pc := 53) C.1 C.2.2.2.1 C.2.2.2.2.1 hW5 hS ov5 h (by decide) (by decide) dX11_soap_53
    replace h := h.2
    by_cases hc6_2 : x2 = 2
    · replace h := h.1 hc6_2
      refine m_tabIn (pc := 6) (tgt := 54) C.1 ox2 hc6_2 (by decide) (by decide) rfl dX11_soap_6 (by decide) ?_
      refine m_aload_n (pc := 54) C.1 dX11_soap_54 rfl hl 0 rfl ?_
      refine g_9_3 (pc := 55) C hW1 kr0 q_395 dX11_soap_55 (fun q6 eq6 kq6 => ?_)
      replace h := h q6 eq6
      refine m_iload_n (pc := 58) C.1 dX11_soap_58 rfl hl 1 rfl ?_
      refine m_callVi (pc := 59) C.1 C.2.2.1 hl.1 C.2.1 hW1 hS (As := [.int (mI x1)]) (rest := []) (r := q6) (T_X2_rough C.2.2.2.2.2.2 N q6 kq6 x1 ox1 h) kq6 rfl q_1009 q_1010 q_1011 q_82 q_1012 pl_X2_rough (by decide) (Nat.le_of_ble_eq_true rfl) dX11_soap_59 (fun v7 S7 H locs ov7 h hW7 hS => ?_)
      exact m_iret (pc := 62) C.1 C.2.2.2.1 C.2.2.2.2.1 hW7 hS ov7 h (by decide) (by decide) dX11_soap_62
    replace h := h.2
    by_cases hc6_3 : x2 = 3
    · replace h := h.1 hc6_3
      refine m_tabIn (pc := 6) (tgt := 63) C.1 ox2 hc6_3 (by decide) (by decide) rfl dX11_soap_6 (by decide) ?_
      refine m_aload_n (pc := 63) C.1 dX11_soap_63 rfl hl 0 rfl ?_
      refine g_9_3 (pc := 64) C hW1 kr0 q_395 dX11_soap_64 (fun q8 eq8 kq8 => ?_)
      replace h := h q8 eq8
      refine m_iload_n (pc := 67) C.1 dX11_soap_67 rfl hl 1 rfl ?_
      refine m_callVi (pc := 68) C.1 C.2.2.1 hl.1 C.2.1 hW1 hS (As := [.int (mI x1)]) (rest := []) (r := q8) (T_X2_takes C.2.2.2.2.2.2 N q8 kq8 x1 ox1 h) kq8 rfl q_1013 q_972 q_973 q_82 q_974 pl_X2_takes (by decide) (Nat.le_of_ble_eq_true rfl) dX11_soap_68 (fun v9 S9 H locs ov9 h hW9 hS => ?_)
      exact m_iret (pc := 71) C.1 C.2.2.2.1 C.2.2.2.2.1 hW9 hS ov9 h (by decide) (by decide) dX11_soap_71
    replace h := h.2
    have hc6 : x2 < 0 ∨ 3 < x2 := by omega
    replace h := h hc6
    refine m_tabOut (pc := 6) (tgt := 72) C.1 ox2 hc6 dX11_soap_6 (by decide) ?_
    exact m_throw (pc := 72) C.1 C.2.2.2.2.2.2 C.2.1 hW1 hS (cls := "java/util/NoSuchElementException") (names := ["java/lang/RuntimeException", "java/lang/Exception"]) (by decide) (by decide) q_975 q_108 thr_X11_174_a thr_X11_174_g (hl.1.trans C.2.2.1.symm) dX11_soap_72 dX11_soap_75 dX11_soap_76 dX11_soap_79 C.2.2.2.2.2.1 C.2.2.2.2.1 (by decide) (Nat.le_of_ble_eq_true rfl) (by decide) (by decide) h (by decide) (by decide)) sz
section
variable {p : Program} {l : Launch} {e : Env} {s : State} {m : MethodId} {args : Array Value} {below : List Frame} {meth : Method} {c : Code} {g : mG} {b : Nat}
end
def w_X11_peg (N : Nat) (r0 : Nat) (x1 : Int) (x2 : Int) (S : mSt) (Q : mSt → Int → Prop) (E : String → mSt → Prop) : Prop :=
  w_X11_checkPart N x1 S (fun (S1 : mSt) => ((x2 = 0 → ∀ q2 : Nat, (q2 : Int) = S1 r0 3 → (0 ≤ x1 ∧ x1 < 8 ∧ Q S1 (S1 ((q2 + 1) + 6) x1))) ∧ (x2 ≠ 0 → ∀ q4 : Nat, (q4 : Int) = S1 r0 3 → w_X5_partAt N (q4 + 1) x1 S1 (fun (S5 : mSt) (v5 : Int) => Q S5 v5)))) E
theorem T_X11_peg {l : Launch} (hl0 : l.stackTraces = false) {g : mG} {b : Nat} (N : Nat) (r0 : Nat) (kr0 : KX r0 = (0, 9, 0)) (x1 : Int) (ox1 : okI x1) (x2 : Int) (ox2 : okI x2) {S : mSt} {Q : mSt → Int → Prop} {E : String → mSt → Prop} (h : w_X11_peg N r0 x1 x2 S Q E) (sz : Nat) : vx_Met l yX11_peg (Cond.code yX11_peg cX11_peg 3 (some FieldType.int) :: wsG) { frames := 7, cells := 1, slots := 6, locals := 120 } (mPc g b KX S [.ref (b + r0), .int (mI x1), .int (mI x2)] sz) (mQi g b KX Q (mA b KX sz)) (mEx g b KX E (mA b KX sz)) 1 6 (mA b KX sz) :=
  m_of (av := [.ref (b + r0), .int (mI x1), .int (mI x2)]) (Qf := fun A => mQi g b KX Q A) (Xf := fun A => mEx g b KX E A) (by decide) (Nat.le_of_ble_eq_true rfl) (fun p e s m args below meth c ls X hK hml hr hlk hout hnm hW hl => by
    have C : mC p l s m args meth c cX11_peg "MoonWash" 3 (some FieldType.int) g := ⟨X, hK, hml, hr, hlk, hout, hl0⟩
    have hS : va_S (mA b KX s.heap.size) s.heap s.heap [] := va_S.rf
    have hl : lv_has ls 3 [(0, .ref (b + r0)), (1, .int (mI x1)), (2, .int (mI x2))] := hl
    unfold w_X11_peg at h
    refine m_iload_n (pc := 0) C.1 dX11_peg_0 rfl hl 1 rfl ?_
    refine m_callSvx (pc := 1) C.1 C.2.2.1 hl.1 C.2.1 hW hS (As := [.int (mI x1)]) (rest := []) (T_X11_checkPart C.2.2.2.2.2.2 N x1 ox1 h) q_936 q_937 q_81 q_938 pl_X11_checkPart (by decide) (Nat.le_of_ble_eq_true rfl) dX11_peg_1 (fun En S1 H locs ce q9 hE hW1 hS h1 h2 h3 => m_prop C.2.2.2.2.2.1 C.2.2.2.2.1 hW1 hS hE h1 h2 h3 (by decide) (by decide)) (fun S1 H locs h hW1 hS => ?_)
    refine m_iload_n (pc := 4) C.1 dX11_peg_4 rfl hl 2 rfl ?_
    refine m_if_eq (pc := 5) (tgt := 22) C.1 ox2 dX11_peg_5 (by decide) (fun hc => ?_) (fun hc => ?_)
    · replace h := h.1 hc
      refine m_aload_n (pc := 22) C.1 dX11_peg_22 rfl hl 0 rfl ?_
      refine g_9_3 (pc := 23) C hW1 kr0 q_395 dX11_peg_23 (fun q2 eq2 kq2 => ?_)
      replace h := h q2 eq2
      refine g_1_0 (pc := 26) C hW1 kq2 q_187 dX11_peg_26 ?_
      refine g_3_5 (pc := 29) C hW1 (k_1_0 kq2) q_153 dX11_peg_29 ?_
      refine m_iload_n (pc := 32) C.1 dX11_peg_32 rfl hl 1 rfl ?_
      obtain ⟨hb3a, hb3b, h⟩ := h
      refine m_iald (pc := 33) C.1 C.2.1 hW1 (k_3_5 (k_1_0 kq2)) ox1 hb3a hb3b dX11_peg_33 ?_
      exact m_iret (pc := 34) C.1 C.2.2.2.1 C.2.2.2.2.1 hW1 hS (hW1.2.1 _ _) h (by decide) (by decide) dX11_peg_34
    · replace h := h.2 hc
      refine m_aload_n (pc := 8) C.1 dX11_peg_8 rfl hl 0 rfl ?_
      refine g_9_3 (pc := 9) C hW1 kr0 q_395 dX11_peg_9 (fun q4 eq4 kq4 => ?_)
      replace h := h q4 eq4
      refine g_1_0 (pc := 12) C hW1 kq4 q_187 dX11_peg_12 ?_
      refine m_iload_n (pc := 15) C.1 dX11_peg_15 rfl hl 1 rfl ?_
      refine m_callVi (pc := 16) C.1 C.2.2.1 hl.1 C.2.1 hW1 hS (As := [.int (mI x1)]) (rest := []) (r := (q4 + 1)) (T_X5_partAt C.2.2.2.2.2.2 N (q4 + 1) (k_1_0 kq4) x1 ox1 h) (k_1_0 kq4) rfl q_1021 q_1022 q_1023 q_83 q_1024 pl_X5_partAt (by decide) (Nat.le_of_ble_eq_true rfl) dX11_peg_16 (fun v5 S5 H locs ov5 h hW5 hS => ?_)
      refine m_goto (pc := 19) (tgt := 34) C.1 dX11_peg_19 (by decide) ?_
      exact m_iret (pc := 34) C.1 C.2.2.2.1 C.2.2.2.2.1 hW5 hS ov5 h (by decide) (by decide) dX11_peg_34) sz
section
variable {p : Program} {l : Launch} {e : Env} {s : State} {m : MethodId} {args : Array Value} {below : List Frame} {meth : Method} {c : Code} {g : mG} {b : Nat}
end
def w_X11_due (N : Nat) (r0 : Nat) (x1 : Int) (x2 : Int) (S : mSt) (Q : mSt → Int → Prop) (E : String → mSt → Prop) : Prop :=
  ((x1 < 0 → E "java/lang/IndexOutOfBoundsException" S) ∧ (0 ≤ x1 → ∀ q1 : Nat, (q1 : Int) = S r0 3 → ((x1 < (S q1 4) → ((x2 = 0 → ∀ q2 : Nat, (q2 : Int) = S r0 3 → w_X2_dueNight N q2 x1 S (fun (S3 : mSt) (v3 : Int) => Q S3 v3)) ∧ (x2 ≠ 0 → ∀ q4 : Nat, (q4 : Int) = S r0 3 → w_X2_dueLight N q4 x1 S (fun (S5 : mSt) (v5 : Int) => Q S5 v5)))) ∧ ((S q1 4) ≤ x1 → E "java/lang/IndexOutOfBoundsException" S))))
theorem T_X11_due {l : Launch} (hl0 : l.stackTraces = false) {g : mG} {b : Nat} (N : Nat) (r0 : Nat) (kr0 : KX r0 = (0, 9, 0)) (x1 : Int) (ox1 : okI x1) (x2 : Int) (ox2 : okI x2) {S : mSt} {Q : mSt → Int → Prop} {E : String → mSt → Prop} (h : w_X11_due N r0 x1 x2 S Q E) (sz : Nat) : vx_Met l yX11_due (Cond.code yX11_due cX11_due 3 (some FieldType.int) :: wsG) { frames := 6, cells := 1, slots := 6, locals := 100 } (mPc g b KX S [.ref (b + r0), .int (mI x1), .int (mI x2)] sz) (mQi g b KX Q (mA b KX sz)) (mEx g b KX E (mA b KX sz)) 1 6 (mA b KX sz) :=
  m_of (av := [.ref (b + r0), .int (mI x1), .int (mI x2)]) (Qf := fun A => mQi g b KX Q A) (Xf := fun A => mEx g b KX E A) (by decide) (Nat.le_of_ble_eq_true rfl) (fun p e s m args below meth c ls X hK hml hr hlk hout hnm hW hl => by
    have C : mC p l s m args meth c cX11_due "MoonWash" 3 (some FieldType.int) g := ⟨X, hK, hml, hr, hlk, hout, hl0⟩
    have hS : va_S (mA b KX s.heap.size) s.heap s.heap [] := va_S.rf
    have hl : lv_has ls 3 [(0, .ref (b + r0)), (1, .int (mI x1)), (2, .int (mI x2))] := hl
    unfold w_X11_due at h
    refine m_iload_n (pc := 0) C.1 dX11_due_0 rfl hl 1 rfl ?_
    refine m_if_lt (pc := 1) (tgt := 15) C.1 ox1 dX11_due_1 (by decide) (fun hc => ?_) (fun hc => ?_)
    · replace h := h.1 hc
      exact m_throw (pc := 15) C.1 C.2.2.2.2.2.2 C.2.1 hW hS (cls := "java/lang/IndexOutOfBoundsException") (names := ["java/lang/RuntimeException", "java/lang/Exception"]) (by decide) (by decide) q_939 q_106 thr_X11_205_a thr_X11_205_g (hl.1.trans C.2.2.1.symm) dX11_due_15 dX11_due_18 dX11_due_19 dX11_due_22 C.2.2.2.2.2.1 C.2.2.2.2.1 (by decide) (Nat.le_of_ble_eq_true rfl) (by decide) (by decide) h (by decide) (by decide)
    · replace h := h.2 hc
      refine m_iload_n (pc := 4) C.1 dX11_due_4 rfl hl 1 rfl ?_
      refine m_aload_n (pc := 5) C.1 dX11_due_5 rfl hl 0 rfl ?_
      refine g_9_3 (pc := 6) C hW kr0 q_395 dX11_due_6 (fun q1 eq1 kq1 => ?_)
      replace h := h q1 eq1
      refine g_1_4 (pc := 9) C hW kq1 q_196 dX11_due_9 ?_
      refine m_icmp_lt (pc := 12) (tgt := 23) C.1 ox1 (hW.2.1 _ _) dX11_due_12 (by decide) (fun hc => ?_) (fun hc => ?_)
      · replace h := h.1 hc
        refine m_iload_n (pc := 23) C.1 dX11_due_23 rfl hl 2 rfl ?_
        refine m_if_eq (pc := 24) (tgt := 38) C.1 ox2 dX11_due_24 (by decide) (fun hc => ?_) (fun hc => ?_)
        · replace h := h.1 hc
          refine m_aload_n (pc := 38) C.1 dX11_due_38 rfl hl 0 rfl ?_
          refine g_9_3 (pc := 39) C hW kr0 q_395 dX11_due_39 (fun q2 eq2 kq2 => ?_)
          replace h := h q2 eq2
          refine m_iload_n (pc := 42) C.1 dX11_due_42 rfl hl 1 rfl ?_
          refine m_callVi (pc := 43) C.1 C.2.2.1 hl.1 C.2.1 hW hS (As := [.int (mI x1)]) (rest := []) (r := q2) (T_X2_dueNight C.2.2.2.2.2.2 N q2 kq2 x1 ox1 h) kq2 rfl q_1036 q_1037 q_1038 q_82 q_1039 pl_X2_dueNight (by decide) (Nat.le_of_ble_eq_true rfl) dX11_due_43 (fun v3 S3 H locs ov3 h hW3 hS => ?_)
          exact m_iret (pc := 46) C.1 C.2.2.2.1 C.2.2.2.2.1 hW3 hS ov3 h (by decide) (by decide) dX11_due_46
        · replace h := h.2 hc
          refine m_aload_n (pc := 27) C.1 dX11_due_27 rfl hl 0 rfl ?_
          refine g_9_3 (pc := 28) C hW kr0 q_395 dX11_due_28 (fun q4 eq4 kq4 => ?_)
          replace h := h q4 eq4
          refine m_iload_n (pc := 31) C.1 dX11_due_31 rfl hl 1 rfl ?_
          refine m_callVi (pc := 32) C.1 C.2.2.1 hl.1 C.2.1 hW hS (As := [.int (mI x1)]) (rest := []) (r := q4) (T_X2_dueLight C.2.2.2.2.2.2 N q4 kq4 x1 ox1 h) kq4 rfl q_1032 q_1033 q_1034 q_82 q_1035 pl_X2_dueLight (by decide) (Nat.le_of_ble_eq_true rfl) dX11_due_32 (fun v5 S5 H locs ov5 h hW5 hS => ?_)
          refine m_goto (pc := 35) (tgt := 46) C.1 dX11_due_35 (by decide) ?_
          exact m_iret (pc := 46) C.1 C.2.2.2.1 C.2.2.2.2.1 hW5 hS ov5 h (by decide) (by decide) dX11_due_46
      · replace h := h.2 hc
        exact m_throw (pc := 15) C.1 C.2.2.2.2.2.2 C.2.1 hW hS (cls := "java/lang/IndexOutOfBoundsException") (names := ["java/lang/RuntimeException", "java/lang/Exception"]) (by decide) (by decide) q_939 q_106 thr_X11_205_a thr_X11_205_g (hl.1.trans C.2.2.1.symm) dX11_due_15 dX11_due_18 dX11_due_19 dX11_due_22 C.2.2.2.2.2.1 C.2.2.2.2.1 (by decide) (Nat.le_of_ble_eq_true rfl) (by decide) (by decide) h (by decide) (by decide)) sz
section
variable {p : Program} {l : Launch} {e : Env} {s : State} {m : MethodId} {args : Array Value} {below : List Frame} {meth : Method} {c : Code} {g : mG} {b : Nat}
end
def w_X11_checkNumber (N : Nat) (x0 : Int) (x1 : Int) (x2 : Int) (S : mSt) (Q : mSt → Prop) (E : String → mSt → Prop) : Prop :=
  ((x0 < x1 → E "java/lang/IllegalArgumentException" S) ∧ (x1 ≤ x0 → ((x0 ≤ x2 → Q S) ∧ (x2 < x0 → E "java/lang/IllegalArgumentException" S))))
theorem T_X11_checkNumber {l : Launch} (hl0 : l.stackTraces = false) {g : mG} {b : Nat} (N : Nat) (x0 : Int) (ox0 : okI x0) (x1 : Int) (ox1 : okI x1) (x2 : Int) (ox2 : okI x2) {S : mSt} {Q : mSt → Prop} {E : String → mSt → Prop} (h : w_X11_checkNumber N x0 x1 x2 S Q E) (sz : Nat) : vx_Met l yX11_checkNumber (Cond.code yX11_checkNumber cX11_checkNumber 3 none :: wsG) { frames := 6, cells := 1, slots := 6, locals := 100 } (mPc g b KX S [.int (mI x0), .int (mI x1), .int (mI x2)] sz) (mQv g b KX Q (mA b KX sz)) (mEx g b KX E (mA b KX sz)) 1 6 (mA b KX sz) :=
  m_of (av := [.int (mI x0), .int (mI x1), .int (mI x2)]) (Qf := fun A => mQv g b KX Q A) (Xf := fun A => mEx g b KX E A) (by decide) (Nat.le_of_ble_eq_true rfl) (fun p e s m args below meth c ls X hK hml hr hlk hout hnm hW hl => by
    have C : mC p l s m args meth c cX11_checkNumber "MoonWash" 3 none g := ⟨X, hK, hml, hr, hlk, hout, hl0⟩
    have hS : va_S (mA b KX s.heap.size) s.heap s.heap [] := va_S.rf
    have hl : lv_has ls 3 [(0, .int (mI x0)), (1, .int (mI x1)), (2, .int (mI x2))] := hl
    unfold w_X11_checkNumber at h
    refine m_iload_n (pc := 0) C.1 dX11_checkNumber_0 rfl hl 0 rfl ?_
    refine m_iload_n (pc := 1) C.1 dX11_checkNumber_1 rfl hl 1 rfl ?_
    refine m_icmp_lt (pc := 2) (tgt := 10) C.1 ox0 ox1 dX11_checkNumber_2 (by decide) (fun hc => ?_) (fun hc => ?_)
    · replace h := h.1 hc
      exact m_throw (pc := 10) C.1 C.2.2.2.2.2.2 C.2.1 hW hS (cls := "java/lang/IllegalArgumentException") (names := ["java/lang/RuntimeException", "java/lang/Exception"]) (by decide) (by decide) q_771 q_103 thr_X11_128_a thr_X11_128_g (hl.1.trans C.2.2.1.symm) dX11_checkNumber_10 dX11_checkNumber_13 dX11_checkNumber_14 dX11_checkNumber_17 C.2.2.2.2.2.1 C.2.2.2.2.1 (by decide) (Nat.le_of_ble_eq_true rfl) (by decide) (by decide) h (by decide) (by decide)
    · replace h := h.2 hc
      refine m_iload_n (pc := 5) C.1 dX11_checkNumber_5 rfl hl 0 rfl ?_
      refine m_iload_n (pc := 6) C.1 dX11_checkNumber_6 rfl hl 2 rfl ?_
      refine m_icmp_le (pc := 7) (tgt := 18) C.1 ox0 ox2 dX11_checkNumber_7 (by decide) (fun hc => ?_) (fun hc => ?_)
      · replace h := h.1 hc
        exact m_vret (pc := 18) C.1 C.2.2.2.1 C.2.2.2.2.1 hW hS h (by decide) (by decide) dX11_checkNumber_18
      · replace h := h.2 hc
        exact m_throw (pc := 10) C.1 C.2.2.2.2.2.2 C.2.1 hW hS (cls := "java/lang/IllegalArgumentException") (names := ["java/lang/RuntimeException", "java/lang/Exception"]) (by decide) (by decide) q_771 q_103 thr_X11_128_a thr_X11_128_g (hl.1.trans C.2.2.1.symm) dX11_checkNumber_10 dX11_checkNumber_13 dX11_checkNumber_14 dX11_checkNumber_17 C.2.2.2.2.2.1 C.2.2.2.2.1 (by decide) (Nat.le_of_ble_eq_true rfl) (by decide) (by decide) h (by decide) (by decide)) sz
section
variable {p : Program} {l : Launch} {e : Env} {s : State} {m : MethodId} {args : Array Value} {below : List Frame} {meth : Method} {c : Code} {g : mG} {b : Nat}
end
def w_X11_wash (N : Nat) (r0 : Nat) (x1 : Int) (x2 : Int) (S : mSt) (Q : mSt → Int → Prop) (E : String → mSt → Prop) : Prop :=
  w_X11_checkPart N x1 S (fun (S1 : mSt) => w_X11_checkSoap N r0 x2 S1 (fun (S2 : mSt) => ∀ q3 : Nat, (q3 : Int) = S2 r0 3 → ∀ q4 : Nat, (q4 : Int) = S2 r0 3 → w_X2_price N q4 x2 S2 (fun (S5 : mSt) (v5 : Int) => ((v5 ≤ (S2 q3 6) → ∀ q6 : Nat, (q6 : Int) = S5 r0 3 → w_X6_keep N (r0 + 44) q6 S5 (fun (S7 : mSt) => ∀ q8 : Nat, (q8 : Int) = S7 r0 3 → ∀ q9 : Nat, (q9 : Int) = S7 r0 3 → w_X2_price N q9 x2 S7 (fun (S10 : mSt) (v10 : Int) => ∀ S11 : mSt, S11 = mup S10 q8 6 (nm ((S7 q8 6) - v10)) → ∀ q12 : Nat, (q12 : Int) = S11 r0 3 → ∀ q13 : Nat, (q13 : Int) = S11 r0 3 → w_X2_strength N q13 x2 S11 (fun (S14 : mSt) (v14 : Int) => ∀ q15 : Nat, (q15 : Int) = S14 r0 3 → w_X2_rough N q15 x2 S14 (fun (S16 : mSt) (v16 : Int) => ∀ q17 : Nat, (q17 : Int) = S16 r0 3 → w_X2_takes N q17 x2 S16 (fun (S18 : mSt) (v18 : Int) => w_X5_scrub N (q12 + 1) x1 v14 v16 v18 S18 (fun (S19 : mSt) (v19 : Int) => ∀ v20 : Int, v20 = v19 → ∀ q21 : Nat, (q21 : Int) = S19 r0 3 → w_X2_addLog N q21 x1 x2 v20 S19 (fun (S22 : mSt) => Q S22 v20)))))))) ∧ ((S2 q3 6) < v5 → E "java/lang/IllegalStateException" S5)))) E) E
theorem T_X11_wash {l : Launch} (hl0 : l.stackTraces = false) {g : mG} {b : Nat} (N : Nat) (r0 : Nat) (kr0 : KX r0 = (0, 9, 0)) (x1 : Int) (ox1 : okI x1) (x2 : Int) (ox2 : okI x2) {S : mSt} {Q : mSt → Int → Prop} {E : String → mSt → Prop} (h : w_X11_wash N r0 x1 x2 S Q E) (sz : Nat) : vx_Met l yX11_wash (Cond.code yX11_wash cX11_wash 4 (some FieldType.int) :: wsG) { frames := 7, cells := 3, slots := 18, locals := 183 } (mPc g b KX S [.ref (b + r0), .int (mI x1), .int (mI x2)] sz) (mQi g b KX Q (mA b KX sz)) (mEx g b KX E (mA b KX sz)) 3 18 (mA b KX sz) :=
  m_of (av := [.ref (b + r0), .int (mI x1), .int (mI x2)]) (Qf := fun A => mQi g b KX Q A) (Xf := fun A => mEx g b KX E A) (by decide) (Nat.le_of_ble_eq_true rfl) (fun p e s m args below meth c ls X hK hml hr hlk hout hnm hW hl => by
    have C : mC p l s m args meth c cX11_wash "MoonWash" 4 (some FieldType.int) g := ⟨X, hK, hml, hr, hlk, hout, hl0⟩
    have hS : va_S (mA b KX s.heap.size) s.heap s.heap [] := va_S.rf
    have hl : lv_has ls 4 [(0, .ref (b + r0)), (1, .int (mI x1)), (2, .int (mI x2))] := hl
    unfold w_X11_wash at h
    refine m_iload_n (pc := 0) C.1 dX11_wash_0 rfl hl 1 rfl ?_
    refine m_callSvx (pc := 1) C.1 C.2.2.1 hl.1 C.2.1 hW hS (As := [.int (mI x1)]) (rest := []) (T_X11_checkPart C.2.2.2.2.2.2 N x1 ox1 h) q_936 q_937 q_81 q_938 pl_X11_checkPart (by decide) (Nat.le_of_ble_eq_true rfl) dX11_wash_1 (fun En S1 H locs ce q9 hE hW1 hS h1 h2 h3 => m_prop C.2.2.2.2.2.1 C.2.2.2.2.1 hW1 hS hE h1 h2 h3 (by decide) (by decide)) (fun S1 H locs h hW1 hS => ?_)
    refine m_aload_n (pc := 4) C.1 dX11_wash_4 rfl hl 0 rfl ?_
    refine m_iload_n (pc := 5) C.1 dX11_wash_5 rfl hl 2 rfl ?_
    refine m_callVvx (pc := 6) C.1 C.2.2.1 hl.1 C.2.1 hW1 hS (As := [.int (mI x2)]) (rest := []) (r := r0) (T_X11_checkSoap C.2.2.2.2.2.2 N r0 kr0 x2 ox2 h) kr0 rfl q_997 q_999 q_11 q_81 q_1000 pl_X11_checkSoap (by decide) (Nat.le_of_ble_eq_true rfl) dX11_wash_6 (fun En S2 H locs ce q9 hE hW2 hS h1 h2 h3 => m_prop C.2.2.2.2.2.1 C.2.2.2.2.1 hW2 hS hE h1 h2 h3 (by decide) (by decide)) (fun S2 H locs h hW2 hS => ?_)
    refine m_aload_n (pc := 9) C.1 dX11_wash_9 rfl hl 0 rfl ?_
    refine g_9_3 (pc := 10) C hW2 kr0 q_395 dX11_wash_10 (fun q3 eq3 kq3 => ?_)
    replace h := h q3 eq3
    refine g_1_6 (pc := 13) C hW2 kq3 q_201 dX11_wash_13 ?_
    refine m_aload_n (pc := 16) C.1 dX11_wash_16 rfl hl 0 rfl ?_
    refine g_9_3 (pc := 17) C hW2 kr0 q_395 dX11_wash_17 (fun q4 eq4 kq4 => ?_)
    replace h := h q4 eq4
    refine m_iload_n (pc := 20) C.1 dX11_wash_20 rfl hl 2 rfl ?_
    refine m_callVi (pc := 21) C.1 C.2.2.1 hl.1 C.2.1 hW2 hS (As := [.int (mI x2)]) (rest := [.int (mI (S2 q3 6))]) (r := q4) (T_X2_price C.2.2.2.2.2.2 N q4 kq4 x2 ox2 h) kq4 rfl q_1005 q_1006 q_1007 q_82 q_1008 pl_X2_price (by decide) (Nat.le_of_ble_eq_true rfl) dX11_wash_21 (fun v5 S5 H locs ov5 h hW5 hS => ?_)
    refine m_icmp_ge (pc := 24) (tgt := 35) C.1 (hW2.2.1 _ _) ov5 dX11_wash_24 (by decide) (fun hc => ?_) (fun hc => ?_)
    · replace h := h.1 hc
      refine m_aload_n (pc := 35) C.1 dX11_wash_35 rfl hl 0 rfl ?_
      refine g_9_8 (pc := 36) C hW5 kr0 q_400 dX11_wash_36 ?_
      refine m_aload_n (pc := 39) C.1 dX11_wash_39 rfl hl 0 rfl ?_
      refine g_9_3 (pc := 40) C hW5 kr0 q_395 dX11_wash_40 (fun q6 eq6 kq6 => ?_)
      replace h := h q6 eq6
      refine m_callVv (pc := 43) C.1 C.2.2.1 hl.1 C.2.1 hW5 hS (As := [.ref (b + q6)]) (rest := []) (r := (r0 + 44)) (T_X6_keep C.2.2.2.2.2.2 N (r0 + 44) (k_9_8 kr0) q6 kq6 h) (k_9_8 kr0) rfl q_1063 q_1064 q_1065 q_88 q_1066 pl_X6_keep (by decide) (Nat.le_of_ble_eq_true rfl) dX11_wash_43 (fun S7 H locs h hW7 hS => ?_)
      refine m_aload_n (pc := 46) C.1 dX11_wash_46 rfl hl 0 rfl ?_
      refine g_9_3 (pc := 47) C hW7 kr0 q_395 dX11_wash_47 (fun q8 eq8 kq8 => ?_)
      replace h := h q8 eq8
      refine lv_dup (pc := 50) C.1.1 C.1.2.1 dX11_wash_50 rfl ?_
      refine g_1_6 (pc := 51) C hW7 kq8 q_201 dX11_wash_51 ?_
      refine m_aload_n (pc := 54) C.1 dX11_wash_54 rfl hl 0 rfl ?_
      refine g_9_3 (pc := 55) C hW7 kr0 q_395 dX11_wash_55 (fun q9 eq9 kq9 => ?_)
      replace h := h q9 eq9
      refine m_iload_n (pc := 58) C.1 dX11_wash_58 rfl hl 2 rfl ?_
      refine m_callVi (pc := 59) C.1 C.2.2.1 hl.1 C.2.1 hW7 hS (As := [.int (mI x2)]) (rest := [.int (mI (S7 q8 6)), .ref (b + q8)]) (r := q9) (T_X2_price C.2.2.2.2.2.2 N q9 kq9 x2 ox2 h) kq9 rfl q_1005 q_1006 q_1007 q_82 q_1008 pl_X2_price (by decide) (Nat.le_of_ble_eq_true rfl) dX11_wash_59 (fun v10 S10 H locs ov10 h hW10 hS => ?_)
      refine m_isub (pc := 62) C.1 dX11_wash_62 ?_
      refine p_1_6 (pc := 63) C hW10 hS kq8 q_201 (nm_ok _) dX11_wash_63 (fun S11 H locs e11 hW11 hS => ?_)
      replace h := h S11 e11
      refine m_aload_n (pc := 66) C.1 dX11_wash_66 rfl hl 0 rfl ?_
      refine g_9_3 (pc := 67) C hW11 kr0 q_395 dX11_wash_67 (fun q12 eq12 kq12 => ?_)
      replace h := h q12 eq12
      refine g_1_0 (pc := 70) C hW11 kq12 q_187 dX11_wash_70 ?_
      refine m_iload_n (pc := 73) C.1 dX11_wash_73 rfl hl 1 rfl ?_
      refine m_aload_n (pc := 74) C.1 dX11_wash_74 rfl hl 0 rfl ?_
      refine g_9_3 (pc := 75) C hW11 kr0 q_395 dX11_wash_75 (fun q13 eq13 kq13 => ?_)
      replace h := h q13 eq13
      refine m_iload_n (pc := 78) C.1 dX11_wash_78 rfl hl 2 rfl ?_
      refine m_callVi (pc := 79) C.1 C.2.2.1 hl.1 C.2.1 hW11 hS (As := [.int (mI x2)]) (rest := [.int (mI x1), .ref (b + (q12 + 1))]) (r := q13) (T_X2_strength C.2.2.2.2.2.2 N q13 kq13 x2 ox2 h) kq13 rfl q_1001 q_1002 q_1003 q_82 q_1004 pl_X2_strength (by decide) (Nat.le_of_ble_eq_true rfl) dX11_wash_79 (fun v14 S14 H locs ov14 h hW14 hS => ?_)
      refine m_aload_n (pc := 82) C.1 dX11_wash_82 rfl hl 0 rfl ?_
      refine g_9_3 (pc := 83) C hW14 kr0 q_395 dX11_wash_83 (fun q15 eq15 kq15 => ?_)
      replace h := h q15 eq15
      refine m_iload_n (pc := 86) C.1 dX11_wash_86 rfl hl 2 rfl ?_
      refine m_callVi (pc := 87) C.1 C.2.2.1 hl.1 C.2.1 hW14 hS (As := [.int (mI x2)]) (rest := [.int (mI v14), .int (mI x1), .ref (b + (q12 + 1))]) (r := q15) (T_X2_rough C.2.2.2.2.2.2 N q15 kq15 x2 ox2 h) kq15 rfl q_1009 q_1010 q_1011 q_82 q_1012 pl_X2_rough (by decide) (Nat.le_of_ble_eq_true rfl) dX11_wash_87 (fun v16 S16 H locs ov16 h hW16 hS => ?_)
      refine m_aload_n (pc := 90) C.1 dX11_wash_90 rfl hl 0 rfl ?_
      refine g_9_3 (pc := 91) C hW16 kr0 q_395 dX11_wash_91 (fun q17 eq17 kq17 => ?_)
      replace h := h q17 eq17
      refine m_iload_n (pc := 94) C.1 dX11_wash_94 rfl hl 2 rfl ?_
      refine m_callVi (pc := 95) C.1 C.2.2.1 hl.1 C.2.1 hW16 hS (As := [.int (mI x2)]) (rest := [.int (mI v16), .int (mI v14), .int (mI x1), .ref (b + (q12 + 1))]) (r := q17) (T_X2_takes C.2.2.2.2.2.2 N q17 kq17 x2 ox2 h) kq17 rfl q_1013 q_972 q_973 q_82 q_974 pl_X2_takes (by decide) (Nat.le_of_ble_eq_true rfl) dX11_wash_95 (fun v18 S18 H locs ov18 h hW18 hS => ?_)
      refine m_callVi (pc := 98) C.1 C.2.2.1 hl.1 C.2.1 hW18 hS (As := [.int (mI x1), .int (mI v14), .int (mI v16), .int (mI v18)]) (rest := []) (r := (q12 + 1)) (T_X5_scrub C.2.2.2.2.2.2 N (q12 + 1) (k_1_0 kq12) x1 ox1 v14 ov14 v16 ov16 v18 ov18 h) (k_1_0 kq12) rfl q_1068 q_1069 q_1070 q_83 q_1071 pl_X5_scrub (by decide) (Nat.le_of_ble_eq_true rfl) dX11_wash_98 (fun v19 S19 H locs ov19 h hW19 hS => ?_)
      refine m_istore_n (pc := 101) C.1 dX11_wash_101 rfl hl (by decide) (fun v => [(3, .int v), (0, .ref (b + r0)), (1, .int (mI x1)), (2, .int (mI x2))]) (fun _ => rfl) ov19 (fun v20 ls ev20 ov20 hl => ?_)
      replace h := h v20 ev20
      refine m_aload_n (pc := 102) C.1 dX11_wash_102 rfl hl 1 rfl ?_
      refine g_9_3 (pc := 103) C hW19 kr0 q_395 dX11_wash_103 (fun q21 eq21 kq21 => ?_)
      replace h := h q21 eq21
      refine m_iload_n (pc := 106) C.1 dX11_wash_106 rfl hl 2 rfl ?_
      refine m_iload_n (pc := 107) C.1 dX11_wash_107 rfl hl 3 rfl ?_
      refine m_iload_n (pc := 108) C.1 dX11_wash_108 rfl hl 0 rfl ?_
      refine m_callVv (pc := 109) C.1 C.2.2.1 hl.1 C.2.1 hW19 hS (As := [.int (mI x1), .int (mI x2), .int (mI v20)]) (rest := []) (r := q21) (T_X2_addLog C.2.2.2.2.2.2 N q21 kq21 x1 ox1 x2 ox2 v20 ov20 h) kq21 rfl q_1078 q_1079 q_1080 q_82 q_1081 pl_X2_addLog (by decide) (Nat.le_of_ble_eq_true rfl) dX11_wash_109 (fun S22 H locs h hW22 hS => ?_)
      refine m_iload_n (pc := 112) C.1 dX11_wash_112 rfl hl 0 rfl ?_
      exact m_iret (pc := 113) C.1 C.2.2.2.1 C.2.2.2.2.1 hW22 hS ov20 h (by decide) (by decide) dX11_wash_113
    · replace h := h.2 hc
      exact m_throw (pc := 27) C.1 C.2.2.2.2.2.2 C.2.1 hW5 hS (cls := "java/lang/IllegalStateException") (names := ["java/lang/RuntimeException", "java/lang/Exception"]) (by decide) (by decide) q_1048 q_109 thr_X11_220_a thr_X11_220_g (hl.1.trans C.2.2.1.symm) dX11_wash_27 dX11_wash_30 dX11_wash_31 dX11_wash_34 C.2.2.2.2.2.1 C.2.2.2.2.1 (by decide) (Nat.le_of_ble_eq_true rfl) (by decide) (by decide) h (by decide) (by decide)) sz
section
variable {p : Program} {l : Launch} {e : Env} {s : State} {m : MethodId} {args : Array Value} {below : List Frame} {meth : Method} {c : Code} {g : mG} {b : Nat}
def w_X11_hang_35 (N : Nat) (Q : mSt → Int → Prop) (E : String → mSt → Prop)  (r0 : Nat) (x1 : Int) (x2 : Int) (xs0 : Int) (S : mSt) : Prop :=
  ∀ v1 : Int, v1 = xs0 → ∀ q2 : Nat, (q2 : Int) = S r0 3 → w_X5_setHung N (q2 + 1) x1 x2 S (fun (S3 : mSt) => ((v1 = 0 ∨ v1 = 1) ∧ Q S3 v1))
theorem W_X11_hang_35 (C : mC p l s m args meth c cX11_hang "MoonWash" 4 (some FieldType.boolean) g) (N : Nat) {Q : mSt → Int → Prop} {E : String → mSt → Prop}   (r0 : Nat) (kr0 : KX r0 = (0, 9, 0)) (x1 : Int) (ox1 : okI x1) (x2 : Int) (ox2 : okI x2) (xs0 : Int) (oxs0 : okI xs0) (S : mSt) (H : Heap) (locs : List Loc) (ls : Array Slot) (hl : lv_has ls 4 [(0, .ref (b + r0)), (1, .int (mI x1)), (2, .int (mI x2))]) (hW : mW g b KX S H) (hS : va_S (mA b KX s.heap.size) s.heap H locs) (h : w_X11_hang_35 N Q E  r0 x1 x2 xs0 S) : W p l e { frames := 7, cells := 1, slots := 6, locals := 183 } s m args below meth c H locs 1 6 (vx_MQ below (mQi g b KX Q (mA b KX s.heap.size)) (mEx g b KX E (mA b KX s.heap.size)) args s 1 6 (mA b KX s.heap.size)) (F0 m 35 ls [.int (mI xs0)]) := by
  unfold w_X11_hang_35 at h
  refine m_istore_n (pc := 35) C.1 dX11_hang_35 rfl hl (by decide) (fun v => [(3, .int v), (0, .ref (b + r0)), (1, .int (mI x1)), (2, .int (mI x2))]) (fun _ => rfl) oxs0 (fun v1 ls ev1 ov1 hl => ?_)
  replace h := h v1 ev1
  refine m_aload_n (pc := 36) C.1 dX11_hang_36 rfl hl 1 rfl ?_
  refine g_9_3 (pc := 37) C hW kr0 q_395 dX11_hang_37 (fun q2 eq2 kq2 => ?_)
  replace h := h q2 eq2
  refine g_1_0 (pc := 40) C hW kq2 q_187 dX11_hang_40 ?_
  refine m_iload_n (pc := 43) C.1 dX11_hang_43 rfl hl 2 rfl ?_
  refine m_iload_n (pc := 44) C.1 dX11_hang_44 rfl hl 3 rfl ?_
  refine m_callVv (pc := 45) C.1 C.2.2.1 hl.1 C.2.1 hW hS (As := [.int (mI x1), .int (mI x2)]) (rest := []) (r := (q2 + 1)) (T_X5_setHung C.2.2.2.2.2.2 N (q2 + 1) (k_1_0 kq2) x1 ox1 x2 ox2 h) (k_1_0 kq2) rfl q_1089 q_1075 q_1076 q_83 q_1077 pl_X5_setHung (by decide) (Nat.le_of_ble_eq_true rfl) dX11_hang_45 (fun S3 H locs h hW3 hS => ?_)
  refine m_iload_n (pc := 48) C.1 dX11_hang_48 rfl hl 0 rfl ?_
  exact m_zret (pc := 49) C.1 C.2.2.2.1 C.2.2.2.2.1 hW3 hS h.1 h.2 (by decide) (by decide) dX11_hang_49
end
def w_X11_hang (N : Nat) (r0 : Nat) (x1 : Int) (x2 : Int) (S : mSt) (Q : mSt → Int → Prop) (E : String → mSt → Prop) : Prop :=
  w_X11_checkPart N x1 S (fun (S1 : mSt) => ∀ q2 : Nat, (q2 : Int) = S1 r0 3 → w_X6_keep N (r0 + 44) q2 S1 (fun (S3 : mSt) => ∀ q4 : Nat, (q4 : Int) = S3 r0 3 → w_X5_isHung N (q4 + 1) x1 S3 (fun (S5 : mSt) (v5 : Int) => ((v5 = x2 → w_X11_hang_35 N Q E  r0 x1 x2 0 S5) ∧ (v5 ≠ x2 → w_X11_hang_35 N Q E  r0 x1 x2 1 S5))))) E
theorem T_X11_hang {l : Launch} (hl0 : l.stackTraces = false) {g : mG} {b : Nat} (N : Nat) (r0 : Nat) (kr0 : KX r0 = (0, 9, 0)) (x1 : Int) (ox1 : okI x1) (x2 : Int) (ox2 : okI x2) {S : mSt} {Q : mSt → Int → Prop} {E : String → mSt → Prop} (h : w_X11_hang N r0 x1 x2 S Q E) (sz : Nat) : vx_Met l yX11_hang (Cond.code yX11_hang cX11_hang 4 (some FieldType.boolean) :: wsG) { frames := 7, cells := 1, slots := 6, locals := 183 } (mPc g b KX S [.ref (b + r0), .int (mI x1), .int (mI x2)] sz) (mQi g b KX Q (mA b KX sz)) (mEx g b KX E (mA b KX sz)) 1 6 (mA b KX sz) :=
  m_of (av := [.ref (b + r0), .int (mI x1), .int (mI x2)]) (Qf := fun A => mQi g b KX Q A) (Xf := fun A => mEx g b KX E A) (by decide) (Nat.le_of_ble_eq_true rfl) (fun p e s m args below meth c ls X hK hml hr hlk hout hnm hW hl => by
    have C : mC p l s m args meth c cX11_hang "MoonWash" 4 (some FieldType.boolean) g := ⟨X, hK, hml, hr, hlk, hout, hl0⟩
    have hS : va_S (mA b KX s.heap.size) s.heap s.heap [] := va_S.rf
    have hl : lv_has ls 4 [(0, .ref (b + r0)), (1, .int (mI x1)), (2, .int (mI x2))] := hl
    unfold w_X11_hang at h
    refine m_iload_n (pc := 0) C.1 dX11_hang_0 rfl hl 1 rfl ?_
    refine m_callSvx (pc := 1) C.1 C.2.2.1 hl.1 C.2.1 hW hS (As := [.int (mI x1)]) (rest := []) (T_X11_checkPart C.2.2.2.2.2.2 N x1 ox1 h) q_936 q_937 q_81 q_938 pl_X11_checkPart (by decide) (Nat.le_of_ble_eq_true rfl) dX11_hang_1 (fun En S1 H locs ce q9 hE hW1 hS h1 h2 h3 => m_prop C.2.2.2.2.2.1 C.2.2.2.2.1 hW1 hS hE h1 h2 h3 (by decide) (by decide)) (fun S1 H locs h hW1 hS => ?_)
    refine m_aload_n (pc := 4) C.1 dX11_hang_4 rfl hl 0 rfl ?_
    refine g_9_8 (pc := 5) C hW1 kr0 q_400 dX11_hang_5 ?_
    refine m_aload_n (pc := 8) C.1 dX11_hang_8 rfl hl 0 rfl ?_
    refine g_9_3 (pc := 9) C hW1 kr0 q_395 dX11_hang_9 (fun q2 eq2 kq2 => ?_)
    replace h := h q2 eq2
    refine m_callVv (pc := 12) C.1 C.2.2.1 hl.1 C.2.1 hW1 hS (As := [.ref (b + q2)]) (rest := []) (r := (r0 + 44)) (T_X6_keep C.2.2.2.2.2.2 N (r0 + 44) (k_9_8 kr0) q2 kq2 h) (k_9_8 kr0) rfl q_1063 q_1064 q_1065 q_88 q_1066 pl_X6_keep (by decide) (Nat.le_of_ble_eq_true rfl) dX11_hang_12 (fun S3 H locs h hW3 hS => ?_)
    refine m_aload_n (pc := 15) C.1 dX11_hang_15 rfl hl 0 rfl ?_
    refine g_9_3 (pc := 16) C hW3 kr0 q_395 dX11_hang_16 (fun q4 eq4 kq4 => ?_)
    replace h := h q4 eq4
    refine g_1_0 (pc := 19) C hW3 kq4 q_187 dX11_hang_19 ?_
    refine m_iload_n (pc := 22) C.1 dX11_hang_22 rfl hl 1 rfl ?_
    refine m_callVi (pc := 23) C.1 C.2.2.1 hl.1 C.2.1 hW3 hS (As := [.int (mI x1)]) (rest := []) (r := (q4 + 1)) (T_X5_isHung C.2.2.2.2.2.2 N (q4 + 1) (k_1_0 kq4) x1 ox1 h) (k_1_0 kq4) rfl q_575 q_491 q_492 q_83 q_493 pl_X5_isHung (by decide) (Nat.le_of_ble_eq_true rfl) dX11_hang_23 (fun v5 S5 H locs ov5 h hW5 hS => ?_)
    refine m_iload_n (pc := 26) C.1 dX11_hang_26 rfl hl 2 rfl ?_
    refine m_icmp_eq (pc := 27) (tgt := 34) C.1 ov5 ox2 dX11_hang_27 (by decide) (fun hc => ?_) (fun hc => ?_)
    · replace h := h.1 hc
      refine m_iconst (pc := 34) C.1 dX11_hang_34 ?_
      exact W_X11_hang_35 C N  r0 kr0 x1 ox1 x2 ox2 0 (by decide : okI 0) S5 _ _ _ (lv_sub hl [0, 1, 2] rfl) hW5 hS h
    · replace h := h.2 hc
      refine m_iconst (pc := 30) C.1 dX11_hang_30 ?_
      refine m_goto (pc := 31) (tgt := 35) C.1 dX11_hang_31 (by decide) ?_
      exact W_X11_hang_35 C N  r0 kr0 x1 ox1 x2 ox2 1 (by decide : okI 1) S5 _ _ _ (lv_sub hl [0, 1, 2] rfl) hW5 hS h) sz
section
variable {p : Program} {l : Launch} {e : Env} {s : State} {m : MethodId} {args : Array Value} {below : List Frame} {meth : Method} {c : Code} {g : mG} {b : Nat}
end
def w_X11_darn (N : Nat) (r0 : Nat) (x1 : Int) (S : mSt) (Q : mSt → Int → Prop) (E : String → mSt → Prop) : Prop :=
  w_X11_checkPart N x1 S (fun (S1 : mSt) => ∀ q2 : Nat, (q2 : Int) = S1 r0 3 → ((2 ≤ (S1 q2 6) → ∀ q3 : Nat, (q3 : Int) = S1 r0 3 → w_X6_keep N (r0 + 44) q3 S1 (fun (S4 : mSt) => ∀ q5 : Nat, (q5 : Int) = S4 r0 3 → ∀ S6 : mSt, S6 = mup S4 q5 6 (nm ((S4 q5 6) - 2)) → ∀ q7 : Nat, (q7 : Int) = S6 r0 3 → ∀ q8 : Nat, (q8 : Int) = S6 r0 3 → (0 ≤ x1 ∧ x1 < 8 ∧ (0 ≤ x1 ∧ x1 < 8 ∧ ∀ S11 : mSt, S11 = mup S6 ((q7 + 1) + 2) x1 (iMax 0 (nm ((S6 ((q8 + 1) + 2) x1) - 3))) → ∀ q12 : Nat, (q12 : Int) = S11 r0 3 → (0 ≤ x1 ∧ x1 < 8 ∧ Q S11 (S11 ((q12 + 1) + 2) x1)))))) ∧ ((S1 q2 6) < 2 → E "java/lang/IllegalStateException" S1))) E
theorem T_X11_darn {l : Launch} (hl0 : l.stackTraces = false) {g : mG} {b : Nat} (N : Nat) (r0 : Nat) (kr0 : KX r0 = (0, 9, 0)) (x1 : Int) (ox1 : okI x1) {S : mSt} {Q : mSt → Int → Prop} {E : String → mSt → Prop} (h : w_X11_darn N r0 x1 S Q E) (sz : Nat) : vx_Met l yX11_darn (Cond.code yX11_darn cX11_darn 2 (some FieldType.int) :: wsG) { frames := 7, cells := 2, slots := 12, locals := 183 } (mPc g b KX S [.ref (b + r0), .int (mI x1)] sz) (mQi g b KX Q (mA b KX sz)) (mEx g b KX E (mA b KX sz)) 2 12 (mA b KX sz) :=
  m_of (av := [.ref (b + r0), .int (mI x1)]) (Qf := fun A => mQi g b KX Q A) (Xf := fun A => mEx g b KX E A) (by decide) (Nat.le_of_ble_eq_true rfl) (fun p e s m args below meth c ls X hK hml hr hlk hout hnm hW hl => by
    have C : mC p l s m args meth c cX11_darn "MoonWash" 2 (some FieldType.int) g := ⟨X, hK, hml, hr, hlk, hout, hl0⟩
    have hS : va_S (mA b KX s.heap.size) s.heap s.heap [] := va_S.rf
    have hl : lv_has ls 2 [(0, .ref (b + r0)), (1, .int (mI x1))] := hl
    unfold w_X11_darn at h
    refine m_iload_n (pc := 0) C.1 dX11_darn_0 rfl hl 1 rfl ?_
    refine m_callSvx (pc := 1) C.1 C.2.2.1 hl.1 C.2.1 hW hS (As := [.int (mI x1)]) (rest := []) (T_X11_checkPart C.2.2.2.2.2.2 N x1 ox1 h) q_936 q_937 q_81 q_938 pl_X11_checkPart (by decide) (Nat.le_of_ble_eq_true rfl) dX11_darn_1 (fun En S1 H locs ce q9 hE hW1 hS h1 h2 h3 => m_prop C.2.2.2.2.2.1 C.2.2.2.2.1 hW1 hS hE h1 h2 h3 (by decide) (by decide)) (fun S1 H locs h hW1 hS => ?_)
    refine m_aload_n (pc := 4) C.1 dX11_darn_4 rfl hl 0 rfl ?_
    refine g_9_3 (pc := 5) C hW1 kr0 q_395 dX11_darn_5 (fun q2 eq2 kq2 => ?_)
    replace h := h q2 eq2
    refine g_1_6 (pc := 8) C hW1 kq2 q_201 dX11_darn_8 ?_
    refine m_iconst (pc := 11) C.1 dX11_darn_11 ?_
    refine m_icmp_ge (pc := 12) (tgt := 23) C.1 (hW1.2.1 _ _) (by decide : okI 2) dX11_darn_12 (by decide) (fun hc => ?_) (fun hc => ?_)
    · replace h := h.1 hc
      refine m_aload_n (pc := 23) C.1 dX11_darn_23 rfl hl 0 rfl ?_
      refine g_9_8 (pc := 24) C hW1 kr0 q_400 dX11_darn_24 ?_
      refine m_aload_n (pc := 27) C.1 dX11_darn_27 rfl hl 0 rfl ?_
      refine g_9_3 (pc := 28) C hW1 kr0 q_395 dX11_darn_28 (fun q3 eq3 kq3 => ?_)
      replace h := h q3 eq3
      refine m_callVv (pc := 31) C.1 C.2.2.1 hl.1 C.2.1 hW1 hS (As := [.ref (b + q3)]) (rest := []) (r := (r0 + 44)) (T_X6_keep C.2.2.2.2.2.2 N (r0 + 44) (k_9_8 kr0) q3 kq3 h) (k_9_8 kr0) rfl q_1063 q_1064 q_1065 q_88 q_1066 pl_X6_keep (by decide) (Nat.le_of_ble_eq_true rfl) dX11_darn_31 (fun S4 H locs h hW4 hS => ?_)
      refine m_aload_n (pc := 34) C.1 dX11_darn_34 rfl hl 0 rfl ?_
      refine g_9_3 (pc := 35) C hW4 kr0 q_395 dX11_darn_35 (fun q5 eq5 kq5 => ?_)
      replace h := h q5 eq5
      refine lv_dup (pc := 38) C.1.1 C.1.2.1 dX11_darn_38 rfl ?_
      refine g_1_6 (pc := 39) C hW4 kq5 q_201 dX11_darn_39 ?_
      refine m_iconst (pc := 42) C.1 dX11_darn_42 ?_
      refine m_isub (pc := 43) C.1 dX11_darn_43 ?_
      refine p_1_6 (pc := 44) C hW4 hS kq5 q_201 (nm_ok _) dX11_darn_44 (fun S6 H locs e6 hW6 hS => ?_)
      replace h := h S6 e6
      refine m_aload_n (pc := 47) C.1 dX11_darn_47 rfl hl 0 rfl ?_
      refine g_9_3 (pc := 48) C hW6 kr0 q_395 dX11_darn_48 (fun q7 eq7 kq7 => ?_)
      replace h := h q7 eq7
      refine g_1_0 (pc := 51) C hW6 kq7 q_187 dX11_darn_51 ?_
      refine g_3_1 (pc := 54) C hW6 (k_1_0 kq7) q_137 dX11_darn_54 ?_
      refine m_iload_n (pc := 57) C.1 dX11_darn_57 rfl hl 1 rfl ?_
      refine m_iconst (pc := 58) C.1 dX11_darn_58 ?_
      refine m_aload_n (pc := 59) C.1 dX11_darn_59 rfl hl 0 rfl ?_
      refine g_9_3 (pc := 60) C hW6 kr0 q_395 dX11_darn_60 (fun q8 eq8 kq8 => ?_)
      replace h := h q8 eq8
      refine g_1_0 (pc := 63) C hW6 kq8 q_187 dX11_darn_63 ?_
      refine g_3_1 (pc := 66) C hW6 (k_1_0 kq8) q_137 dX11_darn_66 ?_
      refine m_iload_n (pc := 69) C.1 dX11_darn_69 rfl hl 1 rfl ?_
      obtain ⟨hb9a, hb9b, h⟩ := h
      refine m_iald (pc := 70) C.1 C.2.1 hW6 (k_3_1 (k_1_0 kq8)) ox1 hb9a hb9b dX11_darn_70 ?_
      refine m_iconst (pc := 71) C.1 dX11_darn_71 ?_
      refine m_isub (pc := 72) C.1 dX11_darn_72 ?_
      refine m_max (pc := 73) C.1 C.2.2.1 hl.1 (by decide : okI 0) (nm_ok _) q_554 q_523 q_93 q_524 (by refine ⟨?_, Nat.le_of_ble_eq_true rfl, ?_, ?_⟩ <;> decide) dX11_darn_73 ?_
      obtain ⟨hb10a, hb10b, h⟩ := h
      refine m_iast (pc := 76) C.1 C.2.1 hW6 hS (k_3_1 (k_1_0 kq7)) ox1 (iMax_ok (by decide : okI 0) (nm_ok _)) hb10a hb10b dX11_darn_76 (fun S11 H locs e11 hW11 hS => ?_)
      replace h := h S11 e11
      refine m_aload_n (pc := 77) C.1 dX11_darn_77 rfl hl 0 rfl ?_
      refine g_9_3 (pc := 78) C hW11 kr0 q_395 dX11_darn_78 (fun q12 eq12 kq12 => ?_)
      replace h := h q12 eq12
      refine g_1_0 (pc := 81) C hW11 kq12 q_187 dX11_darn_81 ?_
      refine g_3_1 (pc := 84) C hW11 (k_1_0 kq12) q_137 dX11_darn_84 ?_
      refine m_iload_n (pc := 87) C.1 dX11_darn_87 rfl hl 1 rfl ?_
      obtain ⟨hb13a, hb13b, h⟩ := h
      refine m_iald (pc := 88) C.1 C.2.1 hW11 (k_3_1 (k_1_0 kq12)) ox1 hb13a hb13b dX11_darn_88 ?_
      exact m_iret (pc := 89) C.1 C.2.2.2.1 C.2.2.2.2.1 hW11 hS (hW11.2.1 _ _) h (by decide) (by decide) dX11_darn_89
    · replace h := h.2 hc
      exact m_throw (pc := 15) C.1 C.2.2.2.2.2.2 C.2.1 hW1 hS (cls := "java/lang/IllegalStateException") (names := ["java/lang/RuntimeException", "java/lang/Exception"]) (by decide) (by decide) q_1048 q_109 thr_X11_220_a thr_X11_220_g (hl.1.trans C.2.2.1.symm) dX11_darn_15 dX11_darn_18 dX11_darn_19 dX11_darn_22 C.2.2.2.2.2.1 C.2.2.2.2.1 (by decide) (Nat.le_of_ble_eq_true rfl) (by decide) (by decide) h (by decide) (by decide)) sz
section
variable {p : Program} {l : Launch} {e : Env} {s : State} {m : MethodId} {args : Array Value} {below : List Frame} {meth : Method} {c : Code} {g : mG} {b : Nat}
end
def w_X11_move (N : Nat) (r0 : Nat) (x1 : Int) (x2 : Int) (S : mSt) (Q : mSt → Int → Prop) (E : String → mSt → Prop) : Prop :=
  w_X11_checkPart N x1 S (fun (S1 : mSt) => w_X11_checkPart N x2 S1 (fun (S2 : mSt) => ∀ q3 : Nat, (q3 : Int) = S2 r0 3 → w_X6_keep N (r0 + 44) q3 S2 (fun (S4 : mSt) => ∀ q5 : Nat, (q5 : Int) = S4 r0 3 → w_X5_partAt N (q5 + 1) x2 S4 (fun (S6 : mSt) (v6 : Int) => ∀ v7 : Int, v7 = v6 → ∀ q8 : Nat, (q8 : Int) = S6 r0 3 → ∀ q9 : Nat, (q9 : Int) = S6 r0 3 → (0 ≤ x1 ∧ x1 < 8 ∧ (0 ≤ v7 ∧ v7 < 8 ∧ ∀ S12 : mSt, S12 = mup S6 ((q8 + 1) + 5) v7 (S6 ((q9 + 1) + 5) x1) → ∀ q13 : Nat, (q13 : Int) = S12 r0 3 → (0 ≤ x1 ∧ x1 < 8 ∧ ∀ S15 : mSt, S15 = mup S12 ((q13 + 1) + 5) x1 x2 → Q S15 v7)))))) E) E
theorem T_X11_move {l : Launch} (hl0 : l.stackTraces = false) {g : mG} {b : Nat} (N : Nat) (r0 : Nat) (kr0 : KX r0 = (0, 9, 0)) (x1 : Int) (ox1 : okI x1) (x2 : Int) (ox2 : okI x2) {S : mSt} {Q : mSt → Int → Prop} {E : String → mSt → Prop} (h : w_X11_move N r0 x1 x2 S Q E) (sz : Nat) : vx_Met l yX11_move (Cond.code yX11_move cX11_move 4 (some FieldType.int) :: wsG) { frames := 7, cells := 2, slots := 12, locals := 183 } (mPc g b KX S [.ref (b + r0), .int (mI x1), .int (mI x2)] sz) (mQi g b KX Q (mA b KX sz)) (mEx g b KX E (mA b KX sz)) 2 12 (mA b KX sz) :=
  m_of (av := [.ref (b + r0), .int (mI x1), .int (mI x2)]) (Qf := fun A => mQi g b KX Q A) (Xf := fun A => mEx g b KX E A) (by decide) (Nat.le_of_ble_eq_true rfl) (fun p e s m args below meth c ls X hK hml hr hlk hout hnm hW hl => by
    have C : mC p l s m args meth c cX11_move "MoonWash" 4 (some FieldType.int) g := ⟨X, hK, hml, hr, hlk, hout, hl0⟩
    have hS : va_S (mA b KX s.heap.size) s.heap s.heap [] := va_S.rf
    have hl : lv_has ls 4 [(0, .ref (b + r0)), (1, .int (mI x1)), (2, .int (mI x2))] := hl
    unfold w_X11_move at h
    refine m_iload_n (pc := 0) C.1 dX11_move_0 rfl hl 1 rfl ?_
    refine m_callSvx (pc := 1) C.1 C.2.2.1 hl.1 C.2.1 hW hS (As := [.int (mI x1)]) (rest := []) (T_X11_checkPart C.2.2.2.2.2.2 N x1 ox1 h) q_936 q_937 q_81 q_938 pl_X11_checkPart (by decide) (Nat.le_of_ble_eq_true rfl) dX11_move_1 (fun En S1 H locs ce q9 hE hW1 hS h1 h2 h3 => m_prop C.2.2.2.2.2.1 C.2.2.2.2.1 hW1 hS hE h1 h2 h3 (by decide) (by decide)) (fun S1 H locs h hW1 hS => ?_)
    refine m_iload_n (pc := 4) C.1 dX11_move_4 rfl hl 2 rfl ?_
    refine m_callSvx (pc := 5) C.1 C.2.2.1 hl.1 C.2.1 hW1 hS (As := [.int (mI x2)]) (rest := []) (T_X11_checkPart C.2.2.2.2.2.2 N x2 ox2 h) q_936 q_937 q_81 q_938 pl_X11_checkPart (by decide) (Nat.le_of_ble_eq_true rfl) dX11_move_5 (fun En S2 H locs ce q9 hE hW2 hS h1 h2 h3 => m_prop C.2.2.2.2.2.1 C.2.2.2.2.1 hW2 hS hE h1 h2 h3 (by decide) (by decide)) (fun S2 H locs h hW2 hS => ?_)
    refine m_aload_n (pc := 8) C.1 dX11_move_8 rfl hl 0 rfl ?_
    refine g_9_8 (pc := 9) C hW2 kr0 q_400 dX11_move_9 ?_
    refine m_aload_n (pc := 12) C.1 dX11_move_12 rfl hl 0 rfl ?_
    refine g_9_3 (pc := 13) C hW2 kr0 q_395 dX11_move_13 (fun q3 eq3 kq3 => ?_)
    replace h := h q3 eq3
    refine m_callVv (pc := 16) C.1 C.2.2.1 hl.1 C.2.1 hW2 hS (As := [.ref (b + q3)]) (rest := []) (r := (r0 + 44)) (T_X6_keep C.2.2.2.2.2.2 N (r0 + 44) (k_9_8 kr0) q3 kq3 h) (k_9_8 kr0) rfl q_1063 q_1064 q_1065 q_88 q_1066 pl_X6_keep (by decide) (Nat.le_of_ble_eq_true rfl) dX11_move_16 (fun S4 H locs h hW4 hS => ?_)
    refine m_aload_n (pc := 19) C.1 dX11_move_19 rfl hl 0 rfl ?_
    refine g_9_3 (pc := 20) C hW4 kr0 q_395 dX11_move_20 (fun q5 eq5 kq5 => ?_)
    replace h := h q5 eq5
    refine g_1_0 (pc := 23) C hW4 kq5 q_187 dX11_move_23 ?_
    refine m_iload_n (pc := 26) C.1 dX11_move_26 rfl hl 2 rfl ?_
    refine m_callVi (pc := 27) C.1 C.2.2.1 hl.1 C.2.1 hW4 hS (As := [.int (mI x2)]) (rest := []) (r := (q5 + 1)) (T_X5_partAt C.2.2.2.2.2.2 N (q5 + 1) (k_1_0 kq5) x2 ox2 h) (k_1_0 kq5) rfl q_1021 q_1022 q_1023 q_83 q_1024 pl_X5_partAt (by decide) (Nat.le_of_ble_eq_true rfl) dX11_move_27 (fun v6 S6 H locs ov6 h hW6 hS => ?_)
    refine m_istore_n (pc := 30) C.1 dX11_move_30 rfl hl (by decide) (fun v => [(3, .int v), (0, .ref (b + r0)), (1, .int (mI x1)), (2, .int (mI x2))]) (fun _ => rfl) ov6 (fun v7 ls ev7 ov7 hl => ?_)
    replace h := h v7 ev7
    refine m_aload_n (pc := 31) C.1 dX11_move_31 rfl hl 1 rfl ?_
    refine g_9_3 (pc := 32) C hW6 kr0 q_395 dX11_move_32 (fun q8 eq8 kq8 => ?_)
    replace h := h q8 eq8
    refine g_1_0 (pc := 35) C hW6 kq8 q_187 dX11_move_35 ?_
    refine g_3_4 (pc := 38) C hW6 (k_1_0 kq8) q_149 dX11_move_38 ?_
    refine m_iload_n (pc := 41) C.1 dX11_move_41 rfl hl 0 rfl ?_
    refine m_aload_n (pc := 42) C.1 dX11_move_42 rfl hl 1 rfl ?_
    refine g_9_3 (pc := 43) C hW6 kr0 q_395 dX11_move_43 (fun q9 eq9 kq9 => ?_)
    replace h := h q9 eq9
    refine g_1_0 (pc := 46) C hW6 kq9 q_187 dX11_move_46 ?_
    refine g_3_4 (pc := 49) C hW6 (k_1_0 kq9) q_149 dX11_move_49 ?_
    refine m_iload_n (pc := 52) C.1 dX11_move_52 rfl hl 2 rfl ?_
    obtain ⟨hb10a, hb10b, h⟩ := h
    refine m_iald (pc := 53) C.1 C.2.1 hW6 (k_3_4 (k_1_0 kq9)) ox1 hb10a hb10b dX11_move_53 ?_
    obtain ⟨hb11a, hb11b, h⟩ := h
    refine m_iast (pc := 54) C.1 C.2.1 hW6 hS (k_3_4 (k_1_0 kq8)) ov7 (hW6.2.1 _ _) hb11a hb11b dX11_move_54 (fun S12 H locs e12 hW12 hS => ?_)
    replace h := h S12 e12
    refine m_aload_n (pc := 55) C.1 dX11_move_55 rfl hl 1 rfl ?_
    refine g_9_3 (pc := 56) C hW12 kr0 q_395 dX11_move_56 (fun q13 eq13 kq13 => ?_)
    replace h := h q13 eq13
    refine g_1_0 (pc := 59) C hW12 kq13 q_187 dX11_move_59 ?_
    refine g_3_4 (pc := 62) C hW12 (k_1_0 kq13) q_149 dX11_move_62 ?_
    refine m_iload_n (pc := 65) C.1 dX11_move_65 rfl hl 2 rfl ?_
    refine m_iload_n (pc := 66) C.1 dX11_move_66 rfl hl 3 rfl ?_
    obtain ⟨hb14a, hb14b, h⟩ := h
    refine m_iast (pc := 67) C.1 C.2.1 hW12 hS (k_3_4 (k_1_0 kq13)) ox1 ox2 hb14a hb14b dX11_move_67 (fun S15 H locs e15 hW15 hS => ?_)
    replace h := h S15 e15
    refine m_iload_n (pc := 68) C.1 dX11_move_68 rfl hl 0 rfl ?_
    exact m_iret (pc := 69) C.1 C.2.2.2.1 C.2.2.2.2.1 hW15 hS ov7 h (by decide) (by decide) dX11_move_69) sz
section
variable {p : Program} {l : Launch} {e : Env} {s : State} {m : MethodId} {args : Array Value} {below : List Frame} {meth : Method} {c : Code} {g : mG} {b : Nat}
end
def w_X11_drop (N : Nat) (r0 : Nat) (x1 : Int) (S : mSt) (Q : mSt → Int → Prop) (E : String → mSt → Prop) : Prop :=
  w_X11_checkSoap N r0 x1 S (fun (S1 : mSt) => ∀ q2 : Nat, (q2 : Int) = S1 r0 3 → w_X6_keep N (r0 + 44) q2 S1 (fun (S3 : mSt) => ∀ q4 : Nat, (q4 : Int) = S3 r0 3 → w_X2_removeSoap N q4 x1 S3 (fun (S5 : mSt) => ∀ q6 : Nat, (q6 : Int) = S5 r0 3 → Q S5 (S5 q6 2)))) E
theorem T_X11_drop {l : Launch} (hl0 : l.stackTraces = false) {g : mG} {b : Nat} (N : Nat) (r0 : Nat) (kr0 : KX r0 = (0, 9, 0)) (x1 : Int) (ox1 : okI x1) {S : mSt} {Q : mSt → Int → Prop} {E : String → mSt → Prop} (h : w_X11_drop N r0 x1 S Q E) (sz : Nat) : vx_Met l yX11_drop (Cond.code yX11_drop cX11_drop 2 (some FieldType.int) :: wsG) { frames := 7, cells := 1, slots := 6, locals := 183 } (mPc g b KX S [.ref (b + r0), .int (mI x1)] sz) (mQi g b KX Q (mA b KX sz)) (mEx g b KX E (mA b KX sz)) 1 6 (mA b KX sz) :=
  m_of (av := [.ref (b + r0), .int (mI x1)]) (Qf := fun A => mQi g b KX Q A) (Xf := fun A => mEx g b KX E A) (by decide) (Nat.le_of_ble_eq_true rfl) (fun p e s m args below meth c ls X hK hml hr hlk hout hnm hW hl => by
    have C : mC p l s m args meth c cX11_drop "MoonWash" 2 (some FieldType.int) g := ⟨X, hK, hml, hr, hlk, hout, hl0⟩
    have hS : va_S (mA b KX s.heap.size) s.heap s.heap [] := va_S.rf
    have hl : lv_has ls 2 [(0, .ref (b + r0)), (1, .int (mI x1))] := hl
    unfold w_X11_drop at h
    refine m_aload_n (pc := 0) C.1 dX11_drop_0 rfl hl 0 rfl ?_
    refine m_iload_n (pc := 1) C.1 dX11_drop_1 rfl hl 1 rfl ?_
    refine m_callVvx (pc := 2) C.1 C.2.2.1 hl.1 C.2.1 hW hS (As := [.int (mI x1)]) (rest := []) (r := r0) (T_X11_checkSoap C.2.2.2.2.2.2 N r0 kr0 x1 ox1 h) kr0 rfl q_997 q_999 q_11 q_81 q_1000 pl_X11_checkSoap (by decide) (Nat.le_of_ble_eq_true rfl) dX11_drop_2 (fun En S1 H locs ce q9 hE hW1 hS h1 h2 h3 => m_prop C.2.2.2.2.2.1 C.2.2.2.2.1 hW1 hS hE h1 h2 h3 (by decide) (by decide)) (fun S1 H locs h hW1 hS => ?_)
    refine m_aload_n (pc := 5) C.1 dX11_drop_5 rfl hl 0 rfl ?_
    refine g_9_8 (pc := 6) C hW1 kr0 q_400 dX11_drop_6 ?_
    refine m_aload_n (pc := 9) C.1 dX11_drop_9 rfl hl 0 rfl ?_
    refine g_9_3 (pc := 10) C hW1 kr0 q_395 dX11_drop_10 (fun q2 eq2 kq2 => ?_)
    replace h := h q2 eq2
    refine m_callVv (pc := 13) C.1 C.2.2.1 hl.1 C.2.1 hW1 hS (As := [.ref (b + q2)]) (rest := []) (r := (r0 + 44)) (T_X6_keep C.2.2.2.2.2.2 N (r0 + 44) (k_9_8 kr0) q2 kq2 h) (k_9_8 kr0) rfl q_1063 q_1064 q_1065 q_88 q_1066 pl_X6_keep (by decide) (Nat.le_of_ble_eq_true rfl) dX11_drop_13 (fun S3 H locs h hW3 hS => ?_)
    refine m_aload_n (pc := 16) C.1 dX11_drop_16 rfl hl 0 rfl ?_
    refine g_9_3 (pc := 17) C hW3 kr0 q_395 dX11_drop_17 (fun q4 eq4 kq4 => ?_)
    replace h := h q4 eq4
    refine m_iload_n (pc := 20) C.1 dX11_drop_20 rfl hl 1 rfl ?_
    refine m_callVv (pc := 21) C.1 C.2.2.1 hl.1 C.2.1 hW3 hS (As := [.int (mI x1)]) (rest := []) (r := q4) (T_X2_removeSoap C.2.2.2.2.2.2 N q4 kq4 x1 ox1 h) kq4 rfl q_1111 q_1112 q_1113 q_82 q_1114 pl_X2_removeSoap (by decide) (Nat.le_of_ble_eq_true rfl) dX11_drop_21 (fun S5 H locs h hW5 hS => ?_)
    refine m_aload_n (pc := 24) C.1 dX11_drop_24 rfl hl 0 rfl ?_
    refine g_9_3 (pc := 25) C hW5 kr0 q_395 dX11_drop_25 (fun q6 eq6 kq6 => ?_)
    replace h := h q6 eq6
    refine g_1_2 (pc := 28) C hW5 kq6 q_192 dX11_drop_28 ?_
    exact m_iret (pc := 31) C.1 C.2.2.2.1 C.2.2.2.2.1 hW5 hS (hW5.2.1 _ _) h (by decide) (by decide) dX11_drop_31) sz
section
variable {p : Program} {l : Launch} {e : Env} {s : State} {m : MethodId} {args : Array Value} {below : List Frame} {meth : Method} {c : Code} {g : mG} {b : Nat}
def w_X11_nights_22b (N : Nat) (Q : mSt → Int → Prop) (E : String → mSt → Prop) (ko22 : Nat → Int → Int → Int → mSt → Prop) (ko47 : Int → mSt → Prop) (r0 : Nat) (x1 : Int) (x2 : Int) (x3 : Int) (S : mSt) : Prop :=
  ((x1 ≤ x3 → ko47 x2 S) ∧ (x3 < x1 → ∀ q1 : Nat, (q1 : Int) = S r0 3 → ∀ q2 : Nat, (q2 : Int) = S r0 5 → w_X2_oneNight N q1 q2 S (fun (S3 : mSt) (v3 : Int) => ∀ v4 : Int, v4 = (nm (x2 + v3)) → ∀ v5 : Int, v5 = nm (x3 + 1) → ko22 r0 x1 v4 v5 S3)))
theorem W_X11_nights_22b (C : mC p l s m args meth c cX11_nights "MoonWash" 4 (some FieldType.int) g) (N : Nat) {Q : mSt → Int → Prop} {E : String → mSt → Prop} {ko22 : Nat → Int → Int → Int → mSt → Prop} {ko47 : Int → mSt → Prop} (hko22 : ∀ (r0 : Nat) (kr0 : KX r0 = (0, 9, 0)) (x1 : Int) (ox1 : okI x1) (x2 : Int) (ox2 : okI x2) (x3 : Int) (ox3 : okI x3) (S : mSt) (H : Heap) (locs : List Loc) (ls : Array Slot), lv_has ls 4 [(0, .ref (b + r0)), (1, .int (mI x1)), (2, .int (mI x2)), (3, .int (mI x3))] → mW g b KX S H → va_S (mA b KX s.heap.size) s.heap H locs → ko22 r0 x1 x2 x3 S → W p l e { frames := 7, cells := 1, slots := 6, locals := 183 } s m args below meth c H locs 1 6 (vx_MQ below (mQi g b KX Q (mA b KX s.heap.size)) (mEx g b KX E (mA b KX s.heap.size)) args s 1 6 (mA b KX s.heap.size)) (F0 m 22 ls [])) (hko47 : ∀ (x2 : Int) (ox2 : okI x2) (S : mSt) (H : Heap) (locs : List Loc) (ls : Array Slot), lv_has ls 4 [(2, .int (mI x2))] → mW g b KX S H → va_S (mA b KX s.heap.size) s.heap H locs → ko47 x2 S → W p l e { frames := 7, cells := 1, slots := 6, locals := 183 } s m args below meth c H locs 1 6 (vx_MQ below (mQi g b KX Q (mA b KX s.heap.size)) (mEx g b KX E (mA b KX s.heap.size)) args s 1 6 (mA b KX s.heap.size)) (F0 m 47 ls [])) (r0 : Nat) (kr0 : KX r0 = (0, 9, 0)) (x1 : Int) (ox1 : okI x1) (x2 : Int) (ox2 : okI x2) (x3 : Int) (ox3 : okI x3) (S : mSt) (H : Heap) (locs : List Loc) (ls : Array Slot) (hl : lv_has ls 4 [(0, .ref (b + r0)), (1, .int (mI x1)), (2, .int (mI x2)), (3, .int (mI x3))]) (hW : mW g b KX S H) (hS : va_S (mA b KX s.heap.size) s.heap H locs) (h : w_X11_nights_22b N Q E ko22 ko47 r0 x1 x2 x3 S) : W p l e { frames := 7, cells := 1, slots := 6, locals := 183 } s m args below meth c H locs 1 6 (vx_MQ below (mQi g b KX Q (mA b KX s.heap.size)) (mEx g b KX E (mA b KX s.heap.size)) args s 1 6 (mA b KX s.heap.size)) (F0 m 22 ls []) := by
  unfold w_X11_nights_22b at h
  refine m_iload_n (pc := 22) C.1 dX11_nights_22 rfl hl 3 rfl ?_
  refine m_iload_n (pc := 23) C.1 dX11_nights_23 rfl hl 1 rfl ?_
  refine m_icmp_ge (pc := 24) (tgt := 47) C.1 ox3 ox1 dX11_nights_24 (by decide) (fun hc => ?_) (fun hc => ?_)
  · replace h := h.1 hc
    exact hko47 x2 ox2 S _ _ _ (lv_sub hl [2] rfl) hW hS h
  · replace h := h.2 hc
    refine m_iload_n (pc := 27) C.1 dX11_nights_27 rfl hl 2 rfl ?_
    refine m_aload_n (pc := 28) C.1 dX11_nights_28 rfl hl 0 rfl ?_
    refine g_9_3 (pc := 29) C hW kr0 q_395 dX11_nights_29 (fun q1 eq1 kq1 => ?_)
    replace h := h q1 eq1
    refine m_aload_n (pc := 32) C.1 dX11_nights_32 rfl hl 0 rfl ?_
    refine g_9_5 (pc := 33) C hW kr0 q_397 dX11_nights_33 (fun q2 eq2 kq2 => ?_)
    replace h := h q2 eq2
    refine m_callVi (pc := 36) C.1 C.2.2.1 hl.1 C.2.1 hW hS (As := [.ref (b + q2)]) (rest := [.int (mI x2)]) (r := q1) (T_X2_oneNight C.2.2.2.2.2.2 N q1 kq1 q2 kq2 h) kq1 rfl q_1125 q_1126 q_1127 q_82 q_1128 pl_X2_oneNight (by decide) (Nat.le_of_ble_eq_true rfl) dX11_nights_36 (fun v3 S3 H locs ov3 h hW3 hS => ?_)
    refine m_iadd (pc := 39) C.1 dX11_nights_39 ?_
    refine m_istore_n (pc := 40) C.1 dX11_nights_40 rfl hl (by decide) (fun v => [(2, .int v), (0, .ref (b + r0)), (1, .int (mI x1)), (3, .int (mI x3))]) (fun _ => rfl) (nm_ok _) (fun v4 ls ev4 ov4 hl => ?_)
    replace h := h v4 ev4
    refine m_iinc (pc := 41) C.1 dX11_nights_41 hl (by decide) (q0 := 3) rfl (fun v => [(3, .int v), (2, .int (mI v4)), (0, .ref (b + r0)), (1, .int (mI x1))]) (fun _ => rfl) (fun v5 ls ev5 ov5 hl => ?_)
    replace h := h v5 ev5
    refine m_goto (pc := 44) (tgt := 22) C.1 dX11_nights_44 (by decide) ?_
    exact hko22 r0 kr0 x1 ox1 v4 ov4 v5 ov5 S3 _ _ _ (lv_sub hl [2, 3, 1, 0] rfl) hW3 hS h
def w_X11_nights_22 (N : Nat) (Q : mSt → Int → Prop) (E : String → mSt → Prop) (ko47 : Int → mSt → Prop) : Nat → Nat → Int → Int → Int → mSt → Prop
  | 0 => fun _ _ _ _ _ => False
  | k + 1 => w_X11_nights_22b N Q E (w_X11_nights_22 N Q E ko47 k) ko47
theorem W_X11_nights_22 (C : mC p l s m args meth c cX11_nights "MoonWash" 4 (some FieldType.int) g) (N : Nat) {Q : mSt → Int → Prop} {E : String → mSt → Prop} {ko47 : Int → mSt → Prop} (hko47 : ∀ (x2 : Int) (ox2 : okI x2) (S : mSt) (H : Heap) (locs : List Loc) (ls : Array Slot), lv_has ls 4 [(2, .int (mI x2))] → mW g b KX S H → va_S (mA b KX s.heap.size) s.heap H locs → ko47 x2 S → W p l e { frames := 7, cells := 1, slots := 6, locals := 183 } s m args below meth c H locs 1 6 (vx_MQ below (mQi g b KX Q (mA b KX s.heap.size)) (mEx g b KX E (mA b KX s.heap.size)) args s 1 6 (mA b KX s.heap.size)) (F0 m 47 ls [])) : ∀ (k : Nat) (r0 : Nat) (kr0 : KX r0 = (0, 9, 0)) (x1 : Int) (ox1 : okI x1) (x2 : Int) (ox2 : okI x2) (x3 : Int) (ox3 : okI x3) (S : mSt) (H : Heap) (locs : List Loc) (ls : Array Slot) (hl : lv_has ls 4 [(0, .ref (b + r0)), (1, .int (mI x1)), (2, .int (mI x2)), (3, .int (mI x3))]) (hW : mW g b KX S H) (hS : va_S (mA b KX s.heap.size) s.heap H locs) (h : w_X11_nights_22 N Q E ko47 k r0 x1 x2 x3 S), W p l e { frames := 7, cells := 1, slots := 6, locals := 183 } s m args below meth c H locs 1 6 (vx_MQ below (mQi g b KX Q (mA b KX s.heap.size)) (mEx g b KX E (mA b KX s.heap.size)) args s 1 6 (mA b KX s.heap.size)) (F0 m 22 ls []) := by
  intro k
  induction k with
  | zero => intro r0 kr0 x1 ox1 x2 ox2 x3 ox3 S H locs ls hl hW hS h; exact False.elim h
  | succ k ih => intro r0 kr0 x1 ox1 x2 ox2 x3 ox3 S H locs ls hl hW hS h; exact W_X11_nights_22b C N ih hko47 r0 kr0 x1 ox1 x2 ox2 x3 ox3 S H locs ls hl hW hS h
end
def w_X11_nights (N : Nat) (r0 : Nat) (x1 : Int) (S : mSt) (Q : mSt → Int → Prop) (E : String → mSt → Prop) : Prop :=
  w_X11_checkNumber N x1 1 60 S (fun (S1 : mSt) => ∀ q2 : Nat, (q2 : Int) = S1 r0 3 → w_X6_keep N (r0 + 44) q2 S1 (fun (S3 : mSt) => ∀ v4 : Int, v4 = 0 → ∀ v5 : Int, v5 = 0 → w_X11_nights_22 N Q E (fun (x2_6 : Int) (S_6 : mSt) => Q S_6 x2_6) N r0 x1 v4 v5 S3)) E
theorem T_X11_nights {l : Launch} (hl0 : l.stackTraces = false) {g : mG} {b : Nat} (N : Nat) (r0 : Nat) (kr0 : KX r0 = (0, 9, 0)) (x1 : Int) (ox1 : okI x1) {S : mSt} {Q : mSt → Int → Prop} {E : String → mSt → Prop} (h : w_X11_nights N r0 x1 S Q E) (sz : Nat) : vx_Met l yX11_nights (Cond.code yX11_nights cX11_nights 4 (some FieldType.int) :: wsG) { frames := 7, cells := 1, slots := 6, locals := 183 } (mPc g b KX S [.ref (b + r0), .int (mI x1)] sz) (mQi g b KX Q (mA b KX sz)) (mEx g b KX E (mA b KX sz)) 1 6 (mA b KX sz) :=
  m_of (av := [.ref (b + r0), .int (mI x1)]) (Qf := fun A => mQi g b KX Q A) (Xf := fun A => mEx g b KX E A) (by decide) (Nat.le_of_ble_eq_true rfl) (fun p e s m args below meth c ls X hK hml hr hlk hout hnm hW hl => by
    have C : mC p l s m args meth c cX11_nights "MoonWash" 4 (some FieldType.int) g := ⟨X, hK, hml, hr, hlk, hout, hl0⟩
    have hS : va_S (mA b KX s.heap.size) s.heap s.heap [] := va_S.rf
    have hl : lv_has ls 4 [(0, .ref (b + r0)), (1, .int (mI x1))] := hl
    unfold w_X11_nights at h
    refine m_iload_n (pc := 0) C.1 dX11_nights_0 rfl hl 1 rfl ?_
    refine m_iconst (pc := 1) C.1 dX11_nights_1 ?_
    refine m_bipush (pc := 2) C.1 dX11_nights_2 rfl ?_
    refine m_callSvx (pc := 4) C.1 C.2.2.1 hl.1 C.2.1 hW hS (As := [.int (mI x1), .int (mI 1), .int (mI 60)]) (rest := []) (T_X11_checkNumber C.2.2.2.2.2.2 N x1 ox1 1 (by decide : okI 1) 60 (by decide : okI 60) h) q_1122 q_1123 q_81 q_1124 pl_X11_checkNumber (by decide) (Nat.le_of_ble_eq_true rfl) dX11_nights_4 (fun En S1 H locs ce q9 hE hW1 hS h1 h2 h3 => m_prop C.2.2.2.2.2.1 C.2.2.2.2.1 hW1 hS hE h1 h2 h3 (by decide) (by decide)) (fun S1 H locs h hW1 hS => ?_)
    refine m_aload_n (pc := 7) C.1 dX11_nights_7 rfl hl 0 rfl ?_
    refine g_9_8 (pc := 8) C hW1 kr0 q_400 dX11_nights_8 ?_
    refine m_aload_n (pc := 11) C.1 dX11_nights_11 rfl hl 0 rfl ?_
    refine g_9_3 (pc := 12) C hW1 kr0 q_395 dX11_nights_12 (fun q2 eq2 kq2 => ?_)
    replace h := h q2 eq2
    refine m_callVv (pc := 15) C.1 C.2.2.1 hl.1 C.2.1 hW1 hS (As := [.ref (b + q2)]) (rest := []) (r := (r0 + 44)) (T_X6_keep C.2.2.2.2.2.2 N (r0 + 44) (k_9_8 kr0) q2 kq2 h) (k_9_8 kr0) rfl q_1063 q_1064 q_1065 q_88 q_1066 pl_X6_keep (by decide) (Nat.le_of_ble_eq_true rfl) dX11_nights_15 (fun S3 H locs h hW3 hS => ?_)
    refine m_iconst (pc := 18) C.1 dX11_nights_18 ?_
    refine m_istore_n (pc := 19) C.1 dX11_nights_19 rfl hl (by decide) (fun v => [(2, .int v), (0, .ref (b + r0)), (1, .int (mI x1))]) (fun _ => rfl) (by decide : okI 0) (fun v4 ls ev4 ov4 hl => ?_)
    replace h := h v4 ev4
    refine m_iconst (pc := 20) C.1 dX11_nights_20 ?_
    refine m_istore_n (pc := 21) C.1 dX11_nights_21 rfl hl (by decide) (fun v => [(3, .int v), (2, .int (mI v4)), (0, .ref (b + r0)), (1, .int (mI x1))]) (fun _ => rfl) (by decide : okI 0) (fun v5 ls ev5 ov5 hl => ?_)
    replace h := h v5 ev5
    refine W_X11_nights_22 C N ?_ N r0 kr0 x1 ox1 v4 ov4 v5 ov5 S3 _ _ _ (lv_sub hl [2, 3, 1, 0] rfl) hW3 hS h
    · intro x2_6 ox2_6 S_6 H locs ls hl hW_6 hS h
      refine m_iload_n (pc := 47) C.1 dX11_nights_47 rfl hl 0 rfl ?_
      exact m_iret (pc := 48) C.1 C.2.2.2.1 C.2.2.2.2.1 hW_6 hS ox2_6 h (by decide) (by decide) dX11_nights_48) sz
section
variable {p : Program} {l : Launch} {e : Env} {s : State} {m : MethodId} {args : Array Value} {below : List Frame} {meth : Method} {c : Code} {g : mG} {b : Nat}
end
def w_X11_seed (N : Nat) (r0 : Nat) (x1 : Int) (S : mSt) (Q : mSt → Int → Prop) : Prop :=
  ∀ q1 : Nat, (q1 : Int) = S r0 3 → ∀ v2 : Int, v2 = (S q1 10) → ∀ q3 : Nat, (q3 : Int) = S r0 3 → ∀ S4 : mSt, S4 = mup S q3 10 x1 → Q S4 v2
theorem T_X11_seed {l : Launch} (hl0 : l.stackTraces = false) {g : mG} {b : Nat} (N : Nat) (r0 : Nat) (kr0 : KX r0 = (0, 9, 0)) (x1 : Int) (ox1 : okI x1) {S : mSt} {Q : mSt → Int → Prop} (h : w_X11_seed N r0 x1 S Q) (sz : Nat) : vx_Met l yX11_seed (Cond.code yX11_seed cX11_seed 3 (some FieldType.int) :: wsG) { frames := 0, cells := 0, slots := 0, locals := 0 } (mPc g b KX S [.ref (b + r0), .int (mI x1)] sz) (mQi g b KX Q (mA b KX sz)) (mEx g b KX (fun _ _ => False) (mA b KX sz)) 0 0 (mA b KX sz) :=
  m_of (av := [.ref (b + r0), .int (mI x1)]) (Qf := fun A => mQi g b KX Q A) (Xf := fun A => mEx g b KX (fun _ _ => False) A) (by decide) (Nat.le_of_ble_eq_true rfl) (fun p e s m args below meth c ls X hK hml hr hlk hout hnm hW hl => by
    have C : mC p l s m args meth c cX11_seed "MoonWash" 3 (some FieldType.int) g := ⟨X, hK, hml, hr, hlk, hout, hl0⟩
    have hS : va_S (mA b KX s.heap.size) s.heap s.heap [] := va_S.rf
    have hl : lv_has ls 3 [(0, .ref (b + r0)), (1, .int (mI x1))] := hl
    unfold w_X11_seed at h
    refine m_aload_n (pc := 0) C.1 dX11_seed_0 rfl hl 0 rfl ?_
    refine g_9_3 (pc := 1) C hW kr0 q_395 dX11_seed_1 (fun q1 eq1 kq1 => ?_)
    replace h := h q1 eq1
    refine g_1_10 (pc := 4) C hW kq1 q_212 dX11_seed_4 ?_
    refine m_istore_n (pc := 7) C.1 dX11_seed_7 rfl hl (by decide) (fun v => [(2, .int v), (0, .ref (b + r0)), (1, .int (mI x1))]) (fun _ => rfl) (hW.2.1 _ _) (fun v2 ls ev2 ov2 hl => ?_)
    replace h := h v2 ev2
    refine m_aload_n (pc := 8) C.1 dX11_seed_8 rfl hl 1 rfl ?_
    refine g_9_3 (pc := 9) C hW kr0 q_395 dX11_seed_9 (fun q3 eq3 kq3 => ?_)
    replace h := h q3 eq3
    refine m_iload_n (pc := 12) C.1 dX11_seed_12 rfl hl 2 rfl ?_
    refine p_1_10 (pc := 13) C hW hS kq3 q_212 ox1 dX11_seed_13 (fun S4 H locs e4 hW4 hS => ?_)
    replace h := h S4 e4
    refine m_iload_n (pc := 16) C.1 dX11_seed_16 rfl hl 0 rfl ?_
    exact m_iret (pc := 17) C.1 C.2.2.2.1 C.2.2.2.2.1 hW4 hS ov2 h (by decide) (by decide) dX11_seed_17) sz
section
variable {p : Program} {l : Launch} {e : Env} {s : State} {m : MethodId} {args : Array Value} {below : List Frame} {meth : Method} {c : Code} {g : mG} {b : Nat}
end
def w_X11_undo (N : Nat) (r0 : Nat) (S : mSt) (Q : mSt → Int → Prop) : Prop :=
  ∀ q1 : Nat, (q1 : Int) = S r0 3 → w_X6_giveBack N (r0 + 44) q1 S (fun (S2 : mSt) (v2 : Int) => ((v2 = 0 ∨ v2 = 1) ∧ Q S2 v2))
theorem T_X11_undo {l : Launch} (hl0 : l.stackTraces = false) {g : mG} {b : Nat} (N : Nat) (r0 : Nat) (kr0 : KX r0 = (0, 9, 0)) {S : mSt} {Q : mSt → Int → Prop} (h : w_X11_undo N r0 S Q) (sz : Nat) : vx_Met l yX11_undo (Cond.code yX11_undo cX11_undo 1 (some FieldType.boolean) :: wsG) { frames := 4, cells := 0, slots := 0, locals := 183 } (mPc g b KX S [.ref (b + r0)] sz) (mQi g b KX Q (mA b KX sz)) (mEx g b KX (fun _ _ => False) (mA b KX sz)) 0 0 (mA b KX sz) :=
  m_of (av := [.ref (b + r0)]) (Qf := fun A => mQi g b KX Q A) (Xf := fun A => mEx g b KX (fun _ _ => False) A) (by decide) (Nat.le_of_ble_eq_true rfl) (fun p e s m args below meth c ls X hK hml hr hlk hout hnm hW hl => by
    have C : mC p l s m args meth c cX11_undo "MoonWash" 1 (some FieldType.boolean) g := ⟨X, hK, hml, hr, hlk, hout, hl0⟩
    have hS : va_S (mA b KX s.heap.size) s.heap s.heap [] := va_S.rf
    have hl : lv_has ls 1 [(0, .ref (b + r0))] := hl
    unfold w_X11_undo at h
    refine m_aload_n (pc := 0) C.1 dX11_undo_0 rfl hl 0 rfl ?_
    refine g_9_8 (pc := 1) C hW kr0 q_400 dX11_undo_1 ?_
    refine m_aload_n (pc := 4) C.1 dX11_undo_4 rfl hl 0 rfl ?_
    refine g_9_3 (pc := 5) C hW kr0 q_395 dX11_undo_5 (fun q1 eq1 kq1 => ?_)
    replace h := h q1 eq1
    refine m_callVi (pc := 8) C.1 C.2.2.1 hl.1 C.2.1 hW hS (As := [.ref (b + q1)]) (rest := []) (r := (r0 + 44)) (T_X6_giveBack C.2.2.2.2.2.2 N (r0 + 44) (k_9_8 kr0) q1 kq1 h) (k_9_8 kr0) rfl q_456 q_457 q_458 q_88 q_459 pl_X6_giveBack (by decide) (Nat.le_of_ble_eq_true rfl) dX11_undo_8 (fun v2 S2 H locs ov2 h hW2 hS => ?_)
    exact m_zret (pc := 11) C.1 C.2.2.2.1 C.2.2.2.2.1 hW2 hS h.1 h.2 (by decide) (by decide) dX11_undo_11) sz
section
variable {p : Program} {l : Launch} {e : Env} {s : State} {m : MethodId} {args : Array Value} {below : List Frame} {meth : Method} {c : Code} {g : mG} {b : Nat}
end
def w_X11_image (N : Nat) (r0 : Nat) (S : mSt) (Q : mSt → Prop) : Prop :=
  ∀ q1 : Nat, (q1 : Int) = S r0 3 → ∀ q2 : Nat, (q2 : Int) = S r0 5 → w_X1_keep N (r0 + 178) q1 q2 S (fun (S3 : mSt) => Q S3)
theorem T_X11_image {l : Launch} (hl0 : l.stackTraces = false) {g : mG} {b : Nat} (N : Nat) (r0 : Nat) (kr0 : KX r0 = (0, 9, 0)) {S : mSt} {Q : mSt → Prop} (h : w_X11_image N r0 S Q) (sz : Nat) : vx_Met l yX11_image (Cond.code yX11_image cX11_image 1 none :: wsG) { frames := 6, cells := 0, slots := 0, locals := 185 } (mPc g b KX S [.ref (b + r0)] sz) (mQv g b KX Q (mA b KX sz)) (mEx g b KX (fun _ _ => False) (mA b KX sz)) 0 0 (mA b KX sz) :=
  m_of (av := [.ref (b + r0)]) (Qf := fun A => mQv g b KX Q A) (Xf := fun A => mEx g b KX (fun _ _ => False) A) (by decide) (Nat.le_of_ble_eq_true rfl) (fun p e s m args below meth c ls X hK hml hr hlk hout hnm hW hl => by
    have C : mC p l s m args meth c cX11_image "MoonWash" 1 none g := ⟨X, hK, hml, hr, hlk, hout, hl0⟩
    have hS : va_S (mA b KX s.heap.size) s.heap s.heap [] := va_S.rf
    have hl : lv_has ls 1 [(0, .ref (b + r0))] := hl
    unfold w_X11_image at h
    refine m_aload_n (pc := 0) C.1 dX11_image_0 rfl hl 0 rfl ?_
    refine g_9_9 (pc := 1) C hW kr0 q_401 dX11_image_1 ?_
    refine m_aload_n (pc := 4) C.1 dX11_image_4 rfl hl 0 rfl ?_
    refine g_9_3 (pc := 5) C hW kr0 q_395 dX11_image_5 (fun q1 eq1 kq1 => ?_)
    replace h := h q1 eq1
    refine m_aload_n (pc := 8) C.1 dX11_image_8 rfl hl 0 rfl ?_
    refine g_9_5 (pc := 9) C hW kr0 q_397 dX11_image_9 (fun q2 eq2 kq2 => ?_)
    replace h := h q2 eq2
    refine m_callVv (pc := 12) C.1 C.2.2.1 hl.1 C.2.1 hW hS (As := [.ref (b + q1), .ref (b + q2)]) (rest := []) (r := (r0 + 178)) (T_X1_keep C.2.2.2.2.2.2 N (r0 + 178) (k_9_9 kr0) q1 kq1 q2 kq2 h) (k_9_9 kr0) rfl q_476 q_477 q_478 q_89 q_479 pl_X1_keep (by decide) (Nat.le_of_ble_eq_true rfl) dX11_image_12 (fun S3 H locs h hW3 hS => ?_)
    exact m_vret (pc := 15) C.1 C.2.2.2.1 C.2.2.2.2.1 hW3 hS h (by decide) (by decide) dX11_image_15) sz
section
variable {p : Program} {l : Launch} {e : Env} {s : State} {m : MethodId} {args : Array Value} {below : List Frame} {meth : Method} {c : Code} {g : mG} {b : Nat}
end
def w_X11_back (N : Nat) (r0 : Nat) (S : mSt) (Q : mSt → Int → Prop) : Prop :=
  (((S (r0 + 178) 3) ≠ 0 → ∀ q1 : Nat, (q1 : Int) = S r0 3 → w_X2_become N q1 ((r0 + 178) + 1) S (fun (S2 : mSt) => ∀ q3 : Nat, (q3 : Int) = S2 r0 5 → w_X3_become N q3 ((r0 + 178) + 12) S2 (fun (S4 : mSt) => w_X6_forget N (r0 + 44) S4 (fun (S5 : mSt) => Q S5 1)))) ∧ ((S (r0 + 178) 3) = 0 → Q S 0))
theorem T_X11_back {l : Launch} (hl0 : l.stackTraces = false) {g : mG} {b : Nat} (N : Nat) (r0 : Nat) (kr0 : KX r0 = (0, 9, 0)) {S : mSt} {Q : mSt → Int → Prop} (h : w_X11_back N r0 S Q) (sz : Nat) : vx_Met l yX11_back (Cond.code yX11_back cX11_back 1 (some FieldType.boolean) :: wsG) { frames := 3, cells := 0, slots := 0, locals := 162 } (mPc g b KX S [.ref (b + r0)] sz) (mQi g b KX Q (mA b KX sz)) (mEx g b KX (fun _ _ => False) (mA b KX sz)) 0 0 (mA b KX sz) :=
  m_of (av := [.ref (b + r0)]) (Qf := fun A => mQi g b KX Q A) (Xf := fun A => mEx g b KX (fun _ _ => False) A) (by decide) (Nat.le_of_ble_eq_true rfl) (fun p e s m args below meth c ls X hK hml hr hlk hout hnm hW hl => by
    have C : mC p l s m args meth c cX11_back "MoonWash" 1 (some FieldType.boolean) g := ⟨X, hK, hml, hr, hlk, hout, hl0⟩
    have hS : va_S (mA b KX s.heap.size) s.heap s.heap [] := va_S.rf
    have hl : lv_has ls 1 [(0, .ref (b + r0))] := hl
    unfold w_X11_back at h
    refine m_aload_n (pc := 0) C.1 dX11_back_0 rfl hl 0 rfl ?_
    refine g_9_9 (pc := 1) C hW kr0 q_401 dX11_back_1 ?_
    refine g_0_3 (pc := 4) C hW (k_9_9 kr0) q_344 dX11_back_4 ?_
    refine m_if_ne (pc := 7) (tgt := 12) C.1 (hW.2.1 _ _) dX11_back_7 (by decide) (fun hc => ?_) (fun hc => ?_)
    · replace h := h.1 hc
      refine m_aload_n (pc := 12) C.1 dX11_back_12 rfl hl 0 rfl ?_
      refine g_9_3 (pc := 13) C hW kr0 q_395 dX11_back_13 (fun q1 eq1 kq1 => ?_)
      replace h := h q1 eq1
      refine m_aload_n (pc := 16) C.1 dX11_back_16 rfl hl 0 rfl ?_
      refine g_9_9 (pc := 17) C hW kr0 q_401 dX11_back_17 ?_
      refine g_0_0 (pc := 20) C hW (k_9_9 kr0) q_338 dX11_back_20 ?_
      refine m_callVv (pc := 23) C.1 C.2.2.1 hl.1 C.2.1 hW hS (As := [.ref (b + ((r0 + 178) + 1))]) (rest := []) (r := q1) (T_X2_become C.2.2.2.2.2.2 N q1 kq1 ((r0 + 178) + 1) (k_0_0 (k_9_9 kr0)) h) kq1 rfl q_529 q_461 q_462 q_82 q_463 pl_X2_become (by decide) (Nat.le_of_ble_eq_true rfl) dX11_back_23 (fun S2 H locs h hW2 hS => ?_)
      refine m_aload_n (pc := 26) C.1 dX11_back_26 rfl hl 0 rfl ?_
      refine g_9_5 (pc := 27) C hW2 kr0 q_397 dX11_back_27 (fun q3 eq3 kq3 => ?_)
      replace h := h q3 eq3
      refine m_aload_n (pc := 30) C.1 dX11_back_30 rfl hl 0 rfl ?_
      refine g_9_9 (pc := 31) C hW2 kr0 q_401 dX11_back_31 ?_
      refine g_0_1 (pc := 34) C hW2 (k_9_9 kr0) q_340 dX11_back_34 ?_
      refine m_callVv (pc := 37) C.1 C.2.2.1 hl.1 C.2.1 hW2 hS (As := [.ref (b + ((r0 + 178) + 12))]) (rest := []) (r := q3) (T_X3_become C.2.2.2.2.2.2 N q3 kq3 ((r0 + 178) + 12) (k_0_1 (k_9_9 kr0)) h) kq3 rfl q_530 q_482 q_483 q_84 q_484 pl_X3_become (by decide) (Nat.le_of_ble_eq_true rfl) dX11_back_37 (fun S4 H locs h hW4 hS => ?_)
      refine m_aload_n (pc := 40) C.1 dX11_back_40 rfl hl 0 rfl ?_
      refine g_9_8 (pc := 41) C hW4 kr0 q_400 dX11_back_41 ?_
      refine m_callVv (pc := 44) C.1 C.2.2.1 hl.1 C.2.1 hW4 hS (As := []) (rest := []) (r := (r0 + 44)) (T_X6_forget C.2.2.2.2.2.2 N (r0 + 44) (k_9_8 kr0) h) (k_9_8 kr0) rfl q_531 q_532 q_533 q_88 q_534 pl_X6_forget (by decide) (Nat.le_of_ble_eq_true rfl) dX11_back_44 (fun S5 H locs h hW5 hS => ?_)
      refine m_iconst (pc := 47) C.1 dX11_back_47 ?_
      exact m_zret (pc := 48) C.1 C.2.2.2.1 C.2.2.2.2.1 hW5 hS (by decide) h (by decide) (by decide) dX11_back_48
    · replace h := h.2 hc
      refine m_iconst (pc := 10) C.1 dX11_back_10 ?_
      exact m_zret (pc := 11) C.1 C.2.2.2.1 C.2.2.2.2.1 hW hS (by decide) h (by decide) (by decide) dX11_back_11) sz
section
variable {p : Program} {l : Launch} {e : Env} {s : State} {m : MethodId} {args : Array Value} {below : List Frame} {meth : Method} {c : Code} {g : mG} {b : Nat}
def w_X11_shines_34 (N : Nat) (Q : mSt → Int → Prop) (ko4 : Nat → Int → Int → mSt → Prop) (r0 : Nat) (x1 : Int) (x2 : Int) (S : mSt) : Prop :=
  ∀ v1 : Int, v1 = nm (x2 + 1) → ko4 r0 x1 v1 S
theorem W_X11_shines_34 (C : mC p l s m args meth c cX11_shines "MoonWash" 3 (some FieldType.int) g) (N : Nat) {Q : mSt → Int → Prop} {ko4 : Nat → Int → Int → mSt → Prop} (hko4 : ∀ (r0 : Nat) (kr0 : KX r0 = (0, 9, 0)) (x1 : Int) (ox1 : okI x1) (x2 : Int) (ox2 : okI x2) (S : mSt) (H : Heap) (locs : List Loc) (ls : Array Slot), lv_has ls 3 [(0, .ref (b + r0)), (1, .int (mI x1)), (2, .int (mI x2))] → mW g b KX S H → va_S (mA b KX s.heap.size) s.heap H locs → ko4 r0 x1 x2 S → W p l e { frames := 5, cells := 0, slots := 0, locals := 119 } s m args below meth c H locs 0 0 (vx_MQ below (mQi g b KX Q (mA b KX s.heap.size)) (mEx g b KX (fun _ _ => False) (mA b KX s.heap.size)) args s 0 0 (mA b KX s.heap.size)) (F0 m 4 ls [])) (r0 : Nat) (kr0 : KX r0 = (0, 9, 0)) (x1 : Int) (ox1 : okI x1) (x2 : Int) (ox2 : okI x2) (S : mSt) (H : Heap) (locs : List Loc) (ls : Array Slot) (hl : lv_has ls 3 [(0, .ref (b + r0)), (1, .int (mI x1)), (2, .int (mI x2))]) (hW : mW g b KX S H) (hS : va_S (mA b KX s.heap.size) s.heap H locs) (h : w_X11_shines_34 N Q ko4 r0 x1 x2 S) : W p l e { frames := 5, cells := 0, slots := 0, locals := 119 } s m args below meth c H locs 0 0 (vx_MQ below (mQi g b KX Q (mA b KX s.heap.size)) (mEx g b KX (fun _ _ => False) (mA b KX s.heap.size)) args s 0 0 (mA b KX s.heap.size)) (F0 m 34 ls []) := by
  unfold w_X11_shines_34 at h
  refine m_iinc (pc := 34) C.1 dX11_shines_34 hl (by decide) (q0 := 2) rfl (fun v => [(2, .int v), (0, .ref (b + r0)), (1, .int (mI x1))]) (fun _ => rfl) (fun v1 ls ev1 ov1 hl => ?_)
  replace h := h v1 ev1
  refine m_goto (pc := 37) (tgt := 4) C.1 dX11_shines_37 (by decide) ?_
  exact hko4 r0 kr0 x1 ox1 v1 ov1 S _ _ _ (lv_sub hl [1, 2, 0] rfl) hW hS h
def w_X11_shines_4b (N : Nat) (Q : mSt → Int → Prop) (ko4 : Nat → Int → Int → mSt → Prop) (ko40 : Int → mSt → Prop) (r0 : Nat) (x1 : Int) (x2 : Int) (S : mSt) : Prop :=
  ((8 ≤ x2 → ko40 x1 S) ∧ (x2 < 8 → ∀ q1 : Nat, (q1 : Int) = S r0 5 → ∀ q2 : Nat, (q2 : Int) = S r0 3 → w_X3_lightOf N q1 (q2 + 1) x2 S (fun (S3 : mSt) (v3 : Int) => ((v3 ≤ 0 → w_X11_shines_34 N Q ko4 r0 x1 x2 S3) ∧ (0 < v3 → ∀ v4 : Int, v4 = (bOr x1 (bShl 1 x2)) → w_X11_shines_34 N Q ko4 r0 v4 x2 S3)))))
theorem W_X11_shines_4b (C : mC p l s m args meth c cX11_shines "MoonWash" 3 (some FieldType.int) g) (N : Nat) {Q : mSt → Int → Prop} {ko4 : Nat → Int → Int → mSt → Prop} {ko40 : Int → mSt → Prop} (hko4 : ∀ (r0 : Nat) (kr0 : KX r0 = (0, 9, 0)) (x1 : Int) (ox1 : okI x1) (x2 : Int) (ox2 : okI x2) (S : mSt) (H : Heap) (locs : List Loc) (ls : Array Slot), lv_has ls 3 [(0, .ref (b + r0)), (1, .int (mI x1)), (2, .int (mI x2))] → mW g b KX S H → va_S (mA b KX s.heap.size) s.heap H locs → ko4 r0 x1 x2 S → W p l e { frames := 5, cells := 0, slots := 0, locals := 119 } s m args below meth c H locs 0 0 (vx_MQ below (mQi g b KX Q (mA b KX s.heap.size)) (mEx g b KX (fun _ _ => False) (mA b KX s.heap.size)) args s 0 0 (mA b KX s.heap.size)) (F0 m 4 ls [])) (hko40 : ∀ (x1 : Int) (ox1 : okI x1) (S : mSt) (H : Heap) (locs : List Loc) (ls : Array Slot), lv_has ls 3 [(1, .int (mI x1))] → mW g b KX S H → va_S (mA b KX s.heap.size) s.heap H locs → ko40 x1 S → W p l e { frames := 5, cells := 0, slots := 0, locals := 119 } s m args below meth c H locs 0 0 (vx_MQ below (mQi g b KX Q (mA b KX s.heap.size)) (mEx g b KX (fun _ _ => False) (mA b KX s.heap.size)) args s 0 0 (mA b KX s.heap.size)) (F0 m 40 ls [])) (r0 : Nat) (kr0 : KX r0 = (0, 9, 0)) (x1 : Int) (ox1 : okI x1) (x2 : Int) (ox2 : okI x2) (S : mSt) (H : Heap) (locs : List Loc) (ls : Array Slot) (hl : lv_has ls 3 [(0, .ref (b + r0)), (1, .int (mI x1)), (2, .int (mI x2))]) (hW : mW g b KX S H) (hS : va_S (mA b KX s.heap.size) s.heap H locs) (h : w_X11_shines_4b N Q ko4 ko40 r0 x1 x2 S) : W p l e { frames := 5, cells := 0, slots := 0, locals := 119 } s m args below meth c H locs 0 0 (vx_MQ below (mQi g b KX Q (mA b KX s.heap.size)) (mEx g b KX (fun _ _ => False) (mA b KX s.heap.size)) args s 0 0 (mA b KX s.heap.size)) (F0 m 4 ls []) := by
  unfold w_X11_shines_4b at h
  refine m_iload_n (pc := 4) C.1 dX11_shines_4 rfl hl 2 rfl ?_
  refine m_bipush (pc := 5) C.1 dX11_shines_5 rfl ?_
  refine m_icmp_ge (pc := 7) (tgt := 40) C.1 ox2 (by decide : okI 8) dX11_shines_7 (by decide) (fun hc => ?_) (fun hc => ?_)
  · replace h := h.1 hc
    exact hko40 x1 ox1 S _ _ _ (lv_sub hl [1] rfl) hW hS h
  · replace h := h.2 hc
    refine m_aload_n (pc := 10) C.1 dX11_shines_10 rfl hl 0 rfl ?_
    refine g_9_5 (pc := 11) C hW kr0 q_397 dX11_shines_11 (fun q1 eq1 kq1 => ?_)
    replace h := h q1 eq1
    refine m_aload_n (pc := 14) C.1 dX11_shines_14 rfl hl 0 rfl ?_
    refine g_9_3 (pc := 15) C hW kr0 q_395 dX11_shines_15 (fun q2 eq2 kq2 => ?_)
    replace h := h q2 eq2
    refine g_1_0 (pc := 18) C hW kq2 q_187 dX11_shines_18 ?_
    refine m_iload_n (pc := 21) C.1 dX11_shines_21 rfl hl 2 rfl ?_
    refine m_callVi (pc := 22) C.1 C.2.2.1 hl.1 C.2.1 hW hS (As := [.ref (b + (q2 + 1)), .int (mI x2)]) (rest := []) (r := q1) (T_X3_lightOf C.2.2.2.2.2.2 N q1 kq1 (q2 + 1) (k_1_0 kq2) x2 ox2 h) kq1 rfl q_539 q_487 q_488 q_84 q_489 pl_X3_lightOf (by decide) (Nat.le_of_ble_eq_true rfl) dX11_shines_22 (fun v3 S3 H locs ov3 h hW3 hS => ?_)
    refine m_if_le (pc := 25) (tgt := 34) C.1 ov3 dX11_shines_25 (by decide) (fun hc => ?_) (fun hc => ?_)
    · replace h := h.1 hc
      exact W_X11_shines_34 C N hko4 r0 kr0 x1 ox1 x2 ox2 S3 _ _ _ (lv_sub hl [0, 1, 2] rfl) hW3 hS h
    · replace h := h.2 hc
      refine m_iload_n (pc := 28) C.1 dX11_shines_28 rfl hl 1 rfl ?_
      refine m_iconst (pc := 29) C.1 dX11_shines_29 ?_
      refine m_iload_n (pc := 30) C.1 dX11_shines_30 rfl hl 2 rfl ?_
      refine m_ishl (pc := 31) C.1 dX11_shines_31 ?_
      refine m_ior (pc := 32) C.1 dX11_shines_32 ?_
      refine m_istore_n (pc := 33) C.1 dX11_shines_33 rfl hl (by decide) (fun v => [(1, .int v), (0, .ref (b + r0)), (2, .int (mI x2))]) (fun _ => rfl) (bOr_ok _ _) (fun v4 ls ev4 ov4 hl => ?_)
      replace h := h v4 ev4
      exact W_X11_shines_34 C N hko4 r0 kr0 v4 ov4 x2 ox2 S3 _ _ _ (lv_sub hl [1, 0, 2] rfl) hW3 hS h
def w_X11_shines_4 (N : Nat) (Q : mSt → Int → Prop) (ko40 : Int → mSt → Prop) : Nat → Nat → Int → Int → mSt → Prop
  | 0 => fun _ _ _ _ => False
  | k + 1 => w_X11_shines_4b N Q (w_X11_shines_4 N Q ko40 k) ko40
theorem W_X11_shines_4 (C : mC p l s m args meth c cX11_shines "MoonWash" 3 (some FieldType.int) g) (N : Nat) {Q : mSt → Int → Prop} {ko40 : Int → mSt → Prop} (hko40 : ∀ (x1 : Int) (ox1 : okI x1) (S : mSt) (H : Heap) (locs : List Loc) (ls : Array Slot), lv_has ls 3 [(1, .int (mI x1))] → mW g b KX S H → va_S (mA b KX s.heap.size) s.heap H locs → ko40 x1 S → W p l e { frames := 5, cells := 0, slots := 0, locals := 119 } s m args below meth c H locs 0 0 (vx_MQ below (mQi g b KX Q (mA b KX s.heap.size)) (mEx g b KX (fun _ _ => False) (mA b KX s.heap.size)) args s 0 0 (mA b KX s.heap.size)) (F0 m 40 ls [])) : ∀ (k : Nat) (r0 : Nat) (kr0 : KX r0 = (0, 9, 0)) (x1 : Int) (ox1 : okI x1) (x2 : Int) (ox2 : okI x2) (S : mSt) (H : Heap) (locs : List Loc) (ls : Array Slot) (hl : lv_has ls 3 [(0, .ref (b + r0)), (1, .int (mI x1)), (2, .int (mI x2))]) (hW : mW g b KX S H) (hS : va_S (mA b KX s.heap.size) s.heap H locs) (h : w_X11_shines_4 N Q ko40 k r0 x1 x2 S), W p l e { frames := 5, cells := 0, slots := 0, locals := 119 } s m args below meth c H locs 0 0 (vx_MQ below (mQi g b KX Q (mA b KX s.heap.size)) (mEx g b KX (fun _ _ => False) (mA b KX s.heap.size)) args s 0 0 (mA b KX s.heap.size)) (F0 m 4 ls []) := by
  intro k
  induction k with
  | zero => intro r0 kr0 x1 ox1 x2 ox2 S H locs ls hl hW hS h; exact False.elim h
  | succ k ih => intro r0 kr0 x1 ox1 x2 ox2 S H locs ls hl hW hS h; exact W_X11_shines_4b C N ih hko40 r0 kr0 x1 ox1 x2 ox2 S H locs ls hl hW hS h
end
def w_X11_shines (N : Nat) (r0 : Nat) (S : mSt) (Q : mSt → Int → Prop) : Prop :=
  ∀ v1 : Int, v1 = 0 → ∀ v2 : Int, v2 = 0 → w_X11_shines_4 N Q (fun (x1_3 : Int) (S_3 : mSt) => Q S_3 x1_3) N r0 v1 v2 S
theorem T_X11_shines {l : Launch} (hl0 : l.stackTraces = false) {g : mG} {b : Nat} (N : Nat) (r0 : Nat) (kr0 : KX r0 = (0, 9, 0)) {S : mSt} {Q : mSt → Int → Prop} (h : w_X11_shines N r0 S Q) (sz : Nat) : vx_Met l yX11_shines (Cond.code yX11_shines cX11_shines 3 (some FieldType.int) :: wsG) { frames := 5, cells := 0, slots := 0, locals := 119 } (mPc g b KX S [.ref (b + r0)] sz) (mQi g b KX Q (mA b KX sz)) (mEx g b KX (fun _ _ => False) (mA b KX sz)) 0 0 (mA b KX sz) :=
  m_of (av := [.ref (b + r0)]) (Qf := fun A => mQi g b KX Q A) (Xf := fun A => mEx g b KX (fun _ _ => False) A) (by decide) (Nat.le_of_ble_eq_true rfl) (fun p e s m args below meth c ls X hK hml hr hlk hout hnm hW hl => by
    have C : mC p l s m args meth c cX11_shines "MoonWash" 3 (some FieldType.int) g := ⟨X, hK, hml, hr, hlk, hout, hl0⟩
    have hS : va_S (mA b KX s.heap.size) s.heap s.heap [] := va_S.rf
    have hl : lv_has ls 3 [(0, .ref (b + r0))] := hl
    unfold w_X11_shines at h
    refine m_iconst (pc := 0) C.1 dX11_shines_0 ?_
    refine m_istore_n (pc := 1) C.1 dX11_shines_1 rfl hl (by decide) (fun v => [(1, .int v), (0, .ref (b + r0))]) (fun _ => rfl) (by decide : okI 0) (fun v1 ls ev1 ov1 hl => ?_)
    replace h := h v1 ev1
    refine m_iconst (pc := 2) C.1 dX11_shines_2 ?_
    refine m_istore_n (pc := 3) C.1 dX11_shines_3 rfl hl (by decide) (fun v => [(2, .int v), (1, .int (mI v1)), (0, .ref (b + r0))]) (fun _ => rfl) (by decide : okI 0) (fun v2 ls ev2 ov2 hl => ?_)
    replace h := h v2 ev2
    refine W_X11_shines_4 C N ?_ N r0 kr0 v1 ov1 v2 ov2 S _ _ _ (lv_sub hl [2, 1, 0] rfl) hW hS h
    · intro x1_3 ox1_3 S_3 H locs ls hl hW_3 hS h
      refine m_iload_n (pc := 40) C.1 dX11_shines_40 rfl hl 0 rfl ?_
      exact m_iret (pc := 41) C.1 C.2.2.2.1 C.2.2.2.2.1 hW_3 hS ox1_3 h (by decide) (by decide) dX11_shines_41) sz
