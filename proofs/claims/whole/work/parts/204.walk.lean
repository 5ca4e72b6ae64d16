set_option maxHeartbeats 4000000
set_option maxRecDepth 20000
section
variable {p : Program} {l : Launch} {e : Env} {s : State} {m : MethodId} {args : Array Value} {below : List Frame} {meth : Method} {c : Code} {g : mG} {b : Nat}
end
def w_X11_light (N : Nat) (r0 : Nat) (S : mSt) (Q : mSt → Int → Prop) : Prop :=
  ∀ q1 : Nat, (q1 : Int) = S r0 5 → ∀ q2 : Nat, (q2 : Int) = S r0 3 → w_X3_allLight N q1 (q2 + 1) S (fun (S3 : mSt) (v3 : Int) => Q S3 v3)
theorem T_X11_light {l : Launch} (hl0 : l.stackTraces = false) {g : mG} {b : Nat} (N : Nat) (r0 : Nat) (kr0 : KX r0 = (0, 9, 0)) {S : mSt} {Q : mSt → Int → Prop} (h : w_X11_light N r0 S Q) (sz : Nat) : vx_Met l yX11_light (Cond.code yX11_light cX11_light 1 (some FieldType.int) :: wsG) { frames := 6, cells := 0, slots := 0, locals := 142 } (mPc g b KX S [.ref (b + r0)] sz) (mQi g b KX Q (mA b KX sz)) (mEx g b KX (fun _ _ => False) (mA b KX sz)) 0 0 (mA b KX sz) :=
  m_of (av := [.ref (b + r0)]) (Qf := fun A => mQi g b KX Q A) (Xf := fun A => mEx g b KX (fun _ _ => False) A) (by decide) (Nat.le_of_ble_eq_true rfl) (fun p e s m args below meth c ls X hK hml hr hlk hout hnm hW hl => by
    have C : mC p l s m args meth c cX11_light "MoonWash" 1 (some FieldType.int) g := ⟨X, hK, hml, hr, hlk, hout, hl0⟩
    have hS : va_S (mA b KX s.heap.size) s.heap s.heap [] := va_S.rf
    have hl : lv_has ls 1 [(0, .ref (b + r0))] := hl
    unfold w_X11_light at h
    refine m_aload_n (pc := 0) C.1 dX11_light_0 rfl hl 0 rfl ?_
    refine g_9_5 (pc := 1) C hW kr0 q_397 dX11_light_1 (fun q1 eq1 kq1 => ?_)
    replace h := h q1 eq1
    refine m_aload_n (pc := 4) C.1 dX11_light_4 rfl hl 0 rfl ?_
    refine g_9_3 (pc := 5) C hW kr0 q_395 dX11_light_5 (fun q2 eq2 kq2 => ?_)
    replace h := h q2 eq2
    refine g_1_0 (pc := 8) C hW kq2 q_187 dX11_light_8 ?_
    refine m_callVi (pc := 11) C.1 C.2.2.1 hl.1 C.2.1 hW hS (As := [.ref (b + (q2 + 1))]) (rest := []) (r := q1) (T_X3_allLight C.2.2.2.2.2.2 N q1 kq1 (q2 + 1) (k_1_0 kq2) h) kq1 rfl q_544 q_545 q_546 q_84 q_547 pl_X3_allLight (by decide) (Nat.le_of_ble_eq_true rfl) dX11_light_11 (fun v3 S3 H locs ov3 h hW3 hS => ?_)
    exact m_iret (pc := 14) C.1 C.2.2.2.1 C.2.2.2.2.1 hW3 hS ov3 h (by decide) (by decide) dX11_light_14) sz
section
variable {p : Program} {l : Launch} {e : Env} {s : State} {m : MethodId} {args : Array Value} {below : List Frame} {meth : Method} {c : Code} {g : mG} {b : Nat}
def w_X11_row_39 (N : Nat) (Q : mSt → Int → Prop) (ko12 : Int → Int → Int → Int → mSt → Prop) (x1 : Int) (x2 : Int) (x4 : Int) (xs0 : Int) (S : mSt) : Prop :=
  ∀ v1 : Int, v1 = xs0 → ∀ v2 : Int, v2 = (iMax x2 v1) → ∀ v3 : Int, v3 = nm (x4 + 1) → ko12 x1 v2 v1 v3 S
theorem W_X11_row_39 (C : mC p l s m args meth c cX11_row "MoonWash" 5 (some FieldType.int) g) (N : Nat) {Q : mSt → Int → Prop} {ko12 : Int → Int → Int → Int → mSt → Prop} (hko12 : ∀ (x1 : Int) (ox1 : okI x1) (x2 : Int) (ox2 : okI x2) (x3 : Int) (ox3 : okI x3) (x4 : Int) (ox4 : okI x4) (S : mSt) (H : Heap) (locs : List Loc) (ls : Array Slot), lv_has ls 5 [(1, .int (mI x1)), (2, .int (mI x2)), (3, .int (mI x3)), (4, .int (mI x4))] → mW g b KX S H → va_S (mA b KX s.heap.size) s.heap H locs → ko12 x1 x2 x3 x4 S → W p l e { frames := 6, cells := 0, slots := 0, locals := 141 } s m args below meth c H locs 0 0 (vx_MQ below (mQi g b KX Q (mA b KX s.heap.size)) (mEx g b KX (fun _ _ => False) (mA b KX s.heap.size)) args s 0 0 (mA b KX s.heap.size)) (F0 m 12 ls [])) (x1 : Int) (ox1 : okI x1) (x2 : Int) (ox2 : okI x2) (x4 : Int) (ox4 : okI x4) (xs0 : Int) (oxs0 : okI xs0) (S : mSt) (H : Heap) (locs : List Loc) (ls : Array Slot) (hl : lv_has ls 5 [(1, .int (mI x1)), (2, .int (mI x2)), (4, .int (mI x4))]) (hW : mW g b KX S H) (hS : va_S (mA b KX s.heap.size) s.heap H locs) (h : w_X11_row_39 N Q ko12 x1 x2 x4 xs0 S) : W p l e { frames := 6, cells := 0, slots := 0, locals := 141 } s m args below meth c H locs 0 0 (vx_MQ below (mQi g b KX Q (mA b KX s.heap.size)) (mEx g b KX (fun _ _ => False) (mA b KX s.heap.size)) args s 0 0 (mA b KX s.heap.size)) (F0 m 39 ls [.int (mI xs0)]) := by
  unfold w_X11_row_39 at h
  refine m_istore_n (pc := 39) C.1 dX11_row_39 rfl hl (by decide) (fun v => [(3, .int v), (1, .int (mI x1)), (2, .int (mI x2)), (4, .int (mI x4))]) (fun _ => rfl) oxs0 (fun v1 ls ev1 ov1 hl => ?_)
  replace h := h v1 ev1
  refine m_iload_n (pc := 40) C.1 dX11_row_40 rfl hl 2 rfl ?_
  refine m_iload_n (pc := 41) C.1 dX11_row_41 rfl hl 0 rfl ?_
  refine m_max (pc := 42) C.1 C.2.2.1 hl.1 ox2 ov1 q_554 q_523 q_93 q_524 (by refine ⟨?_, Nat.le_of_ble_eq_true rfl, ?_, ?_⟩ <;> decide) dX11_row_42 ?_
  refine m_istore_n (pc := 45) C.1 dX11_row_45 rfl hl (by decide) (fun v => [(2, .int v), (3, .int (mI v1)), (1, .int (mI x1)), (4, .int (mI x4))]) (fun _ => rfl) (iMax_ok ox2 ov1) (fun v2 ls ev2 ov2 hl => ?_)
  replace h := h v2 ev2
  refine m_iinc (pc := 46) C.1 dX11_row_46 hl (by decide) (q0 := 3) rfl (fun v => [(4, .int v), (2, .int (mI v2)), (3, .int (mI v1)), (1, .int (mI x1))]) (fun _ => rfl) (fun v3 ls ev3 ov3 hl => ?_)
  replace h := h v3 ev3
  refine m_goto (pc := 49) (tgt := 12) C.1 dX11_row_49 (by decide) ?_
  exact hko12 x1 ox1 v2 ov2 v1 ov1 v3 ov3 S _ _ _ (lv_sub hl [3, 1, 2, 0] rfl) hW hS h
def w_X11_row_12b (N : Nat) (Q : mSt → Int → Prop) (ko12 : Int → Int → Int → Int → mSt → Prop) (ko52 : Int → mSt → Prop) (x1 : Int) (x2 : Int) (x3 : Int) (x4 : Int) (S : mSt) : Prop :=
  ((16 ≤ x4 → ko52 x2 S) ∧ (x4 < 16 → (((bAnd (bShr x1 (iRem x4 8)) 1) ≠ 1 → w_X11_row_39 N Q ko12 x1 x2 x4 0 S) ∧ ((bAnd (bShr x1 (iRem x4 8)) 1) = 1 → w_X11_row_39 N Q ko12 x1 x2 x4 (nm (x3 + 1)) S))))
theorem W_X11_row_12b (C : mC p l s m args meth c cX11_row "MoonWash" 5 (some FieldType.int) g) (N : Nat) {Q : mSt → Int → Prop} {ko12 : Int → Int → Int → Int → mSt → Prop} {ko52 : Int → mSt → Prop} (hko12 : ∀ (x1 : Int) (ox1 : okI x1) (x2 : Int) (ox2 : okI x2) (x3 : Int) (ox3 : okI x3) (x4 : Int) (ox4 : okI x4) (S : mSt) (H : Heap) (locs : List Loc) (ls : Array Slot), lv_has ls 5 [(1, .int (mI x1)), (2, .int (mI x2)), (3, .int (mI x3)), (4, .int (mI x4))] → mW g b KX S H → va_S (mA b KX s.heap.size) s.heap H locs → ko12 x1 x2 x3 x4 S → W p l e { frames := 6, cells := 0, slots := 0, locals := 141 } s m args below meth c H locs 0 0 (vx_MQ below (mQi g b KX Q (mA b KX s.heap.size)) (mEx g b KX (fun _ _ => False) (mA b KX s.heap.size)) args s 0 0 (mA b KX s.heap.size)) (F0 m 12 ls [])) (hko52 : ∀ (x2 : Int) (ox2 : okI x2) (S : mSt) (H : Heap) (locs : List Loc) (ls : Array Slot), lv_has ls 5 [(2, .int (mI x2))] → mW g b KX S H → va_S (mA b KX s.heap.size) s.heap H locs → ko52 x2 S → W p l e { frames := 6, cells := 0, slots := 0, locals := 141 } s m args below meth c H locs 0 0 (vx_MQ below (mQi g b KX Q (mA b KX s.heap.size)) (mEx g b KX (fun _ _ => False) (mA b KX s.heap.size)) args s 0 0 (mA b KX s.heap.size)) (F0 m 52 ls [])) (x1 : Int) (ox1 : okI x1) (x2 : Int) (ox2 : okI x2) (x3 : Int) (ox3 : okI x3) (x4 : Int) (ox4 : okI x4) (S : mSt) (H : Heap) (locs : List Loc) (ls : Array Slot) (hl : lv_has ls 5 [(1, .int (mI x1)), (2, .int (mI x2)), (3, .int (mI x3)), (4, .int (mI x4))]) (hW : mW g b KX S H) (hS : va_S (mA b KX s.heap.size) s.heap H locs) (h : w_X11_row_12b N Q ko12 ko52 x1 x2 x3 x4 S) : W p l e { frames := 6, cells := 0, slots := 0, locals := 141 } s m args below meth c H locs 0 0 (vx_MQ below (mQi g b KX Q (mA b KX s.heap.size)) (mEx g b KX (fun _ _ => False) (mA b KX s.heap.size)) args s 0 0 (mA b KX s.heap.size)) (F0 m 12 ls []) := by
  unfold w_X11_row_12b at h
  refine m_iload (pc := 12) C.1 dX11_row_12 hl 3 rfl ?_
  refine m_bipush (pc := 14) C.1 dX11_row_14 rfl ?_
  refine m_icmp_ge (pc := 16) (tgt := 52) C.1 ox4 (by decide : okI 16) dX11_row_16 (by decide) (fun hc => ?_) (fun hc => ?_)
  · replace h := h.1 hc
    exact hko52 x2 ox2 S _ _ _ (lv_sub hl [1] rfl) hW hS h
  · replace h := h.2 hc
    refine m_iload_n (pc := 19) C.1 dX11_row_19 rfl hl 0 rfl ?_
    refine m_iload (pc := 20) C.1 dX11_row_20 hl 3 rfl ?_
    refine m_bipush (pc := 22) C.1 dX11_row_22 rfl ?_
    refine m_irem (pc := 24) C.1 (by decide : okI 8) (by decide) dX11_row_24 ?_
    refine m_ishr (pc := 25) C.1 dX11_row_25 ?_
    refine m_iconst (pc := 26) C.1 dX11_row_26 ?_
    refine m_iand (pc := 27) C.1 dX11_row_27 ?_
    refine m_iconst (pc := 28) C.1 dX11_row_28 ?_
    refine m_icmp_ne (pc := 29) (tgt := 38) C.1 (bAnd_ok _ _) (by decide : okI 1) dX11_row_29 (by decide) (fun hc => ?_) (fun hc => ?_)
    · replace h := h.1 hc
      refine m_iconst (pc := 38) C.1 dX11_row_38 ?_
      exact W_X11_row_39 C N hko12 x1 ox1 x2 ox2 x4 ox4 0 (by decide : okI 0) S _ _ _ (lv_sub hl [0, 1, 3] rfl) hW hS h
    · replace h := h.2 hc
      refine m_iload_n (pc := 32) C.1 dX11_row_32 rfl hl 2 rfl ?_
      refine m_iconst (pc := 33) C.1 dX11_row_33 ?_
      refine m_iadd (pc := 34) C.1 dX11_row_34 ?_
      refine m_goto (pc := 35) (tgt := 39) C.1 dX11_row_35 (by decide) ?_
      exact W_X11_row_39 C N hko12 x1 ox1 x2 ox2 x4 ox4 (nm (x3 + 1)) (nm_ok _) S _ _ _ (lv_sub hl [0, 1, 3] rfl) hW hS h
def w_X11_row_12 (N : Nat) (Q : mSt → Int → Prop) (ko52 : Int → mSt → Prop) : Nat → Int → Int → Int → Int → mSt → Prop
  | 0 => fun _ _ _ _ _ => False
  | k + 1 => w_X11_row_12b N Q (w_X11_row_12 N Q ko52 k) ko52
theorem W_X11_row_12 (C : mC p l s m args meth c cX11_row "MoonWash" 5 (some FieldType.int) g) (N : Nat) {Q : mSt → Int → Prop} {ko52 : Int → mSt → Prop} (hko52 : ∀ (x2 : Int) (ox2 : okI x2) (S : mSt) (H : Heap) (locs : List Loc) (ls : Array Slot), lv_has ls 5 [(2, .int (mI x2))] → mW g b KX S H → va_S (mA b KX s.heap.size) s.heap H locs → ko52 x2 S → W p l e { frames := 6, cells := 0, slots := 0, locals := 141 } s m args below meth c H locs 0 0 (vx_MQ below (mQi g b KX Q (mA b KX s.heap.size)) (mEx g b KX (fun _ _ => False) (mA b KX s.heap.size)) args s 0 0 (mA b KX s.heap.size)) (F0 m 52 ls [])) : ∀ (k : Nat) (x1 : Int) (ox1 : okI x1) (x2 : Int) (ox2 : okI x2) (x3 : Int) (ox3 : okI x3) (x4 : Int) (ox4 : okI x4) (S : mSt) (H : Heap) (locs : List Loc) (ls : Array Slot) (hl : lv_has ls 5 [(1, .int (mI x1)), (2, .int (mI x2)), (3, .int (mI x3)), (4, .int (mI x4))]) (hW : mW g b KX S H) (hS : va_S (mA b KX s.heap.size) s.heap H locs) (h : w_X11_row_12 N Q ko52 k x1 x2 x3 x4 S), W p l e { frames := 6, cells := 0, slots := 0, locals := 141 } s m args below meth c H locs 0 0 (vx_MQ below (mQi g b KX Q (mA b KX s.heap.size)) (mEx g b KX (fun _ _ => False) (mA b KX s.heap.size)) args s 0 0 (mA b KX s.heap.size)) (F0 m 12 ls []) := by
  intro k
  induction k with
  | zero => intro x1 ox1 x2 ox2 x3 ox3 x4 ox4 S H locs ls hl hW hS h; exact False.elim h
  | succ k ih => intro x1 ox1 x2 ox2 x3 ox3 x4 ox4 S H locs ls hl hW hS h; exact W_X11_row_12b C N ih hko52 x1 ox1 x2 ox2 x3 ox3 x4 ox4 S H locs ls hl hW hS h
end
def w_X11_row (N : Nat) (r0 : Nat) (S : mSt) (Q : mSt → Int → Prop) : Prop :=
  w_X11_shines N r0 S (fun (S1 : mSt) (v1 : Int) => ∀ v2 : Int, v2 = v1 → ∀ v3 : Int, v3 = 0 → ∀ v4 : Int, v4 = 0 → ∀ v5 : Int, v5 = 0 → w_X11_row_12 N Q (fun (x2_6 : Int) (S_6 : mSt) => Q S_6 (iMin x2_6 8)) N v2 v3 v4 v5 S1)
theorem T_X11_row {l : Launch} (hl0 : l.stackTraces = false) {g : mG} {b : Nat} (N : Nat) (r0 : Nat) (kr0 : KX r0 = (0, 9, 0)) {S : mSt} {Q : mSt → Int → Prop} (h : w_X11_row N r0 S Q) (sz : Nat) : vx_Met l yX11_row (Cond.code yX11_row cX11_row 5 (some FieldType.int) :: wsG) { frames := 6, cells := 0, slots := 0, locals := 141 } (mPc g b KX S [.ref (b + r0)] sz) (mQi g b KX Q (mA b KX sz)) (mEx g b KX (fun _ _ => False) (mA b KX sz)) 0 0 (mA b KX sz) :=
  m_of (av := [.ref (b + r0)]) (Qf := fun A => mQi g b KX Q A) (Xf := fun A => mEx g b KX (fun _ _ => False) A) (by decide) (Nat.le_of_ble_eq_true rfl) (fun p e s m args below meth c ls X hK hml hr hlk hout hnm hW hl => by
    have C : mC p l s m args meth c cX11_row "MoonWash" 5 (some FieldType.int) g := ⟨X, hK, hml, hr, hlk, hout, hl0⟩
    have hS : va_S (mA b KX s.heap.size) s.heap s.heap [] := va_S.rf
    have hl : lv_has ls 5 [(0, .ref (b + r0))] := hl
    unfold w_X11_row at h
    refine m_aload_n (pc := 0) C.1 dX11_row_0 rfl hl 0 rfl ?_
    refine m_callVi (pc := 1) C.1 C.2.2.1 hl.1 C.2.1 hW hS (As := []) (rest := []) (r := r0) (T_X11_shines C.2.2.2.2.2.2 N r0 kr0 h) kr0 rfl q_553 q_536 q_537 q_81 q_538 pl_X11_shines (by decide) (Nat.le_of_ble_eq_true rfl) dX11_row_1 (fun v1 S1 H locs ov1 h hW1 hS => ?_)
    refine m_istore_n (pc := 4) C.1 dX11_row_4 rfl hl (by decide) (fun v => [(1, .int v), (0, .ref (b + r0))]) (fun _ => rfl) ov1 (fun v2 ls ev2 ov2 hl => ?_)
    replace h := h v2 ev2
    refine m_iconst (pc := 5) C.1 dX11_row_5 ?_
    refine m_istore_n (pc := 6) C.1 dX11_row_6 rfl hl (by decide) (fun v => [(2, .int v), (1, .int (mI v2)), (0, .ref (b + r0))]) (fun _ => rfl) (by decide : okI 0) (fun v3 ls ev3 ov3 hl => ?_)
    replace h := h v3 ev3
    refine m_iconst (pc := 7) C.1 dX11_row_7 ?_
    refine m_istore_n (pc := 8) C.1 dX11_row_8 rfl hl (by decide) (fun v => [(3, .int v), (2, .int (mI v3)), (1, .int (mI v2)), (0, .ref (b + r0))]) (fun _ => rfl) (by decide : okI 0) (fun v4 ls ev4 ov4 hl => ?_)
    replace h := h v4 ev4
    refine m_iconst (pc := 9) C.1 dX11_row_9 ?_
    refine m_istore (pc := 10) C.1 dX11_row_10 hl (by decide) (fun v => [(4, .int v), (3, .int (mI v4)), (2, .int (mI v3)), (1, .int (mI v2)), (0, .ref (b + r0))]) (fun _ => rfl) (by decide : okI 0) (fun v5 ls ev5 ov5 hl => ?_)
    replace h := h v5 ev5
    refine W_X11_row_12 C N ?_ N v2 ov2 v3 ov3 v4 ov4 v5 ov5 S1 _ _ _ (lv_sub hl [3, 2, 1, 0] rfl) hW1 hS h
    · intro x2_6 ox2_6 S_6 H locs ls hl hW_6 hS h
      refine m_iload_n (pc := 52) C.1 dX11_row_52 rfl hl 0 rfl ?_
      refine m_bipush (pc := 53) C.1 dX11_row_53 rfl ?_
      refine m_min (pc := 55) C.1 C.2.2.1 hl.1 ox2_6 (by decide : okI 8) q_555 q_520 q_93 q_521 (by refine ⟨?_, Nat.le_of_ble_eq_true rfl, ?_, ?_⟩ <;> decide) dX11_row_55 ?_
      exact m_iret (pc := 58) C.1 C.2.2.2.1 C.2.2.2.2.1 hW_6 hS (iMin_ok ox2_6 (by decide : okI 8)) h (by decide) (by decide) dX11_row_58) sz
section
variable {p : Program} {l : Launch} {e : Env} {s : State} {m : MethodId} {args : Array Value} {below : List Frame} {meth : Method} {c : Code} {g : mG} {b : Nat}
def w_X11_darkest_54 (N : Nat) (Q : mSt → Int → Prop) (ko20 : Nat → Int → Int → Int → mSt → Prop) (r0 : Nat) (x1 : Int) (x2 : Int) (x3 : Int) (S : mSt) : Prop :=
  ∀ v1 : Int, v1 = nm (x3 + 1) → ko20 r0 x1 x2 v1 S
theorem W_X11_darkest_54 (C : mC p l s m args meth c cX11_darkest "MoonWash" 5 (some FieldType.int) g) (N : Nat) {Q : mSt → Int → Prop} {ko20 : Nat → Int → Int → Int → mSt → Prop} (hko20 : ∀ (r0 : Nat) (kr0 : KX r0 = (0, 9, 0)) (x1 : Int) (ox1 : okI x1) (x2 : Int) (ox2 : okI x2) (x3 : Int) (ox3 : okI x3) (S : mSt) (H : Heap) (locs : List Loc) (ls : Array Slot), lv_has ls 5 [(0, .ref (b + r0)), (1, .int (mI x1)), (2, .int (mI x2)), (3, .int (mI x3))] → mW g b KX S H → va_S (mA b KX s.heap.size) s.heap H locs → ko20 r0 x1 x2 x3 S → W p l e { frames := 5, cells := 0, slots := 0, locals := 119 } s m args below meth c H locs 0 0 (vx_MQ below (mQi g b KX Q (mA b KX s.heap.size)) (mEx g b KX (fun _ _ => False) (mA b KX s.heap.size)) args s 0 0 (mA b KX s.heap.size)) (F0 m 20 ls [])) (r0 : Nat) (kr0 : KX r0 = (0, 9, 0)) (x1 : Int) (ox1 : okI x1) (x2 : Int) (ox2 : okI x2) (x3 : Int) (ox3 : okI x3) (S : mSt) (H : Heap) (locs : List Loc) (ls : Array Slot) (hl : lv_has ls 5 [(0, .ref (b + r0)), (1, .int (mI x1)), (2, .int (mI x2)), (3, .int (mI x3))]) (hW : mW g b KX S H) (hS : va_S (mA b KX s.heap.size) s.heap H locs) (h : w_X11_darkest_54 N Q ko20 r0 x1 x2 x3 S) : W p l e { frames := 5, cells := 0, slots := 0, locals := 119 } s m args below meth c H locs 0 0 (vx_MQ below (mQi g b KX Q (mA b KX s.heap.size)) (mEx g b KX (fun _ _ => False) (mA b KX s.heap.size)) args s 0 0 (mA b KX s.heap.size)) (F0 m 54 ls []) := by
  unfold w_X11_darkest_54 at h
  refine m_iinc (pc := 54) C.1 dX11_darkest_54 hl (by decide) (q0 := 3) rfl (fun v => [(3, .int v), (0, .ref (b + r0)), (1, .int (mI x1)), (2, .int (mI x2))]) (fun _ => rfl) (fun v1 ls ev1 ov1 hl => ?_)
  replace h := h v1 ev1
  refine m_goto (pc := 57) (tgt := 20) C.1 dX11_darkest_57 (by decide) ?_
  exact hko20 r0 kr0 x1 ox1 x2 ox2 v1 ov1 S _ _ _ (lv_sub hl [1, 2, 3, 0] rfl) hW hS h
def w_X11_darkest_20b (N : Nat) (Q : mSt → Int → Prop) (ko20 : Nat → Int → Int → Int → mSt → Prop) (ko60 : Int → mSt → Prop) (r0 : Nat) (x1 : Int) (x2 : Int) (x3 : Int) (S : mSt) : Prop :=
  ((8 ≤ x3 → ko60 x1 S) ∧ (x3 < 8 → ∀ q1 : Nat, (q1 : Int) = S r0 5 → ∀ q2 : Nat, (q2 : Int) = S r0 3 → w_X3_lightOf N q1 (q2 + 1) x3 S (fun (S3 : mSt) (v3 : Int) => ∀ v4 : Int, v4 = v3 → ((x2 ≤ v4 → w_X11_darkest_54 N Q ko20 r0 x1 x2 x3 S3) ∧ (v4 < x2 → ∀ v5 : Int, v5 = v4 → ∀ v6 : Int, v6 = x3 → w_X11_darkest_54 N Q ko20 r0 v6 v5 x3 S3)))))
theorem W_X11_darkest_20b (C : mC p l s m args meth c cX11_darkest "MoonWash" 5 (some FieldType.int) g) (N : Nat) {Q : mSt → Int → Prop} {ko20 : Nat → Int → Int → Int → mSt → Prop} {ko60 : Int → mSt → Prop} (hko20 : ∀ (r0 : Nat) (kr0 : KX r0 = (0, 9, 0)) (x1 : Int) (ox1 : okI x1) (x2 : Int) (ox2 : okI x2) (x3 : Int) (ox3 : okI x3) (S : mSt) (H : Heap) (locs : List Loc) (ls : Array Slot), lv_has ls 5 [(0, .ref (b + r0)), (1, .int (mI x1)), (2, .int (mI x2)), (3, .int (mI x3))] → mW g b KX S H → va_S (mA b KX s.heap.size) s.heap H locs → ko20 r0 x1 x2 x3 S → W p l e { frames := 5, cells := 0, slots := 0, locals := 119 } s m args below meth c H locs 0 0 (vx_MQ below (mQi g b KX Q (mA b KX s.heap.size)) (mEx g b KX (fun _ _ => False) (mA b KX s.heap.size)) args s 0 0 (mA b KX s.heap.size)) (F0 m 20 ls [])) (hko60 : ∀ (x1 : Int) (ox1 : okI x1) (S : mSt) (H : Heap) (locs : List Loc) (ls : Array Slot), lv_has ls 5 [(1, .int (mI x1))] → mW g b KX S H → va_S (mA b KX s.heap.size) s.heap H locs → ko60 x1 S → W p l e { frames := 5, cells := 0, slots := 0, locals := 119 } s m args below meth c H locs 0 0 (vx_MQ below (mQi g b KX Q (mA b KX s.heap.size)) (mEx g b KX (fun _ _ => False) (mA b KX s.heap.size)) args s 0 0 (mA b KX s.heap.size)) (F0 m 60 ls [])) (r0 : Nat) (kr0 : KX r0 = (0, 9, 0)) (x1 : Int) (ox1 : okI x1) (x2 : Int) (ox2 : okI x2) (x3 : Int) (ox3 : okI x3) (S : mSt) (H : Heap) (locs : List Loc) (ls : Array Slot) (hl : lv_has ls 5 [(0, .ref (b + r0)), (1, .int (mI x1)), (2, .int (mI x2)), (3, .int (mI x3))]) (hW : mW g b KX S H) (hS : va_S (mA b KX s.heap.size) s.heap H locs) (h : w_X11_darkest_20b N Q ko20 ko60 r0 x1 x2 x3 S) : W p l e { frames := 5, cells := 0, slots := 0, locals := 119 } s m args below meth c H locs 0 0 (vx_MQ below (mQi g b KX Q (mA b KX s.heap.size)) (mEx g b KX (fun _ _ => False) (mA b KX s.heap.size)) args s 0 0 (mA b KX s.heap.size)) (F0 m 20 ls []) := by
  unfold w_X11_darkest_20b at h
  refine m_iload_n (pc := 20) C.1 dX11_darkest_20 rfl hl 3 rfl ?_
  refine m_bipush (pc := 21) C.1 dX11_darkest_21 rfl ?_
  refine m_icmp_ge (pc := 23) (tgt := 60) C.1 ox3 (by decide : okI 8) dX11_darkest_23 (by decide) (fun hc => ?_) (fun hc => ?_)
  · replace h := h.1 hc
    exact hko60 x1 ox1 S _ _ _ (lv_sub hl [1] rfl) hW hS h
  · replace h := h.2 hc
    refine m_aload_n (pc := 26) C.1 dX11_darkest_26 rfl hl 0 rfl ?_
    refine g_9_5 (pc := 27) C hW kr0 q_397 dX11_darkest_27 (fun q1 eq1 kq1 => ?_)
    replace h := h q1 eq1
    refine m_aload_n (pc := 30) C.1 dX11_darkest_30 rfl hl 0 rfl ?_
    refine g_9_3 (pc := 31) C hW kr0 q_395 dX11_darkest_31 (fun q2 eq2 kq2 => ?_)
    replace h := h q2 eq2
    refine g_1_0 (pc := 34) C hW kq2 q_187 dX11_darkest_34 ?_
    refine m_iload_n (pc := 37) C.1 dX11_darkest_37 rfl hl 3 rfl ?_
    refine m_callVi (pc := 38) C.1 C.2.2.1 hl.1 C.2.1 hW hS (As := [.ref (b + (q2 + 1)), .int (mI x3)]) (rest := []) (r := q1) (T_X3_lightOf C.2.2.2.2.2.2 N q1 kq1 (q2 + 1) (k_1_0 kq2) x3 ox3 h) kq1 rfl q_539 q_487 q_488 q_84 q_489 pl_X3_lightOf (by decide) (Nat.le_of_ble_eq_true rfl) dX11_darkest_38 (fun v3 S3 H locs ov3 h hW3 hS => ?_)
    refine m_istore (pc := 41) C.1 dX11_darkest_41 hl (by decide) (fun v => [(4, .int v), (0, .ref (b + r0)), (1, .int (mI x1)), (2, .int (mI x2)), (3, .int (mI x3))]) (fun _ => rfl) ov3 (fun v4 ls ev4 ov4 hl => ?_)
    replace h := h v4 ev4
    refine m_iload (pc := 43) C.1 dX11_darkest_43 hl 0 rfl ?_
    refine m_iload_n (pc := 45) C.1 dX11_darkest_45 rfl hl 3 rfl ?_
    refine m_icmp_ge (pc := 46) (tgt := 54) C.1 ov4 ox2 dX11_darkest_46 (by decide) (fun hc => ?_) (fun hc => ?_)
    · replace h := h.1 hc
      exact W_X11_darkest_54 C N hko20 r0 kr0 x1 ox1 x2 ox2 x3 ox3 S3 _ _ _ (lv_sub hl [1, 2, 3, 4] rfl) hW3 hS h
    · replace h := h.2 hc
      refine m_iload (pc := 49) C.1 dX11_darkest_49 hl 0 rfl ?_
      refine m_istore_n (pc := 51) C.1 dX11_darkest_51 rfl hl (by decide) (fun v => [(2, .int v), (4, .int (mI v4)), (0, .ref (b + r0)), (1, .int (mI x1)), (3, .int (mI x3))]) (fun _ => rfl) ov4 (fun v5 ls ev5 ov5 hl => ?_)
      replace h := h v5 ev5
      refine m_iload_n (pc := 52) C.1 dX11_darkest_52 rfl hl 4 rfl ?_
      refine m_istore_n (pc := 53) C.1 dX11_darkest_53 rfl hl (by decide) (fun v => [(1, .int v), (2, .int (mI v5)), (4, .int (mI v4)), (0, .ref (b + r0)), (3, .int (mI x3))]) (fun _ => rfl) ox3 (fun v6 ls ev6 ov6 hl => ?_)
      replace h := h v6 ev6
      exact W_X11_darkest_54 C N hko20 r0 kr0 v6 ov6 v5 ov5 x3 ox3 S3 _ _ _ (lv_sub hl [3, 0, 1, 4] rfl) hW3 hS h
def w_X11_darkest_20 (N : Nat) (Q : mSt → Int → Prop) (ko60 : Int → mSt → Prop) : Nat → Nat → Int → Int → Int → mSt → Prop
  | 0 => fun _ _ _ _ _ => False
  | k + 1 => w_X11_darkest_20b N Q (w_X11_darkest_20 N Q ko60 k) ko60
theorem W_X11_darkest_20 (C : mC p l s m args meth c cX11_darkest "MoonWash" 5 (some FieldType.int) g) (N : Nat) {Q : mSt → Int → Prop} {ko60 : Int → mSt → Prop} (hko60 : ∀ (x1 : Int) (ox1 : okI x1) (S : mSt) (H : Heap) (locs : List Loc) (ls : Array Slot), lv_has ls 5 [(1, .int (mI x1))] → mW g b KX S H → va_S (mA b KX s.heap.size) s.heap H locs → ko60 x1 S → W p l e { frames := 5, cells := 0, slots := 0, locals := 119 } s m args below meth c H locs 0 0 (vx_MQ below (mQi g b KX Q (mA b KX s.heap.size)) (mEx g b KX (fun _ _ => False) (mA b KX s.heap.size)) args s 0 0 (mA b KX s.heap.size)) (F0 m 60 ls [])) : ∀ (k : Nat) (r0 : Nat) (kr0 : KX r0 = (0, 9, 0)) (x1 : Int) (ox1 : okI x1) (x2 : Int) (ox2 : okI x2) (x3 : Int) (ox3 : okI x3) (S : mSt) (H : Heap) (locs : List Loc) (ls : Array Slot) (hl : lv_has ls 5 [(0, .ref (b + r0)), (1, .int (mI x1)), (2, .int (mI x2)), (3, .int (mI x3))]) (hW : mW g b KX S H) (hS : va_S (mA b KX s.heap.size) s.heap H locs) (h : w_X11_darkest_20 N Q ko60 k r0 x1 x2 x3 S), W p l e { frames := 5, cells := 0, slots := 0, locals := 119 } s m args below meth c H locs 0 0 (vx_MQ below (mQi g b KX Q (mA b KX s.heap.size)) (mEx g b KX (fun _ _ => False) (mA b KX s.heap.size)) args s 0 0 (mA b KX s.heap.size)) (F0 m 20 ls []) := by
  intro k
  induction k with
  | zero => intro r0 kr0 x1 ox1 x2 ox2 x3 ox3 S H locs ls hl hW hS h; exact False.elim h
  | succ k ih => intro r0 kr0 x1 ox1 x2 ox2 x3 ox3 S H locs ls hl hW hS h; exact W_X11_darkest_20b C N ih hko60 r0 kr0 x1 ox1 x2 ox2 x3 ox3 S H locs ls hl hW hS h
end
def w_X11_darkest (N : Nat) (r0 : Nat) (S : mSt) (Q : mSt → Int → Prop) : Prop :=
  ∀ v1 : Int, v1 = 0 → ∀ q2 : Nat, (q2 : Int) = S r0 5 → ∀ q3 : Nat, (q3 : Int) = S r0 3 → w_X3_lightOf N q2 (q3 + 1) 0 S (fun (S4 : mSt) (v4 : Int) => ∀ v5 : Int, v5 = v4 → ∀ v6 : Int, v6 = 1 → w_X11_darkest_20 N Q (fun (x1_7 : Int) (S_7 : mSt) => Q S_7 x1_7) N r0 v1 v5 v6 S4)
theorem T_X11_darkest {l : Launch} (hl0 : l.stackTraces = false) {g : mG} {b : Nat} (N : Nat) (r0 : Nat) (kr0 : KX r0 = (0, 9, 0)) {S : mSt} {Q : mSt → Int → Prop} (h : w_X11_darkest N r0 S Q) (sz : Nat) : vx_Met l yX11_darkest (Cond.code yX11_darkest cX11_darkest 5 (some FieldType.int) :: wsG) { frames := 5, cells := 0, slots := 0, locals := 119 } (mPc g b KX S [.ref (b + r0)] sz) (mQi g b KX Q (mA b KX sz)) (mEx g b KX (fun _ _ => False) (mA b KX sz)) 0 0 (mA b KX sz) :=
  m_of (av := [.ref (b + r0)]) (Qf := fun A => mQi g b KX Q A) (Xf := fun A => mEx g b KX (fun _ _ => False) A) (by decide) (Nat.le_of_ble_eq_true rfl) (fun p e s m args below meth c ls X hK hml hr hlk hout hnm hW hl => by
    have C : mC p l s m args meth c cX11_darkest "MoonWash" 5 (some FieldType.int) g := ⟨X, hK, hml, hr, hlk, hout, hl0⟩
    have hS : va_S (mA b KX s.heap.size) s.heap s.heap [] := va_S.rf
    have hl : lv_has ls 5 [(0, .ref (b + r0))] := hl
    unfold w_X11_darkest at h
    refine m_iconst (pc := 0) C.1 dX11_darkest_0 ?_
    refine m_istore_n (pc := 1) C.1 dX11_darkest_1 rfl hl (by decide) (fun v => [(1, .int v), (0, .ref (b + r0))]) (fun _ => rfl) (by decide : okI 0) (fun v1 ls ev1 ov1 hl => ?_)
    replace h := h v1 ev1
    refine m_aload_n (pc := 2) C.1 dX11_darkest_2 rfl hl 1 rfl ?_
    refine g_9_5 (pc := 3) C hW kr0 q_397 dX11_darkest_3 (fun q2 eq2 kq2 => ?_)
    replace h := h q2 eq2
    refine m_aload_n (pc := 6) C.1 dX11_darkest_6 rfl hl 1 rfl ?_
    refine g_9_3 (pc := 7) C hW kr0 q_395 dX11_darkest_7 (fun q3 eq3 kq3 => ?_)
    replace h := h q3 eq3
    refine g_1_0 (pc := 10) C hW kq3 q_187 dX11_darkest_10 ?_
    refine m_iconst (pc := 13) C.1 dX11_darkest_13 ?_
    refine m_callVi (pc := 14) C.1 C.2.2.1 hl.1 C.2.1 hW hS (As := [.ref (b + (q3 + 1)), .int (mI 0)]) (rest := []) (r := q2) (T_X3_lightOf C.2.2.2.2.2.2 N q2 kq2 (q3 + 1) (k_1_0 kq3) 0 (by decide : okI 0) h) kq2 rfl q_539 q_487 q_488 q_84 q_489 pl_X3_lightOf (by decide) (Nat.le_of_ble_eq_true rfl) dX11_darkest_14 (fun v4 S4 H locs ov4 h hW4 hS => ?_)
    refine m_istore_n (pc := 17) C.1 dX11_darkest_17 rfl hl (by decide) (fun v => [(2, .int v), (1, .int (mI v1)), (0, .ref (b + r0))]) (fun _ => rfl) ov4 (fun v5 ls ev5 ov5 hl => ?_)
    replace h := h v5 ev5
    refine m_iconst (pc := 18) C.1 dX11_darkest_18 ?_
    refine m_istore_n (pc := 19) C.1 dX11_darkest_19 rfl hl (by decide) (fun v => [(3, .int v), (2, .int (mI v5)), (1, .int (mI v1)), (0, .ref (b + r0))]) (fun _ => rfl) (by decide : okI 1) (fun v6 ls ev6 ov6 hl => ?_)
    replace h := h v6 ev6
    refine W_X11_darkest_20 C N ?_ N r0 kr0 v1 ov1 v5 ov5 v6 ov6 S4 _ _ _ (lv_sub hl [3, 2, 1, 0] rfl) hW4 hS h
    · intro x1_7 ox1_7 S_7 H locs ls hl hW_7 hS h
      refine m_iload_n (pc := 60) C.1 dX11_darkest_60 rfl hl 0 rfl ?_
      exact m_iret (pc := 61) C.1 C.2.2.2.1 C.2.2.2.2.1 hW_7 hS ox1_7 h (by decide) (by decide) dX11_darkest_61) sz
section
variable {p : Program} {l : Launch} {e : Env} {s : State} {m : MethodId} {args : Array Value} {below : List Frame} {meth : Method} {c : Code} {g : mG} {b : Nat}
def w_X11_halves_37b (N : Nat) (Q : mSt → Int → Prop) (ko37 : Nat → Int → Int → Int → Int → Int → Int → mSt → Prop) (ko76 : Nat → Int → Int → Int → Int → Int → mSt → Prop) (r0 : Nat) (x1 : Int) (x2 : Int) (x3 : Int) (x4 : Int) (x5 : Int) (x6 : Int) (S : mSt) : Prop :=
  ((4 ≤ x6 → ko76 r0 x1 x2 x3 x4 x5 S) ∧ (x6 < 4 → ∀ q1 : Nat, (q1 : Int) = S r0 5 → ∀ q2 : Nat, (q2 : Int) = S r0 3 → w_X3_lightOf N q1 (q2 + 1) (iRem (nm (x4 + x6)) 8) S (fun (S3 : mSt) (v3 : Int) => ∀ v4 : Int, v4 = (nm (x5 + v3)) → ∀ v5 : Int, v5 = nm (x6 + 1) → ko37 r0 x1 x2 x3 x4 v4 v5 S3)))
theorem W_X11_halves_37b (C : mC p l s m args meth c cX11_halves "MoonWash" 7 (some FieldType.int) g) (N : Nat) {Q : mSt → Int → Prop} {ko37 : Nat → Int → Int → Int → Int → Int → Int → mSt → Prop} {ko76 : Nat → Int → Int → Int → Int → Int → mSt → Prop} (hko37 : ∀ (r0 : Nat) (kr0 : KX r0 = (0, 9, 0)) (x1 : Int) (ox1 : okI x1) (x2 : Int) (ox2 : okI x2) (x3 : Int) (ox3 : okI x3) (x4 : Int) (ox4 : okI x4) (x5 : Int) (ox5 : okI x5) (x6 : Int) (ox6 : okI x6) (S : mSt) (H : Heap) (locs : List Loc) (ls : Array Slot), lv_has ls 7 [(0, .ref (b + r0)), (1, .int (mI x1)), (2, .int (mI x2)), (3, .int (mI x3)), (4, .int (mI x4)), (5, .int (mI x5)), (6, .int (mI x6))] → mW g b KX S H → va_S (mA b KX s.heap.size) s.heap H locs → ko37 r0 x1 x2 x3 x4 x5 x6 S → W p l e { frames := 6, cells := 0, slots := 0, locals := 142 } s m args below meth c H locs 0 0 (vx_MQ below (mQi g b KX Q (mA b KX s.heap.size)) (mEx g b KX (fun _ _ => False) (mA b KX s.heap.size)) args s 0 0 (mA b KX s.heap.size)) (F0 m 37 ls [])) (hko76 : ∀ (r0 : Nat) (kr0 : KX r0 = (0, 9, 0)) (x1 : Int) (ox1 : okI x1) (x2 : Int) (ox2 : okI x2) (x3 : Int) (ox3 : okI x3) (x4 : Int) (ox4 : okI x4) (x5 : Int) (ox5 : okI x5) (S : mSt) (H : Heap) (locs : List Loc) (ls : Array Slot), lv_has ls 7 [(0, .ref (b + r0)), (1, .int (mI x1)), (2, .int (mI x2)), (3, .int (mI x3)), (4, .int (mI x4)), (5, .int (mI x5))] → mW g b KX S H → va_S (mA b KX s.heap.size) s.heap H locs → ko76 r0 x1 x2 x3 x4 x5 S → W p l e { frames := 6, cells := 0, slots := 0, locals := 142 } s m args below meth c H locs 0 0 (vx_MQ below (mQi g b KX Q (mA b KX s.heap.size)) (mEx g b KX (fun _ _ => False) (mA b KX s.heap.size)) args s 0 0 (mA b KX s.heap.size)) (F0 m 76 ls [])) (r0 : Nat) (kr0 : KX r0 = (0, 9, 0)) (x1 : Int) (ox1 : okI x1) (x2 : Int) (ox2 : okI x2) (x3 : Int) (ox3 : okI x3) (x4 : Int) (ox4 : okI x4) (x5 : Int) (ox5 : okI x5) (x6 : Int) (ox6 : okI x6) (S : mSt) (H : Heap) (locs : List Loc) (ls : Array Slot) (hl : lv_has ls 7 [(0, .ref (b + r0)), (1, .int (mI x1)), (2, .int (mI x2)), (3, .int (mI x3)), (4, .int (mI x4)), (5, .int (mI x5)), (6, .int (mI x6))]) (hW : mW g b KX S H) (hS : va_S (mA b KX s.heap.size) s.heap H locs) (h : w_X11_halves_37b N Q ko37 ko76 r0 x1 x2 x3 x4 x5 x6 S) : W p l e { frames := 6, cells := 0, slots := 0, locals := 142 } s m args below meth c H locs 0 0 (vx_MQ below (mQi g b KX Q (mA b KX s.heap.size)) (mEx g b KX (fun _ _ => False) (mA b KX s.heap.size)) args s 0 0 (mA b KX s.heap.size)) (F0 m 37 ls []) := by
  unfold w_X11_halves_37b at h
  refine m_iload (pc := 37) C.1 dX11_halves_37 hl 6 rfl ?_
  refine m_iconst (pc := 39) C.1 dX11_halves_39 ?_
  refine m_icmp_ge (pc := 40) (tgt := 76) C.1 ox6 (by decide : okI 4) dX11_halves_40 (by decide) (fun hc => ?_) (fun hc => ?_)
  · replace h := h.1 hc
    exact hko76 r0 kr0 x1 ox1 x2 ox2 x3 ox3 x4 ox4 x5 ox5 S _ _ _ (lv_sub hl [0, 1, 2, 3, 4, 5] rfl) hW hS h
  · replace h := h.2 hc
    refine m_iload (pc := 43) C.1 dX11_halves_43 hl 5 rfl ?_
    refine m_aload_n (pc := 45) C.1 dX11_halves_45 rfl hl 0 rfl ?_
    refine g_9_5 (pc := 46) C hW kr0 q_397 dX11_halves_46 (fun q1 eq1 kq1 => ?_)
    replace h := h q1 eq1
    refine m_aload_n (pc := 49) C.1 dX11_halves_49 rfl hl 0 rfl ?_
    refine g_9_3 (pc := 50) C hW kr0 q_395 dX11_halves_50 (fun q2 eq2 kq2 => ?_)
    replace h := h q2 eq2
    refine g_1_0 (pc := 53) C hW kq2 q_187 dX11_halves_53 ?_
    refine m_iload (pc := 56) C.1 dX11_halves_56 hl 4 rfl ?_
    refine m_iload (pc := 58) C.1 dX11_halves_58 hl 6 rfl ?_
    refine m_iadd (pc := 60) C.1 dX11_halves_60 ?_
    refine m_bipush (pc := 61) C.1 dX11_halves_61 rfl ?_
    refine m_irem (pc := 63) C.1 (by decide : okI 8) (by decide) dX11_halves_63 ?_
    refine m_callVi (pc := 64) C.1 C.2.2.1 hl.1 C.2.1 hW hS (As := [.ref (b + (q2 + 1)), .int (mI (iRem (nm (x4 + x6)) 8))]) (rest := [.int (mI x5)]) (r := q1) (T_X3_lightOf C.2.2.2.2.2.2 N q1 kq1 (q2 + 1) (k_1_0 kq2) (iRem (nm (x4 + x6)) 8) (iRem_ok _ _) h) kq1 rfl q_539 q_487 q_488 q_84 q_489 pl_X3_lightOf (by decide) (Nat.le_of_ble_eq_true rfl) dX11_halves_64 (fun v3 S3 H locs ov3 h hW3 hS => ?_)
    refine m_iadd (pc := 67) C.1 dX11_halves_67 ?_
    refine m_istore (pc := 68) C.1 dX11_halves_68 hl (by decide) (fun v => [(5, .int v), (0, .ref (b + r0)), (1, .int (mI x1)), (2, .int (mI x2)), (3, .int (mI x3)), (4, .int (mI x4)), (6, .int (mI x6))]) (fun _ => rfl) (nm_ok _) (fun v4 ls ev4 ov4 hl => ?_)
    replace h := h v4 ev4
    refine m_iinc (pc := 70) C.1 dX11_halves_70 hl (by decide) (q0 := 6) rfl (fun v => [(6, .int v), (5, .int (mI v4)), (0, .ref (b + r0)), (1, .int (mI x1)), (2, .int (mI x2)), (3, .int (mI x3)), (4, .int (mI x4))]) (fun _ => rfl) (fun v5 ls ev5 ov5 hl => ?_)
    replace h := h v5 ev5
    refine m_goto (pc := 73) (tgt := 37) C.1 dX11_halves_73 (by decide) ?_
    exact hko37 r0 kr0 x1 ox1 x2 ox2 x3 ox3 x4 ox4 v4 ov4 v5 ov5 S3 _ _ _ (lv_sub hl [2, 3, 4, 5, 6, 1, 0] rfl) hW3 hS h
def w_X11_halves_37 (N : Nat) (Q : mSt → Int → Prop) (ko76 : Nat → Int → Int → Int → Int → Int → mSt → Prop) : Nat → Nat → Int → Int → Int → Int → Int → Int → mSt → Prop
  | 0 => fun _ _ _ _ _ _ _ _ => False
  | k + 1 => w_X11_halves_37b N Q (w_X11_halves_37 N Q ko76 k) ko76
theorem W_X11_halves_37 (C : mC p l s m args meth c cX11_halves "MoonWash" 7 (some FieldType.int) g) (N : Nat) {Q : mSt → Int → Prop} {ko76 : Nat → Int → Int → Int → Int → Int → mSt → Prop} (hko76 : ∀ (r0 : Nat) (kr0 : KX r0 = (0, 9, 0)) (x1 : Int) (ox1 : okI x1) (x2 : Int) (ox2 : okI x2) (x3 : Int) (ox3 : okI x3) (x4 : Int) (ox4 : okI x4) (x5 : Int) (ox5 : okI x5) (S : mSt) (H : Heap) (locs : List Loc) (ls : Array Slot), lv_has ls 7 [(0, .ref (b + r0)), (1, .int (mI x1)), (2, .int (mI x2)), (3, .int (mI x3)), (4, .int (mI x4)), (5, .int (mI x5))] → mW g b KX S H → va_S (mA b KX s.heap.size) s.heap H locs → ko76 r0 x1 x2 x3 x4 x5 S → W p l e { frames := 6, cells := 0, slots := 0, locals := 142 } s m args below meth c H locs 0 0 (vx_MQ below (mQi g b KX Q (mA b KX s.heap.size)) (mEx g b KX (fun _ _ => False) (mA b KX s.heap.size)) args s 0 0 (mA b KX s.heap.size)) (F0 m 76 ls [])) : ∀ (k : Nat) (r0 : Nat) (kr0 : KX r0 = (0, 9, 0)) (x1 : Int) (ox1 : okI x1) (x2 : Int) (ox2 : okI x2) (x3 : Int) (ox3 : okI x3) (x4 : Int) (ox4 : okI x4) (x5 : Int) (ox5 : okI x5) (x6 : Int) (ox6 : okI x6) (S : mSt) (H : Heap) (locs : List Loc) (ls : Array Slot) (hl : lv_has ls 7 [(0, .ref (b + r0)), (1, .int (mI x1)), (2, .int (mI x2)), (3, .int (mI x3)), (4, .int (mI x4)), (5, .int (mI x5)), (6, .int (mI x6))]) (hW : mW g b KX S H) (hS : va_S (mA b KX s.heap.size) s.heap H locs) (h : w_X11_halves_37 N Q ko76 k r0 x1 x2 x3 x4 x5 x6 S), W p l e { frames := 6, cells := 0, slots := 0, locals := 142 } s m args below meth c H locs 0 0 (vx_MQ below (mQi g b KX Q (mA b KX s.heap.size)) (mEx g b KX (fun _ _ => False) (mA b KX s.heap.size)) args s 0 0 (mA b KX s.heap.size)) (F0 m 37 ls []) := by
  intro k
  induction k with
  | zero => intro r0 kr0 x1 ox1 x2 ox2 x3 ox3 x4 ox4 x5 ox5 x6 ox6 S H locs ls hl hW hS h; exact False.elim h
  | succ k ih => intro r0 kr0 x1 ox1 x2 ox2 x3 ox3 x4 ox4 x5 ox5 x6 ox6 S H locs ls hl hW hS h; exact W_X11_halves_37b C N ih hko76 r0 kr0 x1 ox1 x2 ox2 x3 ox3 x4 ox4 x5 ox5 x6 ox6 S H locs ls hl hW hS h
def w_X11_halves_99 (N : Nat) (Q : mSt → Int → Prop) (ko24 : Nat → Int → Int → Int → Int → mSt → Prop) (r0 : Nat) (x1 : Int) (x2 : Int) (x3 : Int) (x4 : Int) (S : mSt) : Prop :=
  ∀ v1 : Int, v1 = nm (x4 + 1) → ko24 r0 x1 x2 x3 v1 S
theorem W_X11_halves_99 (C : mC p l s m args meth c cX11_halves "MoonWash" 7 (some FieldType.int) g) (N : Nat) {Q : mSt → Int → Prop} {ko24 : Nat → Int → Int → Int → Int → mSt → Prop} (hko24 : ∀ (r0 : Nat) (kr0 : KX r0 = (0, 9, 0)) (x1 : Int) (ox1 : okI x1) (x2 : Int) (ox2 : okI x2) (x3 : Int) (ox3 : okI x3) (x4 : Int) (ox4 : okI x4) (S : mSt) (H : Heap) (locs : List Loc) (ls : Array Slot), lv_has ls 7 [(0, .ref (b + r0)), (1, .int (mI x1)), (2, .int (mI x2)), (3, .int (mI x3)), (4, .int (mI x4))] → mW g b KX S H → va_S (mA b KX s.heap.size) s.heap H locs → ko24 r0 x1 x2 x3 x4 S → W p l e { frames := 6, cells := 0, slots := 0, locals := 142 } s m args below meth c H locs 0 0 (vx_MQ below (mQi g b KX Q (mA b KX s.heap.size)) (mEx g b KX (fun _ _ => False) (mA b KX s.heap.size)) args s 0 0 (mA b KX s.heap.size)) (F0 m 24 ls [])) (r0 : Nat) (kr0 : KX r0 = (0, 9, 0)) (x1 : Int) (ox1 : okI x1) (x2 : Int) (ox2 : okI x2) (x3 : Int) (ox3 : okI x3) (x4 : Int) (ox4 : okI x4) (S : mSt) (H : Heap) (locs : List Loc) (ls : Array Slot) (hl : lv_has ls 7 [(0, .ref (b + r0)), (1, .int (mI x1)), (2, .int (mI x2)), (3, .int (mI x3)), (4, .int (mI x4))]) (hW : mW g b KX S H) (hS : va_S (mA b KX s.heap.size) s.heap H locs) (h : w_X11_halves_99 N Q ko24 r0 x1 x2 x3 x4 S) : W p l e { frames := 6, cells := 0, slots := 0, locals := 142 } s m args below meth c H locs 0 0 (vx_MQ below (mQi g b KX Q (mA b KX s.heap.size)) (mEx g b KX (fun _ _ => False) (mA b KX s.heap.size)) args s 0 0 (mA b KX s.heap.size)) (F0 m 99 ls []) := by
  unfold w_X11_halves_99 at h
  refine m_iinc (pc := 99) C.1 dX11_halves_99 hl (by decide) (q0 := 4) rfl (fun v => [(4, .int v), (0, .ref (b + r0)), (1, .int (mI x1)), (2, .int (mI x2)), (3, .int (mI x3))]) (fun _ => rfl) (fun v1 ls ev1 ov1 hl => ?_)
  replace h := h v1 ev1
  refine m_goto (pc := 102) (tgt := 24) C.1 dX11_halves_102 (by decide) ?_
  exact hko24 r0 kr0 x1 ox1 x2 ox2 x3 ox3 v1 ov1 S _ _ _ (lv_sub hl [1, 2, 3, 4, 0] rfl) hW hS h
def w_X11_halves_24b (N : Nat) (Q : mSt → Int → Prop) (ko24 : Nat → Int → Int → Int → Int → mSt → Prop) (ko105 : Int → mSt → Prop) (r0 : Nat) (x1 : Int) (x2 : Int) (x3 : Int) (x4 : Int) (S : mSt) : Prop :=
  ((8 ≤ x4 → ko105 x2 S) ∧ (x4 < 8 → ∀ v1 : Int, v1 = 0 → ∀ v2 : Int, v2 = 0 → w_X11_halves_37 N Q (fun (r0_3 : Nat) (x1_3 : Int) (x2_3 : Int) (x3_3 : Int) (x4_3 : Int) (x5_3 : Int) (S_3 : mSt) => ∀ v4 : Int, v4 = (iAbs (nm ((nm (2 * x5_3)) - x1_3))) → ((x3_3 ≤ v4 → w_X11_halves_99 N Q ko24 r0_3 x1_3 x2_3 x3_3 x4_3 S_3) ∧ (v4 < x3_3 → ∀ v5 : Int, v5 = v4 → ∀ v6 : Int, v6 = x4_3 → w_X11_halves_99 N Q ko24 r0_3 x1_3 v6 v5 x4_3 S_3))) N r0 x1 x2 x3 x4 v1 v2 S))
theorem W_X11_halves_24b (C : mC p l s m args meth c cX11_halves "MoonWash" 7 (some FieldType.int) g) (N : Nat) {Q : mSt → Int → Prop} {ko24 : Nat → Int → Int → Int → Int → mSt → Prop} {ko105 : Int → mSt → Prop} (hko24 : ∀ (r0 : Nat) (kr0 : KX r0 = (0, 9, 0)) (x1 : Int) (ox1 : okI x1) (x2 : Int) (ox2 : okI x2) (x3 : Int) (ox3 : okI x3) (x4 : Int) (ox4 : okI x4) (S : mSt) (H : Heap) (locs : List Loc) (ls : Array Slot), lv_has ls 7 [(0, .ref (b + r0)), (1, .int (mI x1)), (2, .int (mI x2)), (3, .int (mI x3)), (4, .int (mI x4))] → mW g b KX S H → va_S (mA b KX s.heap.size) s.heap H locs → ko24 r0 x1 x2 x3 x4 S → W p l e { frames := 6, cells := 0, slots := 0, locals := 142 } s m args below meth c H locs 0 0 (vx_MQ below (mQi g b KX Q (mA b KX s.heap.size)) (mEx g b KX (fun _ _ => False) (mA b KX s.heap.size)) args s 0 0 (mA b KX s.heap.size)) (F0 m 24 ls [])) (hko105 : ∀ (x2 : Int) (ox2 : okI x2) (S : mSt) (H : Heap) (locs : List Loc) (ls : Array Slot), lv_has ls 7 [(2, .int (mI x2))] → mW g b KX S H → va_S (mA b KX s.heap.size) s.heap H locs → ko105 x2 S → W p l e { frames := 6, cells := 0, slots := 0, locals := 142 } s m args below meth c H locs 0 0 (vx_MQ below (mQi g b KX Q (mA b KX s.heap.size)) (mEx g b KX (fun _ _ => False) (mA b KX s.heap.size)) args s 0 0 (mA b KX s.heap.size)) (F0 m 105 ls [])) (r0 : Nat) (kr0 : KX r0 = (0, 9, 0)) (x1 : Int) (ox1 : okI x1) (x2 : Int) (ox2 : okI x2) (x3 : Int) (ox3 : okI x3) (x4 : Int) (ox4 : okI x4) (S : mSt) (H : Heap) (locs : List Loc) (ls : Array Slot) (hl : lv_has ls 7 [(0, .ref (b + r0)), (1, .int (mI x1)), (2, .int (mI x2)), (3, .int (mI x3)), (4, .int (mI x4))]) (hW : mW g b KX S H) (hS : va_S (mA b KX s.heap.size) s.heap H locs) (h : w_X11_halves_24b N Q ko24 ko105 r0 x1 x2 x3 x4 S) : W p l e { frames := 6, cells := 0, slots := 0, locals := 142 } s m args below meth c H locs 0 0 (vx_MQ below (mQi g b KX Q (mA b KX s.heap.size)) (mEx g b KX (fun _ _ => False) (mA b KX s.heap.size)) args s 0 0 (mA b KX s.heap.size)) (F0 m 24 ls []) := by
  unfold w_X11_halves_24b at h
  refine m_iload (pc := 24) C.1 dX11_halves_24 hl 4 rfl ?_
  refine m_bipush (pc := 26) C.1 dX11_halves_26 rfl ?_
  refine m_icmp_ge (pc := 28) (tgt := 105) C.1 ox4 (by decide : okI 8) dX11_halves_28 (by decide) (fun hc => ?_) (fun hc => ?_)
  · replace h := h.1 hc
    exact hko105 x2 ox2 S _ _ _ (lv_sub hl [2] rfl) hW hS h
  · replace h := h.2 hc
    refine m_iconst (pc := 31) C.1 dX11_halves_31 ?_
    refine m_istore (pc := 32) C.1 dX11_halves_32 hl (by decide) (fun v => [(5, .int v), (0, .ref (b + r0)), (1, .int (mI x1)), (2, .int (mI x2)), (3, .int (mI x3)), (4, .int (mI x4))]) (fun _ => rfl) (by decide : okI 0) (fun v1 ls ev1 ov1 hl => ?_)
    replace h := h v1 ev1
    refine m_iconst (pc := 34) C.1 dX11_halves_34 ?_
    refine m_istore (pc := 35) C.1 dX11_halves_35 hl (by decide) (fun v => [(6, .int v), (5, .int (mI v1)), (0, .ref (b + r0)), (1, .int (mI x1)), (2, .int (mI x2)), (3, .int (mI x3)), (4, .int (mI x4))]) (fun _ => rfl) (by decide : okI 0) (fun v2 ls ev2 ov2 hl => ?_)
    replace h := h v2 ev2
    refine W_X11_halves_37 C N ?_ N r0 kr0 x1 ox1 x2 ox2 x3 ox3 x4 ox4 v1 ov1 v2 ov2 S _ _ _ (lv_sub hl [2, 3, 4, 5, 6, 1, 0] rfl) hW hS h
    · intro r0_3 kr0_3 x1_3 ox1_3 x2_3 ox2_3 x3_3 ox3_3 x4_3 ox4_3 x5_3 ox5_3 S_3 H locs ls hl hW_3 hS h
      refine m_iconst (pc := 76) C.1 dX11_halves_76 ?_
      refine m_iload (pc := 77) C.1 dX11_halves_77 hl 5 rfl ?_
      refine m_imul (pc := 79) C.1 dX11_halves_79 ?_
      refine m_iload_n (pc := 80) C.1 dX11_halves_80 rfl hl 1 rfl ?_
      refine m_isub (pc := 81) C.1 dX11_halves_81 ?_
      refine m_abs (pc := 82) C.1 C.2.2.1 hl.1 (nm_ok _) q_564 q_565 q_93 q_566 (by refine ⟨?_, Nat.le_of_ble_eq_true rfl, ?_, ?_⟩ <;> decide) dX11_halves_82 ?_
      refine m_istore (pc := 85) C.1 dX11_halves_85 hl (by decide) (fun v => [(6, .int v), (0, .ref (b + r0_3)), (1, .int (mI x1_3)), (2, .int (mI x2_3)), (3, .int (mI x3_3)), (4, .int (mI x4_3)), (5, .int (mI x5_3))]) (fun _ => rfl) (iAbs_ok (nm_ok _)) (fun v4 ls ev4 ov4 hl => ?_)
      replace h := h v4 ev4
      refine m_iload (pc := 87) C.1 dX11_halves_87 hl 0 rfl ?_
      refine m_iload_n (pc := 89) C.1 dX11_halves_89 rfl hl 4 rfl ?_
      refine m_icmp_ge (pc := 90) (tgt := 99) C.1 ov4 ox3_3 dX11_halves_90 (by decide) (fun hc => ?_) (fun hc => ?_)
      · replace h := h.1 hc
        exact W_X11_halves_99 C N hko24 r0_3 kr0_3 x1_3 ox1_3 x2_3 ox2_3 x3_3 ox3_3 x4_3 ox4_3 S_3 _ _ _ (lv_sub hl [1, 2, 3, 4, 5] rfl) hW_3 hS h
      · replace h := h.2 hc
        refine m_iload (pc := 93) C.1 dX11_halves_93 hl 0 rfl ?_
        refine m_istore_n (pc := 95) C.1 dX11_halves_95 rfl hl (by decide) (fun v => [(3, .int v), (6, .int (mI v4)), (0, .ref (b + r0_3)), (1, .int (mI x1_3)), (2, .int (mI x2_3)), (4, .int (mI x4_3)), (5, .int (mI x5_3))]) (fun _ => rfl) ov4 (fun v5 ls ev5 ov5 hl => ?_)
        replace h := h v5 ev5
        refine m_iload (pc := 96) C.1 dX11_halves_96 hl 5 rfl ?_
        refine m_istore_n (pc := 98) C.1 dX11_halves_98 rfl hl (by decide) (fun v => [(2, .int v), (3, .int (mI v5)), (6, .int (mI v4)), (0, .ref (b + r0_3)), (1, .int (mI x1_3)), (4, .int (mI x4_3)), (5, .int (mI x5_3))]) (fun _ => rfl) ox4_3 (fun v6 ls ev6 ov6 hl => ?_)
        replace h := h v6 ev6
        exact W_X11_halves_99 C N hko24 r0_3 kr0_3 x1_3 ox1_3 v6 ov6 v5 ov5 x4_3 ox4_3 S_3 _ _ _ (lv_sub hl [3, 4, 0, 1, 5] rfl) hW_3 hS h
def w_X11_halves_24 (N : Nat) (Q : mSt → Int → Prop) (ko105 : Int → mSt → Prop) : Nat → Nat → Int → Int → Int → Int → mSt → Prop
  | 0 => fun _ _ _ _ _ _ => False
  | k + 1 => w_X11_halves_24b N Q (w_X11_halves_24 N Q ko105 k) ko105
theorem W_X11_halves_24 (C : mC p l s m args meth c cX11_halves "MoonWash" 7 (some FieldType.int) g) (N : Nat) {Q : mSt → Int → Prop} {ko105 : Int → mSt → Prop} (hko105 : ∀ (x2 : Int) (ox2 : okI x2) (S : mSt) (H : Heap) (locs : List Loc) (ls : Array Slot), lv_has ls 7 [(2, .int (mI x2))] → mW g b KX S H → va_S (mA b KX s.heap.size) s.heap H locs → ko105 x2 S → W p l e { frames := 6, cells := 0, slots := 0, locals := 142 } s m args below meth c H locs 0 0 (vx_MQ below (mQi g b KX Q (mA b KX s.heap.size)) (mEx g b KX (fun _ _ => False) (mA b KX s.heap.size)) args s 0 0 (mA b KX s.heap.size)) (F0 m 105 ls [])) : ∀ (k : Nat) (r0 : Nat) (kr0 : KX r0 = (0, 9, 0)) (x1 : Int) (ox1 : okI x1) (x2 : Int) (ox2 : okI x2) (x3 : Int) (ox3 : okI x3) (x4 : Int) (ox4 : okI x4) (S : mSt) (H : Heap) (locs : List Loc) (ls : Array Slot) (hl : lv_has ls 7 [(0, .ref (b + r0)), (1, .int (mI x1)), (2, .int (mI x2)), (3, .int (mI x3)), (4, .int (mI x4))]) (hW : mW g b KX S H) (hS : va_S (mA b KX s.heap.size) s.heap H locs) (h : w_X11_halves_24 N Q ko105 k r0 x1 x2 x3 x4 S), W p l e { frames := 6, cells := 0, slots := 0, locals := 142 } s m args below meth c H locs 0 0 (vx_MQ below (mQi g b KX Q (mA b KX s.heap.size)) (mEx g b KX (fun _ _ => False) (mA b KX s.heap.size)) args s 0 0 (mA b KX s.heap.size)) (F0 m 24 ls []) := by
  intro k
  induction k with
  | zero => intro r0 kr0 x1 ox1 x2 ox2 x3 ox3 x4 ox4 S H locs ls hl hW hS h; exact False.elim h
  | succ k ih => intro r0 kr0 x1 ox1 x2 ox2 x3 ox3 x4 ox4 S H locs ls hl hW hS h; exact W_X11_halves_24b C N ih hko105 r0 kr0 x1 ox1 x2 ox2 x3 ox3 x4 ox4 S H locs ls hl hW hS h
end
def w_X11_halves (N : Nat) (r0 : Nat) (S : mSt) (Q : mSt → Int → Prop) : Prop :=
  ∀ q1 : Nat, (q1 : Int) = S r0 5 → ∀ q2 : Nat, (q2 : Int) = S r0 3 → w_X3_allLight N q1 (q2 + 1) S (fun (S3 : mSt) (v3 : Int) => ∀ v4 : Int, v4 = v3 → ∀ v5 : Int, v5 = 0 → ∀ v6 : Int, v6 = 161 → ∀ v7 : Int, v7 = 0 → w_X11_halves_24 N Q (fun (x2_8 : Int) (S_8 : mSt) => Q S_8 x2_8) N r0 v4 v5 v6 v7 S3)
theorem T_X11_halves {l : Launch} (hl0 : l.stackTraces = false) {g : mG} {b : Nat} (N : Nat) (r0 : Nat) (kr0 : KX r0 = (0, 9, 0)) {S : mSt} {Q : mSt → Int → Prop} (h : w_X11_halves N r0 S Q) (sz : Nat) : vx_Met l yX11_halves (Cond.code yX11_halves cX11_halves 7 (some FieldType.int) :: wsG) { frames := 6, cells := 0, slots := 0, locals := 142 } (mPc g b KX S [.ref (b + r0)] sz) (mQi g b KX Q (mA b KX sz)) (mEx g b KX (fun _ _ => False) (mA b KX sz)) 0 0 (mA b KX sz) :=
  m_of (av := [.ref (b + r0)]) (Qf := fun A => mQi g b KX Q A) (Xf := fun A => mEx g b KX (fun _ _ => False) A) (by decide) (Nat.le_of_ble_eq_true rfl) (fun p e s m args below meth c ls X hK hml hr hlk hout hnm hW hl => by
    have C : mC p l s m args meth c cX11_halves "MoonWash" 7 (some FieldType.int) g := ⟨X, hK, hml, hr, hlk, hout, hl0⟩
    have hS : va_S (mA b KX s.heap.size) s.heap s.heap [] := va_S.rf
    have hl : lv_has ls 7 [(0, .ref (b + r0))] := hl
    unfold w_X11_halves at h
    refine m_aload_n (pc := 0) C.1 dX11_halves_0 rfl hl 0 rfl ?_
    refine g_9_5 (pc := 1) C hW kr0 q_397 dX11_halves_1 (fun q1 eq1 kq1 => ?_)
    replace h := h q1 eq1
    refine m_aload_n (pc := 4) C.1 dX11_halves_4 rfl hl 0 rfl ?_
    refine g_9_3 (pc := 5) C hW kr0 q_395 dX11_halves_5 (fun q2 eq2 kq2 => ?_)
    replace h := h q2 eq2
    refine g_1_0 (pc := 8) C hW kq2 q_187 dX11_halves_8 ?_
    refine m_callVi (pc := 11) C.1 C.2.2.1 hl.1 C.2.1 hW hS (As := [.ref (b + (q2 + 1))]) (rest := []) (r := q1) (T_X3_allLight C.2.2.2.2.2.2 N q1 kq1 (q2 + 1) (k_1_0 kq2) h) kq1 rfl q_544 q_545 q_546 q_84 q_547 pl_X3_allLight (by decide) (Nat.le_of_ble_eq_true rfl) dX11_halves_11 (fun v3 S3 H locs ov3 h hW3 hS => ?_)
    refine m_istore_n (pc := 14) C.1 dX11_halves_14 rfl hl (by decide) (fun v => [(1, .int v), (0, .ref (b + r0))]) (fun _ => rfl) ov3 (fun v4 ls ev4 ov4 hl => ?_)
    replace h := h v4 ev4
    refine m_iconst (pc := 15) C.1 dX11_halves_15 ?_
    refine m_istore_n (pc := 16) C.1 dX11_halves_16 rfl hl (by decide) (fun v => [(2, .int v), (1, .int (mI v4)), (0, .ref (b + r0))]) (fun _ => rfl) (by decide : okI 0) (fun v5 ls ev5 ov5 hl => ?_)
    replace h := h v5 ev5
    refine m_sipush (pc := 17) C.1 dX11_halves_17 rfl ?_
    refine m_istore_n (pc := 20) C.1 dX11_halves_20 rfl hl (by decide) (fun v => [(3, .int v), (2, .int (mI v5)), (1, .int (mI v4)), (0, .ref (b + r0))]) (fun _ => rfl) (by decide : okI 161) (fun v6 ls ev6 ov6 hl => ?_)
    replace h := h v6 ev6
    refine m_iconst (pc := 21) C.1 dX11_halves_21 ?_
    refine m_istore (pc := 22) C.1 dX11_halves_22 hl (by decide) (fun v => [(4, .int v), (3, .int (mI v6)), (2, .int (mI v5)), (1, .int (mI v4)), (0, .ref (b + r0))]) (fun _ => rfl) (by decide : okI 0) (fun v7 ls ev7 ov7 hl => ?_)
    replace h := h v7 ev7
    refine W_X11_halves_24 C N ?_ N r0 kr0 v4 ov4 v5 ov5 v6 ov6 v7 ov7 S3 _ _ _ (lv_sub hl [4, 3, 2, 1, 0] rfl) hW3 hS h
    · intro x2_8 ox2_8 S_8 H locs ls hl hW_8 hS h
      refine m_iload_n (pc := 105) C.1 dX11_halves_105 rfl hl 0 rfl ?_
      exact m_iret (pc := 106) C.1 C.2.2.2.1 C.2.2.2.2.1 hW_8 hS ox2_8 h (by decide) (by decide) dX11_halves_106) sz
section
variable {p : Program} {l : Launch} {e : Env} {s : State} {m : MethodId} {args : Array Value} {below : List Frame} {meth : Method} {c : Code} {g : mG} {b : Nat}
def w_X11_like_52 (N : Nat) (Q : mSt → Int → Prop) (ko16 : Nat → Int → Int → mSt → Prop) (r0 : Nat) (x1 : Int) (x2 : Int) (S : mSt) : Prop :=
  ∀ v1 : Int, v1 = nm (x2 + 1) → ko16 r0 x1 v1 S
theorem W_X11_like_52 (C : mC p l s m args meth c cX11_like "MoonWash" 3 (some FieldType.int) g) (N : Nat) {Q : mSt → Int → Prop} {ko16 : Nat → Int → Int → mSt → Prop} (hko16 : ∀ (r0 : Nat) (kr0 : KX r0 = (0, 9, 0)) (x1 : Int) (ox1 : okI x1) (x2 : Int) (ox2 : okI x2) (S : mSt) (H : Heap) (locs : List Loc) (ls : Array Slot), lv_has ls 3 [(0, .ref (b + r0)), (1, .int (mI x1)), (2, .int (mI x2))] → mW g b KX S H → va_S (mA b KX s.heap.size) s.heap H locs → ko16 r0 x1 x2 S → W p l e { frames := 5, cells := 0, slots := 0, locals := 119 } s m args below meth c H locs 0 0 (vx_MQ below (mQi g b KX Q (mA b KX s.heap.size)) (mEx g b KX (fun _ _ => False) (mA b KX s.heap.size)) args s 0 0 (mA b KX s.heap.size)) (F0 m 16 ls [])) (r0 : Nat) (kr0 : KX r0 = (0, 9, 0)) (x1 : Int) (ox1 : okI x1) (x2 : Int) (ox2 : okI x2) (S : mSt) (H : Heap) (locs : List Loc) (ls : Array Slot) (hl : lv_has ls 3 [(0, .ref (b + r0)), (1, .int (mI x1)), (2, .int (mI x2))]) (hW : mW g b KX S H) (hS : va_S (mA b KX s.heap.size) s.heap H locs) (h : w_X11_like_52 N Q ko16 r0 x1 x2 S) : W p l e { frames := 5, cells := 0, slots := 0, locals := 119 } s m args below meth c H locs 0 0 (vx_MQ below (mQi g b KX Q (mA b KX s.heap.size)) (mEx g b KX (fun _ _ => False) (mA b KX s.heap.size)) args s 0 0 (mA b KX s.heap.size)) (F0 m 52 ls []) := by
  unfold w_X11_like_52 at h
  refine m_iinc (pc := 52) C.1 dX11_like_52 hl (by decide) (q0 := 2) rfl (fun v => [(2, .int v), (0, .ref (b + r0)), (1, .int (mI x1))]) (fun _ => rfl) (fun v1 ls ev1 ov1 hl => ?_)
  replace h := h v1 ev1
  refine m_goto (pc := 55) (tgt := 16) C.1 dX11_like_55 (by decide) ?_
  exact hko16 r0 kr0 x1 ox1 v1 ov1 S _ _ _ (lv_sub hl [1, 2, 0] rfl) hW hS h
def w_X11_like_16b (N : Nat) (Q : mSt → Int → Prop) (ko16 : Nat → Int → Int → mSt → Prop) (ko58 : Int → mSt → Prop) (r0 : Nat) (x1 : Int) (x2 : Int) (S : mSt) : Prop :=
  ((8 ≤ x2 → ko58 x1 S) ∧ (x2 < 8 → ∀ q1 : Nat, (q1 : Int) = S r0 5 → ∀ q2 : Nat, (q2 : Int) = S r0 3 → w_X3_lightOf N q1 (q2 + 1) x2 S (fun (S3 : mSt) (v3 : Int) => (0 ≤ x2 ∧ x2 < 8 ∧ ((v3 ≠ (S3 ((r0 + 178) + 19) x2) → w_X11_like_52 N Q ko16 r0 x1 x2 S3) ∧ (v3 = (S3 ((r0 + 178) + 19) x2) → ∀ v5 : Int, v5 = nm (x1 + 1) → w_X11_like_52 N Q ko16 r0 v5 x2 S3))))))
theorem W_X11_like_16b (C : mC p l s m args meth c cX11_like "MoonWash" 3 (some FieldType.int) g) (N : Nat) {Q : mSt → Int → Prop} {ko16 : Nat → Int → Int → mSt → Prop} {ko58 : Int → mSt → Prop} (hko16 : ∀ (r0 : Nat) (kr0 : KX r0 = (0, 9, 0)) (x1 : Int) (ox1 : okI x1) (x2 : Int) (ox2 : okI x2) (S : mSt) (H : Heap) (locs : List Loc) (ls : Array Slot), lv_has ls 3 [(0, .ref (b + r0)), (1, .int (mI x1)), (2, .int (mI x2))] → mW g b KX S H → va_S (mA b KX s.heap.size) s.heap H locs → ko16 r0 x1 x2 S → W p l e { frames := 5, cells := 0, slots := 0, locals := 119 } s m args below meth c H locs 0 0 (vx_MQ below (mQi g b KX Q (mA b KX s.heap.size)) (mEx g b KX (fun _ _ => False) (mA b KX s.heap.size)) args s 0 0 (mA b KX s.heap.size)) (F0 m 16 ls [])) (hko58 : ∀ (x1 : Int) (ox1 : okI x1) (S : mSt) (H : Heap) (locs : List Loc) (ls : Array Slot), lv_has ls 3 [(1, .int (mI x1))] → mW g b KX S H → va_S (mA b KX s.heap.size) s.heap H locs → ko58 x1 S → W p l e { frames := 5, cells := 0, slots := 0, locals := 119 } s m args below meth c H locs 0 0 (vx_MQ below (mQi g b KX Q (mA b KX s.heap.size)) (mEx g b KX (fun _ _ => False) (mA b KX s.heap.size)) args s 0 0 (mA b KX s.heap.size)) (F0 m 58 ls [])) (r0 : Nat) (kr0 : KX r0 = (0, 9, 0)) (x1 : Int) (ox1 : okI x1) (x2 : Int) (ox2 : okI x2) (S : mSt) (H : Heap) (locs : List Loc) (ls : Array Slot) (hl : lv_has ls 3 [(0, .ref (b + r0)), (1, .int (mI x1)), (2, .int (mI x2))]) (hW : mW g b KX S H) (hS : va_S (mA b KX s.heap.size) s.heap H locs) (h : w_X11_like_16b N Q ko16 ko58 r0 x1 x2 S) : W p l e { frames := 5, cells := 0, slots := 0, locals := 119 } s m args below meth c H locs 0 0 (vx_MQ below (mQi g b KX Q (mA b KX s.heap.size)) (mEx g b KX (fun _ _ => False) (mA b KX s.heap.size)) args s 0 0 (mA b KX s.heap.size)) (F0 m 16 ls []) := by
  unfold w_X11_like_16b at h
  refine m_iload_n (pc := 16) C.1 dX11_like_16 rfl hl 2 rfl ?_
  refine m_bipush (pc := 17) C.1 dX11_like_17 rfl ?_
  refine m_icmp_ge (pc := 19) (tgt := 58) C.1 ox2 (by decide : okI 8) dX11_like_19 (by decide) (fun hc => ?_) (fun hc => ?_)
  · replace h := h.1 hc
    exact hko58 x1 ox1 S _ _ _ (lv_sub hl [1] rfl) hW hS h
  · replace h := h.2 hc
    refine m_aload_n (pc := 22) C.1 dX11_like_22 rfl hl 0 rfl ?_
    refine g_9_5 (pc := 23) C hW kr0 q_397 dX11_like_23 (fun q1 eq1 kq1 => ?_)
    replace h := h q1 eq1
    refine m_aload_n (pc := 26) C.1 dX11_like_26 rfl hl 0 rfl ?_
    refine g_9_3 (pc := 27) C hW kr0 q_395 dX11_like_27 (fun q2 eq2 kq2 => ?_)
    replace h := h q2 eq2
    refine g_1_0 (pc := 30) C hW kq2 q_187 dX11_like_30 ?_
    refine m_iload_n (pc := 33) C.1 dX11_like_33 rfl hl 2 rfl ?_
    refine m_callVi (pc := 34) C.1 C.2.2.1 hl.1 C.2.1 hW hS (As := [.ref (b + (q2 + 1)), .int (mI x2)]) (rest := []) (r := q1) (T_X3_lightOf C.2.2.2.2.2.2 N q1 kq1 (q2 + 1) (k_1_0 kq2) x2 ox2 h) kq1 rfl q_539 q_487 q_488 q_84 q_489 pl_X3_lightOf (by decide) (Nat.le_of_ble_eq_true rfl) dX11_like_34 (fun v3 S3 H locs ov3 h hW3 hS => ?_)
    refine m_aload_n (pc := 37) C.1 dX11_like_37 rfl hl 0 rfl ?_
    refine g_9_9 (pc := 38) C hW3 kr0 q_401 dX11_like_38 ?_
    refine g_0_2 (pc := 41) C hW3 (k_9_9 kr0) q_342 dX11_like_41 ?_
    refine m_iload_n (pc := 44) C.1 dX11_like_44 rfl hl 2 rfl ?_
    obtain ⟨hb4a, hb4b, h⟩ := h
    refine m_iald (pc := 45) C.1 C.2.1 hW3 (k_0_2 (k_9_9 kr0)) ox2 hb4a hb4b dX11_like_45 ?_
    refine m_icmp_ne (pc := 46) (tgt := 52) C.1 ov3 (hW3.2.1 _ _) dX11_like_46 (by decide) (fun hc => ?_) (fun hc => ?_)
    · replace h := h.1 hc
      exact W_X11_like_52 C N hko16 r0 kr0 x1 ox1 x2 ox2 S3 _ _ _ (lv_sub hl [0, 1, 2] rfl) hW3 hS h
    · replace h := h.2 hc
      refine m_iinc (pc := 49) C.1 dX11_like_49 hl (by decide) (q0 := 1) rfl (fun v => [(1, .int v), (0, .ref (b + r0)), (2, .int (mI x2))]) (fun _ => rfl) (fun v5 ls ev5 ov5 hl => ?_)
      replace h := h v5 ev5
      exact W_X11_like_52 C N hko16 r0 kr0 v5 ov5 x2 ox2 S3 _ _ _ (lv_sub hl [1, 0, 2] rfl) hW3 hS h
def w_X11_like_16 (N : Nat) (Q : mSt → Int → Prop) (ko58 : Int → mSt → Prop) : Nat → Nat → Int → Int → mSt → Prop
  | 0 => fun _ _ _ _ => False
  | k + 1 => w_X11_like_16b N Q (w_X11_like_16 N Q ko58 k) ko58
theorem W_X11_like_16 (C : mC p l s m args meth c cX11_like "MoonWash" 3 (some FieldType.int) g) (N : Nat) {Q : mSt → Int → Prop} {ko58 : Int → mSt → Prop} (hko58 : ∀ (x1 : Int) (ox1 : okI x1) (S : mSt) (H : Heap) (locs : List Loc) (ls : Array Slot), lv_has ls 3 [(1, .int (mI x1))] → mW g b KX S H → va_S (mA b KX s.heap.size) s.heap H locs → ko58 x1 S → W p l e { frames := 5, cells := 0, slots := 0, locals := 119 } s m args below meth c H locs 0 0 (vx_MQ below (mQi g b KX Q (mA b KX s.heap.size)) (mEx g b KX (fun _ _ => False) (mA b KX s.heap.size)) args s 0 0 (mA b KX s.heap.size)) (F0 m 58 ls [])) : ∀ (k : Nat) (r0 : Nat) (kr0 : KX r0 = (0, 9, 0)) (x1 : Int) (ox1 : okI x1) (x2 : Int) (ox2 : okI x2) (S : mSt) (H : Heap) (locs : List Loc) (ls : Array Slot) (hl : lv_has ls 3 [(0, .ref (b + r0)), (1, .int (mI x1)), (2, .int (mI x2))]) (hW : mW g b KX S H) (hS : va_S (mA b KX s.heap.size) s.heap H locs) (h : w_X11_like_16 N Q ko58 k r0 x1 x2 S), W p l e { frames := 5, cells := 0, slots := 0, locals := 119 } s m args below meth c H locs 0 0 (vx_MQ below (mQi g b KX Q (mA b KX s.heap.size)) (mEx g b KX (fun _ _ => False) (mA b KX s.heap.size)) args s 0 0 (mA b KX s.heap.size)) (F0 m 16 ls []) := by
  intro k
  induction k with
  | zero => intro r0 kr0 x1 ox1 x2 ox2 S H locs ls hl hW hS h; exact False.elim h
  | succ k ih => intro r0 kr0 x1 ox1 x2 ox2 S H locs ls hl hW hS h; exact W_X11_like_16b C N ih hko58 r0 kr0 x1 ox1 x2 ox2 S H locs ls hl hW hS h
end
def w_X11_like (N : Nat) (r0 : Nat) (S : mSt) (Q : mSt → Int → Prop) : Prop :=
  (((S (r0 + 178) 3) ≠ 0 → ∀ v1 : Int, v1 = 0 → ∀ v2 : Int, v2 = 0 → w_X11_like_16 N Q (fun (x1_3 : Int) (S_3 : mSt) => Q S_3 x1_3) N r0 v1 v2 S) ∧ ((S (r0 + 178) 3) = 0 → Q S (-1)))
theorem T_X11_like {l : Launch} (hl0 : l.stackTraces = false) {g : mG} {b : Nat} (N : Nat) (r0 : Nat) (kr0 : KX r0 = (0, 9, 0)) {S : mSt} {Q : mSt → Int → Prop} (h : w_X11_like N r0 S Q) (sz : Nat) : vx_Met l yX11_like (Cond.code yX11_like cX11_like 3 (some FieldType.int) :: wsG) { frames := 5, cells := 0, slots := 0, locals := 119 } (mPc g b KX S [.ref (b + r0)] sz) (mQi g b KX Q (mA b KX sz)) (mEx g b KX (fun _ _ => False) (mA b KX sz)) 0 0 (mA b KX sz) :=
  m_of (av := [.ref (b + r0)]) (Qf := fun A => mQi g b KX Q A) (Xf := fun A => mEx g b KX (fun _ _ => False) A) (by decide) (Nat.le_of_ble_eq_true rfl) (fun p e s m args below meth c ls X hK hml hr hlk hout hnm hW hl => by
    have C : mC p l s m args meth c cX11_like "MoonWash" 3 (some FieldType.int) g := ⟨X, hK, hml, hr, hlk, hout, hl0⟩
    have hS : va_S (mA b KX s.heap.size) s.heap s.heap [] := va_S.rf
    have hl : lv_has ls 3 [(0, .ref (b + r0))] := hl
    unfold w_X11_like at h
    refine m_aload_n (pc := 0) C.1 dX11_like_0 rfl hl 0 rfl ?_
    refine g_9_9 (pc := 1) C hW kr0 q_401 dX11_like_1 ?_
    refine g_0_3 (pc := 4) C hW (k_9_9 kr0) q_344 dX11_like_4 ?_
    refine m_if_ne (pc := 7) (tgt := 12) C.1 (hW.2.1 _ _) dX11_like_7 (by decide) (fun hc => ?_) (fun hc => ?_)
    · replace h := h.1 hc
      refine m_iconst (pc := 12) C.1 dX11_like_12 ?_
      refine m_istore_n (pc := 13) C.1 dX11_like_13 rfl hl (by decide) (fun v => [(1, .int v), (0, .ref (b + r0))]) (fun _ => rfl) (by decide : okI 0) (fun v1 ls ev1 ov1 hl => ?_)
      replace h := h v1 ev1
      refine m_iconst (pc := 14) C.1 dX11_like_14 ?_
      refine m_istore_n (pc := 15) C.1 dX11_like_15 rfl hl (by decide) (fun v => [(2, .int v), (1, .int (mI v1)), (0, .ref (b + r0))]) (fun _ => rfl) (by decide : okI 0) (fun v2 ls ev2 ov2 hl => ?_)
      replace h := h v2 ev2
      refine W_X11_like_16 C N ?_ N r0 kr0 v1 ov1 v2 ov2 S _ _ _ (lv_sub hl [2, 1, 0] rfl) hW hS h
      · intro x1_3 ox1_3 S_3 H locs ls hl hW_3 hS h
        refine m_iload_n (pc := 58) C.1 dX11_like_58 rfl hl 0 rfl ?_
        exact m_iret (pc := 59) C.1 C.2.2.2.1 C.2.2.2.2.1 hW_3 hS ox1_3 h (by decide) (by decide) dX11_like_59
    · replace h := h.2 hc
      refine m_iconst (pc := 10) C.1 dX11_like_10 ?_
      exact m_iret (pc := 11) C.1 C.2.2.2.1 C.2.2.2.2.1 hW hS (by decide : okI (-1)) h (by decide) (by decide) dX11_like_11) sz
section
variable {p : Program} {l : Launch} {e : Env} {s : State} {m : MethodId} {args : Array Value} {below : List Frame} {meth : Method} {c : Code} {g : mG} {b : Nat}
def w_X11_whiteIfWashed_62 (N : Nat) (Q : mSt → Int → Prop)  (r0 : Nat) (x1 : Int) (S : mSt) : Prop :=
  (0 ≤ x1 ∧ x1 < 8 ∧ ∀ S2 : mSt, S2 = mup S ((r0 + 198) + 3) x1 0 → w_X5_setHung N (r0 + 198) x1 1 S2 (fun (S3 : mSt) => ∀ q4 : Nat, (q4 : Int) = S3 r0 5 → w_X3_whiteOf N q4 (r0 + 198) x1 S3 (fun (S5 : mSt) (v5 : Int) => Q S5 v5)))
theorem W_X11_whiteIfWashed_62 (C : mC p l s m args meth c cX11_whiteIfWashed "MoonWash" 3 (some FieldType.int) g) (N : Nat) {Q : mSt → Int → Prop}   (r0 : Nat) (kr0 : KX r0 = (0, 9, 0)) (x1 : Int) (ox1 : okI x1) (S : mSt) (H : Heap) (locs : List Loc) (ls : Array Slot) (hl : lv_has ls 3 [(0, .ref (b + r0)), (1, .int (mI x1))]) (hW : mW g b KX S H) (hS : va_S (mA b KX s.heap.size) s.heap H locs) (h : w_X11_whiteIfWashed_62 N Q  r0 x1 S) : W p l e { frames := 4, cells := 0, slots := 0, locals := 141 } s m args below meth c H locs 0 0 (vx_MQ below (mQi g b KX Q (mA b KX s.heap.size)) (mEx g b KX (fun _ _ => False) (mA b KX s.heap.size)) args s 0 0 (mA b KX s.heap.size)) (F0 m 62 ls []) := by
  unfold w_X11_whiteIfWashed_62 at h
  refine m_aload_n (pc := 62) C.1 dX11_whiteIfWashed_62 rfl hl 0 rfl ?_
  refine g_9_10 (pc := 63) C hW kr0 q_402 dX11_whiteIfWashed_63 ?_
  refine g_3_2 (pc := 66) C hW (k_9_10 kr0) q_141 dX11_whiteIfWashed_66 ?_
  refine m_iload_n (pc := 69) C.1 dX11_whiteIfWashed_69 rfl hl 1 rfl ?_
  refine m_iconst (pc := 70) C.1 dX11_whiteIfWashed_70 ?_
  obtain ⟨hb1a, hb1b, h⟩ := h
  refine m_iast (pc := 71) C.1 C.2.1 hW hS (k_3_2 (k_9_10 kr0)) ox1 (by decide : okI 0) hb1a hb1b dX11_whiteIfWashed_71 (fun S2 H locs e2 hW2 hS => ?_)
  replace h := h S2 e2
  refine m_aload_n (pc := 72) C.1 dX11_whiteIfWashed_72 rfl hl 0 rfl ?_
  refine g_9_10 (pc := 73) C hW2 kr0 q_402 dX11_whiteIfWashed_73 ?_
  refine m_iload_n (pc := 76) C.1 dX11_whiteIfWashed_76 rfl hl 1 rfl ?_
  refine m_iconst (pc := 77) C.1 dX11_whiteIfWashed_77 ?_
  refine m_callVv (pc := 78) C.1 C.2.2.1 hl.1 C.2.1 hW2 hS (As := [.int (mI x1), .int (mI 1)]) (rest := []) (r := (r0 + 198)) (T_X5_setHung C.2.2.2.2.2.2 N (r0 + 198) (k_9_10 kr0) x1 ox1 1 (by decide : okI 1) h) (k_9_10 kr0) rfl q_1089 q_1075 q_1076 q_83 q_1077 pl_X5_setHung (by decide) (Nat.le_of_ble_eq_true rfl) dX11_whiteIfWashed_78 (fun S3 H locs h hW3 hS => ?_)
  refine m_aload_n (pc := 81) C.1 dX11_whiteIfWashed_81 rfl hl 0 rfl ?_
  refine g_9_5 (pc := 82) C hW3 kr0 q_397 dX11_whiteIfWashed_82 (fun q4 eq4 kq4 => ?_)
  replace h := h q4 eq4
  refine m_aload_n (pc := 85) C.1 dX11_whiteIfWashed_85 rfl hl 0 rfl ?_
  refine g_9_10 (pc := 86) C hW3 kr0 q_402 dX11_whiteIfWashed_86 ?_
  refine m_iload_n (pc := 89) C.1 dX11_whiteIfWashed_89 rfl hl 1 rfl ?_
  refine m_callVi (pc := 90) C.1 C.2.2.1 hl.1 C.2.1 hW3 hS (As := [.ref (b + (r0 + 198)), .int (mI x1)]) (rest := []) (r := q4) (T_X3_whiteOf C.2.2.2.2.2.2 N q4 kq4 (r0 + 198) (k_9_10 kr0) x1 ox1 h) kq4 rfl q_954 q_495 q_496 q_84 q_497 pl_X3_whiteOf (by decide) (Nat.le_of_ble_eq_true rfl) dX11_whiteIfWashed_90 (fun v5 S5 H locs ov5 h hW5 hS => ?_)
  exact m_iret (pc := 93) C.1 C.2.2.2.1 C.2.2.2.2.1 hW5 hS ov5 h (by decide) (by decide) dX11_whiteIfWashed_93
end
def w_X11_whiteIfWashed (N : Nat) (r0 : Nat) (x1 : Int) (x2 : Int) (S : mSt) (Q : mSt → Int → Prop) : Prop :=
  ∀ q1 : Nat, (q1 : Int) = S r0 3 → w_X5_become N (r0 + 198) (q1 + 1) S (fun (S2 : mSt) => ((x2 < 0 → w_X11_whiteIfWashed_62 N Q  r0 x1 S2) ∧ (0 ≤ x2 → ∀ q3 : Nat, (q3 : Int) = S2 r0 3 → (((S2 q3 2) ≤ x2 → w_X11_whiteIfWashed_62 N Q  r0 x1 S2) ∧ (x2 < (S2 q3 2) → ∀ q4 : Nat, (q4 : Int) = S2 r0 3 → w_X2_strength N q4 x2 S2 (fun (S5 : mSt) (v5 : Int) => ∀ q6 : Nat, (q6 : Int) = S5 r0 3 → w_X2_rough N q6 x2 S5 (fun (S7 : mSt) (v7 : Int) => ∀ q8 : Nat, (q8 : Int) = S7 r0 3 → w_X2_takes N q8 x2 S7 (fun (S9 : mSt) (v9 : Int) => w_X5_scrub N (r0 + 198) x1 v5 v7 v9 S9 (fun (S10 : mSt) (v10 : Int) => w_X11_whiteIfWashed_62 N Q  r0 x1 S10)))))))))
theorem T_X11_whiteIfWashed {l : Launch} (hl0 : l.stackTraces = false) {g : mG} {b : Nat} (N : Nat) (r0 : Nat) (kr0 : KX r0 = (0, 9, 0)) (x1 : Int) (ox1 : okI x1) (x2 : Int) (ox2 : okI x2) {S : mSt} {Q : mSt → Int → Prop} (h : w_X11_whiteIfWashed N r0 x1 x2 S Q) (sz : Nat) : vx_Met l yX11_whiteIfWashed (Cond.code yX11_whiteIfWashed cX11_whiteIfWashed 3 (some FieldType.int) :: wsG) { frames := 4, cells := 0, slots := 0, locals := 141 } (mPc g b KX S [.ref (b + r0), .int (mI x1), .int (mI x2)] sz) (mQi g b KX Q (mA b KX sz)) (mEx g b KX (fun _ _ => False) (mA b KX sz)) 0 0 (mA b KX sz) :=
  m_of (av := [.ref (b + r0), .int (mI x1), .int (mI x2)]) (Qf := fun A => mQi g b KX Q A) (Xf := fun A => mEx g b KX (fun _ _ => False) A) (by decide) (Nat.le_of_ble_eq_true rfl) (fun p e s m args below meth c ls X hK hml hr hlk hout hnm hW hl => by
    have C : mC p l s m args meth c cX11_whiteIfWashed "MoonWash" 3 (some FieldType.int) g := ⟨X, hK, hml, hr, hlk, hout, hl0⟩
    have hS : va_S (mA b KX s.heap.size) s.heap s.heap [] := va_S.rf
    have hl : lv_has ls 3 [(0, .ref (b + r0)), (1, .int (mI x1)), (2, .int (mI x2))] := hl
    unfold w_X11_whiteIfWashed at h
    refine m_aload_n (pc := 0) C.1 dX11_whiteIfWashed_0 rfl hl 0 rfl ?_
    refine g_9_10 (pc := 1) C hW kr0 q_402 dX11_whiteIfWashed_1 ?_
    refine m_aload_n (pc := 4) C.1 dX11_whiteIfWashed_4 rfl hl 0 rfl ?_
    refine g_9_3 (pc := 5) C hW kr0 q_395 dX11_whiteIfWashed_5 (fun q1 eq1 kq1 => ?_)
    replace h := h q1 eq1
    refine g_1_0 (pc := 8) C hW kq1 q_187 dX11_whiteIfWashed_8 ?_
    refine m_callVv (pc := 11) C.1 C.2.2.1 hl.1 C.2.1 hW hS (As := [.ref (b + (q1 + 1))]) (rest := []) (r := (r0 + 198)) (T_X5_become C.2.2.2.2.2.2 N (r0 + 198) (k_9_10 kr0) (q1 + 1) (k_1_0 kq1) h) (k_9_10 kr0) rfl q_1157 q_465 q_466 q_83 q_467 pl_X5_become (by decide) (Nat.le_of_ble_eq_true rfl) dX11_whiteIfWashed_11 (fun S2 H locs h hW2 hS => ?_)
    refine m_iload_n (pc := 14) C.1 dX11_whiteIfWashed_14 rfl hl 2 rfl ?_
    refine m_if_lt (pc := 15) (tgt := 62) C.1 ox2 dX11_whiteIfWashed_15 (by decide) (fun hc => ?_) (fun hc => ?_)
    · replace h := h.1 hc
      exact W_X11_whiteIfWashed_62 C N  r0 kr0 x1 ox1 S2 _ _ _ (lv_sub hl [0, 1] rfl) hW2 hS h
    · replace h := h.2 hc
      refine m_iload_n (pc := 18) C.1 dX11_whiteIfWashed_18 rfl hl 2 rfl ?_
      refine m_aload_n (pc := 19) C.1 dX11_whiteIfWashed_19 rfl hl 0 rfl ?_
      refine g_9_3 (pc := 20) C hW2 kr0 q_395 dX11_whiteIfWashed_20 (fun q3 eq3 kq3 => ?_)
      replace h := h q3 eq3
      refine g_1_2 (pc := 23) C hW2 kq3 q_192 dX11_whiteIfWashed_23 ?_
      refine m_icmp_ge (pc := 26) (tgt := 62) C.1 ox2 (hW2.2.1 _ _) dX11_whiteIfWashed_26 (by decide) (fun hc => ?_) (fun hc => ?_)
      · replace h := h.1 hc
        exact W_X11_whiteIfWashed_62 C N  r0 kr0 x1 ox1 S2 _ _ _ (lv_sub hl [0, 1] rfl) hW2 hS h
      · replace h := h.2 hc
        refine m_aload_n (pc := 29) C.1 dX11_whiteIfWashed_29 rfl hl 0 rfl ?_
        refine g_9_10 (pc := 30) C hW2 kr0 q_402 dX11_whiteIfWashed_30 ?_
        refine m_iload_n (pc := 33) C.1 dX11_whiteIfWashed_33 rfl hl 1 rfl ?_
        refine m_aload_n (pc := 34) C.1 dX11_whiteIfWashed_34 rfl hl 0 rfl ?_
        refine g_9_3 (pc := 35) C hW2 kr0 q_395 dX11_whiteIfWashed_35 (fun q4 eq4 kq4 => ?_)
        replace h := h q4 eq4
        refine m_iload_n (pc := 38) C.1 dX11_whiteIfWashed_38 rfl hl 2 rfl ?_
        refine m_callVi (pc := 39) C.1 C.2.2.1 hl.1 C.2.1 hW2 hS (As := [.int (mI x2)]) (rest := [.int (mI x1), .ref (b + (r0 + 198))]) (r := q4) (T_X2_strength C.2.2.2.2.2.2 N q4 kq4 x2 ox2 h) kq4 rfl q_1001 q_1002 q_1003 q_82 q_1004 pl_X2_strength (by decide) (Nat.le_of_ble_eq_true rfl) dX11_whiteIfWashed_39 (fun v5 S5 H locs ov5 h hW5 hS => ?_)
        refine m_aload_n (pc := 42) C.1 dX11_whiteIfWashed_42 rfl hl 0 rfl ?_
        refine g_9_3 (pc := 43) C hW5 kr0 q_395 dX11_whiteIfWashed_43 (fun q6 eq6 kq6 => ?_)
        replace h := h q6 eq6
        refine m_iload_n (pc := 46) C.1 dX11_whiteIfWashed_46 rfl hl 2 rfl ?_
        refine m_callVi (pc := 47) C.1 C.2.2.1 hl.1 C.2.1 hW5 hS (As := [.int (mI x2)]) (rest := [.int (mI v5), .int (mI x1), .ref (b + (r0 + 198))]) (r := q6) (T_X2_rough C.2.2.2.2.2.2 N q6 kq6 x2 ox2 h) kq6 rfl q_1009 q_1010 q_1011 q_82 q_1012 pl_X2_rough (by decide) (Nat.le_of_ble_eq_true rfl) dX11_whiteIfWashed_47 (fun v7 S7 H locs ov7 h hW7 hS => ?_)
        refine m_aload_n (pc := 50) C.1 dX11_whiteIfWashed_50 rfl hl 0 rfl ?_
        refine g_9_3 (pc := 51) C hW7 kr0 q_395 dX11_whiteIfWashed_51 (fun q8 eq8 kq8 => ?_)
        replace h := h q8 eq8
        refine m_iload_n (pc := 54) C.1 dX11_whiteIfWashed_54 rfl hl 2 rfl ?_
        refine m_callVi (pc := 55) C.1 C.2.2.1 hl.1 C.2.1 hW7 hS (As := [.int (mI x2)]) (rest := [.int (mI v7), .int (mI v5), .int (mI x1), .ref (b + (r0 + 198))]) (r := q8) (T_X2_takes C.2.2.2.2.2.2 N q8 kq8 x2 ox2 h) kq8 rfl q_1013 q_972 q_973 q_82 q_974 pl_X2_takes (by decide) (Nat.le_of_ble_eq_true rfl) dX11_whiteIfWashed_55 (fun v9 S9 H locs ov9 h hW9 hS => ?_)
        refine m_callVi (pc := 58) C.1 C.2.2.1 hl.1 C.2.1 hW9 hS (As := [.int (mI x1), .int (mI v5), .int (mI v7), .int (mI v9)]) (rest := []) (r := (r0 + 198)) (T_X5_scrub C.2.2.2.2.2.2 N (r0 + 198) (k_9_10 kr0) x1 ox1 v5 ov5 v7 ov7 v9 ov9 h) (k_9_10 kr0) rfl q_1068 q_1069 q_1070 q_83 q_1071 pl_X5_scrub (by decide) (Nat.le_of_ble_eq_true rfl) dX11_whiteIfWashed_58 (fun v10 S10 H locs ov10 h hW10 hS => ?_)
        refine lv_pop (pc := 61) C.1.1 C.1.2.1 dX11_whiteIfWashed_61 rfl ?_
        exact W_X11_whiteIfWashed_62 C N  r0 kr0 x1 ox1 S10 _ _ _ (lv_sub hl [0, 1] rfl) hW10 hS h) sz
section
variable {p : Program} {l : Launch} {e : Env} {s : State} {m : MethodId} {args : Array Value} {below : List Frame} {meth : Method} {c : Code} {g : mG} {b : Nat}
end
def w_X11_would (N : Nat) (r0 : Nat) (x1 : Int) (x2 : Int) (S : mSt) (Q : mSt → Int → Prop) (E : String → mSt → Prop) : Prop :=
  w_X11_checkPart N x1 S (fun (S1 : mSt) => w_X11_checkSoap N r0 x2 S1 (fun (S2 : mSt) => w_X11_whiteIfWashed N r0 x1 x2 S2 (fun (S3 : mSt) (v3 : Int) => Q S3 v3)) E) E
theorem T_X11_would {l : Launch} (hl0 : l.stackTraces = false) {g : mG} {b : Nat} (N : Nat) (r0 : Nat) (kr0 : KX r0 = (0, 9, 0)) (x1 : Int) (ox1 : okI x1) (x2 : Int) (ox2 : okI x2) {S : mSt} {Q : mSt → Int → Prop} {E : String → mSt → Prop} (h : w_X11_would N r0 x1 x2 S Q E) (sz : Nat) : vx_Met l yX11_would (Cond.code yX11_would cX11_would 3 (some FieldType.int) :: wsG) { frames := 7, cells := 2, slots := 12, locals := 163 } (mPc g b KX S [.ref (b + r0), .int (mI x1), .int (mI x2)] sz) (mQi g b KX Q (mA b KX sz)) (mEx g b KX E (mA b KX sz)) 2 12 (mA b KX sz) :=
  m_of (av := [.ref (b + r0), .int (mI x1), .int (mI x2)]) (Qf := fun A => mQi g b KX Q A) (Xf := fun A => mEx g b KX E A) (by decide) (Nat.le_of_ble_eq_true rfl) (fun p e s m args below meth c ls X hK hml hr hlk hout hnm hW hl => by
    have C : mC p l s m args meth c cX11_would "MoonWash" 3 (some FieldType.int) g := ⟨X, hK, hml, hr, hlk, hout, hl0⟩
    have hS : va_S (mA b KX s.heap.size) s.heap s.heap [] := va_S.rf
    have hl : lv_has ls 3 [(0, .ref (b + r0)), (1, .int (mI x1)), (2, .int (mI x2))] := hl
    unfold w_X11_would at h
    refine m_iload_n (pc := 0) C.1 dX11_would_0 rfl hl 1 rfl ?_
    refine m_callSvx (pc := 1) C.1 C.2.2.1 hl.1 C.2.1 hW hS (As := [.int (mI x1)]) (rest := []) (T_X11_checkPart C.2.2.2.2.2.2 N x1 ox1 h) q_936 q_937 q_81 q_938 pl_X11_checkPart (by decide) (Nat.le_of_ble_eq_true rfl) dX11_would_1 (fun En S1 H locs ce q9 hE hW1 hS h1 h2 h3 => m_prop C.2.2.2.2.2.1 C.2.2.2.2.1 hW1 hS hE h1 h2 h3 (by decide) (by decide)) (fun S1 H locs h hW1 hS => ?_)
    refine m_aload_n (pc := 4) C.1 dX11_would_4 rfl hl 0 rfl ?_
    refine m_iload_n (pc := 5) C.1 dX11_would_5 rfl hl 2 rfl ?_
    refine m_callVvx (pc := 6) C.1 C.2.2.1 hl.1 C.2.1 hW1 hS (As := [.int (mI x2)]) (rest := []) (r := r0) (T_X11_checkSoap C.2.2.2.2.2.2 N r0 kr0 x2 ox2 h) kr0 rfl q_997 q_999 q_11 q_81 q_1000 pl_X11_checkSoap (by decide) (Nat.le_of_ble_eq_true rfl) dX11_would_6 (fun En S2 H locs ce q9 hE hW2 hS h1 h2 h3 => m_prop C.2.2.2.2.2.1 C.2.2.2.2.1 hW2 hS hE h1 h2 h3 (by decide) (by decide)) (fun S2 H locs h hW2 hS => ?_)
    refine m_aload_n (pc := 9) C.1 dX11_would_9 rfl hl 0 rfl ?_
    refine m_iload_n (pc := 10) C.1 dX11_would_10 rfl hl 1 rfl ?_
    refine m_iload_n (pc := 11) C.1 dX11_would_11 rfl hl 2 rfl ?_
    refine m_callVi (pc := 12) C.1 C.2.2.1 hl.1 C.2.1 hW2 hS (As := [.int (mI x1), .int (mI x2)]) (rest := []) (r := r0) (T_X11_whiteIfWashed C.2.2.2.2.2.2 N r0 kr0 x1 ox1 x2 ox2 h) kr0 rfl q_1153 q_1155 q_13 q_81 q_1156 pl_X11_whiteIfWashed (by decide) (Nat.le_of_ble_eq_true rfl) dX11_would_12 (fun v3 S3 H locs ov3 h hW3 hS => ?_)
    exact m_iret (pc := 15) C.1 C.2.2.2.1 C.2.2.2.2.1 hW3 hS ov3 h (by decide) (by decide) dX11_would_15) sz
section
variable {p : Program} {l : Launch} {e : Env} {s : State} {m : MethodId} {args : Array Value} {below : List Frame} {meth : Method} {c : Code} {g : mG} {b : Nat}
def w_X11_best_95 (N : Nat) (Q : mSt → Int → Prop) (E : String → mSt → Prop) (ko14 : Nat → Int → Int → Int → Int → Int → mSt → Prop) (r0 : Nat) (x1 : Int) (x2 : Int) (x3 : Int) (x4 : Int) (x5 : Int) (S : mSt) : Prop :=
  ∀ v1 : Int, v1 = nm (x5 + 1) → ko14 r0 x1 x2 x3 x4 v1 S
theorem W_X11_best_95 (C : mC p l s m args meth c cX11_best "MoonWash" 8 (some FieldType.int) g) (N : Nat) {Q : mSt → Int → Prop} {E : String → mSt → Prop} {ko14 : Nat → Int → Int → Int → Int → Int → mSt → Prop} (hko14 : ∀ (r0 : Nat) (kr0 : KX r0 = (0, 9, 0)) (x1 : Int) (ox1 : okI x1) (x2 : Int) (ox2 : okI x2) (x3 : Int) (ox3 : okI x3) (x4 : Int) (ox4 : okI x4) (x5 : Int) (ox5 : okI x5) (S : mSt) (H : Heap) (locs : List Loc) (ls : Array Slot), lv_has ls 8 [(0, .ref (b + r0)), (1, .int (mI x1)), (2, .int (mI x2)), (3, .int (mI x3)), (4, .int (mI x4)), (5, .int (mI x5))] → mW g b KX S H → va_S (mA b KX s.heap.size) s.heap H locs → ko14 r0 x1 x2 x3 x4 x5 S → W p l e { frames := 7, cells := 1, slots := 6, locals := 163 } s m args below meth c H locs 1 6 (vx_MQ below (mQi g b KX Q (mA b KX s.heap.size)) (mEx g b KX E (mA b KX s.heap.size)) args s 1 6 (mA b KX s.heap.size)) (F0 m 14 ls [])) (r0 : Nat) (kr0 : KX r0 = (0, 9, 0)) (x1 : Int) (ox1 : okI x1) (x2 : Int) (ox2 : okI x2) (x3 : Int) (ox3 : okI x3) (x4 : Int) (ox4 : okI x4) (x5 : Int) (ox5 : okI x5) (S : mSt) (H : Heap) (locs : List Loc) (ls : Array Slot) (hl : lv_has ls 8 [(0, .ref (b + r0)), (1, .int (mI x1)), (2, .int (mI x2)), (3, .int (mI x3)), (4, .int (mI x4)), (5, .int (mI x5))]) (hW : mW g b KX S H) (hS : va_S (mA b KX s.heap.size) s.heap H locs) (h : w_X11_best_95 N Q E ko14 r0 x1 x2 x3 x4 x5 S) : W p l e { frames := 7, cells := 1, slots := 6, locals := 163 } s m args below meth c H locs 1 6 (vx_MQ below (mQi g b KX Q (mA b KX s.heap.size)) (mEx g b KX E (mA b KX s.heap.size)) args s 1 6 (mA b KX s.heap.size)) (F0 m 95 ls []) := by
  unfold w_X11_best_95 at h
  refine m_iinc (pc := 95) C.1 dX11_best_95 hl (by decide) (q0 := 5) rfl (fun v => [(5, .int v), (0, .ref (b + r0)), (1, .int (mI x1)), (2, .int (mI x2)), (3, .int (mI x3)), (4, .int (mI x4))]) (fun _ => rfl) (fun v1 ls ev1 ov1 hl => ?_)
  replace h := h v1 ev1
  refine m_goto (pc := 98) (tgt := 14) C.1 dX11_best_98 (by decide) ?_
  exact hko14 r0 kr0 x1 ox1 x2 ox2 x3 ox3 x4 ox4 v1 ov1 S _ _ _ (lv_sub hl [1, 2, 3, 4, 5, 0] rfl) hW hS h
def w_X11_best_78 (N : Nat) (Q : mSt → Int → Prop) (E : String → mSt → Prop) (ko14 : Nat → Int → Int → Int → Int → Int → mSt → Prop) (r0 : Nat) (x1 : Int) (x5 : Int) (x6 : Int) (S : mSt) : Prop :=
  ∀ v1 : Int, v1 = x5 → ∀ v2 : Int, v2 = x6 → ∀ q3 : Nat, (q3 : Int) = S r0 3 → w_X2_price N q3 x5 S (fun (S4 : mSt) (v4 : Int) => ∀ v5 : Int, v5 = v4 → w_X11_best_95 N Q E ko14 r0 x1 v1 v2 v5 x5 S4)
theorem W_X11_best_78 (C : mC p l s m args meth c cX11_best "MoonWash" 8 (some FieldType.int) g) (N : Nat) {Q : mSt → Int → Prop} {E : String → mSt → Prop} {ko14 : Nat → Int → Int → Int → Int → Int → mSt → Prop} (hko14 : ∀ (r0 : Nat) (kr0 : KX r0 = (0, 9, 0)) (x1 : Int) (ox1 : okI x1) (x2 : Int) (ox2 : okI x2) (x3 : Int) (ox3 : okI x3) (x4 : Int) (ox4 : okI x4) (x5 : Int) (ox5 : okI x5) (S : mSt) (H : Heap) (locs : List Loc) (ls : Array Slot), lv_has ls 8 [(0, .ref (b + r0)), (1, .int (mI x1)), (2, .int (mI x2)), (3, .int (mI x3)), (4, .int (mI x4)), (5, .int (mI x5))] → mW g b KX S H → va_S (mA b KX s.heap.size) s.heap H locs → ko14 r0 x1 x2 x3 x4 x5 S → W p l e { frames := 7, cells := 1, slots := 6, locals := 163 } s m args below meth c H locs 1 6 (vx_MQ below (mQi g b KX Q (mA b KX s.heap.size)) (mEx g b KX E (mA b KX s.heap.size)) args s 1 6 (mA b KX s.heap.size)) (F0 m 14 ls [])) (r0 : Nat) (kr0 : KX r0 = (0, 9, 0)) (x1 : Int) (ox1 : okI x1) (x5 : Int) (ox5 : okI x5) (x6 : Int) (ox6 : okI x6) (S : mSt) (H : Heap) (locs : List Loc) (ls : Array Slot) (hl : lv_has ls 8 [(0, .ref (b + r0)), (1, .int (mI x1)), (5, .int (mI x5)), (6, .int (mI x6))]) (hW : mW g b KX S H) (hS : va_S (mA b KX s.heap.size) s.heap H locs) (h : w_X11_best_78 N Q E ko14 r0 x1 x5 x6 S) : W p l e { frames := 7, cells := 1, slots := 6, locals := 163 } s m args below meth c H locs 1 6 (vx_MQ below (mQi g b KX Q (mA b KX s.heap.size)) (mEx g b KX E (mA b KX s.heap.size)) args s 1 6 (mA b KX s.heap.size)) (F0 m 78 ls []) := by
  unfold w_X11_best_78 at h
  refine m_iload (pc := 78) C.1 dX11_best_78 hl 2 rfl ?_
  refine m_istore_n (pc := 80) C.1 dX11_best_80 rfl hl (by decide) (fun v => [(2, .int v), (0, .ref (b + r0)), (1, .int (mI x1)), (5, .int (mI x5)), (6, .int (mI x6))]) (fun _ => rfl) ox5 (fun v1 ls ev1 ov1 hl => ?_)
  replace h := h v1 ev1
  refine m_iload (pc := 81) C.1 dX11_best_81 hl 4 rfl ?_
  refine m_istore_n (pc := 83) C.1 dX11_best_83 rfl hl (by decide) (fun v => [(3, .int v), (2, .int (mI v1)), (0, .ref (b + r0)), (1, .int (mI x1)), (5, .int (mI x5)), (6, .int (mI x6))]) (fun _ => rfl) ox6 (fun v2 ls ev2 ov2 hl => ?_)
  replace h := h v2 ev2
  refine m_aload_n (pc := 84) C.1 dX11_best_84 rfl hl 2 rfl ?_
  refine g_9_3 (pc := 85) C hW kr0 q_395 dX11_best_85 (fun q3 eq3 kq3 => ?_)
  replace h := h q3 eq3
  refine m_iload (pc := 88) C.1 dX11_best_88 hl 4 rfl ?_
  refine m_callVi (pc := 90) C.1 C.2.2.1 hl.1 C.2.1 hW hS (As := [.int (mI x5)]) (rest := []) (r := q3) (T_X2_price C.2.2.2.2.2.2 N q3 kq3 x5 ox5 h) kq3 rfl q_1005 q_1006 q_1007 q_82 q_1008 pl_X2_price (by decide) (Nat.le_of_ble_eq_true rfl) dX11_best_90 (fun v4 S4 H locs ov4 h hW4 hS => ?_)
  refine m_istore (pc := 93) C.1 dX11_best_93 hl (by decide) (fun v => [(4, .int v), (3, .int (mI v2)), (2, .int (mI v1)), (0, .ref (b + r0)), (1, .int (mI x1)), (5, .int (mI x5)), (6, .int (mI x6))]) (fun _ => rfl) ov4 (fun v5 ls ev5 ov5 hl => ?_)
  replace h := h v5 ev5
  exact W_X11_best_95 C N hko14 r0 kr0 x1 ox1 v1 ov1 v2 ov2 v5 ov5 x5 ox5 S4 _ _ _ (lv_sub hl [3, 4, 2, 1, 0, 5] rfl) hW4 hS h
def w_X11_best_66 (N : Nat) (Q : mSt → Int → Prop) (E : String → mSt → Prop) (ko14 : Nat → Int → Int → Int → Int → Int → mSt → Prop) (r0 : Nat) (x1 : Int) (x2 : Int) (x3 : Int) (x4 : Int) (x5 : Int) (x6 : Int) (xs0 : Int) (S : mSt) : Prop :=
  ∀ v1 : Int, v1 = xs0 → ((x2 = (-1) → w_X11_best_78 N Q E ko14 r0 x1 x5 x6 S) ∧ (x2 ≠ (-1) → ((v1 = 0 → w_X11_best_95 N Q E ko14 r0 x1 x2 x3 x4 x5 S) ∧ (v1 ≠ 0 → w_X11_best_78 N Q E ko14 r0 x1 x5 x6 S))))
theorem W_X11_best_66 (C : mC p l s m args meth c cX11_best "MoonWash" 8 (some FieldType.int) g) (N : Nat) {Q : mSt → Int → Prop} {E : String → mSt → Prop} {ko14 : Nat → Int → Int → Int → Int → Int → mSt → Prop} (hko14 : ∀ (r0 : Nat) (kr0 : KX r0 = (0, 9, 0)) (x1 : Int) (ox1 : okI x1) (x2 : Int) (ox2 : okI x2) (x3 : Int) (ox3 : okI x3) (x4 : Int) (ox4 : okI x4) (x5 : Int) (ox5 : okI x5) (S : mSt) (H : Heap) (locs : List Loc) (ls : Array Slot), lv_has ls 8 [(0, .ref (b + r0)), (1, .int (mI x1)), (2, .int (mI x2)), (3, .int (mI x3)), (4, .int (mI x4)), (5, .int (mI x5))] → mW g b KX S H → va_S (mA b KX s.heap.size) s.heap H locs → ko14 r0 x1 x2 x3 x4 x5 S → W p l e { frames := 7, cells := 1, slots := 6, locals := 163 } s m args below meth c H locs 1 6 (vx_MQ below (mQi g b KX Q (mA b KX s.heap.size)) (mEx g b KX E (mA b KX s.heap.size)) args s 1 6 (mA b KX s.heap.size)) (F0 m 14 ls [])) (r0 : Nat) (kr0 : KX r0 = (0, 9, 0)) (x1 : Int) (ox1 : okI x1) (x2 : Int) (ox2 : okI x2) (x3 : Int) (ox3 : okI x3) (x4 : Int) (ox4 : okI x4) (x5 : Int) (ox5 : okI x5) (x6 : Int) (ox6 : okI x6) (xs0 : Int) (oxs0 : okI xs0) (S : mSt) (H : Heap) (locs : List Loc) (ls : Array Slot) (hl : lv_has ls 8 [(0, .ref (b + r0)), (1, .int (mI x1)), (2, .int (mI x2)), (3, .int (mI x3)), (4, .int (mI x4)), (5, .int (mI x5)), (6, .int (mI x6))]) (hW : mW g b KX S H) (hS : va_S (mA b KX s.heap.size) s.heap H locs) (h : w_X11_best_66 N Q E ko14 r0 x1 x2 x3 x4 x5 x6 xs0 S) : W p l e { frames := 7, cells := 1, slots := 6, locals := 163 } s m args below meth c H locs 1 6 (vx_MQ below (mQi g b KX Q (mA b KX s.heap.size)) (mEx g b KX E (mA b KX s.heap.size)) args s 1 6 (mA b KX s.heap.size)) (F0 m 66 ls [.int (mI xs0)]) := by
  unfold w_X11_best_66 at h
  refine m_istore (pc := 66) C.1 dX11_best_66 hl (by decide) (fun v => [(7, .int v), (0, .ref (b + r0)), (1, .int (mI x1)), (2, .int (mI x2)), (3, .int (mI x3)), (4, .int (mI x4)), (5, .int (mI x5)), (6, .int (mI x6))]) (fun _ => rfl) oxs0 (fun v1 ls ev1 ov1 hl => ?_)
  replace h := h v1 ev1
  refine m_iload_n (pc := 68) C.1 dX11_best_68 rfl hl 3 rfl ?_
  refine m_iconst (pc := 69) C.1 dX11_best_69 ?_
  refine m_icmp_eq (pc := 70) (tgt := 78) C.1 ox2 (by decide : okI (-1)) dX11_best_70 (by decide) (fun hc => ?_) (fun hc => ?_)
  · replace h := h.1 hc
    exact W_X11_best_78 C N hko14 r0 kr0 x1 ox1 x5 ox5 x6 ox6 S _ _ _ (lv_sub hl [1, 2, 6, 7] rfl) hW hS h
  · replace h := h.2 hc
    refine m_iload (pc := 73) C.1 dX11_best_73 hl 0 rfl ?_
    refine m_if_eq (pc := 75) (tgt := 95) C.1 ov1 dX11_best_75 (by decide) (fun hc => ?_) (fun hc => ?_)
    · replace h := h.1 hc
      exact W_X11_best_95 C N hko14 r0 kr0 x1 ox1 x2 ox2 x3 ox3 x4 ox4 x5 ox5 S _ _ _ (lv_sub hl [1, 2, 3, 4, 5, 6] rfl) hW hS h
    · replace h := h.2 hc
      exact W_X11_best_78 C N hko14 r0 kr0 x1 ox1 x5 ox5 x6 ox6 S _ _ _ (lv_sub hl [1, 2, 6, 7] rfl) hW hS h
def w_X11_best_61 (N : Nat) (Q : mSt → Int → Prop) (E : String → mSt → Prop) (ko14 : Nat → Int → Int → Int → Int → Int → mSt → Prop) (r0 : Nat) (x1 : Int) (x2 : Int) (x3 : Int) (x4 : Int) (x5 : Int) (x6 : Int) (S : mSt) : Prop :=
  w_X11_best_66 N Q E ko14 r0 x1 x2 x3 x4 x5 x6 1 S
theorem W_X11_best_61 (C : mC p l s m args meth c cX11_best "MoonWash" 8 (some FieldType.int) g) (N : Nat) {Q : mSt → Int → Prop} {E : String → mSt → Prop} {ko14 : Nat → Int → Int → Int → Int → Int → mSt → Prop} (hko14 : ∀ (r0 : Nat) (kr0 : KX r0 = (0, 9, 0)) (x1 : Int) (ox1 : okI x1) (x2 : Int) (ox2 : okI x2) (x3 : Int) (ox3 : okI x3) (x4 : Int) (ox4 : okI x4) (x5 : Int) (ox5 : okI x5) (S : mSt) (H : Heap) (locs : List Loc) (ls : Array Slot), lv_has ls 8 [(0, .ref (b + r0)), (1, .int (mI x1)), (2, .int (mI x2)), (3, .int (mI x3)), (4, .int (mI x4)), (5, .int (mI x5))] → mW g b KX S H → va_S (mA b KX s.heap.size) s.heap H locs → ko14 r0 x1 x2 x3 x4 x5 S → W p l e { frames := 7, cells := 1, slots := 6, locals := 163 } s m args below meth c H locs 1 6 (vx_MQ below (mQi g b KX Q (mA b KX s.heap.size)) (mEx g b KX E (mA b KX s.heap.size)) args s 1 6 (mA b KX s.heap.size)) (F0 m 14 ls [])) (r0 : Nat) (kr0 : KX r0 = (0, 9, 0)) (x1 : Int) (ox1 : okI x1) (x2 : Int) (ox2 : okI x2) (x3 : Int) (ox3 : okI x3) (x4 : Int) (ox4 : okI x4) (x5 : Int) (ox5 : okI x5) (x6 : Int) (ox6 : okI x6) (S : mSt) (H : Heap) (locs : List Loc) (ls : Array Slot) (hl : lv_has ls 8 [(0, .ref (b + r0)), (1, .int (mI x1)), (2, .int (mI x2)), (3, .int (mI x3)), (4, .int (mI x4)), (5, .int (mI x5)), (6, .int (mI x6))]) (hW : mW g b KX S H) (hS : va_S (mA b KX s.heap.size) s.heap H locs) (h : w_X11_best_61 N Q E ko14 r0 x1 x2 x3 x4 x5 x6 S) : W p l e { frames := 7, cells := 1, slots := 6, locals := 163 } s m args below meth c H locs 1 6 (vx_MQ below (mQi g b KX Q (mA b KX s.heap.size)) (mEx g b KX E (mA b KX s.heap.size)) args s 1 6 (mA b KX s.heap.size)) (F0 m 61 ls []) := by
  unfold w_X11_best_61 at h
  refine m_iconst (pc := 61) C.1 dX11_best_61 ?_
  refine m_goto (pc := 62) (tgt := 66) C.1 dX11_best_62 (by decide) ?_
  exact W_X11_best_66 C N hko14 r0 kr0 x1 ox1 x2 ox2 x3 ox3 x4 ox4 x5 ox5 x6 ox6 1 (by decide : okI 1) S _ _ _ (lv_sub hl [0, 1, 2, 3, 4, 5, 6] rfl) hW hS h
def w_X11_best_65 (N : Nat) (Q : mSt → Int → Prop) (E : String → mSt → Prop) (ko14 : Nat → Int → Int → Int → Int → Int → mSt → Prop) (r0 : Nat) (x1 : Int) (x2 : Int) (x3 : Int) (x4 : Int) (x5 : Int) (x6 : Int) (S : mSt) : Prop :=
  w_X11_best_66 N Q E ko14 r0 x1 x2 x3 x4 x5 x6 0 S
theorem W_X11_best_65 (C : mC p l s m args meth c cX11_best "MoonWash" 8 (some FieldType.int) g) (N : Nat) {Q : mSt → Int → Prop} {E : String → mSt → Prop} {ko14 : Nat → Int → Int → Int → Int → Int → mSt → Prop} (hko14 : ∀ (r0 : Nat) (kr0 : KX r0 = (0, 9, 0)) (x1 : Int) (ox1 : okI x1) (x2 : Int) (ox2 : okI x2) (x3 : Int) (ox3 : okI x3) (x4 : Int) (ox4 : okI x4) (x5 : Int) (ox5 : okI x5) (S : mSt) (H : Heap) (locs : List Loc) (ls : Array Slot), lv_has ls 8 [(0, .ref (b + r0)), (1, .int (mI x1)), (2, .int (mI x2)), (3, .int (mI x3)), (4, .int (mI x4)), (5, .int (mI x5))] → mW g b KX S H → va_S (mA b KX s.heap.size) s.heap H locs → ko14 r0 x1 x2 x3 x4 x5 S → W p l e { frames := 7, cells := 1, slots := 6, locals := 163 } s m args below meth c H locs 1 6 (vx_MQ below (mQi g b KX Q (mA b KX s.heap.size)) (mEx g b KX E (mA b KX s.heap.size)) args s 1 6 (mA b KX s.heap.size)) (F0 m 14 ls [])) (r0 : Nat) (kr0 : KX r0 = (0, 9, 0)) (x1 : Int) (ox1 : okI x1) (x2 : Int) (ox2 : okI x2) (x3 : Int) (ox3 : okI x3) (x4 : Int) (ox4 : okI x4) (x5 : Int) (ox5 : okI x5) (x6 : Int) (ox6 : okI x6) (S : mSt) (H : Heap) (locs : List Loc) (ls : Array Slot) (hl : lv_has ls 8 [(0, .ref (b + r0)), (1, .int (mI x1)), (2, .int (mI x2)), (3, .int (mI x3)), (4, .int (mI x4)), (5, .int (mI x5)), (6, .int (mI x6))]) (hW : mW g b KX S H) (hS : va_S (mA b KX s.heap.size) s.heap H locs) (h : w_X11_best_65 N Q E ko14 r0 x1 x2 x3 x4 x5 x6 S) : W p l e { frames := 7, cells := 1, slots := 6, locals := 163 } s m args below meth c H locs 1 6 (vx_MQ below (mQi g b KX Q (mA b KX s.heap.size)) (mEx g b KX E (mA b KX s.heap.size)) args s 1 6 (mA b KX s.heap.size)) (F0 m 65 ls []) := by
  unfold w_X11_best_65 at h
  refine m_iconst (pc := 65) C.1 dX11_best_65 ?_
  exact W_X11_best_66 C N hko14 r0 kr0 x1 ox1 x2 ox2 x3 ox3 x4 ox4 x5 ox5 x6 ox6 0 (by decide : okI 0) S _ _ _ (lv_sub hl [0, 1, 2, 3, 4, 5, 6] rfl) hW hS h
def w_X11_best_14b (N : Nat) (Q : mSt → Int → Prop) (E : String → mSt → Prop) (ko14 : Nat → Int → Int → Int → Int → Int → mSt → Prop) (ko101 : Int → mSt → Prop) (r0 : Nat) (x1 : Int) (x2 : Int) (x3 : Int) (x4 : Int) (x5 : Int) (S : mSt) : Prop :=
  ∀ q1 : Nat, (q1 : Int) = S r0 3 → (((S q1 2) ≤ x5 → ko101 x2 S) ∧ (x5 < (S q1 2) → w_X11_whiteIfWashed N r0 x1 x5 S (fun (S2 : mSt) (v2 : Int) => ∀ v3 : Int, v3 = v2 → ((x3 < v3 → w_X11_best_61 N Q E ko14 r0 x1 x2 x3 x4 x5 v3 S2) ∧ (v3 ≤ x3 → ((v3 ≠ x3 → w_X11_best_65 N Q E ko14 r0 x1 x2 x3 x4 x5 v3 S2) ∧ (v3 = x3 → ∀ q4 : Nat, (q4 : Int) = S2 r0 3 → w_X2_price N q4 x5 S2 (fun (S5 : mSt) (v5 : Int) => ((x4 ≤ v5 → w_X11_best_65 N Q E ko14 r0 x1 x2 x3 x4 x5 v3 S5) ∧ (v5 < x4 → w_X11_best_61 N Q E ko14 r0 x1 x2 x3 x4 x5 v3 S5))))))))))
theorem W_X11_best_14b (C : mC p l s m args meth c cX11_best "MoonWash" 8 (some FieldType.int) g) (N : Nat) {Q : mSt → Int → Prop} {E : String → mSt → Prop} {ko14 : Nat → Int → Int → Int → Int → Int → mSt → Prop} {ko101 : Int → mSt → Prop} (hko14 : ∀ (r0 : Nat) (kr0 : KX r0 = (0, 9, 0)) (x1 : Int) (ox1 : okI x1) (x2 : Int) (ox2 : okI x2) (x3 : Int) (ox3 : okI x3) (x4 : Int) (ox4 : okI x4) (x5 : Int) (ox5 : okI x5) (S : mSt) (H : Heap) (locs : List Loc) (ls : Array Slot), lv_has ls 8 [(0, .ref (b + r0)), (1, .int (mI x1)), (2, .int (mI x2)), (3, .int (mI x3)), (4, .int (mI x4)), (5, .int (mI x5))] → mW g b KX S H → va_S (mA b KX s.heap.size) s.heap H locs → ko14 r0 x1 x2 x3 x4 x5 S → W p l e { frames := 7, cells := 1, slots := 6, locals := 163 } s m args below meth c H locs 1 6 (vx_MQ below (mQi g b KX Q (mA b KX s.heap.size)) (mEx g b KX E (mA b KX s.heap.size)) args s 1 6 (mA b KX s.heap.size)) (F0 m 14 ls [])) (hko101 : ∀ (x2 : Int) (ox2 : okI x2) (S : mSt) (H : Heap) (locs : List Loc) (ls : Array Slot), lv_has ls 8 [(2, .int (mI x2))] → mW g b KX S H → va_S (mA b KX s.heap.size) s.heap H locs → ko101 x2 S → W p l e { frames := 7, cells := 1, slots := 6, locals := 163 } s m args below meth c H locs 1 6 (vx_MQ below (mQi g b KX Q (mA b KX s.heap.size)) (mEx g b KX E (mA b KX s.heap.size)) args s 1 6 (mA b KX s.heap.size)) (F0 m 101 ls [])) (r0 : Nat) (kr0 : KX r0 = (0, 9, 0)) (x1 : Int) (ox1 : okI x1) (x2 : Int) (ox2 : okI x2) (x3 : Int) (ox3 : okI x3) (x4 : Int) (ox4 : okI x4) (x5 : Int) (ox5 : okI x5) (S : mSt) (H : Heap) (locs : List Loc) (ls : Array Slot) (hl : lv_has ls 8 [(0, .ref (b + r0)), (1, .int (mI x1)), (2, .int (mI x2)), (3, .int (mI x3)), (4, .int (mI x4)), (5, .int (mI x5))]) (hW : mW g b KX S H) (hS : va_S (mA b KX s.heap.size) s.heap H locs) (h : w_X11_best_14b N Q E ko14 ko101 r0 x1 x2 x3 x4 x5 S) : W p l e { frames := 7, cells := 1, slots := 6, locals := 163 } s m args below meth c H locs 1 6 (vx_MQ below (mQi g b KX Q (mA b KX s.heap.size)) (mEx g b KX E (mA b KX s.heap.size)) args s 1 6 (mA b KX s.heap.size)) (F0 m 14 ls []) := by
  unfold w_X11_best_14b at h
  refine m_iload (pc := 14) C.1 dX11_best_14 hl 5 rfl ?_
  refine m_aload_n (pc := 16) C.1 dX11_best_16 rfl hl 0 rfl ?_
  refine g_9_3 (pc := 17) C hW kr0 q_395 dX11_best_17 (fun q1 eq1 kq1 => ?_)
  replace h := h q1 eq1
  refine g_1_2 (pc := 20) C hW kq1 q_192 dX11_best_20 ?_
  refine m_icmp_ge (pc := 23) (tgt := 101) C.1 ox5 (hW.2.1 _ _) dX11_best_23 (by decide) (fun hc => ?_) (fun hc => ?_)
  · replace h := h.1 hc
    exact hko101 x2 ox2 S _ _ _ (lv_sub hl [2] rfl) hW hS h
  · replace h := h.2 hc
    refine m_aload_n (pc := 26) C.1 dX11_best_26 rfl hl 0 rfl ?_
    refine m_iload_n (pc := 27) C.1 dX11_best_27 rfl hl 1 rfl ?_
    refine m_iload (pc := 28) C.1 dX11_best_28 hl 5 rfl ?_
    refine m_callVi (pc := 30) C.1 C.2.2.1 hl.1 C.2.1 hW hS (As := [.int (mI x1), .int (mI x5)]) (rest := []) (r := r0) (T_X11_whiteIfWashed C.2.2.2.2.2.2 N r0 kr0 x1 ox1 x5 ox5 h) kr0 rfl q_1153 q_1155 q_13 q_81 q_1156 pl_X11_whiteIfWashed (by decide) (Nat.le_of_ble_eq_true rfl) dX11_best_30 (fun v2 S2 H locs ov2 h hW2 hS => ?_)
    refine m_istore (pc := 33) C.1 dX11_best_33 hl (by decide) (fun v => [(6, .int v), (0, .ref (b + r0)), (1, .int (mI x1)), (2, .int (mI x2)), (3, .int (mI x3)), (4, .int (mI x4)), (5, .int (mI x5))]) (fun _ => rfl) ov2 (fun v3 ls ev3 ov3 hl => ?_)
    replace h := h v3 ev3
    refine m_iload (pc := 35) C.1 dX11_best_35 hl 0 rfl ?_
    refine m_iload_n (pc := 37) C.1 dX11_best_37 rfl hl 4 rfl ?_
    refine m_icmp_gt (pc := 38) (tgt := 61) C.1 ov3 ox3 dX11_best_38 (by decide) (fun hc => ?_) (fun hc => ?_)
    · replace h := h.1 hc
      exact W_X11_best_61 C N hko14 r0 kr0 x1 ox1 x2 ox2 x3 ox3 x4 ox4 x5 ox5 v3 ov3 S2 _ _ _ (lv_sub hl [1, 2, 3, 4, 5, 6, 0] rfl) hW2 hS h
    · replace h := h.2 hc
      refine m_iload (pc := 41) C.1 dX11_best_41 hl 0 rfl ?_
      refine m_iload_n (pc := 43) C.1 dX11_best_43 rfl hl 4 rfl ?_
      refine m_icmp_ne (pc := 44) (tgt := 65) C.1 ov3 ox3 dX11_best_44 (by decide) (fun hc => ?_) (fun hc => ?_)
      · replace h := h.1 hc
        exact W_X11_best_65 C N hko14 r0 kr0 x1 ox1 x2 ox2 x3 ox3 x4 ox4 x5 ox5 v3 ov3 S2 _ _ _ (lv_sub hl [1, 2, 3, 4, 5, 6, 0] rfl) hW2 hS h
      · replace h := h.2 hc
        refine m_aload_n (pc := 47) C.1 dX11_best_47 rfl hl 1 rfl ?_
        refine g_9_3 (pc := 48) C hW2 kr0 q_395 dX11_best_48 (fun q4 eq4 kq4 => ?_)
        replace h := h q4 eq4
        refine m_iload (pc := 51) C.1 dX11_best_51 hl 6 rfl ?_
        refine m_callVi (pc := 53) C.1 C.2.2.1 hl.1 C.2.1 hW2 hS (As := [.int (mI x5)]) (rest := []) (r := q4) (T_X2_price C.2.2.2.2.2.2 N q4 kq4 x5 ox5 h) kq4 rfl q_1005 q_1006 q_1007 q_82 q_1008 pl_X2_price (by decide) (Nat.le_of_ble_eq_true rfl) dX11_best_53 (fun v5 S5 H locs ov5 h hW5 hS => ?_)
        refine m_iload (pc := 56) C.1 dX11_best_56 hl 5 rfl ?_
        refine m_icmp_ge (pc := 58) (tgt := 65) C.1 ov5 ox4 dX11_best_58 (by decide) (fun hc => ?_) (fun hc => ?_)
        · replace h := h.1 hc
          exact W_X11_best_65 C N hko14 r0 kr0 x1 ox1 x2 ox2 x3 ox3 x4 ox4 x5 ox5 v3 ov3 S5 _ _ _ (lv_sub hl [1, 2, 3, 4, 5, 6, 0] rfl) hW5 hS h
        · replace h := h.2 hc
          exact W_X11_best_61 C N hko14 r0 kr0 x1 ox1 x2 ox2 x3 ox3 x4 ox4 x5 ox5 v3 ov3 S5 _ _ _ (lv_sub hl [1, 2, 3, 4, 5, 6, 0] rfl) hW5 hS h
def w_X11_best_14 (N : Nat) (Q : mSt → Int → Prop) (E : String → mSt → Prop) (ko101 : Int → mSt → Prop) : Nat → Nat → Int → Int → Int → Int → Int → mSt → Prop
  | 0 => fun _ _ _ _ _ _ _ => False
  | k + 1 => w_X11_best_14b N Q E (w_X11_best_14 N Q E ko101 k) ko101
theorem W_X11_best_14 (C : mC p l s m args meth c cX11_best "MoonWash" 8 (some FieldType.int) g) (N : Nat) {Q : mSt → Int → Prop} {E : String → mSt → Prop} {ko101 : Int → mSt → Prop} (hko101 : ∀ (x2 : Int) (ox2 : okI x2) (S : mSt) (H : Heap) (locs : List Loc) (ls : Array Slot), lv_has ls 8 [(2, .int (mI x2))] → mW g b KX S H → va_S (mA b KX s.heap.size) s.heap H locs → ko101 x2 S → W p l e { frames := 7, cells := 1, slots := 6, locals := 163 } s m args below meth c H locs 1 6 (vx_MQ below (mQi g b KX Q (mA b KX s.heap.size)) (mEx g b KX E (mA b KX s.heap.size)) args s 1 6 (mA b KX s.heap.size)) (F0 m 101 ls [])) : ∀ (k : Nat) (r0 : Nat) (kr0 : KX r0 = (0, 9, 0)) (x1 : Int) (ox1 : okI x1) (x2 : Int) (ox2 : okI x2) (x3 : Int) (ox3 : okI x3) (x4 : Int) (ox4 : okI x4) (x5 : Int) (ox5 : okI x5) (S : mSt) (H : Heap) (locs : List Loc) (ls : Array Slot) (hl : lv_has ls 8 [(0, .ref (b + r0)), (1, .int (mI x1)), (2, .int (mI x2)), (3, .int (mI x3)), (4, .int (mI x4)), (5, .int (mI x5))]) (hW : mW g b KX S H) (hS : va_S (mA b KX s.heap.size) s.heap H locs) (h : w_X11_best_14 N Q E ko101 k r0 x1 x2 x3 x4 x5 S), W p l e { frames := 7, cells := 1, slots := 6, locals := 163 } s m args below meth c H locs 1 6 (vx_MQ below (mQi g b KX Q (mA b KX s.heap.size)) (mEx g b KX E (mA b KX s.heap.size)) args s 1 6 (mA b KX s.heap.size)) (F0 m 14 ls []) := by
  intro k
  induction k with
  | zero => intro r0 kr0 x1 ox1 x2 ox2 x3 ox3 x4 ox4 x5 ox5 S H locs ls hl hW hS h; exact False.elim h
  | succ k ih => intro r0 kr0 x1 ox1 x2 ox2 x3 ox3 x4 ox4 x5 ox5 S H locs ls hl hW hS h; exact W_X11_best_14b C N ih hko101 r0 kr0 x1 ox1 x2 ox2 x3 ox3 x4 ox4 x5 ox5 S H locs ls hl hW hS h
end
def w_X11_best (N : Nat) (r0 : Nat) (x1 : Int) (S : mSt) (Q : mSt → Int → Prop) (E : String → mSt → Prop) : Prop :=
  w_X11_checkPart N x1 S (fun (S1 : mSt) => ∀ v2 : Int, v2 = (-1) → ∀ v3 : Int, v3 = 0 → ∀ v4 : Int, v4 = 0 → ∀ v5 : Int, v5 = 0 → w_X11_best_14 N Q E (fun (x2_6 : Int) (S_6 : mSt) => Q S_6 x2_6) N r0 x1 v2 v3 v4 v5 S1) E
theorem T_X11_best {l : Launch} (hl0 : l.stackTraces = false) {g : mG} {b : Nat} (N : Nat) (r0 : Nat) (kr0 : KX r0 = (0, 9, 0)) (x1 : Int) (ox1 : okI x1) {S : mSt} {Q : mSt → Int → Prop} {E : String → mSt → Prop} (h : w_X11_best N r0 x1 S Q E) (sz : Nat) : vx_Met l yX11_best (Cond.code yX11_best cX11_best 8 (some FieldType.int) :: wsG) { frames := 7, cells := 1, slots := 6, locals := 163 } (mPc g b KX S [.ref (b + r0), .int (mI x1)] sz) (mQi g b KX Q (mA b KX sz)) (mEx g b KX E (mA b KX sz)) 1 6 (mA b KX sz) :=
  m_of (av := [.ref (b + r0), .int (mI x1)]) (Qf := fun A => mQi g b KX Q A) (Xf := fun A => mEx g b KX E A) (by decide) (Nat.le_of_ble_eq_true rfl) (fun p e s m args below meth c ls X hK hml hr hlk hout hnm hW hl => by
    have C : mC p l s m args meth c cX11_best "MoonWash" 8 (some FieldType.int) g := ⟨X, hK, hml, hr, hlk, hout, hl0⟩
    have hS : va_S (mA b KX s.heap.size) s.heap s.heap [] := va_S.rf
    have hl : lv_has ls 8 [(0, .ref (b + r0)), (1, .int (mI x1))] := hl
    unfold w_X11_best at h
    refine m_iload_n (pc := 0) C.1 dX11_best_0 rfl hl 1 rfl ?_
    refine m_callSvx (pc := 1) C.1 C.2.2.1 hl.1 C.2.1 hW hS (As := [.int (mI x1)]) (rest := []) (T_X11_checkPart C.2.2.2.2.2.2 N x1 ox1 h) q_936 q_937 q_81 q_938 pl_X11_checkPart (by decide) (Nat.le_of_ble_eq_true rfl) dX11_best_1 (fun En S1 H locs ce q9 hE hW1 hS h1 h2 h3 => m_prop C.2.2.2.2.2.1 C.2.2.2.2.1 hW1 hS hE h1 h2 h3 (by decide) (by decide)) (fun S1 H locs h hW1 hS => ?_)
    refine m_iconst (pc := 4) C.1 dX11_best_4 ?_
    refine m_istore_n (pc := 5) C.1 dX11_best_5 rfl hl (by decide) (fun v => [(2, .int v), (0, .ref (b + r0)), (1, .int (mI x1))]) (fun _ => rfl) (by decide : okI (-1)) (fun v2 ls ev2 ov2 hl => ?_)
    replace h := h v2 ev2
    refine m_iconst (pc := 6) C.1 dX11_best_6 ?_
    refine m_istore_n (pc := 7) C.1 dX11_best_7 rfl hl (by decide) (fun v => [(3, .int v), (2, .int (mI v2)), (0, .ref (b + r0)), (1, .int (mI x1))]) (fun _ => rfl) (by decide : okI 0) (fun v3 ls ev3 ov3 hl => ?_)
    replace h := h v3 ev3
    refine m_iconst (pc := 8) C.1 dX11_best_8 ?_
    refine m_istore (pc := 9) C.1 dX11_best_9 hl (by decide) (fun v => [(4, .int v), (3, .int (mI v3)), (2, .int (mI v2)), (0, .ref (b + r0)), (1, .int (mI x1))]) (fun _ => rfl) (by decide : okI 0) (fun v4 ls ev4 ov4 hl => ?_)
    replace h := h v4 ev4
    refine m_iconst (pc := 11) C.1 dX11_best_11 ?_
    refine m_istore (pc := 12) C.1 dX11_best_12 hl (by decide) (fun v => [(5, .int v), (4, .int (mI v4)), (3, .int (mI v3)), (2, .int (mI v2)), (0, .ref (b + r0)), (1, .int (mI x1))]) (fun _ => rfl) (by decide : okI 0) (fun v5 ls ev5 ov5 hl => ?_)
    replace h := h v5 ev5
    refine W_X11_best_14 C N ?_ N r0 kr0 x1 ox1 v2 ov2 v3 ov3 v4 ov4 v5 ov5 S1 _ _ _ (lv_sub hl [4, 5, 3, 2, 1, 0] rfl) hW1 hS h
    · intro x2_6 ox2_6 S_6 H locs ls hl hW_6 hS h
      refine m_iload_n (pc := 101) C.1 dX11_best_101 rfl hl 0 rfl ?_
      exact m_iret (pc := 102) C.1 C.2.2.2.1 C.2.2.2.2.1 hW_6 hS ox2_6 h (by decide) (by decide) dX11_best_102) sz
section
variable {p : Program} {l : Launch} {e : Env} {s : State} {m : MethodId} {args : Array Value} {below : List Frame} {meth : Method} {c : Code} {g : mG} {b : Nat}
def w_X11_least_39b (N : Nat) (Q : mSt → Int → Prop) (E : String → mSt → Prop) (ko39 : Nat → Int → Int → Int → Int → mSt → Prop) (ko74 : Nat → Int → Int → Int → mSt → Prop) (r0 : Nat) (x1 : Int) (x2 : Int) (x3 : Int) (x4 : Int) (S : mSt) : Prop :=
  ∀ q1 : Nat, (q1 : Int) = S r0 3 → (((S q1 2) ≤ x4 → ko74 r0 x1 x2 x3 S) ∧ (x4 < (S q1 2) → w_X11_whiteIfWashed N r0 x3 x4 S (fun (S2 : mSt) (v2 : Int) => w_X9_tell N (r0 + 205) x3 x4 v2 S2 (fun (S3 : mSt) => ∀ v4 : Int, v4 = nm (x4 + 1) → ko39 r0 x1 x2 x3 v4 S3))))
theorem W_X11_least_39b (C : mC p l s m args meth c cX11_least "MoonWash" 5 (some FieldType.int) g) (N : Nat) {Q : mSt → Int → Prop} {E : String → mSt → Prop} {ko39 : Nat → Int → Int → Int → Int → mSt → Prop} {ko74 : Nat → Int → Int → Int → mSt → Prop} (hko39 : ∀ (r0 : Nat) (kr0 : KX r0 = (0, 9, 0)) (x1 : Int) (ox1 : okI x1) (x2 : Int) (ox2 : okI x2) (x3 : Int) (ox3 : okI x3) (x4 : Int) (ox4 : okI x4) (S : mSt) (H : Heap) (locs : List Loc) (ls : Array Slot), lv_has ls 5 [(0, .ref (b + r0)), (1, .int (mI x1)), (2, .int (mI x2)), (3, .int (mI x3)), (4, .int (mI x4))] → mW g b KX S H → va_S (mA b KX s.heap.size) s.heap H locs → ko39 r0 x1 x2 x3 x4 S → W p l e { frames := 7, cells := 2, slots := 12, locals := 163 } s m args below meth c H locs 2 12 (vx_MQ below (mQi g b KX Q (mA b KX s.heap.size)) (mEx g b KX E (mA b KX s.heap.size)) args s 2 12 (mA b KX s.heap.size)) (F0 m 39 ls [])) (hko74 : ∀ (r0 : Nat) (kr0 : KX r0 = (0, 9, 0)) (x1 : Int) (ox1 : okI x1) (x2 : Int) (ox2 : okI x2) (x3 : Int) (ox3 : okI x3) (S : mSt) (H : Heap) (locs : List Loc) (ls : Array Slot), lv_has ls 5 [(0, .ref (b + r0)), (1, .int (mI x1)), (2, .int (mI x2)), (3, .int (mI x3))] → mW g b KX S H → va_S (mA b KX s.heap.size) s.heap H locs → ko74 r0 x1 x2 x3 S → W p l e { frames := 7, cells := 2, slots := 12, locals := 163 } s m args below meth c H locs 2 12 (vx_MQ below (mQi g b KX Q (mA b KX s.heap.size)) (mEx g b KX E (mA b KX s.heap.size)) args s 2 12 (mA b KX s.heap.size)) (F0 m 74 ls [])) (r0 : Nat) (kr0 : KX r0 = (0, 9, 0)) (x1 : Int) (ox1 : okI x1) (x2 : Int) (ox2 : okI x2) (x3 : Int) (ox3 : okI x3) (x4 : Int) (ox4 : okI x4) (S : mSt) (H : Heap) (locs : List Loc) (ls : Array Slot) (hl : lv_has ls 5 [(0, .ref (b + r0)), (1, .int (mI x1)), (2, .int (mI x2)), (3, .int (mI x3)), (4, .int (mI x4))]) (hW : mW g b KX S H) (hS : va_S (mA b KX s.heap.size) s.heap H locs) (h : w_X11_least_39b N Q E ko39 ko74 r0 x1 x2 x3 x4 S) : W p l e { frames := 7, cells := 2, slots := 12, locals := 163 } s m args below meth c H locs 2 12 (vx_MQ below (mQi g b KX Q (mA b KX s.heap.size)) (mEx g b KX E (mA b KX s.heap.size)) args s 2 12 (mA b KX s.heap.size)) (F0 m 39 ls []) := by
  unfold w_X11_least_39b at h
  refine m_iload (pc := 39) C.1 dX11_least_39 hl 4 rfl ?_
  refine m_aload_n (pc := 41) C.1 dX11_least_41 rfl hl 0 rfl ?_
  refine g_9_3 (pc := 42) C hW kr0 q_395 dX11_least_42 (fun q1 eq1 kq1 => ?_)
  replace h := h q1 eq1
  refine g_1_2 (pc := 45) C hW kq1 q_192 dX11_least_45 ?_
  refine m_icmp_ge (pc := 48) (tgt := 74) C.1 ox4 (hW.2.1 _ _) dX11_least_48 (by decide) (fun hc => ?_) (fun hc => ?_)
  · replace h := h.1 hc
    exact hko74 r0 kr0 x1 ox1 x2 ox2 x3 ox3 S _ _ _ (lv_sub hl [0, 1, 2, 3] rfl) hW hS h
  · replace h := h.2 hc
    refine m_aload_n (pc := 51) C.1 dX11_least_51 rfl hl 0 rfl ?_
    refine g_9_11 (pc := 52) C hW kr0 q_403 dX11_least_52 ?_
    refine m_iload_n (pc := 55) C.1 dX11_least_55 rfl hl 3 rfl ?_
    refine m_iload (pc := 56) C.1 dX11_least_56 hl 4 rfl ?_
    refine m_aload_n (pc := 58) C.1 dX11_least_58 rfl hl 0 rfl ?_
    refine m_iload_n (pc := 59) C.1 dX11_least_59 rfl hl 3 rfl ?_
    refine m_iload (pc := 60) C.1 dX11_least_60 hl 4 rfl ?_
    refine m_callVi (pc := 62) C.1 C.2.2.1 hl.1 C.2.1 hW hS (As := [.int (mI x3), .int (mI x4)]) (rest := [.int (mI x4), .int (mI x3), .ref (b + (r0 + 205))]) (r := r0) (T_X11_whiteIfWashed C.2.2.2.2.2.2 N r0 kr0 x3 ox3 x4 ox4 h) kr0 rfl q_1153 q_1155 q_13 q_81 q_1156 pl_X11_whiteIfWashed (by decide) (Nat.le_of_ble_eq_true rfl) dX11_least_62 (fun v2 S2 H locs ov2 h hW2 hS => ?_)
    refine m_callVv (pc := 65) C.1 C.2.2.1 hl.1 C.2.1 hW2 hS (As := [.int (mI x3), .int (mI x4), .int (mI v2)]) (rest := []) (r := (r0 + 205)) (T_X9_tell C.2.2.2.2.2.2 N (r0 + 205) (k_9_11 kr0) x3 ox3 x4 ox4 v2 ov2 h) (k_9_11 kr0) rfl q_1177 q_1178 q_1179 q_90 q_1180 pl_X9_tell (by decide) (Nat.le_of_ble_eq_true rfl) dX11_least_65 (fun S3 H locs h hW3 hS => ?_)
    refine m_iinc (pc := 68) C.1 dX11_least_68 hl (by decide) (q0 := 4) rfl (fun v => [(4, .int v), (0, .ref (b + r0)), (1, .int (mI x1)), (2, .int (mI x2)), (3, .int (mI x3))]) (fun _ => rfl) (fun v4 ls ev4 ov4 hl => ?_)
    replace h := h v4 ev4
    refine m_goto (pc := 71) (tgt := 39) C.1 dX11_least_71 (by decide) ?_
    exact hko39 r0 kr0 x1 ox1 x2 ox2 x3 ox3 v4 ov4 S3 _ _ _ (lv_sub hl [1, 2, 3, 4, 0] rfl) hW3 hS h
def w_X11_least_39 (N : Nat) (Q : mSt → Int → Prop) (E : String → mSt → Prop) (ko74 : Nat → Int → Int → Int → mSt → Prop) : Nat → Nat → Int → Int → Int → Int → mSt → Prop
  | 0 => fun _ _ _ _ _ _ => False
  | k + 1 => w_X11_least_39b N Q E (w_X11_least_39 N Q E ko74 k) ko74
theorem W_X11_least_39 (C : mC p l s m args meth c cX11_least "MoonWash" 5 (some FieldType.int) g) (N : Nat) {Q : mSt → Int → Prop} {E : String → mSt → Prop} {ko74 : Nat → Int → Int → Int → mSt → Prop} (hko74 : ∀ (r0 : Nat) (kr0 : KX r0 = (0, 9, 0)) (x1 : Int) (ox1 : okI x1) (x2 : Int) (ox2 : okI x2) (x3 : Int) (ox3 : okI x3) (S : mSt) (H : Heap) (locs : List Loc) (ls : Array Slot), lv_has ls 5 [(0, .ref (b + r0)), (1, .int (mI x1)), (2, .int (mI x2)), (3, .int (mI x3))] → mW g b KX S H → va_S (mA b KX s.heap.size) s.heap H locs → ko74 r0 x1 x2 x3 S → W p l e { frames := 7, cells := 2, slots := 12, locals := 163 } s m args below meth c H locs 2 12 (vx_MQ below (mQi g b KX Q (mA b KX s.heap.size)) (mEx g b KX E (mA b KX s.heap.size)) args s 2 12 (mA b KX s.heap.size)) (F0 m 74 ls [])) : ∀ (k : Nat) (r0 : Nat) (kr0 : KX r0 = (0, 9, 0)) (x1 : Int) (ox1 : okI x1) (x2 : Int) (ox2 : okI x2) (x3 : Int) (ox3 : okI x3) (x4 : Int) (ox4 : okI x4) (S : mSt) (H : Heap) (locs : List Loc) (ls : Array Slot) (hl : lv_has ls 5 [(0, .ref (b + r0)), (1, .int (mI x1)), (2, .int (mI x2)), (3, .int (mI x3)), (4, .int (mI x4))]) (hW : mW g b KX S H) (hS : va_S (mA b KX s.heap.size) s.heap H locs) (h : w_X11_least_39 N Q E ko74 k r0 x1 x2 x3 x4 S), W p l e { frames := 7, cells := 2, slots := 12, locals := 163 } s m args below meth c H locs 2 12 (vx_MQ below (mQi g b KX Q (mA b KX s.heap.size)) (mEx g b KX E (mA b KX s.heap.size)) args s 2 12 (mA b KX s.heap.size)) (F0 m 39 ls []) := by
  intro k
  induction k with
  | zero => intro r0 kr0 x1 ox1 x2 ox2 x3 ox3 x4 ox4 S H locs ls hl hW hS h; exact False.elim h
  | succ k ih => intro r0 kr0 x1 ox1 x2 ox2 x3 ox3 x4 ox4 S H locs ls hl hW hS h; exact W_X11_least_39b C N ih hko74 r0 kr0 x1 ox1 x2 ox2 x3 ox3 x4 ox4 S H locs ls hl hW hS h
def w_X11_least_30b (N : Nat) (Q : mSt → Int → Prop) (E : String → mSt → Prop) (ko30 : Nat → Int → Int → Int → mSt → Prop) (ko80 : Nat → Int → Int → mSt → Prop) (r0 : Nat) (x1 : Int) (x2 : Int) (x3 : Int) (S : mSt) : Prop :=
  ((8 ≤ x3 → ko80 r0 x1 x2 S) ∧ (x3 < 8 → ∀ v1 : Int, v1 = (-1) → w_X11_least_39 N Q E (fun (r0_2 : Nat) (x1_2 : Int) (x2_2 : Int) (x3_2 : Int) (S_2 : mSt) => ∀ v3 : Int, v3 = nm (x3_2 + 1) → ko30 r0_2 x1_2 x2_2 v3 S_2) N r0 x1 x2 x3 v1 S))
theorem W_X11_least_30b (C : mC p l s m args meth c cX11_least "MoonWash" 5 (some FieldType.int) g) (N : Nat) {Q : mSt → Int → Prop} {E : String → mSt → Prop} {ko30 : Nat → Int → Int → Int → mSt → Prop} {ko80 : Nat → Int → Int → mSt → Prop} (hko30 : ∀ (r0 : Nat) (kr0 : KX r0 = (0, 9, 0)) (x1 : Int) (ox1 : okI x1) (x2 : Int) (ox2 : okI x2) (x3 : Int) (ox3 : okI x3) (S : mSt) (H : Heap) (locs : List Loc) (ls : Array Slot), lv_has ls 5 [(0, .ref (b + r0)), (1, .int (mI x1)), (2, .int (mI x2)), (3, .int (mI x3))] → mW g b KX S H → va_S (mA b KX s.heap.size) s.heap H locs → ko30 r0 x1 x2 x3 S → W p l e { frames := 7, cells := 2, slots := 12, locals := 163 } s m args below meth c H locs 2 12 (vx_MQ below (mQi g b KX Q (mA b KX s.heap.size)) (mEx g b KX E (mA b KX s.heap.size)) args s 2 12 (mA b KX s.heap.size)) (F0 m 30 ls [])) (hko80 : ∀ (r0 : Nat) (kr0 : KX r0 = (0, 9, 0)) (x1 : Int) (ox1 : okI x1) (x2 : Int) (ox2 : okI x2) (S : mSt) (H : Heap) (locs : List Loc) (ls : Array Slot), lv_has ls 5 [(0, .ref (b + r0)), (1, .int (mI x1)), (2, .int (mI x2))] → mW g b KX S H → va_S (mA b KX s.heap.size) s.heap H locs → ko80 r0 x1 x2 S → W p l e { frames := 7, cells := 2, slots := 12, locals := 163 } s m args below meth c H locs 2 12 (vx_MQ below (mQi g b KX Q (mA b KX s.heap.size)) (mEx g b KX E (mA b KX s.heap.size)) args s 2 12 (mA b KX s.heap.size)) (F0 m 80 ls [])) (r0 : Nat) (kr0 : KX r0 = (0, 9, 0)) (x1 : Int) (ox1 : okI x1) (x2 : Int) (ox2 : okI x2) (x3 : Int) (ox3 : okI x3) (S : mSt) (H : Heap) (locs : List Loc) (ls : Array Slot) (hl : lv_has ls 5 [(0, .ref (b + r0)), (1, .int (mI x1)), (2, .int (mI x2)), (3, .int (mI x3))]) (hW : mW g b KX S H) (hS : va_S (mA b KX s.heap.size) s.heap H locs) (h : w_X11_least_30b N Q E ko30 ko80 r0 x1 x2 x3 S) : W p l e { frames := 7, cells := 2, slots := 12, locals := 163 } s m args below meth c H locs 2 12 (vx_MQ below (mQi g b KX Q (mA b KX s.heap.size)) (mEx g b KX E (mA b KX s.heap.size)) args s 2 12 (mA b KX s.heap.size)) (F0 m 30 ls []) := by
  unfold w_X11_least_30b at h
  refine m_iload_n (pc := 30) C.1 dX11_least_30 rfl hl 3 rfl ?_
  refine m_bipush (pc := 31) C.1 dX11_least_31 rfl ?_
  refine m_icmp_ge (pc := 33) (tgt := 80) C.1 ox3 (by decide : okI 8) dX11_least_33 (by decide) (fun hc => ?_) (fun hc => ?_)
  · replace h := h.1 hc
    exact hko80 r0 kr0 x1 ox1 x2 ox2 S _ _ _ (lv_sub hl [0, 1, 2] rfl) hW hS h
  · replace h := h.2 hc
    refine m_iconst (pc := 36) C.1 dX11_least_36 ?_
    refine m_istore (pc := 37) C.1 dX11_least_37 hl (by decide) (fun v => [(4, .int v), (0, .ref (b + r0)), (1, .int (mI x1)), (2, .int (mI x2)), (3, .int (mI x3))]) (fun _ => rfl) (by decide : okI (-1)) (fun v1 ls ev1 ov1 hl => ?_)
    replace h := h v1 ev1
    refine W_X11_least_39 C N ?_ N r0 kr0 x1 ox1 x2 ox2 x3 ox3 v1 ov1 S _ _ _ (lv_sub hl [1, 2, 3, 4, 0] rfl) hW hS h
    · intro r0_2 kr0_2 x1_2 ox1_2 x2_2 ox2_2 x3_2 ox3_2 S_2 H locs ls hl hW_2 hS h
      refine m_iinc (pc := 74) C.1 dX11_least_74 hl (by decide) (q0 := 3) rfl (fun v => [(3, .int v), (0, .ref (b + r0_2)), (1, .int (mI x1_2)), (2, .int (mI x2_2))]) (fun _ => rfl) (fun v3 ls ev3 ov3 hl => ?_)
      replace h := h v3 ev3
      refine m_goto (pc := 77) (tgt := 30) C.1 dX11_least_77 (by decide) ?_
      exact hko30 r0_2 kr0_2 x1_2 ox1_2 x2_2 ox2_2 v3 ov3 S_2 _ _ _ (lv_sub hl [1, 2, 3, 0] rfl) hW_2 hS h
def w_X11_least_30 (N : Nat) (Q : mSt → Int → Prop) (E : String → mSt → Prop) (ko80 : Nat → Int → Int → mSt → Prop) : Nat → Nat → Int → Int → Int → mSt → Prop
  | 0 => fun _ _ _ _ _ => False
  | k + 1 => w_X11_least_30b N Q E (w_X11_least_30 N Q E ko80 k) ko80
theorem W_X11_least_30 (C : mC p l s m args meth c cX11_least "MoonWash" 5 (some FieldType.int) g) (N : Nat) {Q : mSt → Int → Prop} {E : String → mSt → Prop} {ko80 : Nat → Int → Int → mSt → Prop} (hko80 : ∀ (r0 : Nat) (kr0 : KX r0 = (0, 9, 0)) (x1 : Int) (ox1 : okI x1) (x2 : Int) (ox2 : okI x2) (S : mSt) (H : Heap) (locs : List Loc) (ls : Array Slot), lv_has ls 5 [(0, .ref (b + r0)), (1, .int (mI x1)), (2, .int (mI x2))] → mW g b KX S H → va_S (mA b KX s.heap.size) s.heap H locs → ko80 r0 x1 x2 S → W p l e { frames := 7, cells := 2, slots := 12, locals := 163 } s m args below meth c H locs 2 12 (vx_MQ below (mQi g b KX Q (mA b KX s.heap.size)) (mEx g b KX E (mA b KX s.heap.size)) args s 2 12 (mA b KX s.heap.size)) (F0 m 80 ls [])) : ∀ (k : Nat) (r0 : Nat) (kr0 : KX r0 = (0, 9, 0)) (x1 : Int) (ox1 : okI x1) (x2 : Int) (ox2 : okI x2) (x3 : Int) (ox3 : okI x3) (S : mSt) (H : Heap) (locs : List Loc) (ls : Array Slot) (hl : lv_has ls 5 [(0, .ref (b + r0)), (1, .int (mI x1)), (2, .int (mI x2)), (3, .int (mI x3))]) (hW : mW g b KX S H) (hS : va_S (mA b KX s.heap.size) s.heap H locs) (h : w_X11_least_30 N Q E ko80 k r0 x1 x2 x3 S), W p l e { frames := 7, cells := 2, slots := 12, locals := 163 } s m args below meth c H locs 2 12 (vx_MQ below (mQi g b KX Q (mA b KX s.heap.size)) (mEx g b KX E (mA b KX s.heap.size)) args s 2 12 (mA b KX s.heap.size)) (F0 m 30 ls []) := by
  intro k
  induction k with
  | zero => intro r0 kr0 x1 ox1 x2 ox2 x3 ox3 S H locs ls hl hW hS h; exact False.elim h
  | succ k ih => intro r0 kr0 x1 ox1 x2 ox2 x3 ox3 S H locs ls hl hW hS h; exact W_X11_least_30b C N ih hko80 r0 kr0 x1 ox1 x2 ox2 x3 ox3 S H locs ls hl hW hS h
def w_X11_least_9 (N : Nat) (Q : mSt → Int → Prop) (E : String → mSt → Prop)  (r0 : Nat) (x1 : Int) (x2 : Int) (S : mSt) : Prop :=
  w_X11_checkNumber N x1 0 160 S (fun (S1 : mSt) => ∀ q2 : Nat, (q2 : Int) = S1 r0 3 → w_X9_begin N (r0 + 205) q2 S1 (fun (S3 : mSt) => ∀ v4 : Int, v4 = 0 → w_X11_least_30 N Q E (fun (r0_5 : Nat) (x1_5 : Int) (x2_5 : Int) (S_5 : mSt) => w_X9_fill N (r0_5 + 205) x1_5 S_5 (fun (S6 : mSt) => ((x2_5 ≠ (-1) → w_X9_soapOf N (r0_5 + 205) x2_5 x1_5 S6 (fun (S7 : mSt) (v7 : Int) => Q S7 v7)) ∧ (x2_5 = (-1) → w_X9_leastWater N (r0_5 + 205) x1_5 S6 (fun (S8 : mSt) (v8 : Int) => Q S8 v8))))) N r0 x1 x2 v4 S3)) E
theorem W_X11_least_9 (C : mC p l s m args meth c cX11_least "MoonWash" 5 (some FieldType.int) g) (N : Nat) {Q : mSt → Int → Prop} {E : String → mSt → Prop}   (r0 : Nat) (kr0 : KX r0 = (0, 9, 0)) (x1 : Int) (ox1 : okI x1) (x2 : Int) (ox2 : okI x2) (S : mSt) (H : Heap) (locs : List Loc) (ls : Array Slot) (hl : lv_has ls 5 [(0, .ref (b + r0)), (1, .int (mI x1)), (2, .int (mI x2))]) (hW : mW g b KX S H) (hS : va_S (mA b KX s.heap.size) s.heap H locs) (h : w_X11_least_9 N Q E  r0 x1 x2 S) : W p l e { frames := 7, cells := 2, slots := 12, locals := 163 } s m args below meth c H locs 1 6 (vx_MQ below (mQi g b KX Q (mA b KX s.heap.size)) (mEx g b KX E (mA b KX s.heap.size)) args s 2 12 (mA b KX s.heap.size)) (F0 m 9 ls []) := by
  unfold w_X11_least_9 at h
  refine m_iload_n (pc := 9) C.1 dX11_least_9 rfl hl 1 rfl ?_
  refine m_iconst (pc := 10) C.1 dX11_least_10 ?_
  refine m_sipush (pc := 11) C.1 dX11_least_11 rfl ?_
  refine m_callSvx (pc := 14) C.1 C.2.2.1 hl.1 C.2.1 hW hS (As := [.int (mI x1), .int (mI 0), .int (mI 160)]) (rest := []) (T_X11_checkNumber C.2.2.2.2.2.2 N x1 ox1 0 (by decide : okI 0) 160 (by decide : okI 160) h) q_1122 q_1123 q_81 q_1124 pl_X11_checkNumber (by decide) (Nat.le_of_ble_eq_true rfl) dX11_least_14 (fun En S1 H locs ce q9 hE hW1 hS h1 h2 h3 => m_prop C.2.2.2.2.2.1 C.2.2.2.2.1 hW1 hS hE h1 h2 h3 (by decide) (by decide)) (fun S1 H locs h hW1 hS => ?_)
  refine m_aload_n (pc := 17) C.1 dX11_least_17 rfl hl 0 rfl ?_
  refine g_9_11 (pc := 18) C hW1 kr0 q_403 dX11_least_18 ?_
  refine m_aload_n (pc := 21) C.1 dX11_least_21 rfl hl 0 rfl ?_
  refine g_9_3 (pc := 22) C hW1 kr0 q_395 dX11_least_22 (fun q2 eq2 kq2 => ?_)
  replace h := h q2 eq2
  refine m_callVv (pc := 25) C.1 C.2.2.1 hl.1 C.2.1 hW1 hS (As := [.ref (b + q2)]) (rest := []) (r := (r0 + 205)) (T_X9_begin C.2.2.2.2.2.2 N (r0 + 205) (k_9_11 kr0) q2 kq2 h) (k_9_11 kr0) rfl q_1172 q_1173 q_1174 q_90 q_1175 pl_X9_begin (by decide) (Nat.le_of_ble_eq_true rfl) dX11_least_25 (fun S3 H locs h hW3 hS => ?_)
  refine m_iconst (pc := 28) C.1 dX11_least_28 ?_
  refine m_istore_n (pc := 29) C.1 dX11_least_29 rfl hl (by decide) (fun v => [(3, .int v), (0, .ref (b + r0)), (1, .int (mI x1)), (2, .int (mI x2))]) (fun _ => rfl) (by decide : okI 0) (fun v4 ls ev4 ov4 hl => ?_)
  replace h := h v4 ev4
  refine W_X11_least_30 C N ?_ N r0 kr0 x1 ox1 x2 ox2 v4 ov4 S3 _ _ _ (lv_sub hl [1, 2, 3, 0] rfl) hW3 hS h
  · intro r0_5 kr0_5 x1_5 ox1_5 x2_5 ox2_5 S_5 H locs ls hl hW_5 hS h
    refine m_aload_n (pc := 80) C.1 dX11_least_80 rfl hl 0 rfl ?_
    refine g_9_11 (pc := 81) C hW_5 kr0_5 q_403 dX11_least_81 ?_
    refine m_iload_n (pc := 84) C.1 dX11_least_84 rfl hl 1 rfl ?_
    refine m_callVv (pc := 85) C.1 C.2.2.1 hl.1 C.2.1 hW_5 hS (As := [.int (mI x1_5)]) (rest := []) (r := (r0_5 + 205)) (T_X9_fill C.2.2.2.2.2.2 N (r0_5 + 205) (k_9_11 kr0_5) x1_5 ox1_5 h) (k_9_11 kr0_5) rfl q_1181 q_1182 q_1183 q_90 q_1184 pl_X9_fill (by decide) (Nat.le_of_ble_eq_true rfl) dX11_least_85 (fun S6 H locs h hW6 hS => ?_)
    refine m_iload_n (pc := 88) C.1 dX11_least_88 rfl hl 2 rfl ?_
    refine m_iconst (pc := 89) C.1 dX11_least_89 ?_
    refine m_icmp_ne (pc := 90) (tgt := 104) C.1 ox2_5 (by decide : okI (-1)) dX11_least_90 (by decide) (fun hc => ?_) (fun hc => ?_)
    · replace h := h.1 hc
      refine m_aload_n (pc := 104) C.1 dX11_least_104 rfl hl 0 rfl ?_
      refine g_9_11 (pc := 105) C hW6 kr0_5 q_403 dX11_least_105 ?_
      refine m_iload_n (pc := 108) C.1 dX11_least_108 rfl hl 2 rfl ?_
      refine m_iload_n (pc := 109) C.1 dX11_least_109 rfl hl 1 rfl ?_
      refine m_callVi (pc := 110) C.1 C.2.2.1 hl.1 C.2.1 hW6 hS (As := [.int (mI x2_5), .int (mI x1_5)]) (rest := []) (r := (r0_5 + 205)) (T_X9_soapOf C.2.2.2.2.2.2 N (r0_5 + 205) (k_9_11 kr0_5) x2_5 ox2_5 x1_5 ox1_5 h) (k_9_11 kr0_5) rfl q_1195 q_1196 q_1197 q_90 q_1198 pl_X9_soapOf (by decide) (Nat.le_of_ble_eq_true rfl) dX11_least_110 (fun v7 S7 H locs ov7 h hW7 hS => ?_)
      exact m_iret (pc := 113) C.1 C.2.2.2.1 C.2.2.2.2.1 hW7 hS ov7 h (by decide) (by decide) dX11_least_113
    · replace h := h.2 hc
      refine m_aload_n (pc := 93) C.1 dX11_least_93 rfl hl 0 rfl ?_
      refine g_9_11 (pc := 94) C hW6 kr0_5 q_403 dX11_least_94 ?_
      refine m_iload_n (pc := 97) C.1 dX11_least_97 rfl hl 1 rfl ?_
      refine m_callVi (pc := 98) C.1 C.2.2.1 hl.1 C.2.1 hW6 hS (As := [.int (mI x1_5)]) (rest := []) (r := (r0_5 + 205)) (T_X9_leastWater C.2.2.2.2.2.2 N (r0_5 + 205) (k_9_11 kr0_5) x1_5 ox1_5 h) (k_9_11 kr0_5) rfl q_1191 q_1192 q_1193 q_90 q_1194 pl_X9_leastWater (by decide) (Nat.le_of_ble_eq_true rfl) dX11_least_98 (fun v8 S8 H locs ov8 h hW8 hS => ?_)
      refine m_goto (pc := 101) (tgt := 113) C.1 dX11_least_101 (by decide) ?_
      exact m_iret (pc := 113) C.1 C.2.2.2.1 C.2.2.2.2.1 hW8 hS ov8 h (by decide) (by decide) dX11_least_113
end
def w_X11_least (N : Nat) (r0 : Nat) (x1 : Int) (x2 : Int) (S : mSt) (Q : mSt → Int → Prop) (E : String → mSt → Prop) : Prop :=
  ((x2 = (-1) → w_X11_least_9 N Q E  r0 x1 x2 S) ∧ (x2 ≠ (-1) → w_X11_checkPart N x2 S (fun (S1 : mSt) => w_X11_least_9 N Q E  r0 x1 x2 S1) E))
theorem T_X11_least {l : Launch} (hl0 : l.stackTraces = false) {g : mG} {b : Nat} (N : Nat) (r0 : Nat) (kr0 : KX r0 = (0, 9, 0)) (x1 : Int) (ox1 : okI x1) (x2 : Int) (ox2 : okI x2) {S : mSt} {Q : mSt → Int → Prop} {E : String → mSt → Prop} (h : w_X11_least N r0 x1 x2 S Q E) (sz : Nat) : vx_Met l yX11_least (Cond.code yX11_least cX11_least 5 (some FieldType.int) :: wsG) { frames := 7, cells := 2, slots := 12, locals := 163 } (mPc g b KX S [.ref (b + r0), .int (mI x1), .int (mI x2)] sz) (mQi g b KX Q (mA b KX sz)) (mEx g b KX E (mA b KX sz)) 2 12 (mA b KX sz) :=
  m_of (av := [.ref (b + r0), .int (mI x1), .int (mI x2)]) (Qf := fun A => mQi g b KX Q A) (Xf := fun A => mEx g b KX E A) (by decide) (Nat.le_of_ble_eq_true rfl) (fun p e s m args below meth c ls X hK hml hr hlk hout hnm hW hl => by
    have C : mC p l s m args meth c cX11_least "MoonWash" 5 (some FieldType.int) g := ⟨X, hK, hml, hr, hlk, hout, hl0⟩
    have hS : va_S (mA b KX s.heap.size) s.heap s.heap [] := va_S.rf
    have hl : lv_has ls 5 [(0, .ref (b + r0)), (1, .int (mI x1)), (2, .int (mI x2))] := hl
    unfold w_X11_least at h
    refine m_iload_n (pc := 0) C.1 dX11_least_0 rfl hl 2 rfl ?_
    refine m_iconst (pc := 1) C.1 dX11_least_1 ?_
    refine m_icmp_eq (pc := 2) (tgt := 9) C.1 ox2 (by decide : okI (-1)) dX11_least_2 (by decide) (fun hc => ?_) (fun hc => ?_)
    · replace h := h.1 hc
      refine W.widen (k := 1) (n := 6) (by decide) (by decide) ?_
      exact W_X11_least_9 C N  r0 kr0 x1 ox1 x2 ox2 S _ _ _ (lv_sub hl [0, 1, 2] rfl) hW hS h
    · replace h := h.2 hc
      refine m_iload_n (pc := 5) C.1 dX11_least_5 rfl hl 2 rfl ?_
      refine m_callSvx (pc := 6) C.1 C.2.2.1 hl.1 C.2.1 hW hS (As := [.int (mI x2)]) (rest := []) (T_X11_checkPart C.2.2.2.2.2.2 N x2 ox2 h) q_936 q_937 q_81 q_938 pl_X11_checkPart (by decide) (Nat.le_of_ble_eq_true rfl) dX11_least_6 (fun En S1 H locs ce q9 hE hW1 hS h1 h2 h3 => m_prop C.2.2.2.2.2.1 C.2.2.2.2.1 hW1 hS hE h1 h2 h3 (by decide) (by decide)) (fun S1 H locs h hW1 hS => ?_)
      exact W_X11_least_9 C N  r0 kr0 x1 ox1 x2 ox2 S1 _ _ _ (lv_sub hl [0, 1, 2] rfl) hW1 hS h) sz
section
variable {p : Program} {l : Launch} {e : Env} {s : State} {m : MethodId} {args : Array Value} {below : List Frame} {meth : Method} {c : Code} {g : mG} {b : Nat}
def w_X11_soaps_96 (N : Nat) (Q : mSt → Int → Prop) (E : String → mSt → Prop) (ko34 : Nat → Int → Int → Int → Int → mSt → Prop) (r0 : Nat) (x2 : Int) (x3 : Int) (x4 : Int) (x5 : Int) (S : mSt) : Prop :=
  ∀ v1 : Int, v1 = nm (x5 + 1) → ko34 r0 x2 x3 x4 v1 S
theorem W_X11_soaps_96 (C : mC p l s m args meth c cX11_soaps "MoonWash" 7 (some FieldType.int) g) (N : Nat) {Q : mSt → Int → Prop} {E : String → mSt → Prop} {ko34 : Nat → Int → Int → Int → Int → mSt → Prop} (hko34 : ∀ (r0 : Nat) (kr0 : KX r0 = (0, 9, 0)) (x2 : Int) (ox2 : okI x2) (x3 : Int) (ox3 : okI x3) (x4 : Int) (ox4 : okI x4) (x5 : Int) (ox5 : okI x5) (S : mSt) (H : Heap) (locs : List Loc) (ls : Array Slot), lv_has ls 7 [(0, .ref (b + r0)), (2, .int (mI x2)), (3, .int (mI x3)), (4, .int (mI x4)), (5, .int (mI x5))] → mW g b KX S H → va_S (mA b KX s.heap.size) s.heap H locs → ko34 r0 x2 x3 x4 x5 S → W p l e { frames := 7, cells := 1, slots := 6, locals := 120 } s m args below meth c H locs 1 6 (vx_MQ below (mQi g b KX Q (mA b KX s.heap.size)) (mEx g b KX E (mA b KX s.heap.size)) args s 1 6 (mA b KX s.heap.size)) (F0 m 34 ls [])) (r0 : Nat) (kr0 : KX r0 = (0, 9, 0)) (x2 : Int) (ox2 : okI x2) (x3 : Int) (ox3 : okI x3) (x4 : Int) (ox4 : okI x4) (x5 : Int) (ox5 : okI x5) (S : mSt) (H : Heap) (locs : List Loc) (ls : Array Slot) (hl : lv_has ls 7 [(0, .ref (b + r0)), (2, .int (mI x2)), (3, .int (mI x3)), (4, .int (mI x4)), (5, .int (mI x5))]) (hW : mW g b KX S H) (hS : va_S (mA b KX s.heap.size) s.heap H locs) (h : w_X11_soaps_96 N Q E ko34 r0 x2 x3 x4 x5 S) : W p l e { frames := 7, cells := 1, slots := 6, locals := 120 } s m args below meth c H locs 1 6 (vx_MQ below (mQi g b KX Q (mA b KX s.heap.size)) (mEx g b KX E (mA b KX s.heap.size)) args s 1 6 (mA b KX s.heap.size)) (F0 m 96 ls []) := by
  unfold w_X11_soaps_96 at h
  refine m_iinc (pc := 96) C.1 dX11_soaps_96 hl (by decide) (q0 := 4) rfl (fun v => [(5, .int v), (0, .ref (b + r0)), (2, .int (mI x2)), (3, .int (mI x3)), (4, .int (mI x4))]) (fun _ => rfl) (fun v1 ls ev1 ov1 hl => ?_)
  replace h := h v1 ev1
  refine m_goto (pc := 99) (tgt := 34) C.1 dX11_soaps_99 (by decide) ?_
  exact hko34 r0 kr0 x2 ox2 x3 ox3 x4 ox4 v1 ov1 S _ _ _ (lv_sub hl [1, 2, 3, 4, 0] rfl) hW hS h
def w_X11_soaps_69 (N : Nat) (Q : mSt → Int → Prop) (E : String → mSt → Prop) (ko34 : Nat → Int → Int → Int → Int → mSt → Prop) (r0 : Nat) (x2 : Int) (x3 : Int) (x4 : Int) (x5 : Int) (xs0 : Int) (S : mSt) : Prop :=
  ∀ v1 : Int, v1 = xs0 → ((v1 = 0 → w_X11_soaps_96 N Q E ko34 r0 x2 x3 x4 x5 S) ∧ (v1 ≠ 0 → w_J6_bitCount_0f7a4 N x5 S (fun (S2 : mSt) (v2 : Int) => ((x4 ≤ v2 → w_X11_soaps_96 N Q E ko34 r0 x2 x3 x4 x5 S2) ∧ (v2 < x4 → w_J6_bitCount_0f7a4 N x5 S2 (fun (S3 : mSt) (v3 : Int) => ∀ v4 : Int, v4 = v3 → ∀ v5 : Int, v5 = x5 → w_X11_soaps_96 N Q E ko34 r0 x2 v5 v4 x5 S3))))))
theorem W_X11_soaps_69 (C : mC p l s m args meth c cX11_soaps "MoonWash" 7 (some FieldType.int) g) (N : Nat) {Q : mSt → Int → Prop} {E : String → mSt → Prop} {ko34 : Nat → Int → Int → Int → Int → mSt → Prop} (hko34 : ∀ (r0 : Nat) (kr0 : KX r0 = (0, 9, 0)) (x2 : Int) (ox2 : okI x2) (x3 : Int) (ox3 : okI x3) (x4 : Int) (ox4 : okI x4) (x5 : Int) (ox5 : okI x5) (S : mSt) (H : Heap) (locs : List Loc) (ls : Array Slot), lv_has ls 7 [(0, .ref (b + r0)), (2, .int (mI x2)), (3, .int (mI x3)), (4, .int (mI x4)), (5, .int (mI x5))] → mW g b KX S H → va_S (mA b KX s.heap.size) s.heap H locs → ko34 r0 x2 x3 x4 x5 S → W p l e { frames := 7, cells := 1, slots := 6, locals := 120 } s m args below meth c H locs 1 6 (vx_MQ below (mQi g b KX Q (mA b KX s.heap.size)) (mEx g b KX E (mA b KX s.heap.size)) args s 1 6 (mA b KX s.heap.size)) (F0 m 34 ls [])) (r0 : Nat) (kr0 : KX r0 = (0, 9, 0)) (x2 : Int) (ox2 : okI x2) (x3 : Int) (ox3 : okI x3) (x4 : Int) (ox4 : okI x4) (x5 : Int) (ox5 : okI x5) (xs0 : Int) (oxs0 : okI xs0) (S : mSt) (H : Heap) (locs : List Loc) (ls : Array Slot) (hl : lv_has ls 7 [(0, .ref (b + r0)), (2, .int (mI x2)), (3, .int (mI x3)), (4, .int (mI x4)), (5, .int (mI x5))]) (hW : mW g b KX S H) (hS : va_S (mA b KX s.heap.size) s.heap H locs) (h : w_X11_soaps_69 N Q E ko34 r0 x2 x3 x4 x5 xs0 S) : W p l e { frames := 7, cells := 1, slots := 6, locals := 120 } s m args below meth c H locs 1 6 (vx_MQ below (mQi g b KX Q (mA b KX s.heap.size)) (mEx g b KX E (mA b KX s.heap.size)) args s 1 6 (mA b KX s.heap.size)) (F0 m 69 ls [.int (mI xs0)]) := by
  unfold w_X11_soaps_69 at h
  refine m_istore (pc := 69) C.1 dX11_soaps_69 hl (by decide) (fun v => [(6, .int v), (0, .ref (b + r0)), (2, .int (mI x2)), (3, .int (mI x3)), (4, .int (mI x4)), (5, .int (mI x5))]) (fun _ => rfl) oxs0 (fun v1 ls ev1 ov1 hl => ?_)
  replace h := h v1 ev1
  refine m_iload (pc := 71) C.1 dX11_soaps_71 hl 0 rfl ?_
  refine m_if_eq (pc := 73) (tgt := 96) C.1 ov1 dX11_soaps_73 (by decide) (fun hc => ?_) (fun hc => ?_)
  · replace h := h.1 hc
    exact W_X11_soaps_96 C N hko34 r0 kr0 x2 ox2 x3 ox3 x4 ox4 x5 ox5 S _ _ _ (lv_sub hl [1, 2, 3, 4, 5] rfl) hW hS h
  · replace h := h.2 hc
    refine m_iload (pc := 76) C.1 dX11_soaps_76 hl 5 rfl ?_
    refine m_callSi (pc := 78) C.1 C.2.2.1 hl.1 C.2.1 hW hS (As := [.int (mI x5)]) (rest := []) (T_J6_bitCount_0f7a4 C.2.2.2.2.2.2 N x5 ox5 h) q_576 q_507 q_107 q_508 pl_J6_bitCount_0f7a4 (by decide) (Nat.le_of_ble_eq_true rfl) dX11_soaps_78 (fun v2 S2 H locs ov2 h hW2 hS => ?_)
    refine m_iload (pc := 81) C.1 dX11_soaps_81 hl 4 rfl ?_
    refine m_icmp_ge (pc := 83) (tgt := 96) C.1 ov2 ox4 dX11_soaps_83 (by decide) (fun hc => ?_) (fun hc => ?_)
    · replace h := h.1 hc
      exact W_X11_soaps_96 C N hko34 r0 kr0 x2 ox2 x3 ox3 x4 ox4 x5 ox5 S2 _ _ _ (lv_sub hl [1, 2, 3, 4, 5] rfl) hW2 hS h
    · replace h := h.2 hc
      refine m_iload (pc := 86) C.1 dX11_soaps_86 hl 5 rfl ?_
      refine m_callSi (pc := 88) C.1 C.2.2.1 hl.1 C.2.1 hW2 hS (As := [.int (mI x5)]) (rest := []) (T_J6_bitCount_0f7a4 C.2.2.2.2.2.2 N x5 ox5 h) q_576 q_507 q_107 q_508 pl_J6_bitCount_0f7a4 (by decide) (Nat.le_of_ble_eq_true rfl) dX11_soaps_88 (fun v3 S3 H locs ov3 h hW3 hS => ?_)
      refine m_istore (pc := 91) C.1 dX11_soaps_91 hl (by decide) (fun v => [(4, .int v), (6, .int (mI v1)), (0, .ref (b + r0)), (2, .int (mI x2)), (3, .int (mI x3)), (5, .int (mI x5))]) (fun _ => rfl) ov3 (fun v4 ls ev4 ov4 hl => ?_)
      replace h := h v4 ev4
      refine m_iload (pc := 93) C.1 dX11_soaps_93 hl 5 rfl ?_
      refine m_istore_n (pc := 95) C.1 dX11_soaps_95 rfl hl (by decide) (fun v => [(3, .int v), (4, .int (mI v4)), (6, .int (mI v1)), (0, .ref (b + r0)), (2, .int (mI x2)), (5, .int (mI x5))]) (fun _ => rfl) ox5 (fun v5 ls ev5 ov5 hl => ?_)
      replace h := h v5 ev5
      exact W_X11_soaps_96 C N hko34 r0 kr0 x2 ox2 v5 ov5 v4 ov4 x5 ox5 S3 _ _ _ (lv_sub hl [3, 4, 0, 1, 5] rfl) hW3 hS h
def w_X11_soaps_34b (N : Nat) (Q : mSt → Int → Prop) (E : String → mSt → Prop) (ko34 : Nat → Int → Int → Int → Int → mSt → Prop) (ko102 : Int → mSt → Prop) (r0 : Nat) (x2 : Int) (x3 : Int) (x4 : Int) (x5 : Int) (S : mSt) : Prop :=
  ∀ q1 : Nat, (q1 : Int) = S r0 3 → (((bShl 1 (S q1 2)) ≤ x5 → ko102 x3 S) ∧ (x5 < (bShl 1 (S q1 2)) → ∀ q2 : Nat, (q2 : Int) = S r0 3 → w_X2_takenBy N q2 x5 S (fun (S3 : mSt) (v3 : Int) => (((bAnd x2 (bXor v3 (-1))) ≠ 0 → w_X11_soaps_69 N Q E ko34 r0 x2 x3 x4 x5 0 S3) ∧ ((bAnd x2 (bXor v3 (-1))) = 0 → w_X11_soaps_69 N Q E ko34 r0 x2 x3 x4 x5 1 S3)))))
theorem W_X11_soaps_34b (C : mC p l s m args meth c cX11_soaps "MoonWash" 7 (some FieldType.int) g) (N : Nat) {Q : mSt → Int → Prop} {E : String → mSt → Prop} {ko34 : Nat → Int → Int → Int → Int → mSt → Prop} {ko102 : Int → mSt → Prop} (hko34 : ∀ (r0 : Nat) (kr0 : KX r0 = (0, 9, 0)) (x2 : Int) (ox2 : okI x2) (x3 : Int) (ox3 : okI x3) (x4 : Int) (ox4 : okI x4) (x5 : Int) (ox5 : okI x5) (S : mSt) (H : Heap) (locs : List Loc) (ls : Array Slot), lv_has ls 7 [(0, .ref (b + r0)), (2, .int (mI x2)), (3, .int (mI x3)), (4, .int (mI x4)), (5, .int (mI x5))] → mW g b KX S H → va_S (mA b KX s.heap.size) s.heap H locs → ko34 r0 x2 x3 x4 x5 S → W p l e { frames := 7, cells := 1, slots := 6, locals := 120 } s m args below meth c H locs 1 6 (vx_MQ below (mQi g b KX Q (mA b KX s.heap.size)) (mEx g b KX E (mA b KX s.heap.size)) args s 1 6 (mA b KX s.heap.size)) (F0 m 34 ls [])) (hko102 : ∀ (x3 : Int) (ox3 : okI x3) (S : mSt) (H : Heap) (locs : List Loc) (ls : Array Slot), lv_has ls 7 [(3, .int (mI x3))] → mW g b KX S H → va_S (mA b KX s.heap.size) s.heap H locs → ko102 x3 S → W p l e { frames := 7, cells := 1, slots := 6, locals := 120 } s m args below meth c H locs 1 6 (vx_MQ below (mQi g b KX Q (mA b KX s.heap.size)) (mEx g b KX E (mA b KX s.heap.size)) args s 1 6 (mA b KX s.heap.size)) (F0 m 102 ls [])) (r0 : Nat) (kr0 : KX r0 = (0, 9, 0)) (x2 : Int) (ox2 : okI x2) (x3 : Int) (ox3 : okI x3) (x4 : Int) (ox4 : okI x4) (x5 : Int) (ox5 : okI x5) (S : mSt) (H : Heap) (locs : List Loc) (ls : Array Slot) (hl : lv_has ls 7 [(0, .ref (b + r0)), (2, .int (mI x2)), (3, .int (mI x3)), (4, .int (mI x4)), (5, .int (mI x5))]) (hW : mW g b KX S H) (hS : va_S (mA b KX s.heap.size) s.heap H locs) (h : w_X11_soaps_34b N Q E ko34 ko102 r0 x2 x3 x4 x5 S) : W p l e { frames := 7, cells := 1, slots := 6, locals := 120 } s m args below meth c H locs 1 6 (vx_MQ below (mQi g b KX Q (mA b KX s.heap.size)) (mEx g b KX E (mA b KX s.heap.size)) args s 1 6 (mA b KX s.heap.size)) (F0 m 34 ls []) := by
  unfold w_X11_soaps_34b at h
  refine m_iload (pc := 34) C.1 dX11_soaps_34 hl 4 rfl ?_
  refine m_iconst (pc := 36) C.1 dX11_soaps_36 ?_
  refine m_aload_n (pc := 37) C.1 dX11_soaps_37 rfl hl 0 rfl ?_
  refine g_9_3 (pc := 38) C hW kr0 q_395 dX11_soaps_38 (fun q1 eq1 kq1 => ?_)
  replace h := h q1 eq1
  refine g_1_2 (pc := 41) C hW kq1 q_192 dX11_soaps_41 ?_
  refine m_ishl (pc := 44) C.1 dX11_soaps_44 ?_
  refine m_icmp_ge (pc := 45) (tgt := 102) C.1 ox5 (bShl_ok _ _) dX11_soaps_45 (by decide) (fun hc => ?_) (fun hc => ?_)
  · replace h := h.1 hc
    exact hko102 x3 ox3 S _ _ _ (lv_sub hl [2] rfl) hW hS h
  · replace h := h.2 hc
    refine m_iload_n (pc := 48) C.1 dX11_soaps_48 rfl hl 1 rfl ?_
    refine m_aload_n (pc := 49) C.1 dX11_soaps_49 rfl hl 0 rfl ?_
    refine g_9_3 (pc := 50) C hW kr0 q_395 dX11_soaps_50 (fun q2 eq2 kq2 => ?_)
    replace h := h q2 eq2
    refine m_iload (pc := 53) C.1 dX11_soaps_53 hl 4 rfl ?_
    refine m_callVi (pc := 55) C.1 C.2.2.1 hl.1 C.2.1 hW hS (As := [.int (mI x5)]) (rest := [.int (mI x2)]) (r := q2) (T_X2_takenBy C.2.2.2.2.2.2 N q2 kq2 x5 ox5 h) kq2 rfl q_1210 q_968 q_969 q_82 q_970 pl_X2_takenBy (by decide) (Nat.le_of_ble_eq_true rfl) dX11_soaps_55 (fun v3 S3 H locs ov3 h hW3 hS => ?_)
    refine m_iconst (pc := 58) C.1 dX11_soaps_58 ?_
    refine m_ixor (pc := 59) C.1 dX11_soaps_59 ?_
    refine m_iand (pc := 60) C.1 dX11_soaps_60 ?_
    refine m_if_ne (pc := 61) (tgt := 68) C.1 (bAnd_ok _ _) dX11_soaps_61 (by decide) (fun hc => ?_) (fun hc => ?_)
    · replace h := h.1 hc
      refine m_iconst (pc := 68) C.1 dX11_soaps_68 ?_
      exact W_X11_soaps_69 C N hko34 r0 kr0 x2 ox2 x3 ox3 x4 ox4 x5 ox5 0 (by decide : okI 0) S3 _ _ _ (lv_sub hl [0, 1, 2, 3, 4] rfl) hW3 hS h
    · replace h := h.2 hc
      refine m_iconst (pc := 64) C.1 dX11_soaps_64 ?_
      refine m_goto (pc := 65) (tgt := 69) C.1 dX11_soaps_65 (by decide) ?_
      exact W_X11_soaps_69 C N hko34 r0 kr0 x2 ox2 x3 ox3 x4 ox4 x5 ox5 1 (by decide : okI 1) S3 _ _ _ (lv_sub hl [0, 1, 2, 3, 4] rfl) hW3 hS h
def w_X11_soaps_34 (N : Nat) (Q : mSt → Int → Prop) (E : String → mSt → Prop) (ko102 : Int → mSt → Prop) : Nat → Nat → Int → Int → Int → Int → mSt → Prop
  | 0 => fun _ _ _ _ _ _ => False
  | k + 1 => w_X11_soaps_34b N Q E (w_X11_soaps_34 N Q E ko102 k) ko102
theorem W_X11_soaps_34 (C : mC p l s m args meth c cX11_soaps "MoonWash" 7 (some FieldType.int) g) (N : Nat) {Q : mSt → Int → Prop} {E : String → mSt → Prop} {ko102 : Int → mSt → Prop} (hko102 : ∀ (x3 : Int) (ox3 : okI x3) (S : mSt) (H : Heap) (locs : List Loc) (ls : Array Slot), lv_has ls 7 [(3, .int (mI x3))] → mW g b KX S H → va_S (mA b KX s.heap.size) s.heap H locs → ko102 x3 S → W p l e { frames := 7, cells := 1, slots := 6, locals := 120 } s m args below meth c H locs 1 6 (vx_MQ below (mQi g b KX Q (mA b KX s.heap.size)) (mEx g b KX E (mA b KX s.heap.size)) args s 1 6 (mA b KX s.heap.size)) (F0 m 102 ls [])) : ∀ (k : Nat) (r0 : Nat) (kr0 : KX r0 = (0, 9, 0)) (x2 : Int) (ox2 : okI x2) (x3 : Int) (ox3 : okI x3) (x4 : Int) (ox4 : okI x4) (x5 : Int) (ox5 : okI x5) (S : mSt) (H : Heap) (locs : List Loc) (ls : Array Slot) (hl : lv_has ls 7 [(0, .ref (b + r0)), (2, .int (mI x2)), (3, .int (mI x3)), (4, .int (mI x4)), (5, .int (mI x5))]) (hW : mW g b KX S H) (hS : va_S (mA b KX s.heap.size) s.heap H locs) (h : w_X11_soaps_34 N Q E ko102 k r0 x2 x3 x4 x5 S), W p l e { frames := 7, cells := 1, slots := 6, locals := 120 } s m args below meth c H locs 1 6 (vx_MQ below (mQi g b KX Q (mA b KX s.heap.size)) (mEx g b KX E (mA b KX s.heap.size)) args s 1 6 (mA b KX s.heap.size)) (F0 m 34 ls []) := by
  intro k
  induction k with
  | zero => intro r0 kr0 x2 ox2 x3 ox3 x4 ox4 x5 ox5 S H locs ls hl hW hS h; exact False.elim h
  | succ k ih => intro r0 kr0 x2 ox2 x3 ox3 x4 ox4 x5 ox5 S H locs ls hl hW hS h; exact W_X11_soaps_34b C N ih hko102 r0 kr0 x2 ox2 x3 ox3 x4 ox4 x5 ox5 S H locs ls hl hW hS h
end
def w_X11_soaps (N : Nat) (r0 : Nat) (x1 : Int) (S : mSt) (Q : mSt → Int → Prop) (E : String → mSt → Prop) : Prop :=
  w_X11_checkPart N x1 S (fun (S1 : mSt) => ∀ q2 : Nat, (q2 : Int) = S1 r0 3 → (0 ≤ x1 ∧ x1 < 8 ∧ ∀ q4 : Nat, (q4 : Int) = S1 r0 3 → w_X2_takenByAny N q4 S1 (fun (S5 : mSt) (v5 : Int) => ∀ v6 : Int, v6 = (bAnd (S1 ((q2 + 1) + 4) x1) v5) → ∀ v7 : Int, v7 = 0 → ∀ v8 : Int, v8 = 7 → ∀ v9 : Int, v9 = 0 → w_X11_soaps_34 N Q E (fun (x3_10 : Int) (S_10 : mSt) => Q S_10 x3_10) N r0 v6 v7 v8 v9 S5))) E
theorem T_X11_soaps {l : Launch} (hl0 : l.stackTraces = false) {g : mG} {b : Nat} (N : Nat) (r0 : Nat) (kr0 : KX r0 = (0, 9, 0)) (x1 : Int) (ox1 : okI x1) {S : mSt} {Q : mSt → Int → Prop} {E : String → mSt → Prop} (h : w_X11_soaps N r0 x1 S Q E) (sz : Nat) : vx_Met l yX11_soaps (Cond.code yX11_soaps cX11_soaps 7 (some FieldType.int) :: wsG) { frames := 7, cells := 1, slots := 6, locals := 120 } (mPc g b KX S [.ref (b + r0), .int (mI x1)] sz) (mQi g b KX Q (mA b KX sz)) (mEx g b KX E (mA b KX sz)) 1 6 (mA b KX sz) :=
  m_of (av := [.ref (b + r0), .int (mI x1)]) (Qf := fun A => mQi g b KX Q A) (Xf := fun A => mEx g b KX E A) (by decide) (Nat.le_of_ble_eq_true rfl) (fun p e s m args below meth c ls X hK hml hr hlk hout hnm hW hl => by
    have C : mC p l s m args meth c cX11_soaps "MoonWash" 7 (some FieldType.int) g := ⟨X, hK, hml, hr, hlk, hout, hl0⟩
    have hS : va_S (mA b KX s.heap.size) s.heap s.heap [] := va_S.rf
    have hl : lv_has ls 7 [(0, .ref (b + r0)), (1, .int (mI x1))] := hl
    unfold w_X11_soaps at h
    refine m_iload_n (pc := 0) C.1 dX11_soaps_0 rfl hl 1 rfl ?_
    refine m_callSvx (pc := 1) C.1 C.2.2.1 hl.1 C.2.1 hW hS (As := [.int (mI x1)]) (rest := []) (T_X11_checkPart C.2.2.2.2.2.2 N x1 ox1 h) q_936 q_937 q_81 q_938 pl_X11_checkPart (by decide) (Nat.le_of_ble_eq_true rfl) dX11_soaps_1 (fun En S1 H locs ce q9 hE hW1 hS h1 h2 h3 => m_prop C.2.2.2.2.2.1 C.2.2.2.2.1 hW1 hS hE h1 h2 h3 (by decide) (by decide)) (fun S1 H locs h hW1 hS => ?_)
    refine m_aload_n (pc := 4) C.1 dX11_soaps_4 rfl hl 0 rfl ?_
    refine g_9_3 (pc := 5) C hW1 kr0 q_395 dX11_soaps_5 (fun q2 eq2 kq2 => ?_)
    replace h := h q2 eq2
    refine g_1_0 (pc := 8) C hW1 kq2 q_187 dX11_soaps_8 ?_
    refine g_3_3 (pc := 11) C hW1 (k_1_0 kq2) q_145 dX11_soaps_11 ?_
    refine m_iload_n (pc := 14) C.1 dX11_soaps_14 rfl hl 1 rfl ?_
    obtain ⟨hb3a, hb3b, h⟩ := h
    refine m_iald (pc := 15) C.1 C.2.1 hW1 (k_3_3 (k_1_0 kq2)) ox1 hb3a hb3b dX11_soaps_15 ?_
    refine m_aload_n (pc := 16) C.1 dX11_soaps_16 rfl hl 0 rfl ?_
    refine g_9_3 (pc := 17) C hW1 kr0 q_395 dX11_soaps_17 (fun q4 eq4 kq4 => ?_)
    replace h := h q4 eq4
    refine m_callVi (pc := 20) C.1 C.2.2.1 hl.1 C.2.1 hW1 hS (As := []) (rest := [.int (mI (S1 ((q2 + 1) + 4) x1))]) (r := q4) (T_X2_takenByAny C.2.2.2.2.2.2 N q4 kq4 h) kq4 rfl q_963 q_964 q_965 q_82 q_966 pl_X2_takenByAny (by decide) (Nat.le_of_ble_eq_true rfl) dX11_soaps_20 (fun v5 S5 H locs ov5 h hW5 hS => ?_)
    refine m_iand (pc := 23) C.1 dX11_soaps_23 ?_
    refine m_istore_n (pc := 24) C.1 dX11_soaps_24 rfl hl (by decide) (fun v => [(2, .int v), (0, .ref (b + r0)), (1, .int (mI x1))]) (fun _ => rfl) (bAnd_ok _ _) (fun v6 ls ev6 ov6 hl => ?_)
    replace h := h v6 ev6
    refine m_iconst (pc := 25) C.1 dX11_soaps_25 ?_
    refine m_istore_n (pc := 26) C.1 dX11_soaps_26 rfl hl (by decide) (fun v => [(3, .int v), (2, .int (mI v6)), (0, .ref (b + r0)), (1, .int (mI x1))]) (fun _ => rfl) (by decide : okI 0) (fun v7 ls ev7 ov7 hl => ?_)
    replace h := h v7 ev7
    refine m_bipush (pc := 27) C.1 dX11_soaps_27 rfl ?_
    refine m_istore (pc := 29) C.1 dX11_soaps_29 hl (by decide) (fun v => [(4, .int v), (3, .int (mI v7)), (2, .int (mI v6)), (0, .ref (b + r0)), (1, .int (mI x1))]) (fun _ => rfl) (by decide : okI 7) (fun v8 ls ev8 ov8 hl => ?_)
    replace h := h v8 ev8
    refine m_iconst (pc := 31) C.1 dX11_soaps_31 ?_
    refine m_istore (pc := 32) C.1 dX11_soaps_32 hl (by decide) (fun v => [(5, .int v), (4, .int (mI v8)), (3, .int (mI v7)), (2, .int (mI v6)), (0, .ref (b + r0)), (1, .int (mI x1))]) (fun _ => rfl) (by decide : okI 0) (fun v9 ls ev9 ov9 hl => ?_)
    replace h := h v9 ev9
    refine W_X11_soaps_34 C N ?_ N r0 kr0 v6 ov6 v7 ov7 v8 ov8 v9 ov9 S5 _ _ _ (lv_sub hl [4, 3, 2, 1, 0] rfl) hW5 hS h
    · intro x3_10 ox3_10 S_10 H locs ls hl hW_10 hS h
      refine m_iload_n (pc := 102) C.1 dX11_soaps_102 rfl hl 0 rfl ?_
      exact m_iret (pc := 103) C.1 C.2.2.2.1 C.2.2.2.2.1 hW_10 hS ox3_10 h (by decide) (by decide) dX11_soaps_103) sz
section
variable {p : Program} {l : Launch} {e : Env} {s : State} {m : MethodId} {args : Array Value} {below : List Frame} {meth : Method} {c : Code} {g : mG} {b : Nat}
end
def w_X11_washes (N : Nat) (r0 : Nat) (x1 : Int) (x2 : Int) (S : mSt) (Q : mSt → Int → Prop) (E : String → mSt → Prop) : Prop :=
  w_X11_checkPart N x1 S (fun (S1 : mSt) => w_X11_checkSoap N r0 x2 S1 (fun (S2 : mSt) => ∀ q3 : Nat, (q3 : Int) = S2 r0 3 → (0 ≤ x1 ∧ x1 < 8 ∧ ∀ v5 : Int, v5 = (S2 ((q3 + 1) + 1) x1) → ∀ q6 : Nat, (q6 : Int) = S2 r0 3 → w_X2_strength N q6 x2 S2 (fun (S7 : mSt) (v7 : Int) => ∀ v8 : Int, v8 = v7 → ((v5 ≠ 0 → ((0 < v8 → (v8 ≠ 0 ∧ Q S7 (iDiv (nm ((nm (v5 + v8)) - 1)) v8))) ∧ (v8 ≤ 0 → Q S7 (-1)))) ∧ (v5 = 0 → Q S7 0))))) E) E
theorem T_X11_washes {l : Launch} (hl0 : l.stackTraces = false) {g : mG} {b : Nat} (N : Nat) (r0 : Nat) (kr0 : KX r0 = (0, 9, 0)) (x1 : Int) (ox1 : okI x1) (x2 : Int) (ox2 : okI x2) {S : mSt} {Q : mSt → Int → Prop} {E : String → mSt → Prop} (h : w_X11_washes N r0 x1 x2 S Q E) (sz : Nat) : vx_Met l yX11_washes (Cond.code yX11_washes cX11_washes 5 (some FieldType.int) :: wsG) { frames := 7, cells := 2, slots := 12, locals := 121 } (mPc g b KX S [.ref (b + r0), .int (mI x1), .int (mI x2)] sz) (mQi g b KX Q (mA b KX sz)) (mEx g b KX E (mA b KX sz)) 2 12 (mA b KX sz) :=
  m_of (av := [.ref (b + r0), .int (mI x1), .int (mI x2)]) (Qf := fun A => mQi g b KX Q A) (Xf := fun A => mEx g b KX E A) (by decide) (Nat.le_of_ble_eq_true rfl) (fun p e s m args below meth c ls X hK hml hr hlk hout hnm hW hl => by
    have C : mC p l s m args meth c cX11_washes "MoonWash" 5 (some FieldType.int) g := ⟨X, hK, hml, hr, hlk, hout, hl0⟩
    have hS : va_S (mA b KX s.heap.size) s.heap s.heap [] := va_S.rf
    have hl : lv_has ls 5 [(0, .ref (b + r0)), (1, .int (mI x1)), (2, .int (mI x2))] := hl
    unfold w_X11_washes at h
    refine m_iload_n (pc := 0) C.1 dX11_washes_0 rfl hl 1 rfl ?_
    refine m_callSvx (pc := 1) C.1 C.2.2.1 hl.1 C.2.1 hW hS (As := [.int (mI x1)]) (rest := []) (T_X11_checkPart C.2.2.2.2.2.2 N x1 ox1 h) q_936 q_937 q_81 q_938 pl_X11_checkPart (by decide) (Nat.le_of_ble_eq_true rfl) dX11_washes_1 (fun En S1 H locs ce q9 hE hW1 hS h1 h2 h3 => m_prop C.2.2.2.2.2.1 C.2.2.2.2.1 hW1 hS hE h1 h2 h3 (by decide) (by decide)) (fun S1 H locs h hW1 hS => ?_)
    refine m_aload_n (pc := 4) C.1 dX11_washes_4 rfl hl 0 rfl ?_
    refine m_iload_n (pc := 5) C.1 dX11_washes_5 rfl hl 2 rfl ?_
    refine m_callVvx (pc := 6) C.1 C.2.2.1 hl.1 C.2.1 hW1 hS (As := [.int (mI x2)]) (rest := []) (r := r0) (T_X11_checkSoap C.2.2.2.2.2.2 N r0 kr0 x2 ox2 h) kr0 rfl q_997 q_999 q_11 q_81 q_1000 pl_X11_checkSoap (by decide) (Nat.le_of_ble_eq_true rfl) dX11_washes_6 (fun En S2 H locs ce q9 hE hW2 hS h1 h2 h3 => m_prop C.2.2.2.2.2.1 C.2.2.2.2.1 hW2 hS hE h1 h2 h3 (by decide) (by decide)) (fun S2 H locs h hW2 hS => ?_)
    refine m_aload_n (pc := 9) C.1 dX11_washes_9 rfl hl 0 rfl ?_
    refine g_9_3 (pc := 10) C hW2 kr0 q_395 dX11_washes_10 (fun q3 eq3 kq3 => ?_)
    replace h := h q3 eq3
    refine g_1_0 (pc := 13) C hW2 kq3 q_187 dX11_washes_13 ?_
    refine g_3_0 (pc := 16) C hW2 (k_1_0 kq3) q_133 dX11_washes_16 ?_
    refine m_iload_n (pc := 19) C.1 dX11_washes_19 rfl hl 1 rfl ?_
    obtain ⟨hb4a, hb4b, h⟩ := h
    refine m_iald (pc := 20) C.1 C.2.1 hW2 (k_3_0 (k_1_0 kq3)) ox1 hb4a hb4b dX11_washes_20 ?_
    refine m_istore_n (pc := 21) C.1 dX11_washes_21 rfl hl (by decide) (fun v => [(3, .int v), (0, .ref (b + r0)), (1, .int (mI x1)), (2, .int (mI x2))]) (fun _ => rfl) (hW2.2.1 _ _) (fun v5 ls ev5 ov5 hl => ?_)
    replace h := h v5 ev5
    refine m_aload_n (pc := 22) C.1 dX11_washes_22 rfl hl 1 rfl ?_
    refine g_9_3 (pc := 23) C hW2 kr0 q_395 dX11_washes_23 (fun q6 eq6 kq6 => ?_)
    replace h := h q6 eq6
    refine m_iload_n (pc := 26) C.1 dX11_washes_26 rfl hl 3 rfl ?_
    refine m_callVi (pc := 27) C.1 C.2.2.1 hl.1 C.2.1 hW2 hS (As := [.int (mI x2)]) (rest := []) (r := q6) (T_X2_strength C.2.2.2.2.2.2 N q6 kq6 x2 ox2 h) kq6 rfl q_1001 q_1002 q_1003 q_82 q_1004 pl_X2_strength (by decide) (Nat.le_of_ble_eq_true rfl) dX11_washes_27 (fun v7 S7 H locs ov7 h hW7 hS => ?_)
    refine m_istore (pc := 30) C.1 dX11_washes_30 hl (by decide) (fun v => [(4, .int v), (3, .int (mI v5)), (0, .ref (b + r0)), (1, .int (mI x1)), (2, .int (mI x2))]) (fun _ => rfl) ov7 (fun v8 ls ev8 ov8 hl => ?_)
    replace h := h v8 ev8
    refine m_iload_n (pc := 32) C.1 dX11_washes_32 rfl hl 1 rfl ?_
    refine m_if_ne (pc := 33) (tgt := 38) C.1 ov5 dX11_washes_33 (by decide) (fun hc => ?_) (fun hc => ?_)
    · replace h := h.1 hc
      refine m_iload (pc := 38) C.1 dX11_washes_38 hl 0 rfl ?_
      refine m_if_gt (pc := 40) (tgt := 47) C.1 ov8 dX11_washes_40 (by decide) (fun hc => ?_) (fun hc => ?_)
      · replace h := h.1 hc
        refine m_iload_n (pc := 47) C.1 dX11_washes_47 rfl hl 1 rfl ?_
        refine m_iload (pc := 48) C.1 dX11_washes_48 hl 0 rfl ?_
        refine m_iadd (pc := 50) C.1 dX11_washes_50 ?_
        refine m_iconst (pc := 51) C.1 dX11_washes_51 ?_
        refine m_isub (pc := 52) C.1 dX11_washes_52 ?_
        refine m_iload (pc := 53) C.1 dX11_washes_53 hl 0 rfl ?_
        obtain ⟨hz9, h⟩ := h
        refine m_idiv (pc := 55) C.1 ov8 hz9 dX11_washes_55 ?_
        exact m_iret (pc := 56) C.1 C.2.2.2.1 C.2.2.2.2.1 hW7 hS (iDiv_ok _ _) h (by decide) (by decide) dX11_washes_56
      · replace h := h.2 hc
        refine m_iconst (pc := 43) C.1 dX11_washes_43 ?_
        refine m_goto (pc := 44) (tgt := 56) C.1 dX11_washes_44 (by decide) ?_
        exact m_iret (pc := 56) C.1 C.2.2.2.1 C.2.2.2.2.1 hW7 hS (by decide : okI (-1)) h (by decide) (by decide) dX11_washes_56
    · replace h := h.2 hc
      refine m_iconst (pc := 36) C.1 dX11_washes_36 ?_
      exact m_iret (pc := 37) C.1 C.2.2.2.1 C.2.2.2.2.1 hW7 hS (by decide : okI 0) h (by decide) (by decide) dX11_washes_37) sz
section
variable {p : Program} {l : Launch} {e : Env} {s : State} {m : MethodId} {args : Array Value} {below : List Frame} {meth : Method} {c : Code} {g : mG} {b : Nat}
end
def w_X11_wears (N : Nat) (r0 : Nat) (x1 : Int) (x2 : Int) (S : mSt) (Q : mSt → Int → Prop) (E : String → mSt → Prop) : Prop :=
  w_X11_checkPart N x1 S (fun (S1 : mSt) => w_X11_checkSoap N r0 x2 S1 (fun (S2 : mSt) => ∀ q3 : Nat, (q3 : Int) = S2 r0 3 → w_X2_rough N q3 x2 S2 (fun (S4 : mSt) (v4 : Int) => ∀ v5 : Int, v5 = (nm (1 + v4)) → ((0 < v5 → ∀ q6 : Nat, (q6 : Int) = S4 r0 3 → (0 ≤ x1 ∧ x1 < 8 ∧ (v5 ≠ 0 ∧ Q S4 (iDiv (nm ((nm ((nm (9 - (S4 ((q6 + 1) + 2) x1))) + v5)) - 1)) v5)))) ∧ (v5 ≤ 0 → Q S4 0)))) E) E
theorem T_X11_wears {l : Launch} (hl0 : l.stackTraces = false) {g : mG} {b : Nat} (N : Nat) (r0 : Nat) (kr0 : KX r0 = (0, 9, 0)) (x1 : Int) (ox1 : okI x1) (x2 : Int) (ox2 : okI x2) {S : mSt} {Q : mSt → Int → Prop} {E : String → mSt → Prop} (h : w_X11_wears N r0 x1 x2 S Q E) (sz : Nat) : vx_Met l yX11_wears (Cond.code yX11_wears cX11_wears 4 (some FieldType.int) :: wsG) { frames := 7, cells := 2, slots := 12, locals := 121 } (mPc g b KX S [.ref (b + r0), .int (mI x1), .int (mI x2)] sz) (mQi g b KX Q (mA b KX sz)) (mEx g b KX E (mA b KX sz)) 2 12 (mA b KX sz) :=
  m_of (av := [.ref (b + r0), .int (mI x1), .int (mI x2)]) (Qf := fun A => mQi g b KX Q A) (Xf := fun A => mEx g b KX E A) (by decide) (Nat.le_of_ble_eq_true rfl) (fun p e s m args below meth c ls X hK hml hr hlk hout hnm hW hl => by
    have C : mC p l s m args meth c cX11_wears "MoonWash" 4 (some FieldType.int) g := ⟨X, hK, hml, hr, hlk, hout, hl0⟩
    have hS : va_S (mA b KX s.heap.size) s.heap s.heap [] := va_S.rf
    have hl : lv_has ls 4 [(0, .ref (b + r0)), (1, .int (mI x1)), (2, .int (mI x2))] := hl
    unfold w_X11_wears at h
    refine m_iload_n (pc := 0) C.1 dX11_wears_0 rfl hl 1 rfl ?_
    refine m_callSvx (pc := 1) C.1 C.2.2.1 hl.1 C.2.1 hW hS (As := [.int (mI x1)]) (rest := []) (T_X11_checkPart C.2.2.2.2.2.2 N x1 ox1 h) q_936 q_937 q_81 q_938 pl_X11_checkPart (by decide) (Nat.le_of_ble_eq_true rfl) dX11_wears_1 (fun En S1 H locs ce q9 hE hW1 hS h1 h2 h3 => m_prop C.2.2.2.2.2.1 C.2.2.2.2.1 hW1 hS hE h1 h2 h3 (by decide) (by decide)) (fun S1 H locs h hW1 hS => ?_)
    refine m_aload_n (pc := 4) C.1 dX11_wears_4 rfl hl 0 rfl ?_
    refine m_iload_n (pc := 5) C.1 dX11_wears_5 rfl hl 2 rfl ?_
    refine m_callVvx (pc := 6) C.1 C.2.2.1 hl.1 C.2.1 hW1 hS (As := [.int (mI x2)]) (rest := []) (r := r0) (T_X11_checkSoap C.2.2.2.2.2.2 N r0 kr0 x2 ox2 h) kr0 rfl q_997 q_999 q_11 q_81 q_1000 pl_X11_checkSoap (by decide) (Nat.le_of_ble_eq_true rfl) dX11_wears_6 (fun En S2 H locs ce q9 hE hW2 hS h1 h2 h3 => m_prop C.2.2.2.2.2.1 C.2.2.2.2.1 hW2 hS hE h1 h2 h3 (by decide) (by decide)) (fun S2 H locs h hW2 hS => ?_)
    refine m_iconst (pc := 9) C.1 dX11_wears_9 ?_
    refine m_aload_n (pc := 10) C.1 dX11_wears_10 rfl hl 0 rfl ?_
    refine g_9_3 (pc := 11) C hW2 kr0 q_395 dX11_wears_11 (fun q3 eq3 kq3 => ?_)
    replace h := h q3 eq3
    refine m_iload_n (pc := 14) C.1 dX11_wears_14 rfl hl 2 rfl ?_
    refine m_callVi (pc := 15) C.1 C.2.2.1 hl.1 C.2.1 hW2 hS (As := [.int (mI x2)]) (rest := [.int (mI 1)]) (r := q3) (T_X2_rough C.2.2.2.2.2.2 N q3 kq3 x2 ox2 h) kq3 rfl q_1009 q_1010 q_1011 q_82 q_1012 pl_X2_rough (by decide) (Nat.le_of_ble_eq_true rfl) dX11_wears_15 (fun v4 S4 H locs ov4 h hW4 hS => ?_)
    refine m_iadd (pc := 18) C.1 dX11_wears_18 ?_
    refine m_istore_n (pc := 19) C.1 dX11_wears_19 rfl hl (by decide) (fun v => [(3, .int v), (0, .ref (b + r0)), (1, .int (mI x1)), (2, .int (mI x2))]) (fun _ => rfl) (nm_ok _) (fun v5 ls ev5 ov5 hl => ?_)
    replace h := h v5 ev5
    refine m_iload_n (pc := 20) C.1 dX11_wears_20 rfl hl 0 rfl ?_
    refine m_if_gt (pc := 21) (tgt := 28) C.1 ov5 dX11_wears_21 (by decide) (fun hc => ?_) (fun hc => ?_)
    · replace h := h.1 hc
      refine m_bipush (pc := 28) C.1 dX11_wears_28 rfl ?_
      refine m_aload_n (pc := 30) C.1 dX11_wears_30 rfl hl 1 rfl ?_
      refine g_9_3 (pc := 31) C hW4 kr0 q_395 dX11_wears_31 (fun q6 eq6 kq6 => ?_)
      replace h := h q6 eq6
      refine g_1_0 (pc := 34) C hW4 kq6 q_187 dX11_wears_34 ?_
      refine g_3_1 (pc := 37) C hW4 (k_1_0 kq6) q_137 dX11_wears_37 ?_
      refine m_iload_n (pc := 40) C.1 dX11_wears_40 rfl hl 2 rfl ?_
      obtain ⟨hb7a, hb7b, h⟩ := h
      refine m_iald (pc := 41) C.1 C.2.1 hW4 (k_3_1 (k_1_0 kq6)) ox1 hb7a hb7b dX11_wears_41 ?_
      refine m_isub (pc := 42) C.1 dX11_wears_42 ?_
      refine m_iload_n (pc := 43) C.1 dX11_wears_43 rfl hl 0 rfl ?_
      refine m_iadd (pc := 44) C.1 dX11_wears_44 ?_
      refine m_iconst (pc := 45) C.1 dX11_wears_45 ?_
      refine m_isub (pc := 46) C.1 dX11_wears_46 ?_
      refine m_iload_n (pc := 47) C.1 dX11_wears_47 rfl hl 0 rfl ?_
      obtain ⟨hz8, h⟩ := h
      refine m_idiv (pc := 48) C.1 ov5 hz8 dX11_wears_48 ?_
      exact m_iret (pc := 49) C.1 C.2.2.2.1 C.2.2.2.2.1 hW4 hS (iDiv_ok _ _) h (by decide) (by decide) dX11_wears_49
    · replace h := h.2 hc
      refine m_iconst (pc := 24) C.1 dX11_wears_24 ?_
      refine m_goto (pc := 25) (tgt := 49) C.1 dX11_wears_25 (by decide) ?_
      exact m_iret (pc := 49) C.1 C.2.2.2.1 C.2.2.2.2.1 hW4 hS (by decide : okI 0) h (by decide) (by decide) dX11_wears_49) sz
section
variable {p : Program} {l : Launch} {e : Env} {s : State} {m : MethodId} {args : Array Value} {below : List Frame} {meth : Method} {c : Code} {g : mG} {b : Nat}
def w_X11_setsLeftBy_24 (N : Nat) (Q : mSt → Int → Prop) (ko4 : Int → Int → Int → mSt → Prop) (x0 : Int) (x1 : Int) (x2 : Int) (S : mSt) : Prop :=
  ∀ v1 : Int, v1 = nm (x2 + 1) → ko4 x0 x1 v1 S
theorem W_X11_setsLeftBy_24 (C : mC p l s m args meth c cX11_setsLeftBy "MoonWash" 3 (some FieldType.int) g) (N : Nat) {Q : mSt → Int → Prop} {ko4 : Int → Int → Int → mSt → Prop} (hko4 : ∀ (x0 : Int) (ox0 : okI x0) (x1 : Int) (ox1 : okI x1) (x2 : Int) (ox2 : okI x2) (S : mSt) (H : Heap) (locs : List Loc) (ls : Array Slot), lv_has ls 3 [(0, .int (mI x0)), (1, .int (mI x1)), (2, .int (mI x2))] → mW g b KX S H → va_S (mA b KX s.heap.size) s.heap H locs → ko4 x0 x1 x2 S → W p l e { frames := 0, cells := 0, slots := 0, locals := 0 } s m args below meth c H locs 0 0 (vx_MQ below (mQi g b KX Q (mA b KX s.heap.size)) (mEx g b KX (fun _ _ => False) (mA b KX s.heap.size)) args s 0 0 (mA b KX s.heap.size)) (F0 m 4 ls [])) (x0 : Int) (ox0 : okI x0) (x1 : Int) (ox1 : okI x1) (x2 : Int) (ox2 : okI x2) (S : mSt) (H : Heap) (locs : List Loc) (ls : Array Slot) (hl : lv_has ls 3 [(0, .int (mI x0)), (1, .int (mI x1)), (2, .int (mI x2))]) (hW : mW g b KX S H) (hS : va_S (mA b KX s.heap.size) s.heap H locs) (h : w_X11_setsLeftBy_24 N Q ko4 x0 x1 x2 S) : W p l e { frames := 0, cells := 0, slots := 0, locals := 0 } s m args below meth c H locs 0 0 (vx_MQ below (mQi g b KX Q (mA b KX s.heap.size)) (mEx g b KX (fun _ _ => False) (mA b KX s.heap.size)) args s 0 0 (mA b KX s.heap.size)) (F0 m 24 ls []) := by
  unfold w_X11_setsLeftBy_24 at h
  refine m_iinc (pc := 24) C.1 dX11_setsLeftBy_24 hl (by decide) (q0 := 2) rfl (fun v => [(2, .int v), (0, .int (mI x0)), (1, .int (mI x1))]) (fun _ => rfl) (fun v1 ls ev1 ov1 hl => ?_)
  replace h := h v1 ev1
  refine m_goto (pc := 27) (tgt := 4) C.1 dX11_setsLeftBy_27 (by decide) ?_
  exact hko4 x0 ox0 x1 ox1 v1 ov1 S _ _ _ (lv_sub hl [1, 2, 0] rfl) hW hS h
def w_X11_setsLeftBy_4b (N : Nat) (Q : mSt → Int → Prop) (ko4 : Int → Int → Int → mSt → Prop) (ko30 : Int → mSt → Prop) (x0 : Int) (x1 : Int) (x2 : Int) (S : mSt) : Prop :=
  ((32 ≤ x2 → ko30 x1 S) ∧ (x2 < 32 → (((bAnd x2 (bXor x0 (-1))) = 0 → w_X11_setsLeftBy_24 N Q ko4 x0 x1 x2 S) ∧ ((bAnd x2 (bXor x0 (-1))) ≠ 0 → ∀ v1 : Int, v1 = (bOr x1 (bShl 1 x2)) → w_X11_setsLeftBy_24 N Q ko4 x0 v1 x2 S))))
theorem W_X11_setsLeftBy_4b (C : mC p l s m args meth c cX11_setsLeftBy "MoonWash" 3 (some FieldType.int) g) (N : Nat) {Q : mSt → Int → Prop} {ko4 : Int → Int → Int → mSt → Prop} {ko30 : Int → mSt → Prop} (hko4 : ∀ (x0 : Int) (ox0 : okI x0) (x1 : Int) (ox1 : okI x1) (x2 : Int) (ox2 : okI x2) (S : mSt) (H : Heap) (locs : List Loc) (ls : Array Slot), lv_has ls 3 [(0, .int (mI x0)), (1, .int (mI x1)), (2, .int (mI x2))] → mW g b KX S H → va_S (mA b KX s.heap.size) s.heap H locs → ko4 x0 x1 x2 S → W p l e { frames := 0, cells := 0, slots := 0, locals := 0 } s m args below meth c H locs 0 0 (vx_MQ below (mQi g b KX Q (mA b KX s.heap.size)) (mEx g b KX (fun _ _ => False) (mA b KX s.heap.size)) args s 0 0 (mA b KX s.heap.size)) (F0 m 4 ls [])) (hko30 : ∀ (x1 : Int) (ox1 : okI x1) (S : mSt) (H : Heap) (locs : List Loc) (ls : Array Slot), lv_has ls 3 [(1, .int (mI x1))] → mW g b KX S H → va_S (mA b KX s.heap.size) s.heap H locs → ko30 x1 S → W p l e { frames := 0, cells := 0, slots := 0, locals := 0 } s m args below meth c H locs 0 0 (vx_MQ below (mQi g b KX Q (mA b KX s.heap.size)) (mEx g b KX (fun _ _ => False) (mA b KX s.heap.size)) args s 0 0 (mA b KX s.heap.size)) (F0 m 30 ls [])) (x0 : Int) (ox0 : okI x0) (x1 : Int) (ox1 : okI x1) (x2 : Int) (ox2 : okI x2) (S : mSt) (H : Heap) (locs : List Loc) (ls : Array Slot) (hl : lv_has ls 3 [(0, .int (mI x0)), (1, .int (mI x1)), (2, .int (mI x2))]) (hW : mW g b KX S H) (hS : va_S (mA b KX s.heap.size) s.heap H locs) (h : w_X11_setsLeftBy_4b N Q ko4 ko30 x0 x1 x2 S) : W p l e { frames := 0, cells := 0, slots := 0, locals := 0 } s m args below meth c H locs 0 0 (vx_MQ below (mQi g b KX Q (mA b KX s.heap.size)) (mEx g b KX (fun _ _ => False) (mA b KX s.heap.size)) args s 0 0 (mA b KX s.heap.size)) (F0 m 4 ls []) := by
  unfold w_X11_setsLeftBy_4b at h
  refine m_iload_n (pc := 4) C.1 dX11_setsLeftBy_4 rfl hl 2 rfl ?_
  refine m_bipush (pc := 5) C.1 dX11_setsLeftBy_5 rfl ?_
  refine m_icmp_ge (pc := 7) (tgt := 30) C.1 ox2 (by decide : okI 32) dX11_setsLeftBy_7 (by decide) (fun hc => ?_) (fun hc => ?_)
  · replace h := h.1 hc
    exact hko30 x1 ox1 S _ _ _ (lv_sub hl [1] rfl) hW hS h
  · replace h := h.2 hc
    refine m_iload_n (pc := 10) C.1 dX11_setsLeftBy_10 rfl hl 2 rfl ?_
    refine m_iload_n (pc := 11) C.1 dX11_setsLeftBy_11 rfl hl 0 rfl ?_
    refine m_iconst (pc := 12) C.1 dX11_setsLeftBy_12 ?_
    refine m_ixor (pc := 13) C.1 dX11_setsLeftBy_13 ?_
    refine m_iand (pc := 14) C.1 dX11_setsLeftBy_14 ?_
    refine m_if_eq (pc := 15) (tgt := 24) C.1 (bAnd_ok _ _) dX11_setsLeftBy_15 (by decide) (fun hc => ?_) (fun hc => ?_)
    · replace h := h.1 hc
      exact W_X11_setsLeftBy_24 C N hko4 x0 ox0 x1 ox1 x2 ox2 S _ _ _ (lv_sub hl [0, 1, 2] rfl) hW hS h
    · replace h := h.2 hc
      refine m_iload_n (pc := 18) C.1 dX11_setsLeftBy_18 rfl hl 1 rfl ?_
      refine m_iconst (pc := 19) C.1 dX11_setsLeftBy_19 ?_
      refine m_iload_n (pc := 20) C.1 dX11_setsLeftBy_20 rfl hl 2 rfl ?_
      refine m_ishl (pc := 21) C.1 dX11_setsLeftBy_21 ?_
      refine m_ior (pc := 22) C.1 dX11_setsLeftBy_22 ?_
      refine m_istore_n (pc := 23) C.1 dX11_setsLeftBy_23 rfl hl (by decide) (fun v => [(1, .int v), (0, .int (mI x0)), (2, .int (mI x2))]) (fun _ => rfl) (bOr_ok _ _) (fun v1 ls ev1 ov1 hl => ?_)
      replace h := h v1 ev1
      exact W_X11_setsLeftBy_24 C N hko4 x0 ox0 v1 ov1 x2 ox2 S _ _ _ (lv_sub hl [1, 0, 2] rfl) hW hS h
def w_X11_setsLeftBy_4 (N : Nat) (Q : mSt → Int → Prop) (ko30 : Int → mSt → Prop) : Nat → Int → Int → Int → mSt → Prop
  | 0 => fun _ _ _ _ => False
  | k + 1 => w_X11_setsLeftBy_4b N Q (w_X11_setsLeftBy_4 N Q ko30 k) ko30
theorem W_X11_setsLeftBy_4 (C : mC p l s m args meth c cX11_setsLeftBy "MoonWash" 3 (some FieldType.int) g) (N : Nat) {Q : mSt → Int → Prop} {ko30 : Int → mSt → Prop} (hko30 : ∀ (x1 : Int) (ox1 : okI x1) (S : mSt) (H : Heap) (locs : List Loc) (ls : Array Slot), lv_has ls 3 [(1, .int (mI x1))] → mW g b KX S H → va_S (mA b KX s.heap.size) s.heap H locs → ko30 x1 S → W p l e { frames := 0, cells := 0, slots := 0, locals := 0 } s m args below meth c H locs 0 0 (vx_MQ below (mQi g b KX Q (mA b KX s.heap.size)) (mEx g b KX (fun _ _ => False) (mA b KX s.heap.size)) args s 0 0 (mA b KX s.heap.size)) (F0 m 30 ls [])) : ∀ (k : Nat) (x0 : Int) (ox0 : okI x0) (x1 : Int) (ox1 : okI x1) (x2 : Int) (ox2 : okI x2) (S : mSt) (H : Heap) (locs : List Loc) (ls : Array Slot) (hl : lv_has ls 3 [(0, .int (mI x0)), (1, .int (mI x1)), (2, .int (mI x2))]) (hW : mW g b KX S H) (hS : va_S (mA b KX s.heap.size) s.heap H locs) (h : w_X11_setsLeftBy_4 N Q ko30 k x0 x1 x2 S), W p l e { frames := 0, cells := 0, slots := 0, locals := 0 } s m args below meth c H locs 0 0 (vx_MQ below (mQi g b KX Q (mA b KX s.heap.size)) (mEx g b KX (fun _ _ => False) (mA b KX s.heap.size)) args s 0 0 (mA b KX s.heap.size)) (F0 m 4 ls []) := by
  intro k
  induction k with
  | zero => intro x0 ox0 x1 ox1 x2 ox2 S H locs ls hl hW hS h; exact False.elim h
  | succ k ih => intro x0 ox0 x1 ox1 x2 ox2 S H locs ls hl hW hS h; exact W_X11_setsLeftBy_4b C N ih hko30 x0 ox0 x1 ox1 x2 ox2 S H locs ls hl hW hS h
end
def w_X11_setsLeftBy (N : Nat) (x0 : Int) (S : mSt) (Q : mSt → Int → Prop) : Prop :=
  ∀ v1 : Int, v1 = 0 → ∀ v2 : Int, v2 = 0 → w_X11_setsLeftBy_4 N Q (fun (x1_3 : Int) (S_3 : mSt) => Q S_3 x1_3) N x0 v1 v2 S
theorem T_X11_setsLeftBy {l : Launch} (hl0 : l.stackTraces = false) {g : mG} {b : Nat} (N : Nat) (x0 : Int) (ox0 : okI x0) {S : mSt} {Q : mSt → Int → Prop} (h : w_X11_setsLeftBy N x0 S Q) (sz : Nat) : vx_Met l yX11_setsLeftBy (Cond.code yX11_setsLeftBy cX11_setsLeftBy 3 (some FieldType.int) :: wsG) { frames := 0, cells := 0, slots := 0, locals := 0 } (mPc g b KX S [.int (mI x0)] sz) (mQi g b KX Q (mA b KX sz)) (mEx g b KX (fun _ _ => False) (mA b KX sz)) 0 0 (mA b KX sz) :=
  m_of (av := [.int (mI x0)]) (Qf := fun A => mQi g b KX Q A) (Xf := fun A => mEx g b KX (fun _ _ => False) A) (by decide) (Nat.le_of_ble_eq_true rfl) (fun p e s m args below meth c ls X hK hml hr hlk hout hnm hW hl => by
    have C : mC p l s m args meth c cX11_setsLeftBy "MoonWash" 3 (some FieldType.int) g := ⟨X, hK, hml, hr, hlk, hout, hl0⟩
    have hS : va_S (mA b KX s.heap.size) s.heap s.heap [] := va_S.rf
    have hl : lv_has ls 3 [(0, .int (mI x0))] := hl
    unfold w_X11_setsLeftBy at h
    refine m_iconst (pc := 0) C.1 dX11_setsLeftBy_0 ?_
    refine m_istore_n (pc := 1) C.1 dX11_setsLeftBy_1 rfl hl (by decide) (fun v => [(1, .int v), (0, .int (mI x0))]) (fun _ => rfl) (by decide : okI 0) (fun v1 ls ev1 ov1 hl => ?_)
    replace h := h v1 ev1
    refine m_iconst (pc := 2) C.1 dX11_setsLeftBy_2 ?_
    refine m_istore_n (pc := 3) C.1 dX11_setsLeftBy_3 rfl hl (by decide) (fun v => [(2, .int v), (1, .int (mI v1)), (0, .int (mI x0))]) (fun _ => rfl) (by decide : okI 0) (fun v2 ls ev2 ov2 hl => ?_)
    replace h := h v2 ev2
    refine W_X11_setsLeftBy_4 C N ?_ N x0 ox0 v1 ov1 v2 ov2 S _ _ _ (lv_sub hl [2, 1, 0] rfl) hW hS h
    · intro x1_3 ox1_3 S_3 H locs ls hl hW_3 hS h
      refine m_iload_n (pc := 30) C.1 dX11_setsLeftBy_30 rfl hl 0 rfl ?_
      exact m_iret (pc := 31) C.1 C.2.2.2.1 C.2.2.2.2.1 hW_3 hS ox1_3 h (by decide) (by decide) dX11_setsLeftBy_31) sz
section
variable {p : Program} {l : Launch} {e : Env} {s : State} {m : MethodId} {args : Array Value} {below : List Frame} {meth : Method} {c : Code} {g : mG} {b : Nat}
def w_X11_setsThatFit_115 (N : Nat) (Q : mSt → Int → Prop) (E : String → mSt → Prop) (ko34 : Nat → Int → Int → Int → mSt → Prop) (r0 : Nat) (x1 : Int) (x3 : Int) (xs0 : Int) (xs1 : Int) (S : mSt) : Prop :=
  ∀ v1 : Int, v1 = (bAnd xs1 xs0) → ∀ v2 : Int, v2 = nm (x3 + 2) → ko34 r0 x1 v1 v2 S
theorem W_X11_setsThatFit_115 (C : mC p l s m args meth c cX11_setsThatFit "MoonWash" 7 (some FieldType.int) g) (N : Nat) {Q : mSt → Int → Prop} {E : String → mSt → Prop} {ko34 : Nat → Int → Int → Int → mSt → Prop} (hko34 : ∀ (r0 : Nat) (kr0 : KX r0 = (0, 9, 0)) (x1 : Int) (ox1 : okI x1) (x2 : Int) (ox2 : okI x2) (x3 : Int) (ox3 : okI x3) (S : mSt) (H : Heap) (locs : List Loc) (ls : Array Slot), lv_has ls 7 [(0, .ref (b + r0)), (1, .int (mI x1)), (2, .int (mI x2)), (3, .int (mI x3))] → mW g b KX S H → va_S (mA b KX s.heap.size) s.heap H locs → ko34 r0 x1 x2 x3 S → W p l e { frames := 6, cells := 1, slots := 6, locals := 100 } s m args below meth c H locs 0 0 (vx_MQ below (mQi g b KX Q (mA b KX s.heap.size)) (mEx g b KX E (mA b KX s.heap.size)) args s 1 6 (mA b KX s.heap.size)) (F0 m 34 ls [])) (r0 : Nat) (kr0 : KX r0 = (0, 9, 0)) (x1 : Int) (ox1 : okI x1) (x3 : Int) (ox3 : okI x3) (xs0 : Int) (oxs0 : okI xs0) (xs1 : Int) (oxs1 : okI xs1) (S : mSt) (H : Heap) (locs : List Loc) (ls : Array Slot) (hl : lv_has ls 7 [(0, .ref (b + r0)), (1, .int (mI x1)), (3, .int (mI x3))]) (hW : mW g b KX S H) (hS : va_S (mA b KX s.heap.size) s.heap H locs) (h : w_X11_setsThatFit_115 N Q E ko34 r0 x1 x3 xs0 xs1 S) : W p l e { frames := 6, cells := 1, slots := 6, locals := 100 } s m args below meth c H locs 0 0 (vx_MQ below (mQi g b KX Q (mA b KX s.heap.size)) (mEx g b KX E (mA b KX s.heap.size)) args s 1 6 (mA b KX s.heap.size)) (F0 m 115 ls [.int (mI xs0), .int (mI xs1)]) := by
  unfold w_X11_setsThatFit_115 at h
  refine m_iand (pc := 115) C.1 dX11_setsThatFit_115 ?_
  refine m_istore_n (pc := 116) C.1 dX11_setsThatFit_116 rfl hl (by decide) (fun v => [(2, .int v), (0, .ref (b + r0)), (1, .int (mI x1)), (3, .int (mI x3))]) (fun _ => rfl) (bAnd_ok _ _) (fun v1 ls ev1 ov1 hl => ?_)
  replace h := h v1 ev1
  refine m_iinc (pc := 117) C.1 dX11_setsThatFit_117 hl (by decide) (q0 := 3) rfl (fun v => [(3, .int v), (2, .int (mI v1)), (0, .ref (b + r0)), (1, .int (mI x1))]) (fun _ => rfl) (fun v2 ls ev2 ov2 hl => ?_)
  replace h := h v2 ev2
  refine m_goto (pc := 120) (tgt := 34) C.1 dX11_setsThatFit_120 (by decide) ?_
  exact hko34 r0 kr0 x1 ox1 v1 ov1 v2 ov2 S _ _ _ (lv_sub hl [2, 3, 1, 0] rfl) hW hS h
def w_X11_setsThatFit_34b (N : Nat) (Q : mSt → Int → Prop) (E : String → mSt → Prop) (ko34 : Nat → Int → Int → Int → mSt → Prop) (ko123 : Int → mSt → Prop) (r0 : Nat) (x1 : Int) (x2 : Int) (x3 : Int) (S : mSt) : Prop :=
  ((x1 ≤ (nm (x3 + 1)) → ko123 x2 S) ∧ ((nm (x3 + 1)) < x1 → (0 ≤ x3 ∧ x3 < 400 ∧ ∀ v2 : Int, v2 = (S (r0 + 1) x3) → (0 ≤ (nm (x3 + 1)) ∧ (nm (x3 + 1)) < 400 ∧ ∀ v4 : Int, v4 = (S (r0 + 1) (nm (x3 + 1))) → ∀ q5 : Nat, (q5 : Int) = S r0 3 → (((S q5 2) ≤ v2 → E "java/lang/IllegalArgumentException" S) ∧ (v2 < (S q5 2) → ((v4 ≤ 1 → ∀ q6 : Nat, (q6 : Int) = S r0 3 → w_X2_takes N q6 v2 S (fun (S7 : mSt) (v7 : Int) => w_X11_setsLeftBy N v7 S7 (fun (S8 : mSt) (v8 : Int) => ∀ v9 : Int, v9 = v8 → ((v4 ≠ 1 → w_X11_setsThatFit_115 N Q E ko34 r0 x1 x3 (bXor v9 (-1)) x2 S8) ∧ (v4 = 1 → w_X11_setsThatFit_115 N Q E ko34 r0 x1 x3 v9 x2 S8))))) ∧ (1 < v4 → E "java/lang/IllegalArgumentException" S))))))))
theorem W_X11_setsThatFit_34b (C : mC p l s m args meth c cX11_setsThatFit "MoonWash" 7 (some FieldType.int) g) (N : Nat) {Q : mSt → Int → Prop} {E : String → mSt → Prop} {ko34 : Nat → Int → Int → Int → mSt → Prop} {ko123 : Int → mSt → Prop} (hko34 : ∀ (r0 : Nat) (kr0 : KX r0 = (0, 9, 0)) (x1 : Int) (ox1 : okI x1) (x2 : Int) (ox2 : okI x2) (x3 : Int) (ox3 : okI x3) (S : mSt) (H : Heap) (locs : List Loc) (ls : Array Slot), lv_has ls 7 [(0, .ref (b + r0)), (1, .int (mI x1)), (2, .int (mI x2)), (3, .int (mI x3))] → mW g b KX S H → va_S (mA b KX s.heap.size) s.heap H locs → ko34 r0 x1 x2 x3 S → W p l e { frames := 6, cells := 1, slots := 6, locals := 100 } s m args below meth c H locs 0 0 (vx_MQ below (mQi g b KX Q (mA b KX s.heap.size)) (mEx g b KX E (mA b KX s.heap.size)) args s 1 6 (mA b KX s.heap.size)) (F0 m 34 ls [])) (hko123 : ∀ (x2 : Int) (ox2 : okI x2) (S : mSt) (H : Heap) (locs : List Loc) (ls : Array Slot), lv_has ls 7 [(2, .int (mI x2))] → mW g b KX S H → va_S (mA b KX s.heap.size) s.heap H locs → ko123 x2 S → W p l e { frames := 6, cells := 1, slots := 6, locals := 100 } s m args below meth c H locs 0 0 (vx_MQ below (mQi g b KX Q (mA b KX s.heap.size)) (mEx g b KX E (mA b KX s.heap.size)) args s 1 6 (mA b KX s.heap.size)) (F0 m 123 ls [])) (r0 : Nat) (kr0 : KX r0 = (0, 9, 0)) (x1 : Int) (ox1 : okI x1) (x2 : Int) (ox2 : okI x2) (x3 : Int) (ox3 : okI x3) (S : mSt) (H : Heap) (locs : List Loc) (ls : Array Slot) (hl : lv_has ls 7 [(0, .ref (b + r0)), (1, .int (mI x1)), (2, .int (mI x2)), (3, .int (mI x3))]) (hW : mW g b KX S H) (hS : va_S (mA b KX s.heap.size) s.heap H locs) (h : w_X11_setsThatFit_34b N Q E ko34 ko123 r0 x1 x2 x3 S) : W p l e { frames := 6, cells := 1, slots := 6, locals := 100 } s m args below meth c H locs 0 0 (vx_MQ below (mQi g b KX Q (mA b KX s.heap.size)) (mEx g b KX E (mA b KX s.heap.size)) args s 1 6 (mA b KX s.heap.size)) (F0 m 34 ls []) := by
  unfold w_X11_setsThatFit_34b at h
  refine m_iload_n (pc := 34) C.1 dX11_setsThatFit_34 rfl hl 3 rfl ?_
  refine m_iconst (pc := 35) C.1 dX11_setsThatFit_35 ?_
  refine m_iadd (pc := 36) C.1 dX11_setsThatFit_36 ?_
  refine m_iload_n (pc := 37) C.1 dX11_setsThatFit_37 rfl hl 1 rfl ?_
  refine m_icmp_ge (pc := 38) (tgt := 123) C.1 (nm_ok _) ox1 dX11_setsThatFit_38 (by decide) (fun hc => ?_) (fun hc => ?_)
  · replace h := h.1 hc
    exact hko123 x2 ox2 S _ _ _ (lv_sub hl [2] rfl) hW hS h
  · replace h := h.2 hc
    refine m_aload_n (pc := 41) C.1 dX11_setsThatFit_41 rfl hl 0 rfl ?_
    refine g_9_0 (pc := 42) C hW kr0 q_392 dX11_setsThatFit_42 ?_
    refine m_iload_n (pc := 45) C.1 dX11_setsThatFit_45 rfl hl 3 rfl ?_
    obtain ⟨hb1a, hb1b, h⟩ := h
    refine m_iald (pc := 46) C.1 C.2.1 hW (k_9_0 kr0) ox3 hb1a hb1b dX11_setsThatFit_46 ?_
    refine m_istore (pc := 47) C.1 dX11_setsThatFit_47 hl (by decide) (fun v => [(4, .int v), (0, .ref (b + r0)), (1, .int (mI x1)), (2, .int (mI x2)), (3, .int (mI x3))]) (fun _ => rfl) (hW.2.1 _ _) (fun v2 ls ev2 ov2 hl => ?_)
    replace h := h v2 ev2
    refine m_aload_n (pc := 49) C.1 dX11_setsThatFit_49 rfl hl 1 rfl ?_
    refine g_9_0 (pc := 50) C hW kr0 q_392 dX11_setsThatFit_50 ?_
    refine m_iload_n (pc := 53) C.1 dX11_setsThatFit_53 rfl hl 4 rfl ?_
    refine m_iconst (pc := 54) C.1 dX11_setsThatFit_54 ?_
    refine m_iadd (pc := 55) C.1 dX11_setsThatFit_55 ?_
    obtain ⟨hb3a, hb3b, h⟩ := h
    refine m_iald (pc := 56) C.1 C.2.1 hW (k_9_0 kr0) (nm_ok _) hb3a hb3b dX11_setsThatFit_56 ?_
    refine m_istore (pc := 57) C.1 dX11_setsThatFit_57 hl (by decide) (fun v => [(5, .int v), (4, .int (mI v2)), (0, .ref (b + r0)), (1, .int (mI x1)), (2, .int (mI x2)), (3, .int (mI x3))]) (fun _ => rfl) (hW.2.1 _ _) (fun v4 ls ev4 ov4 hl => ?_)
    replace h := h v4 ev4
    refine m_iload (pc := 59) C.1 dX11_setsThatFit_59 hl 1 rfl ?_
    refine m_aload_n (pc := 61) C.1 dX11_setsThatFit_61 rfl hl 2 rfl ?_
    refine g_9_3 (pc := 62) C hW kr0 q_395 dX11_setsThatFit_62 (fun q5 eq5 kq5 => ?_)
    replace h := h q5 eq5
    refine g_1_2 (pc := 65) C hW kq5 q_192 dX11_setsThatFit_65 ?_
    refine m_icmp_ge (pc := 68) (tgt := 77) C.1 ov2 (hW.2.1 _ _) dX11_setsThatFit_68 (by decide) (fun hc => ?_) (fun hc => ?_)
    · replace h := h.1 hc
      exact m_throw (pc := 77) C.1 C.2.2.2.2.2.2 C.2.1 hW hS (cls := "java/lang/IllegalArgumentException") (names := ["java/lang/RuntimeException", "java/lang/Exception"]) (by decide) (by decide) q_771 q_103 thr_X11_128_a thr_X11_128_g (hl.1.trans C.2.2.1.symm) dX11_setsThatFit_77 dX11_setsThatFit_80 dX11_setsThatFit_81 dX11_setsThatFit_84 C.2.2.2.2.2.1 C.2.2.2.2.1 (by decide) (Nat.le_of_ble_eq_true rfl) (by decide) (by decide) h (by decide) (by decide)
    · replace h := h.2 hc
      refine m_iload (pc := 71) C.1 dX11_setsThatFit_71 hl 0 rfl ?_
      refine m_iconst (pc := 73) C.1 dX11_setsThatFit_73 ?_
      refine m_icmp_le (pc := 74) (tgt := 85) C.1 ov4 (by decide : okI 1) dX11_setsThatFit_74 (by decide) (fun hc => ?_) (fun hc => ?_)
      · replace h := h.1 hc
        refine m_aload_n (pc := 85) C.1 dX11_setsThatFit_85 rfl hl 2 rfl ?_
        refine g_9_3 (pc := 86) C hW kr0 q_395 dX11_setsThatFit_86 (fun q6 eq6 kq6 => ?_)
        replace h := h q6 eq6
        refine m_iload (pc := 89) C.1 dX11_setsThatFit_89 hl 1 rfl ?_
        refine m_callVi (pc := 91) C.1 C.2.2.1 hl.1 C.2.1 hW hS (As := [.int (mI v2)]) (rest := []) (r := q6) (T_X2_takes C.2.2.2.2.2.2 N q6 kq6 v2 ov2 h) kq6 rfl q_1013 q_972 q_973 q_82 q_974 pl_X2_takes (by decide) (Nat.le_of_ble_eq_true rfl) dX11_setsThatFit_91 (fun v7 S7 H locs ov7 h hW7 hS => ?_)
        refine m_callSi (pc := 94) C.1 C.2.2.1 hl.1 C.2.1 hW7 hS (As := [.int (mI v7)]) (rest := []) (T_X11_setsLeftBy C.2.2.2.2.2.2 N v7 ov7 h) q_1290 q_1291 q_81 q_1292 pl_X11_setsLeftBy (by decide) (Nat.le_of_ble_eq_true rfl) dX11_setsThatFit_94 (fun v8 S8 H locs ov8 h hW8 hS => ?_)
        refine m_istore (pc := 97) C.1 dX11_setsThatFit_97 hl (by decide) (fun v => [(6, .int v), (5, .int (mI v4)), (4, .int (mI v2)), (0, .ref (b + r0)), (1, .int (mI x1)), (2, .int (mI x2)), (3, .int (mI x3))]) (fun _ => rfl) ov8 (fun v9 ls ev9 ov9 hl => ?_)
        replace h := h v9 ev9
        refine m_iload_n (pc := 99) C.1 dX11_setsThatFit_99 rfl hl 5 rfl ?_
        refine m_iload (pc := 100) C.1 dX11_setsThatFit_100 hl 1 rfl ?_
        refine m_iconst (pc := 102) C.1 dX11_setsThatFit_102 ?_
        refine m_icmp_ne (pc := 103) (tgt := 111) C.1 ov4 (by decide : okI 1) dX11_setsThatFit_103 (by decide) (fun hc => ?_) (fun hc => ?_)
        · replace h := h.1 hc
          refine m_iload (pc := 111) C.1 dX11_setsThatFit_111 hl 0 rfl ?_
          refine m_iconst (pc := 113) C.1 dX11_setsThatFit_113 ?_
          refine m_ixor (pc := 114) C.1 dX11_setsThatFit_114 ?_
          exact W_X11_setsThatFit_115 C N hko34 r0 kr0 x1 ox1 x3 ox3 (bXor v9 (-1)) (bXor_ok _ _) x2 ox2 S8 _ _ _ (lv_sub hl [3, 4, 6] rfl) hW8 hS h
        · replace h := h.2 hc
          refine m_iload (pc := 106) C.1 dX11_setsThatFit_106 hl 0 rfl ?_
          refine m_goto (pc := 108) (tgt := 115) C.1 dX11_setsThatFit_108 (by decide) ?_
          exact W_X11_setsThatFit_115 C N hko34 r0 kr0 x1 ox1 x3 ox3 v9 ov9 x2 ox2 S8 _ _ _ (lv_sub hl [3, 4, 6] rfl) hW8 hS h
      · replace h := h.2 hc
        exact m_throw (pc := 77) C.1 C.2.2.2.2.2.2 C.2.1 hW hS (cls := "java/lang/IllegalArgumentException") (names := ["java/lang/RuntimeException", "java/lang/Exception"]) (by decide) (by decide) q_771 q_103 thr_X11_128_a thr_X11_128_g (hl.1.trans C.2.2.1.symm) dX11_setsThatFit_77 dX11_setsThatFit_80 dX11_setsThatFit_81 dX11_setsThatFit_84 C.2.2.2.2.2.1 C.2.2.2.2.1 (by decide) (Nat.le_of_ble_eq_true rfl) (by decide) (by decide) h (by decide) (by decide)
def w_X11_setsThatFit_34 (N : Nat) (Q : mSt → Int → Prop) (E : String → mSt → Prop) (ko123 : Int → mSt → Prop) : Nat → Nat → Int → Int → Int → mSt → Prop
  | 0 => fun _ _ _ _ _ => False
  | k + 1 => w_X11_setsThatFit_34b N Q E (w_X11_setsThatFit_34 N Q E ko123 k) ko123
theorem W_X11_setsThatFit_34 (C : mC p l s m args meth c cX11_setsThatFit "MoonWash" 7 (some FieldType.int) g) (N : Nat) {Q : mSt → Int → Prop} {E : String → mSt → Prop} {ko123 : Int → mSt → Prop} (hko123 : ∀ (x2 : Int) (ox2 : okI x2) (S : mSt) (H : Heap) (locs : List Loc) (ls : Array Slot), lv_has ls 7 [(2, .int (mI x2))] → mW g b KX S H → va_S (mA b KX s.heap.size) s.heap H locs → ko123 x2 S → W p l e { frames := 6, cells := 1, slots := 6, locals := 100 } s m args below meth c H locs 0 0 (vx_MQ below (mQi g b KX Q (mA b KX s.heap.size)) (mEx g b KX E (mA b KX s.heap.size)) args s 1 6 (mA b KX s.heap.size)) (F0 m 123 ls [])) : ∀ (k : Nat) (r0 : Nat) (kr0 : KX r0 = (0, 9, 0)) (x1 : Int) (ox1 : okI x1) (x2 : Int) (ox2 : okI x2) (x3 : Int) (ox3 : okI x3) (S : mSt) (H : Heap) (locs : List Loc) (ls : Array Slot) (hl : lv_has ls 7 [(0, .ref (b + r0)), (1, .int (mI x1)), (2, .int (mI x2)), (3, .int (mI x3))]) (hW : mW g b KX S H) (hS : va_S (mA b KX s.heap.size) s.heap H locs) (h : w_X11_setsThatFit_34 N Q E ko123 k r0 x1 x2 x3 S), W p l e { frames := 6, cells := 1, slots := 6, locals := 100 } s m args below meth c H locs 0 0 (vx_MQ below (mQi g b KX Q (mA b KX s.heap.size)) (mEx g b KX E (mA b KX s.heap.size)) args s 1 6 (mA b KX s.heap.size)) (F0 m 34 ls []) := by
  intro k
  induction k with
  | zero => intro r0 kr0 x1 ox1 x2 ox2 x3 ox3 S H locs ls hl hW hS h; exact False.elim h
  | succ k ih => intro r0 kr0 x1 ox1 x2 ox2 x3 ox3 S H locs ls hl hW hS h; exact W_X11_setsThatFit_34b C N ih hko123 r0 kr0 x1 ox1 x2 ox2 x3 ox3 S H locs ls hl hW hS h
end
def w_X11_setsThatFit (N : Nat) (r0 : Nat) (S : mSt) (Q : mSt → Int → Prop) (E : String → mSt → Prop) : Prop :=
  ∀ v1 : Int, v1 = (S r0 1) → ∀ S2 : mSt, S2 = mup S r0 1 0 → ((40 < v1 → E "java/lang/IllegalArgumentException" S2) ∧ (v1 ≤ 40 → (((iRem v1 2) = 0 → ∀ v3 : Int, v3 = (-1) → ∀ v4 : Int, v4 = 0 → w_X11_setsThatFit_34 N Q E (fun (x2_5 : Int) (S_5 : mSt) => Q S_5 x2_5) N r0 v1 v3 v4 S2) ∧ ((iRem v1 2) ≠ 0 → E "java/lang/IllegalArgumentException" S2))))
theorem T_X11_setsThatFit {l : Launch} (hl0 : l.stackTraces = false) {g : mG} {b : Nat} (N : Nat) (r0 : Nat) (kr0 : KX r0 = (0, 9, 0)) {S : mSt} {Q : mSt → Int → Prop} {E : String → mSt → Prop} (h : w_X11_setsThatFit N r0 S Q E) (sz : Nat) : vx_Met l yX11_setsThatFit (Cond.code yX11_setsThatFit cX11_setsThatFit 7 (some FieldType.int) :: wsG) { frames := 6, cells := 1, slots := 6, locals := 100 } (mPc g b KX S [.ref (b + r0)] sz) (mQi g b KX Q (mA b KX sz)) (mEx g b KX E (mA b KX sz)) 1 6 (mA b KX sz) :=
  m_of (av := [.ref (b + r0)]) (Qf := fun A => mQi g b KX Q A) (Xf := fun A => mEx g b KX E A) (by decide) (Nat.le_of_ble_eq_true rfl) (fun p e s m args below meth c ls X hK hml hr hlk hout hnm hW hl => by
    have C : mC p l s m args meth c cX11_setsThatFit "MoonWash" 7 (some FieldType.int) g := ⟨X, hK, hml, hr, hlk, hout, hl0⟩
    have hS : va_S (mA b KX s.heap.size) s.heap s.heap [] := va_S.rf
    have hl : lv_has ls 7 [(0, .ref (b + r0))] := hl
    unfold w_X11_setsThatFit at h
    refine m_aload_n (pc := 0) C.1 dX11_setsThatFit_0 rfl hl 0 rfl ?_
    refine g_9_1 (pc := 1) C hW kr0 q_393 dX11_setsThatFit_1 ?_
    refine m_istore_n (pc := 4) C.1 dX11_setsThatFit_4 rfl hl (by decide) (fun v => [(1, .int v), (0, .ref (b + r0))]) (fun _ => rfl) (hW.2.1 _ _) (fun v1 ls ev1 ov1 hl => ?_)
    replace h := h v1 ev1
    refine m_aload_n (pc := 5) C.1 dX11_setsThatFit_5 rfl hl 1 rfl ?_
    refine m_iconst (pc := 6) C.1 dX11_setsThatFit_6 ?_
    refine p_9_1 (pc := 7) C hW hS kr0 q_393 (by decide : okI 0) dX11_setsThatFit_7 (fun S2 H locs e2 hW2 hS => ?_)
    replace h := h S2 e2
    refine m_iload_n (pc := 10) C.1 dX11_setsThatFit_10 rfl hl 0 rfl ?_
    refine m_bipush (pc := 11) C.1 dX11_setsThatFit_11 rfl ?_
    refine m_icmp_gt (pc := 13) (tgt := 22) C.1 ov1 (by decide : okI 40) dX11_setsThatFit_13 (by decide) (fun hc => ?_) (fun hc => ?_)
    · replace h := h.1 hc
      exact m_throw (pc := 22) C.1 C.2.2.2.2.2.2 C.2.1 hW2 hS (cls := "java/lang/IllegalArgumentException") (names := ["java/lang/RuntimeException", "java/lang/Exception"]) (by decide) (by decide) q_771 q_103 thr_X11_128_a thr_X11_128_g (hl.1.trans C.2.2.1.symm) dX11_setsThatFit_22 dX11_setsThatFit_25 dX11_setsThatFit_26 dX11_setsThatFit_29 C.2.2.2.2.2.1 C.2.2.2.2.1 (by decide) (Nat.le_of_ble_eq_true rfl) (by decide) (by decide) h (by decide) (by decide)
    · replace h := h.2 hc
      refine m_iload_n (pc := 16) C.1 dX11_setsThatFit_16 rfl hl 0 rfl ?_
      refine m_iconst (pc := 17) C.1 dX11_setsThatFit_17 ?_
      refine m_irem (pc := 18) C.1 (by decide : okI 2) (by decide) dX11_setsThatFit_18 ?_
      refine m_if_eq (pc := 19) (tgt := 30) C.1 (iRem_ok _ _) dX11_setsThatFit_19 (by decide) (fun hc => ?_) (fun hc => ?_)
      · replace h := h.1 hc
        refine m_iconst (pc := 30) C.1 dX11_setsThatFit_30 ?_
        refine m_istore_n (pc := 31) C.1 dX11_setsThatFit_31 rfl hl (by decide) (fun v => [(2, .int v), (1, .int (mI v1)), (0, .ref (b + r0))]) (fun _ => rfl) (by decide : okI (-1)) (fun v3 ls ev3 ov3 hl => ?_)
        replace h := h v3 ev3
        refine m_iconst (pc := 32) C.1 dX11_setsThatFit_32 ?_
        refine m_istore_n (pc := 33) C.1 dX11_setsThatFit_33 rfl hl (by decide) (fun v => [(3, .int v), (2, .int (mI v3)), (1, .int (mI v1)), (0, .ref (b + r0))]) (fun _ => rfl) (by decide : okI 0) (fun v4 ls ev4 ov4 hl => ?_)
        replace h := h v4 ev4
        refine W_X11_setsThatFit_34 C N ?_ N r0 kr0 v1 ov1 v3 ov3 v4 ov4 S2 _ _ _ (lv_sub hl [3, 2, 1, 0] rfl) hW2 hS h
        · intro x2_5 ox2_5 S_5 H locs ls hl hW_5 hS h
          refine m_iload_n (pc := 123) C.1 dX11_setsThatFit_123 rfl hl 0 rfl ?_
          exact m_iret (pc := 124) C.1 C.2.2.2.1 C.2.2.2.2.1 hW_5 hS ox2_5 h (by decide) (by decide) dX11_setsThatFit_124
      · replace h := h.2 hc
        exact m_throw (pc := 22) C.1 C.2.2.2.2.2.2 C.2.1 hW2 hS (cls := "java/lang/IllegalArgumentException") (names := ["java/lang/RuntimeException", "java/lang/Exception"]) (by decide) (by decide) q_771 q_103 thr_X11_128_a thr_X11_128_g (hl.1.trans C.2.2.1.symm) dX11_setsThatFit_22 dX11_setsThatFit_25 dX11_setsThatFit_26 dX11_setsThatFit_29 C.2.2.2.2.2.1 C.2.2.2.2.1 (by decide) (Nat.le_of_ble_eq_true rfl) (by decide) (by decide) h (by decide) (by decide)) sz
section
variable {p : Program} {l : Launch} {e : Env} {s : State} {m : MethodId} {args : Array Value} {below : List Frame} {meth : Method} {c : Code} {g : mG} {b : Nat}
def w_X11_stained_48 (N : Nat) (Q : mSt → Int → Prop) (E : String → mSt → Prop) (ko26 : Int → Int → Int → mSt → Prop) (x2 : Int) (x3 : Int) (x4 : Int) (S : mSt) : Prop :=
  ∀ v1 : Int, v1 = nm (x4 + 1) → ko26 x2 x3 v1 S
theorem W_X11_stained_48 (C : mC p l s m args meth c cX11_stained "MoonWash" 5 (some FieldType.int) g) (N : Nat) {Q : mSt → Int → Prop} {E : String → mSt → Prop} {ko26 : Int → Int → Int → mSt → Prop} (hko26 : ∀ (x2 : Int) (ox2 : okI x2) (x3 : Int) (ox3 : okI x3) (x4 : Int) (ox4 : okI x4) (S : mSt) (H : Heap) (locs : List Loc) (ls : Array Slot), lv_has ls 5 [(2, .int (mI x2)), (3, .int (mI x3)), (4, .int (mI x4))] → mW g b KX S H → va_S (mA b KX s.heap.size) s.heap H locs → ko26 x2 x3 x4 S → W p l e { frames := 7, cells := 1, slots := 6, locals := 126 } s m args below meth c H locs 1 6 (vx_MQ below (mQi g b KX Q (mA b KX s.heap.size)) (mEx g b KX E (mA b KX s.heap.size)) args s 1 6 (mA b KX s.heap.size)) (F0 m 26 ls [])) (x2 : Int) (ox2 : okI x2) (x3 : Int) (ox3 : okI x3) (x4 : Int) (ox4 : okI x4) (S : mSt) (H : Heap) (locs : List Loc) (ls : Array Slot) (hl : lv_has ls 5 [(2, .int (mI x2)), (3, .int (mI x3)), (4, .int (mI x4))]) (hW : mW g b KX S H) (hS : va_S (mA b KX s.heap.size) s.heap H locs) (h : w_X11_stained_48 N Q E ko26 x2 x3 x4 S) : W p l e { frames := 7, cells := 1, slots := 6, locals := 126 } s m args below meth c H locs 1 6 (vx_MQ below (mQi g b KX Q (mA b KX s.heap.size)) (mEx g b KX E (mA b KX s.heap.size)) args s 1 6 (mA b KX s.heap.size)) (F0 m 48 ls []) := by
  unfold w_X11_stained_48 at h
  refine m_iinc (pc := 48) C.1 dX11_stained_48 hl (by decide) (q0 := 2) rfl (fun v => [(4, .int v), (2, .int (mI x2)), (3, .int (mI x3))]) (fun _ => rfl) (fun v1 ls ev1 ov1 hl => ?_)
  replace h := h v1 ev1
  refine m_goto (pc := 51) (tgt := 26) C.1 dX11_stained_51 (by decide) ?_
  exact hko26 x2 ox2 x3 ox3 v1 ov1 S _ _ _ (lv_sub hl [1, 2, 0] rfl) hW hS h
def w_X11_stained_26b (N : Nat) (Q : mSt → Int → Prop) (E : String → mSt → Prop) (ko26 : Int → Int → Int → mSt → Prop) (ko54 : Int → mSt → Prop) (x2 : Int) (x3 : Int) (x4 : Int) (S : mSt) : Prop :=
  ((32 ≤ x4 → ko54 x3 S) ∧ (x4 < 32 → (((bAnd (bUsh x2 x4) 1) ≠ 1 → w_X11_stained_48 N Q E ko26 x2 x3 x4 S) ∧ ((bAnd (bUsh x2 x4) 1) = 1 → ∀ v1 : Int, v1 = (bAnd x3 x4) → w_X11_stained_48 N Q E ko26 x2 v1 x4 S))))
theorem W_X11_stained_26b (C : mC p l s m args meth c cX11_stained "MoonWash" 5 (some FieldType.int) g) (N : Nat) {Q : mSt → Int → Prop} {E : String → mSt → Prop} {ko26 : Int → Int → Int → mSt → Prop} {ko54 : Int → mSt → Prop} (hko26 : ∀ (x2 : Int) (ox2 : okI x2) (x3 : Int) (ox3 : okI x3) (x4 : Int) (ox4 : okI x4) (S : mSt) (H : Heap) (locs : List Loc) (ls : Array Slot), lv_has ls 5 [(2, .int (mI x2)), (3, .int (mI x3)), (4, .int (mI x4))] → mW g b KX S H → va_S (mA b KX s.heap.size) s.heap H locs → ko26 x2 x3 x4 S → W p l e { frames := 7, cells := 1, slots := 6, locals := 126 } s m args below meth c H locs 1 6 (vx_MQ below (mQi g b KX Q (mA b KX s.heap.size)) (mEx g b KX E (mA b KX s.heap.size)) args s 1 6 (mA b KX s.heap.size)) (F0 m 26 ls [])) (hko54 : ∀ (x3 : Int) (ox3 : okI x3) (S : mSt) (H : Heap) (locs : List Loc) (ls : Array Slot), lv_has ls 5 [(3, .int (mI x3))] → mW g b KX S H → va_S (mA b KX s.heap.size) s.heap H locs → ko54 x3 S → W p l e { frames := 7, cells := 1, slots := 6, locals := 126 } s m args below meth c H locs 1 6 (vx_MQ below (mQi g b KX Q (mA b KX s.heap.size)) (mEx g b KX E (mA b KX s.heap.size)) args s 1 6 (mA b KX s.heap.size)) (F0 m 54 ls [])) (x2 : Int) (ox2 : okI x2) (x3 : Int) (ox3 : okI x3) (x4 : Int) (ox4 : okI x4) (S : mSt) (H : Heap) (locs : List Loc) (ls : Array Slot) (hl : lv_has ls 5 [(2, .int (mI x2)), (3, .int (mI x3)), (4, .int (mI x4))]) (hW : mW g b KX S H) (hS : va_S (mA b KX s.heap.size) s.heap H locs) (h : w_X11_stained_26b N Q E ko26 ko54 x2 x3 x4 S) : W p l e { frames := 7, cells := 1, slots := 6, locals := 126 } s m args below meth c H locs 1 6 (vx_MQ below (mQi g b KX Q (mA b KX s.heap.size)) (mEx g b KX E (mA b KX s.heap.size)) args s 1 6 (mA b KX s.heap.size)) (F0 m 26 ls []) := by
  unfold w_X11_stained_26b at h
  refine m_iload (pc := 26) C.1 dX11_stained_26 hl 2 rfl ?_
  refine m_bipush (pc := 28) C.1 dX11_stained_28 rfl ?_
  refine m_icmp_ge (pc := 30) (tgt := 54) C.1 ox4 (by decide : okI 32) dX11_stained_30 (by decide) (fun hc => ?_) (fun hc => ?_)
  · replace h := h.1 hc
    exact hko54 x3 ox3 S _ _ _ (lv_sub hl [1] rfl) hW hS h
  · replace h := h.2 hc
    refine m_iload_n (pc := 33) C.1 dX11_stained_33 rfl hl 0 rfl ?_
    refine m_iload (pc := 34) C.1 dX11_stained_34 hl 2 rfl ?_
    refine m_iushr (pc := 36) C.1 dX11_stained_36 ?_
    refine m_iconst (pc := 37) C.1 dX11_stained_37 ?_
    refine m_iand (pc := 38) C.1 dX11_stained_38 ?_
    refine m_iconst (pc := 39) C.1 dX11_stained_39 ?_
    refine m_icmp_ne (pc := 40) (tgt := 48) C.1 (bAnd_ok _ _) (by decide : okI 1) dX11_stained_40 (by decide) (fun hc => ?_) (fun hc => ?_)
    · replace h := h.1 hc
      exact W_X11_stained_48 C N hko26 x2 ox2 x3 ox3 x4 ox4 S _ _ _ (lv_sub hl [0, 1, 2] rfl) hW hS h
    · replace h := h.2 hc
      refine m_iload_n (pc := 43) C.1 dX11_stained_43 rfl hl 1 rfl ?_
      refine m_iload (pc := 44) C.1 dX11_stained_44 hl 2 rfl ?_
      refine m_iand (pc := 46) C.1 dX11_stained_46 ?_
      refine m_istore_n (pc := 47) C.1 dX11_stained_47 rfl hl (by decide) (fun v => [(3, .int v), (2, .int (mI x2)), (4, .int (mI x4))]) (fun _ => rfl) (bAnd_ok _ _) (fun v1 ls ev1 ov1 hl => ?_)
      replace h := h v1 ev1
      exact W_X11_stained_48 C N hko26 x2 ox2 v1 ov1 x4 ox4 S _ _ _ (lv_sub hl [1, 0, 2] rfl) hW hS h
def w_X11_stained_26 (N : Nat) (Q : mSt → Int → Prop) (E : String → mSt → Prop) (ko54 : Int → mSt → Prop) : Nat → Int → Int → Int → mSt → Prop
  | 0 => fun _ _ _ _ => False
  | k + 1 => w_X11_stained_26b N Q E (w_X11_stained_26 N Q E ko54 k) ko54
theorem W_X11_stained_26 (C : mC p l s m args meth c cX11_stained "MoonWash" 5 (some FieldType.int) g) (N : Nat) {Q : mSt → Int → Prop} {E : String → mSt → Prop} {ko54 : Int → mSt → Prop} (hko54 : ∀ (x3 : Int) (ox3 : okI x3) (S : mSt) (H : Heap) (locs : List Loc) (ls : Array Slot), lv_has ls 5 [(3, .int (mI x3))] → mW g b KX S H → va_S (mA b KX s.heap.size) s.heap H locs → ko54 x3 S → W p l e { frames := 7, cells := 1, slots := 6, locals := 126 } s m args below meth c H locs 1 6 (vx_MQ below (mQi g b KX Q (mA b KX s.heap.size)) (mEx g b KX E (mA b KX s.heap.size)) args s 1 6 (mA b KX s.heap.size)) (F0 m 54 ls [])) : ∀ (k : Nat) (x2 : Int) (ox2 : okI x2) (x3 : Int) (ox3 : okI x3) (x4 : Int) (ox4 : okI x4) (S : mSt) (H : Heap) (locs : List Loc) (ls : Array Slot) (hl : lv_has ls 5 [(2, .int (mI x2)), (3, .int (mI x3)), (4, .int (mI x4))]) (hW : mW g b KX S H) (hS : va_S (mA b KX s.heap.size) s.heap H locs) (h : w_X11_stained_26 N Q E ko54 k x2 x3 x4 S), W p l e { frames := 7, cells := 1, slots := 6, locals := 126 } s m args below meth c H locs 1 6 (vx_MQ below (mQi g b KX Q (mA b KX s.heap.size)) (mEx g b KX E (mA b KX s.heap.size)) args s 1 6 (mA b KX s.heap.size)) (F0 m 26 ls []) := by
  intro k
  induction k with
  | zero => intro x2 ox2 x3 ox3 x4 ox4 S H locs ls hl hW hS h; exact False.elim h
  | succ k ih => intro x2 ox2 x3 ox3 x4 ox4 S H locs ls hl hW hS h; exact W_X11_stained_26b C N ih hko54 x2 ox2 x3 ox3 x4 ox4 S H locs ls hl hW hS h
end
def w_X11_stained (N : Nat) (r0 : Nat) (x1 : Int) (S : mSt) (Q : mSt → Int → Prop) (E : String → mSt → Prop) : Prop :=
  w_X11_setsThatFit N r0 S (fun (S1 : mSt) (v1 : Int) => ∀ v2 : Int, v2 = v1 → ((x1 ≠ 0 → ((v2 ≠ 0 → ∀ v3 : Int, v3 = 31 → ∀ v4 : Int, v4 = 0 → w_X11_stained_26 N Q E (fun (x3_5 : Int) (S_5 : mSt) => Q S_5 x3_5) N v2 v3 v4 S1) ∧ (v2 = 0 → Q S1 0))) ∧ (x1 = 0 → w_J6_bitCount_0f7a4 N v2 S1 (fun (S6 : mSt) (v6 : Int) => Q S6 v6)))) E
theorem T_X11_stained {l : Launch} (hl0 : l.stackTraces = false) {g : mG} {b : Nat} (N : Nat) (r0 : Nat) (kr0 : KX r0 = (0, 9, 0)) (x1 : Int) (ox1 : okI x1) {S : mSt} {Q : mSt → Int → Prop} {E : String → mSt → Prop} (h : w_X11_stained N r0 x1 S Q E) (sz : Nat) : vx_Met l yX11_stained (Cond.code yX11_stained cX11_stained 5 (some FieldType.int) :: wsG) { frames := 7, cells := 1, slots := 6, locals := 126 } (mPc g b KX S [.ref (b + r0), .int (mI x1)] sz) (mQi g b KX Q (mA b KX sz)) (mEx g b KX E (mA b KX sz)) 1 6 (mA b KX sz) :=
  m_of (av := [.ref (b + r0), .int (mI x1)]) (Qf := fun A => mQi g b KX Q A) (Xf := fun A => mEx g b KX E A) (by decide) (Nat.le_of_ble_eq_true rfl) (fun p e s m args below meth c ls X hK hml hr hlk hout hnm hW hl => by
    have C : mC p l s m args meth c cX11_stained "MoonWash" 5 (some FieldType.int) g := ⟨X, hK, hml, hr, hlk, hout, hl0⟩
    have hS : va_S (mA b KX s.heap.size) s.heap s.heap [] := va_S.rf
    have hl : lv_has ls 5 [(0, .ref (b + r0)), (1, .int (mI x1))] := hl
    unfold w_X11_stained at h
    refine m_aload_n (pc := 0) C.1 dX11_stained_0 rfl hl 0 rfl ?_
    refine m_callVix (pc := 1) C.1 C.2.2.1 hl.1 C.2.1 hW hS (As := []) (rest := []) (r := r0) (T_X11_setsThatFit C.2.2.2.2.2.2 N r0 kr0 h) kr0 rfl q_1286 q_1288 q_19 q_81 q_1289 pl_X11_setsThatFit (by decide) (Nat.le_of_ble_eq_true rfl) dX11_stained_1 (fun En S1 H locs ce q9 hE hW1 hS h1 h2 h3 => m_prop C.2.2.2.2.2.1 C.2.2.2.2.1 hW1 hS hE h1 h2 h3 (by decide) (by decide)) (fun v1 S1 H locs ov1 h hW1 hS => ?_)
    refine m_istore_n (pc := 4) C.1 dX11_stained_4 rfl hl (by decide) (fun v => [(2, .int v), (0, .ref (b + r0)), (1, .int (mI x1))]) (fun _ => rfl) ov1 (fun v2 ls ev2 ov2 hl => ?_)
    replace h := h v2 ev2
    refine m_iload_n (pc := 5) C.1 dX11_stained_5 rfl hl 2 rfl ?_
    refine m_if_ne (pc := 6) (tgt := 14) C.1 ox1 dX11_stained_6 (by decide) (fun hc => ?_) (fun hc => ?_)
    · replace h := h.1 hc
      refine m_iload_n (pc := 14) C.1 dX11_stained_14 rfl hl 0 rfl ?_
      refine m_if_ne (pc := 15) (tgt := 20) C.1 ov2 dX11_stained_15 (by decide) (fun hc => ?_) (fun hc => ?_)
      · replace h := h.1 hc
        refine m_bipush (pc := 20) C.1 dX11_stained_20 rfl ?_
        refine m_istore_n (pc := 22) C.1 dX11_stained_22 rfl hl (by decide) (fun v => [(3, .int v), (2, .int (mI v2)), (0, .ref (b + r0)), (1, .int (mI x1))]) (fun _ => rfl) (by decide : okI 31) (fun v3 ls ev3 ov3 hl => ?_)
        replace h := h v3 ev3
        refine m_iconst (pc := 23) C.1 dX11_stained_23 ?_
        refine m_istore (pc := 24) C.1 dX11_stained_24 hl (by decide) (fun v => [(4, .int v), (3, .int (mI v3)), (2, .int (mI v2)), (0, .ref (b + r0)), (1, .int (mI x1))]) (fun _ => rfl) (by decide : okI 0) (fun v4 ls ev4 ov4 hl => ?_)
        replace h := h v4 ev4
        refine W_X11_stained_26 C N ?_ N v2 ov2 v3 ov3 v4 ov4 S1 _ _ _ (lv_sub hl [2, 1, 0] rfl) hW1 hS h
        · intro x3_5 ox3_5 S_5 H locs ls hl hW_5 hS h
          refine m_iload_n (pc := 54) C.1 dX11_stained_54 rfl hl 0 rfl ?_
          exact m_iret (pc := 55) C.1 C.2.2.2.1 C.2.2.2.2.1 hW_5 hS ox3_5 h (by decide) (by decide) dX11_stained_55
      · replace h := h.2 hc
        refine m_iconst (pc := 18) C.1 dX11_stained_18 ?_
        exact m_iret (pc := 19) C.1 C.2.2.2.1 C.2.2.2.2.1 hW1 hS (by decide : okI 0) h (by decide) (by decide) dX11_stained_19
    · replace h := h.2 hc
      refine m_iload_n (pc := 9) C.1 dX11_stained_9 rfl hl 0 rfl ?_
      refine m_callSi (pc := 10) C.1 C.2.2.1 hl.1 C.2.1 hW1 hS (As := [.int (mI v2)]) (rest := []) (T_J6_bitCount_0f7a4 C.2.2.2.2.2.2 N v2 ov2 h) q_576 q_507 q_107 q_508 pl_J6_bitCount_0f7a4 (by decide) (Nat.le_of_ble_eq_true rfl) dX11_stained_10 (fun v6 S6 H locs ov6 h hW6 hS => ?_)
      exact m_iret (pc := 13) C.1 C.2.2.2.1 C.2.2.2.2.1 hW6 hS ov6 h (by decide) (by decide) dX11_stained_13) sz
section
variable {p : Program} {l : Launch} {e : Env} {s : State} {m : MethodId} {args : Array Value} {below : List Frame} {meth : Method} {c : Code} {g : mG} {b : Nat}
def w_X11_tries_82 (N : Nat) (Q : mSt → Int → Prop) (E : String → mSt → Prop) (ko26 : Nat → Int → Int → Int → Int → Int → mSt → Prop) (r0 : Nat) (x1 : Int) (x2 : Int) (x3 : Int) (x4 : Int) (x5 : Int) (S : mSt) : Prop :=
  ∀ v1 : Int, v1 = nm (x5 + 1) → ko26 r0 x1 x2 x3 x4 v1 S
theorem W_X11_tries_82 (C : mC p l s m args meth c cX11_tries "MoonWash" 8 (some FieldType.int) g) (N : Nat) {Q : mSt → Int → Prop} {E : String → mSt → Prop} {ko26 : Nat → Int → Int → Int → Int → Int → mSt → Prop} (hko26 : ∀ (r0 : Nat) (kr0 : KX r0 = (0, 9, 0)) (x1 : Int) (ox1 : okI x1) (x2 : Int) (ox2 : okI x2) (x3 : Int) (ox3 : okI x3) (x4 : Int) (ox4 : okI x4) (x5 : Int) (ox5 : okI x5) (S : mSt) (H : Heap) (locs : List Loc) (ls : Array Slot), lv_has ls 8 [(0, .ref (b + r0)), (1, .int (mI x1)), (2, .int (mI x2)), (3, .int (mI x3)), (4, .int (mI x4)), (5, .int (mI x5))] → mW g b KX S H → va_S (mA b KX s.heap.size) s.heap H locs → ko26 r0 x1 x2 x3 x4 x5 S → W p l e { frames := 7, cells := 1, slots := 6, locals := 126 } s m args below meth c H locs 1 6 (vx_MQ below (mQi g b KX Q (mA b KX s.heap.size)) (mEx g b KX E (mA b KX s.heap.size)) args s 1 6 (mA b KX s.heap.size)) (F0 m 26 ls [])) (r0 : Nat) (kr0 : KX r0 = (0, 9, 0)) (x1 : Int) (ox1 : okI x1) (x2 : Int) (ox2 : okI x2) (x3 : Int) (ox3 : okI x3) (x4 : Int) (ox4 : okI x4) (x5 : Int) (ox5 : okI x5) (S : mSt) (H : Heap) (locs : List Loc) (ls : Array Slot) (hl : lv_has ls 8 [(0, .ref (b + r0)), (1, .int (mI x1)), (2, .int (mI x2)), (3, .int (mI x3)), (4, .int (mI x4)), (5, .int (mI x5))]) (hW : mW g b KX S H) (hS : va_S (mA b KX s.heap.size) s.heap H locs) (h : w_X11_tries_82 N Q E ko26 r0 x1 x2 x3 x4 x5 S) : W p l e { frames := 7, cells := 1, slots := 6, locals := 126 } s m args below meth c H locs 1 6 (vx_MQ below (mQi g b KX Q (mA b KX s.heap.size)) (mEx g b KX E (mA b KX s.heap.size)) args s 1 6 (mA b KX s.heap.size)) (F0 m 82 ls []) := by
  unfold w_X11_tries_82 at h
  refine m_iinc (pc := 82) C.1 dX11_tries_82 hl (by decide) (q0 := 5) rfl (fun v => [(5, .int v), (0, .ref (b + r0)), (1, .int (mI x1)), (2, .int (mI x2)), (3, .int (mI x3)), (4, .int (mI x4))]) (fun _ => rfl) (fun v1 ls ev1 ov1 hl => ?_)
  replace h := h v1 ev1
  refine m_goto (pc := 85) (tgt := 26) C.1 dX11_tries_85 (by decide) ?_
  exact hko26 r0 kr0 x1 ox1 x2 ox2 x3 ox3 x4 ox4 v1 ov1 S _ _ _ (lv_sub hl [1, 2, 3, 4, 5, 0] rfl) hW hS h
def w_X11_tries_26b (N : Nat) (Q : mSt → Int → Prop) (E : String → mSt → Prop) (ko26 : Nat → Int → Int → Int → Int → Int → mSt → Prop) (ko88 : Int → mSt → Prop) (r0 : Nat) (x1 : Int) (x2 : Int) (x3 : Int) (x4 : Int) (x5 : Int) (S : mSt) : Prop :=
  ∀ q1 : Nat, (q1 : Int) = S r0 3 → (((S q1 2) ≤ x5 → ko88 x3 S) ∧ (x5 < (S q1 2) → ∀ q2 : Nat, (q2 : Int) = S r0 3 → w_X2_takes N q2 x5 S (fun (S3 : mSt) (v3 : Int) => w_X11_setsLeftBy N v3 S3 (fun (S4 : mSt) (v4 : Int) => w_J6_bitCount_0f7a4 N (bAnd x1 v4) S4 (fun (S5 : mSt) (v5 : Int) => ∀ v6 : Int, v6 = v5 → ∀ v7 : Int, v7 = (iMax v6 (nm (x2 - v6))) → ((x4 ≤ v7 → w_X11_tries_82 N Q E ko26 r0 x1 x2 x3 x4 x5 S5) ∧ (v7 < x4 → ∀ v8 : Int, v8 = v7 → ∀ v9 : Int, v9 = x5 → w_X11_tries_82 N Q E ko26 r0 x1 x2 v9 v8 x5 S5)))))))
theorem W_X11_tries_26b (C : mC p l s m args meth c cX11_tries "MoonWash" 8 (some FieldType.int) g) (N : Nat) {Q : mSt → Int → Prop} {E : String → mSt → Prop} {ko26 : Nat → Int → Int → Int → Int → Int → mSt → Prop} {ko88 : Int → mSt → Prop} (hko26 : ∀ (r0 : Nat) (kr0 : KX r0 = (0, 9, 0)) (x1 : Int) (ox1 : okI x1) (x2 : Int) (ox2 : okI x2) (x3 : Int) (ox3 : okI x3) (x4 : Int) (ox4 : okI x4) (x5 : Int) (ox5 : okI x5) (S : mSt) (H : Heap) (locs : List Loc) (ls : Array Slot), lv_has ls 8 [(0, .ref (b + r0)), (1, .int (mI x1)), (2, .int (mI x2)), (3, .int (mI x3)), (4, .int (mI x4)), (5, .int (mI x5))] → mW g b KX S H → va_S (mA b KX s.heap.size) s.heap H locs → ko26 r0 x1 x2 x3 x4 x5 S → W p l e { frames := 7, cells := 1, slots := 6, locals := 126 } s m args below meth c H locs 1 6 (vx_MQ below (mQi g b KX Q (mA b KX s.heap.size)) (mEx g b KX E (mA b KX s.heap.size)) args s 1 6 (mA b KX s.heap.size)) (F0 m 26 ls [])) (hko88 : ∀ (x3 : Int) (ox3 : okI x3) (S : mSt) (H : Heap) (locs : List Loc) (ls : Array Slot), lv_has ls 8 [(3, .int (mI x3))] → mW g b KX S H → va_S (mA b KX s.heap.size) s.heap H locs → ko88 x3 S → W p l e { frames := 7, cells := 1, slots := 6, locals := 126 } s m args below meth c H locs 1 6 (vx_MQ below (mQi g b KX Q (mA b KX s.heap.size)) (mEx g b KX E (mA b KX s.heap.size)) args s 1 6 (mA b KX s.heap.size)) (F0 m 88 ls [])) (r0 : Nat) (kr0 : KX r0 = (0, 9, 0)) (x1 : Int) (ox1 : okI x1) (x2 : Int) (ox2 : okI x2) (x3 : Int) (ox3 : okI x3) (x4 : Int) (ox4 : okI x4) (x5 : Int) (ox5 : okI x5) (S : mSt) (H : Heap) (locs : List Loc) (ls : Array Slot) (hl : lv_has ls 8 [(0, .ref (b + r0)), (1, .int (mI x1)), (2, .int (mI x2)), (3, .int (mI x3)), (4, .int (mI x4)), (5, .int (mI x5))]) (hW : mW g b KX S H) (hS : va_S (mA b KX s.heap.size) s.heap H locs) (h : w_X11_tries_26b N Q E ko26 ko88 r0 x1 x2 x3 x4 x5 S) : W p l e { frames := 7, cells := 1, slots := 6, locals := 126 } s m args below meth c H locs 1 6 (vx_MQ below (mQi g b KX Q (mA b KX s.heap.size)) (mEx g b KX E (mA b KX s.heap.size)) args s 1 6 (mA b KX s.heap.size)) (F0 m 26 ls []) := by
  unfold w_X11_tries_26b at h
  refine m_iload (pc := 26) C.1 dX11_tries_26 hl 5 rfl ?_
  refine m_aload_n (pc := 28) C.1 dX11_tries_28 rfl hl 0 rfl ?_
  refine g_9_3 (pc := 29) C hW kr0 q_395 dX11_tries_29 (fun q1 eq1 kq1 => ?_)
  replace h := h q1 eq1
  refine g_1_2 (pc := 32) C hW kq1 q_192 dX11_tries_32 ?_
  refine m_icmp_ge (pc := 35) (tgt := 88) C.1 ox5 (hW.2.1 _ _) dX11_tries_35 (by decide) (fun hc => ?_) (fun hc => ?_)
  · replace h := h.1 hc
    exact hko88 x3 ox3 S _ _ _ (lv_sub hl [3] rfl) hW hS h
  · replace h := h.2 hc
    refine m_iload_n (pc := 38) C.1 dX11_tries_38 rfl hl 1 rfl ?_
    refine m_aload_n (pc := 39) C.1 dX11_tries_39 rfl hl 0 rfl ?_
    refine g_9_3 (pc := 40) C hW kr0 q_395 dX11_tries_40 (fun q2 eq2 kq2 => ?_)
    replace h := h q2 eq2
    refine m_iload (pc := 43) C.1 dX11_tries_43 hl 5 rfl ?_
    refine m_callVi (pc := 45) C.1 C.2.2.1 hl.1 C.2.1 hW hS (As := [.int (mI x5)]) (rest := [.int (mI x1)]) (r := q2) (T_X2_takes C.2.2.2.2.2.2 N q2 kq2 x5 ox5 h) kq2 rfl q_1013 q_972 q_973 q_82 q_974 pl_X2_takes (by decide) (Nat.le_of_ble_eq_true rfl) dX11_tries_45 (fun v3 S3 H locs ov3 h hW3 hS => ?_)
    refine m_callSi (pc := 48) C.1 C.2.2.1 hl.1 C.2.1 hW3 hS (As := [.int (mI v3)]) (rest := [.int (mI x1)]) (T_X11_setsLeftBy C.2.2.2.2.2.2 N v3 ov3 h) q_1290 q_1291 q_81 q_1292 pl_X11_setsLeftBy (by decide) (Nat.le_of_ble_eq_true rfl) dX11_tries_48 (fun v4 S4 H locs ov4 h hW4 hS => ?_)
    refine m_iand (pc := 51) C.1 dX11_tries_51 ?_
    refine m_callSi (pc := 52) C.1 C.2.2.1 hl.1 C.2.1 hW4 hS (As := [.int (mI (bAnd x1 v4))]) (rest := []) (T_J6_bitCount_0f7a4 C.2.2.2.2.2.2 N (bAnd x1 v4) (bAnd_ok _ _) h) q_576 q_507 q_107 q_508 pl_J6_bitCount_0f7a4 (by decide) (Nat.le_of_ble_eq_true rfl) dX11_tries_52 (fun v5 S5 H locs ov5 h hW5 hS => ?_)
    refine m_istore (pc := 55) C.1 dX11_tries_55 hl (by decide) (fun v => [(6, .int v), (0, .ref (b + r0)), (1, .int (mI x1)), (2, .int (mI x2)), (3, .int (mI x3)), (4, .int (mI x4)), (5, .int (mI x5))]) (fun _ => rfl) ov5 (fun v6 ls ev6 ov6 hl => ?_)
    replace h := h v6 ev6
    refine m_iload (pc := 57) C.1 dX11_tries_57 hl 0 rfl ?_
    refine m_iload_n (pc := 59) C.1 dX11_tries_59 rfl hl 3 rfl ?_
    refine m_iload (pc := 60) C.1 dX11_tries_60 hl 0 rfl ?_
    refine m_isub (pc := 62) C.1 dX11_tries_62 ?_
    refine m_max (pc := 63) C.1 C.2.2.1 hl.1 ov6 (nm_ok _) q_554 q_523 q_93 q_524 (by refine ⟨?_, Nat.le_of_ble_eq_true rfl, ?_, ?_⟩ <;> decide) dX11_tries_63 ?_
    refine m_istore (pc := 66) C.1 dX11_tries_66 hl (by decide) (fun v => [(7, .int v), (6, .int (mI v6)), (0, .ref (b + r0)), (1, .int (mI x1)), (2, .int (mI x2)), (3, .int (mI x3)), (4, .int (mI x4)), (5, .int (mI x5))]) (fun _ => rfl) (iMax_ok ov6 (nm_ok _)) (fun v7 ls ev7 ov7 hl => ?_)
    replace h := h v7 ev7
    refine m_iload (pc := 68) C.1 dX11_tries_68 hl 0 rfl ?_
    refine m_iload (pc := 70) C.1 dX11_tries_70 hl 6 rfl ?_
    refine m_icmp_ge (pc := 72) (tgt := 82) C.1 ov7 ox4 dX11_tries_72 (by decide) (fun hc => ?_) (fun hc => ?_)
    · replace h := h.1 hc
      exact W_X11_tries_82 C N hko26 r0 kr0 x1 ox1 x2 ox2 x3 ox3 x4 ox4 x5 ox5 S5 _ _ _ (lv_sub hl [2, 3, 4, 5, 6, 7] rfl) hW5 hS h
    · replace h := h.2 hc
      refine m_iload (pc := 75) C.1 dX11_tries_75 hl 0 rfl ?_
      refine m_istore (pc := 77) C.1 dX11_tries_77 hl (by decide) (fun v => [(4, .int v), (7, .int (mI v7)), (6, .int (mI v6)), (0, .ref (b + r0)), (1, .int (mI x1)), (2, .int (mI x2)), (3, .int (mI x3)), (5, .int (mI x5))]) (fun _ => rfl) ov7 (fun v8 ls ev8 ov8 hl => ?_)
      replace h := h v8 ev8
      refine m_iload (pc := 79) C.1 dX11_tries_79 hl 7 rfl ?_
      refine m_istore_n (pc := 81) C.1 dX11_tries_81 rfl hl (by decide) (fun v => [(3, .int v), (4, .int (mI v8)), (7, .int (mI v7)), (6, .int (mI v6)), (0, .ref (b + r0)), (1, .int (mI x1)), (2, .int (mI x2)), (5, .int (mI x5))]) (fun _ => rfl) ox5 (fun v9 ls ev9 ov9 hl => ?_)
      replace h := h v9 ev9
      exact W_X11_tries_82 C N hko26 r0 kr0 x1 ox1 x2 ox2 v9 ov9 v8 ov8 x5 ox5 S5 _ _ _ (lv_sub hl [4, 5, 6, 0, 1, 7] rfl) hW5 hS h
def w_X11_tries_26 (N : Nat) (Q : mSt → Int → Prop) (E : String → mSt → Prop) (ko88 : Int → mSt → Prop) : Nat → Nat → Int → Int → Int → Int → Int → mSt → Prop
  | 0 => fun _ _ _ _ _ _ _ => False
  | k + 1 => w_X11_tries_26b N Q E (w_X11_tries_26 N Q E ko88 k) ko88
theorem W_X11_tries_26 (C : mC p l s m args meth c cX11_tries "MoonWash" 8 (some FieldType.int) g) (N : Nat) {Q : mSt → Int → Prop} {E : String → mSt → Prop} {ko88 : Int → mSt → Prop} (hko88 : ∀ (x3 : Int) (ox3 : okI x3) (S : mSt) (H : Heap) (locs : List Loc) (ls : Array Slot), lv_has ls 8 [(3, .int (mI x3))] → mW g b KX S H → va_S (mA b KX s.heap.size) s.heap H locs → ko88 x3 S → W p l e { frames := 7, cells := 1, slots := 6, locals := 126 } s m args below meth c H locs 1 6 (vx_MQ below (mQi g b KX Q (mA b KX s.heap.size)) (mEx g b KX E (mA b KX s.heap.size)) args s 1 6 (mA b KX s.heap.size)) (F0 m 88 ls [])) : ∀ (k : Nat) (r0 : Nat) (kr0 : KX r0 = (0, 9, 0)) (x1 : Int) (ox1 : okI x1) (x2 : Int) (ox2 : okI x2) (x3 : Int) (ox3 : okI x3) (x4 : Int) (ox4 : okI x4) (x5 : Int) (ox5 : okI x5) (S : mSt) (H : Heap) (locs : List Loc) (ls : Array Slot) (hl : lv_has ls 8 [(0, .ref (b + r0)), (1, .int (mI x1)), (2, .int (mI x2)), (3, .int (mI x3)), (4, .int (mI x4)), (5, .int (mI x5))]) (hW : mW g b KX S H) (hS : va_S (mA b KX s.heap.size) s.heap H locs) (h : w_X11_tries_26 N Q E ko88 k r0 x1 x2 x3 x4 x5 S), W p l e { frames := 7, cells := 1, slots := 6, locals := 126 } s m args below meth c H locs 1 6 (vx_MQ below (mQi g b KX Q (mA b KX s.heap.size)) (mEx g b KX E (mA b KX s.heap.size)) args s 1 6 (mA b KX s.heap.size)) (F0 m 26 ls []) := by
  intro k
  induction k with
  | zero => intro r0 kr0 x1 ox1 x2 ox2 x3 ox3 x4 ox4 x5 ox5 S H locs ls hl hW hS h; exact False.elim h
  | succ k ih => intro r0 kr0 x1 ox1 x2 ox2 x3 ox3 x4 ox4 x5 ox5 S H locs ls hl hW hS h; exact W_X11_tries_26b C N ih hko88 r0 kr0 x1 ox1 x2 ox2 x3 ox3 x4 ox4 x5 ox5 S H locs ls hl hW hS h
end
def w_X11_tries (N : Nat) (r0 : Nat) (S : mSt) (Q : mSt → Int → Prop) (E : String → mSt → Prop) : Prop :=
  w_X11_setsThatFit N r0 S (fun (S1 : mSt) (v1 : Int) => ∀ v2 : Int, v2 = v1 → w_J6_bitCount_0f7a4 N v2 S1 (fun (S3 : mSt) (v3 : Int) => ∀ v4 : Int, v4 = v3 → ((2 ≤ v4 → ∀ v5 : Int, v5 = (-1) → ∀ v6 : Int, v6 = 33 → ∀ v7 : Int, v7 = 0 → w_X11_tries_26 N Q E (fun (x3_8 : Int) (S_8 : mSt) => Q S_8 x3_8) N r0 v2 v4 v5 v6 v7 S3) ∧ (v4 < 2 → Q S3 (-1))))) E
theorem T_X11_tries {l : Launch} (hl0 : l.stackTraces = false) {g : mG} {b : Nat} (N : Nat) (r0 : Nat) (kr0 : KX r0 = (0, 9, 0)) {S : mSt} {Q : mSt → Int → Prop} {E : String → mSt → Prop} (h : w_X11_tries N r0 S Q E) (sz : Nat) : vx_Met l yX11_tries (Cond.code yX11_tries cX11_tries 8 (some FieldType.int) :: wsG) { frames := 7, cells := 1, slots := 6, locals := 126 } (mPc g b KX S [.ref (b + r0)] sz) (mQi g b KX Q (mA b KX sz)) (mEx g b KX E (mA b KX sz)) 1 6 (mA b KX sz) :=
  m_of (av := [.ref (b + r0)]) (Qf := fun A => mQi g b KX Q A) (Xf := fun A => mEx g b KX E A) (by decide) (Nat.le_of_ble_eq_true rfl) (fun p e s m args below meth c ls X hK hml hr hlk hout hnm hW hl => by
    have C : mC p l s m args meth c cX11_tries "MoonWash" 8 (some FieldType.int) g := ⟨X, hK, hml, hr, hlk, hout, hl0⟩
    have hS : va_S (mA b KX s.heap.size) s.heap s.heap [] := va_S.rf
    have hl : lv_has ls 8 [(0, .ref (b + r0))] := hl
    unfold w_X11_tries at h
    refine m_aload_n (pc := 0) C.1 dX11_tries_0 rfl hl 0 rfl ?_
    refine m_callVix (pc := 1) C.1 C.2.2.1 hl.1 C.2.1 hW hS (As := []) (rest := []) (r := r0) (T_X11_setsThatFit C.2.2.2.2.2.2 N r0 kr0 h) kr0 rfl q_1286 q_1288 q_19 q_81 q_1289 pl_X11_setsThatFit (by decide) (Nat.le_of_ble_eq_true rfl) dX11_tries_1 (fun En S1 H locs ce q9 hE hW1 hS h1 h2 h3 => m_prop C.2.2.2.2.2.1 C.2.2.2.2.1 hW1 hS hE h1 h2 h3 (by decide) (by decide)) (fun v1 S1 H locs ov1 h hW1 hS => ?_)
    refine m_istore_n (pc := 4) C.1 dX11_tries_4 rfl hl (by decide) (fun v => [(1, .int v), (0, .ref (b + r0))]) (fun _ => rfl) ov1 (fun v2 ls ev2 ov2 hl => ?_)
    replace h := h v2 ev2
    refine m_iload_n (pc := 5) C.1 dX11_tries_5 rfl hl 0 rfl ?_
    refine m_callSi (pc := 6) C.1 C.2.2.1 hl.1 C.2.1 hW1 hS (As := [.int (mI v2)]) (rest := []) (T_J6_bitCount_0f7a4 C.2.2.2.2.2.2 N v2 ov2 h) q_576 q_507 q_107 q_508 pl_J6_bitCount_0f7a4 (by decide) (Nat.le_of_ble_eq_true rfl) dX11_tries_6 (fun v3 S3 H locs ov3 h hW3 hS => ?_)
    refine m_istore_n (pc := 9) C.1 dX11_tries_9 rfl hl (by decide) (fun v => [(2, .int v), (1, .int (mI v2)), (0, .ref (b + r0))]) (fun _ => rfl) ov3 (fun v4 ls ev4 ov4 hl => ?_)
    replace h := h v4 ev4
    refine m_iload_n (pc := 10) C.1 dX11_tries_10 rfl hl 0 rfl ?_
    refine m_iconst (pc := 11) C.1 dX11_tries_11 ?_
    refine m_icmp_ge (pc := 12) (tgt := 17) C.1 ov4 (by decide : okI 2) dX11_tries_12 (by decide) (fun hc => ?_) (fun hc => ?_)
    · replace h := h.1 hc
      refine m_iconst (pc := 17) C.1 dX11_tries_17 ?_
      refine m_istore_n (pc := 18) C.1 dX11_tries_18 rfl hl (by decide) (fun v => [(3, .int v), (2, .int (mI v4)), (1, .int (mI v2)), (0, .ref (b + r0))]) (fun _ => rfl) (by decide : okI (-1)) (fun v5 ls ev5 ov5 hl => ?_)
      replace h := h v5 ev5
      refine m_bipush (pc := 19) C.1 dX11_tries_19 rfl ?_
      refine m_istore (pc := 21) C.1 dX11_tries_21 hl (by decide) (fun v => [(4, .int v), (3, .int (mI v5)), (2, .int (mI v4)), (1, .int (mI v2)), (0, .ref (b + r0))]) (fun _ => rfl) (by decide : okI 33) (fun v6 ls ev6 ov6 hl => ?_)
      replace h := h v6 ev6
      refine m_iconst (pc := 23) C.1 dX11_tries_23 ?_
      refine m_istore (pc := 24) C.1 dX11_tries_24 hl (by decide) (fun v => [(5, .int v), (4, .int (mI v6)), (3, .int (mI v5)), (2, .int (mI v4)), (1, .int (mI v2)), (0, .ref (b + r0))]) (fun _ => rfl) (by decide : okI 0) (fun v7 ls ev7 ov7 hl => ?_)
      replace h := h v7 ev7
      refine W_X11_tries_26 C N ?_ N r0 kr0 v2 ov2 v4 ov4 v5 ov5 v6 ov6 v7 ov7 S3 _ _ _ (lv_sub hl [5, 4, 3, 2, 1, 0] rfl) hW3 hS h
      · intro x3_8 ox3_8 S_8 H locs ls hl hW_8 hS h
        refine m_iload_n (pc := 88) C.1 dX11_tries_88 rfl hl 0 rfl ?_
        exact m_iret (pc := 89) C.1 C.2.2.2.1 C.2.2.2.2.1 hW_8 hS ox3_8 h (by decide) (by decide) dX11_tries_89
    · replace h := h.2 hc
      refine m_iconst (pc := 15) C.1 dX11_tries_15 ?_
      exact m_iret (pc := 16) C.1 C.2.2.2.1 C.2.2.2.2.1 hW3 hS (by decide : okI (-1)) h (by decide) (by decide) dX11_tries_16) sz
section
variable {p : Program} {l : Launch} {e : Env} {s : State} {m : MethodId} {args : Array Value} {below : List Frame} {meth : Method} {c : Code} {g : mG} {b : Nat}
def w_X11_nightsOnPeg_19b (N : Nat) (Q : mSt → Int → Prop) (ko19 : Nat → Int → Int → Int → Int → mSt → Prop) (ko72 : Nat → Int → Int → Int → mSt → Prop) (r0 : Nat) (x1 : Int) (x2 : Int) (x3 : Int) (x4 : Int) (S : mSt) : Prop :=
  ((x2 ≤ x4 → ko72 r0 x1 x2 x3 S) ∧ (x4 < x2 → ∀ q1 : Nat, (q1 : Int) = S r0 3 → (0 ≤ x4 ∧ x4 < 8 ∧ ∀ q3 : Nat, (q3 : Int) = S r0 3 → (0 ≤ x2 ∧ x2 < 8 ∧ (((S ((q1 + 1) + 6) x4) ≠ (S ((q3 + 1) + 6) x2) → ∀ v5 : Int, v5 = nm (x4 + 1) → ko19 r0 x1 x2 x3 v5 S) ∧ ((S ((q1 + 1) + 6) x4) = (S ((q3 + 1) + 6) x2) → (0 ≤ x1 ∧ x1 < 8 ∧ (0 ≤ x4 ∧ x4 < 8 ∧ Q S (S (((r0 + 226) + 1) + 1 + x1.toNat) x4)))))))))
theorem W_X11_nightsOnPeg_19b (C : mC p l s m args meth c cX11_nightsOnPeg "MoonWash" 5 (some FieldType.int) g) (N : Nat) {Q : mSt → Int → Prop} {ko19 : Nat → Int → Int → Int → Int → mSt → Prop} {ko72 : Nat → Int → Int → Int → mSt → Prop} (hko19 : ∀ (r0 : Nat) (kr0 : KX r0 = (0, 9, 0)) (x1 : Int) (ox1 : okI x1) (x2 : Int) (ox2 : okI x2) (x3 : Int) (ox3 : okI x3) (x4 : Int) (ox4 : okI x4) (S : mSt) (H : Heap) (locs : List Loc) (ls : Array Slot), lv_has ls 5 [(0, .ref (b + r0)), (1, .int (mI x1)), (2, .int (mI x2)), (3, .int (mI x3)), (4, .int (mI x4))] → mW g b KX S H → va_S (mA b KX s.heap.size) s.heap H locs → ko19 r0 x1 x2 x3 x4 S → W p l e { frames := 5, cells := 0, slots := 0, locals := 141 } s m args below meth c H locs 0 0 (vx_MQ below (mQi g b KX Q (mA b KX s.heap.size)) (mEx g b KX (fun _ _ => False) (mA b KX s.heap.size)) args s 0 0 (mA b KX s.heap.size)) (F0 m 19 ls [])) (hko72 : ∀ (r0 : Nat) (kr0 : KX r0 = (0, 9, 0)) (x1 : Int) (ox1 : okI x1) (x2 : Int) (ox2 : okI x2) (x3 : Int) (ox3 : okI x3) (S : mSt) (H : Heap) (locs : List Loc) (ls : Array Slot), lv_has ls 5 [(0, .ref (b + r0)), (1, .int (mI x1)), (2, .int (mI x2)), (3, .int (mI x3))] → mW g b KX S H → va_S (mA b KX s.heap.size) s.heap H locs → ko72 r0 x1 x2 x3 S → W p l e { frames := 5, cells := 0, slots := 0, locals := 141 } s m args below meth c H locs 0 0 (vx_MQ below (mQi g b KX Q (mA b KX s.heap.size)) (mEx g b KX (fun _ _ => False) (mA b KX s.heap.size)) args s 0 0 (mA b KX s.heap.size)) (F0 m 72 ls [])) (r0 : Nat) (kr0 : KX r0 = (0, 9, 0)) (x1 : Int) (ox1 : okI x1) (x2 : Int) (ox2 : okI x2) (x3 : Int) (ox3 : okI x3) (x4 : Int) (ox4 : okI x4) (S : mSt) (H : Heap) (locs : List Loc) (ls : Array Slot) (hl : lv_has ls 5 [(0, .ref (b + r0)), (1, .int (mI x1)), (2, .int (mI x2)), (3, .int (mI x3)), (4, .int (mI x4))]) (hW : mW g b KX S H) (hS : va_S (mA b KX s.heap.size) s.heap H locs) (h : w_X11_nightsOnPeg_19b N Q ko19 ko72 r0 x1 x2 x3 x4 S) : W p l e { frames := 5, cells := 0, slots := 0, locals := 141 } s m args below meth c H locs 0 0 (vx_MQ below (mQi g b KX Q (mA b KX s.heap.size)) (mEx g b KX (fun _ _ => False) (mA b KX s.heap.size)) args s 0 0 (mA b KX s.heap.size)) (F0 m 19 ls []) := by
  unfold w_X11_nightsOnPeg_19b at h
  refine m_iload (pc := 19) C.1 dX11_nightsOnPeg_19 hl 4 rfl ?_
  refine m_iload_n (pc := 21) C.1 dX11_nightsOnPeg_21 rfl hl 2 rfl ?_
  refine m_icmp_ge (pc := 22) (tgt := 72) C.1 ox4 ox2 dX11_nightsOnPeg_22 (by decide) (fun hc => ?_) (fun hc => ?_)
  · replace h := h.1 hc
    exact hko72 r0 kr0 x1 ox1 x2 ox2 x3 ox3 S _ _ _ (lv_sub hl [0, 1, 2, 3] rfl) hW hS h
  · replace h := h.2 hc
    refine m_aload_n (pc := 25) C.1 dX11_nightsOnPeg_25 rfl hl 0 rfl ?_
    refine g_9_3 (pc := 26) C hW kr0 q_395 dX11_nightsOnPeg_26 (fun q1 eq1 kq1 => ?_)
    replace h := h q1 eq1
    refine g_1_0 (pc := 29) C hW kq1 q_187 dX11_nightsOnPeg_29 ?_
    refine g_3_5 (pc := 32) C hW (k_1_0 kq1) q_153 dX11_nightsOnPeg_32 ?_
    refine m_iload (pc := 35) C.1 dX11_nightsOnPeg_35 hl 4 rfl ?_
    obtain ⟨hb2a, hb2b, h⟩ := h
    refine m_iald (pc := 37) C.1 C.2.1 hW (k_3_5 (k_1_0 kq1)) ox4 hb2a hb2b dX11_nightsOnPeg_37 ?_
    refine m_aload_n (pc := 38) C.1 dX11_nightsOnPeg_38 rfl hl 0 rfl ?_
    refine g_9_3 (pc := 39) C hW kr0 q_395 dX11_nightsOnPeg_39 (fun q3 eq3 kq3 => ?_)
    replace h := h q3 eq3
    refine g_1_0 (pc := 42) C hW kq3 q_187 dX11_nightsOnPeg_42 ?_
    refine g_3_5 (pc := 45) C hW (k_1_0 kq3) q_153 dX11_nightsOnPeg_45 ?_
    refine m_iload_n (pc := 48) C.1 dX11_nightsOnPeg_48 rfl hl 2 rfl ?_
    obtain ⟨hb4a, hb4b, h⟩ := h
    refine m_iald (pc := 49) C.1 C.2.1 hW (k_3_5 (k_1_0 kq3)) ox2 hb4a hb4b dX11_nightsOnPeg_49 ?_
    refine m_icmp_ne (pc := 50) (tgt := 66) C.1 (hW.2.1 _ _) (hW.2.1 _ _) dX11_nightsOnPeg_50 (by decide) (fun hc => ?_) (fun hc => ?_)
    · replace h := h.1 hc
      refine m_iinc (pc := 66) C.1 dX11_nightsOnPeg_66 hl (by decide) (q0 := 4) rfl (fun v => [(4, .int v), (0, .ref (b + r0)), (1, .int (mI x1)), (2, .int (mI x2)), (3, .int (mI x3))]) (fun _ => rfl) (fun v5 ls ev5 ov5 hl => ?_)
      replace h := h v5 ev5
      refine m_goto (pc := 69) (tgt := 19) C.1 dX11_nightsOnPeg_69 (by decide) ?_
      exact hko19 r0 kr0 x1 ox1 x2 ox2 x3 ox3 v5 ov5 S _ _ _ (lv_sub hl [1, 2, 3, 4, 0] rfl) hW hS h
    · replace h := h.2 hc
      refine m_aload_n (pc := 53) C.1 dX11_nightsOnPeg_53 rfl hl 0 rfl ?_
      refine g_9_12 (pc := 54) C hW kr0 q_404 dX11_nightsOnPeg_54 ?_
      refine g_5_0 (pc := 57) C hW (k_9_12 kr0) q_385 dX11_nightsOnPeg_57 ?_
      refine m_iload_n (pc := 60) C.1 dX11_nightsOnPeg_60 rfl hl 1 rfl ?_
      obtain ⟨hb6a, hb6b, h⟩ := h
      refine m_aald4 (pc := 61) C.1 C.2.1 hW (k_5_0 (k_9_12 kr0)) ox1 hb6a hb6b dX11_nightsOnPeg_61 ?_
      refine m_iload (pc := 62) C.1 dX11_nightsOnPeg_62 hl 4 rfl ?_
      obtain ⟨hb7a, hb7b, h⟩ := h
      refine m_iald (pc := 64) C.1 C.2.1 hW (k_grid (k_5_0 (k_9_12 kr0)) hb6a hb6b) ox4 hb7a hb7b dX11_nightsOnPeg_64 ?_
      exact m_iret (pc := 65) C.1 C.2.2.2.1 C.2.2.2.2.1 hW hS (hW.2.1 _ _) h (by decide) (by decide) dX11_nightsOnPeg_65
def w_X11_nightsOnPeg_19 (N : Nat) (Q : mSt → Int → Prop) (ko72 : Nat → Int → Int → Int → mSt → Prop) : Nat → Nat → Int → Int → Int → Int → mSt → Prop
  | 0 => fun _ _ _ _ _ _ => False
  | k + 1 => w_X11_nightsOnPeg_19b N Q (w_X11_nightsOnPeg_19 N Q ko72 k) ko72
theorem W_X11_nightsOnPeg_19 (C : mC p l s m args meth c cX11_nightsOnPeg "MoonWash" 5 (some FieldType.int) g) (N : Nat) {Q : mSt → Int → Prop} {ko72 : Nat → Int → Int → Int → mSt → Prop} (hko72 : ∀ (r0 : Nat) (kr0 : KX r0 = (0, 9, 0)) (x1 : Int) (ox1 : okI x1) (x2 : Int) (ox2 : okI x2) (x3 : Int) (ox3 : okI x3) (S : mSt) (H : Heap) (locs : List Loc) (ls : Array Slot), lv_has ls 5 [(0, .ref (b + r0)), (1, .int (mI x1)), (2, .int (mI x2)), (3, .int (mI x3))] → mW g b KX S H → va_S (mA b KX s.heap.size) s.heap H locs → ko72 r0 x1 x2 x3 S → W p l e { frames := 5, cells := 0, slots := 0, locals := 141 } s m args below meth c H locs 0 0 (vx_MQ below (mQi g b KX Q (mA b KX s.heap.size)) (mEx g b KX (fun _ _ => False) (mA b KX s.heap.size)) args s 0 0 (mA b KX s.heap.size)) (F0 m 72 ls [])) : ∀ (k : Nat) (r0 : Nat) (kr0 : KX r0 = (0, 9, 0)) (x1 : Int) (ox1 : okI x1) (x2 : Int) (ox2 : okI x2) (x3 : Int) (ox3 : okI x3) (x4 : Int) (ox4 : okI x4) (S : mSt) (H : Heap) (locs : List Loc) (ls : Array Slot) (hl : lv_has ls 5 [(0, .ref (b + r0)), (1, .int (mI x1)), (2, .int (mI x2)), (3, .int (mI x3)), (4, .int (mI x4))]) (hW : mW g b KX S H) (hS : va_S (mA b KX s.heap.size) s.heap H locs) (h : w_X11_nightsOnPeg_19 N Q ko72 k r0 x1 x2 x3 x4 S), W p l e { frames := 5, cells := 0, slots := 0, locals := 141 } s m args below meth c H locs 0 0 (vx_MQ below (mQi g b KX Q (mA b KX s.heap.size)) (mEx g b KX (fun _ _ => False) (mA b KX s.heap.size)) args s 0 0 (mA b KX s.heap.size)) (F0 m 19 ls []) := by
  intro k
  induction k with
  | zero => intro r0 kr0 x1 ox1 x2 ox2 x3 ox3 x4 ox4 S H locs ls hl hW hS h; exact False.elim h
  | succ k ih => intro r0 kr0 x1 ox1 x2 ox2 x3 ox3 x4 ox4 S H locs ls hl hW hS h; exact W_X11_nightsOnPeg_19b C N ih hko72 r0 kr0 x1 ox1 x2 ox2 x3 ox3 x4 ox4 S H locs ls hl hW hS h
end
def w_X11_nightsOnPeg (N : Nat) (r0 : Nat) (x1 : Int) (x2 : Int) (x3 : Int) (S : mSt) (Q : mSt → Int → Prop) : Prop :=
  ∀ q1 : Nat, (q1 : Int) = S r0 3 → w_X5_isHung N (q1 + 1) x1 S (fun (S2 : mSt) (v2 : Int) => ((v2 ≠ 0 → ∀ v3 : Int, v3 = 0 → w_X11_nightsOnPeg_19 N Q (fun (r0_4 : Nat) (x1_4 : Int) (x2_4 : Int) (x3_4 : Int) (S_4 : mSt) => ∀ q5 : Nat, (q5 : Int) = S_4 r0_4 3 → w_X5_become N (r0_4 + 198) (q5 + 1) S_4 (fun (S6 : mSt) => (0 ≤ x1_4 ∧ x1_4 < 8 ∧ ∀ S8 : mSt, S8 = mup S6 ((r0_4 + 198) + 5) x1_4 x2_4 → ∀ q9 : Nat, (q9 : Int) = S8 r0_4 5 → w_X5_nightsTillDry N (r0_4 + 198) q9 x1_4 x3_4 S8 (fun (S10 : mSt) (v10 : Int) => Q S10 v10)))) N r0 x1 x2 x3 v3 S2) ∧ (v2 = 0 → Q S2 0)))
theorem T_X11_nightsOnPeg {l : Launch} (hl0 : l.stackTraces = false) {g : mG} {b : Nat} (N : Nat) (r0 : Nat) (kr0 : KX r0 = (0, 9, 0)) (x1 : Int) (ox1 : okI x1) (x2 : Int) (ox2 : okI x2) (x3 : Int) (ox3 : okI x3) {S : mSt} {Q : mSt → Int → Prop} (h : w_X11_nightsOnPeg N r0 x1 x2 x3 S Q) (sz : Nat) : vx_Met l yX11_nightsOnPeg (Cond.code yX11_nightsOnPeg cX11_nightsOnPeg 5 (some FieldType.int) :: wsG) { frames := 5, cells := 0, slots := 0, locals := 141 } (mPc g b KX S [.ref (b + r0), .int (mI x1), .int (mI x2), .int (mI x3)] sz) (mQi g b KX Q (mA b KX sz)) (mEx g b KX (fun _ _ => False) (mA b KX sz)) 0 0 (mA b KX sz) :=
  m_of (av := [.ref (b + r0), .int (mI x1), .int (mI x2), .int (mI x3)]) (Qf := fun A => mQi g b KX Q A) (Xf := fun A => mEx g b KX (fun _ _ => False) A) (by decide) (Nat.le_of_ble_eq_true rfl) (fun p e s m args below meth c ls X hK hml hr hlk hout hnm hW hl => by
    have C : mC p l s m args meth c cX11_nightsOnPeg "MoonWash" 5 (some FieldType.int) g := ⟨X, hK, hml, hr, hlk, hout, hl0⟩
    have hS : va_S (mA b KX s.heap.size) s.heap s.heap [] := va_S.rf
    have hl : lv_has ls 5 [(0, .ref (b + r0)), (1, .int (mI x1)), (2, .int (mI x2)), (3, .int (mI x3))] := hl
    unfold w_X11_nightsOnPeg at h
    refine m_aload_n (pc := 0) C.1 dX11_nightsOnPeg_0 rfl hl 0 rfl ?_
    refine g_9_3 (pc := 1) C hW kr0 q_395 dX11_nightsOnPeg_1 (fun q1 eq1 kq1 => ?_)
    replace h := h q1 eq1
    refine g_1_0 (pc := 4) C hW kq1 q_187 dX11_nightsOnPeg_4 ?_
    refine m_iload_n (pc := 7) C.1 dX11_nightsOnPeg_7 rfl hl 1 rfl ?_
    refine m_callVi (pc := 8) C.1 C.2.2.1 hl.1 C.2.1 hW hS (As := [.int (mI x1)]) (rest := []) (r := (q1 + 1)) (T_X5_isHung C.2.2.2.2.2.2 N (q1 + 1) (k_1_0 kq1) x1 ox1 h) (k_1_0 kq1) rfl q_575 q_491 q_492 q_83 q_493 pl_X5_isHung (by decide) (Nat.le_of_ble_eq_true rfl) dX11_nightsOnPeg_8 (fun v2 S2 H locs ov2 h hW2 hS => ?_)
    refine m_if_ne (pc := 11) (tgt := 16) C.1 ov2 dX11_nightsOnPeg_11 (by decide) (fun hc => ?_) (fun hc => ?_)
    · replace h := h.1 hc
      refine m_iconst (pc := 16) C.1 dX11_nightsOnPeg_16 ?_
      refine m_istore (pc := 17) C.1 dX11_nightsOnPeg_17 hl (by decide) (fun v => [(4, .int v), (0, .ref (b + r0)), (1, .int (mI x1)), (2, .int (mI x2)), (3, .int (mI x3))]) (fun _ => rfl) (by decide : okI 0) (fun v3 ls ev3 ov3 hl => ?_)
      replace h := h v3 ev3
      refine W_X11_nightsOnPeg_19 C N ?_ N r0 kr0 x1 ox1 x2 ox2 x3 ox3 v3 ov3 S2 _ _ _ (lv_sub hl [1, 2, 3, 4, 0] rfl) hW2 hS h
      · intro r0_4 kr0_4 x1_4 ox1_4 x2_4 ox2_4 x3_4 ox3_4 S_4 H locs ls hl hW_4 hS h
        refine m_aload_n (pc := 72) C.1 dX11_nightsOnPeg_72 rfl hl 0 rfl ?_
        refine g_9_10 (pc := 73) C hW_4 kr0_4 q_402 dX11_nightsOnPeg_73 ?_
        refine m_aload_n (pc := 76) C.1 dX11_nightsOnPeg_76 rfl hl 0 rfl ?_
        refine g_9_3 (pc := 77) C hW_4 kr0_4 q_395 dX11_nightsOnPeg_77 (fun q5 eq5 kq5 => ?_)
        replace h := h q5 eq5
        refine g_1_0 (pc := 80) C hW_4 kq5 q_187 dX11_nightsOnPeg_80 ?_
        refine m_callVv (pc := 83) C.1 C.2.2.1 hl.1 C.2.1 hW_4 hS (As := [.ref (b + (q5 + 1))]) (rest := []) (r := (r0_4 + 198)) (T_X5_become C.2.2.2.2.2.2 N (r0_4 + 198) (k_9_10 kr0_4) (q5 + 1) (k_1_0 kq5) h) (k_9_10 kr0_4) rfl q_1157 q_465 q_466 q_83 q_467 pl_X5_become (by decide) (Nat.le_of_ble_eq_true rfl) dX11_nightsOnPeg_83 (fun S6 H locs h hW6 hS => ?_)
        refine m_aload_n (pc := 86) C.1 dX11_nightsOnPeg_86 rfl hl 0 rfl ?_
        refine g_9_10 (pc := 87) C hW6 kr0_4 q_402 dX11_nightsOnPeg_87 ?_
        refine g_3_4 (pc := 90) C hW6 (k_9_10 kr0_4) q_149 dX11_nightsOnPeg_90 ?_
        refine m_iload_n (pc := 93) C.1 dX11_nightsOnPeg_93 rfl hl 1 rfl ?_
        refine m_iload_n (pc := 94) C.1 dX11_nightsOnPeg_94 rfl hl 2 rfl ?_
        obtain ⟨hb7a, hb7b, h⟩ := h
        refine m_iast (pc := 95) C.1 C.2.1 hW6 hS (k_3_4 (k_9_10 kr0_4)) ox1_4 ox2_4 hb7a hb7b dX11_nightsOnPeg_95 (fun S8 H locs e8 hW8 hS => ?_)
        replace h := h S8 e8
        refine m_aload_n (pc := 96) C.1 dX11_nightsOnPeg_96 rfl hl 0 rfl ?_
        refine g_9_10 (pc := 97) C hW8 kr0_4 q_402 dX11_nightsOnPeg_97 ?_
        refine m_aload_n (pc := 100) C.1 dX11_nightsOnPeg_100 rfl hl 0 rfl ?_
        refine g_9_5 (pc := 101) C hW8 kr0_4 q_397 dX11_nightsOnPeg_101 (fun q9 eq9 kq9 => ?_)
        replace h := h q9 eq9
        refine m_iload_n (pc := 104) C.1 dX11_nightsOnPeg_104 rfl hl 1 rfl ?_
        refine m_iload_n (pc := 105) C.1 dX11_nightsOnPeg_105 rfl hl 3 rfl ?_
        refine m_callVi (pc := 106) C.1 C.2.2.1 hl.1 C.2.1 hW8 hS (As := [.ref (b + q9), .int (mI x1_4), .int (mI x3_4)]) (rest := []) (r := (r0_4 + 198)) (T_X5_nightsTillDry C.2.2.2.2.2.2 N (r0_4 + 198) (k_9_10 kr0_4) q9 kq9 x1_4 ox1_4 x3_4 ox3_4 h) (k_9_10 kr0_4) rfl q_1229 q_1230 q_1231 q_83 q_1232 pl_X5_nightsTillDry (by decide) (Nat.le_of_ble_eq_true rfl) dX11_nightsOnPeg_106 (fun v10 S10 H locs ov10 h hW10 hS => ?_)
        exact m_iret (pc := 109) C.1 C.2.2.2.1 C.2.2.2.2.1 hW10 hS ov10 h (by decide) (by decide) dX11_nightsOnPeg_109
    · replace h := h.2 hc
      refine m_iconst (pc := 14) C.1 dX11_nightsOnPeg_14 ?_
      exact m_iret (pc := 15) C.1 C.2.2.2.1 C.2.2.2.2.1 hW2 hS (by decide : okI 0) h (by decide) (by decide) dX11_nightsOnPeg_15) sz
section
variable {p : Program} {l : Launch} {e : Env} {s : State} {m : MethodId} {args : Array Value} {below : List Frame} {meth : Method} {c : Code} {g : mG} {b : Nat}
def w_X11_soonest_27b (N : Nat) (Q : mSt → Int → Prop) (E : String → mSt → Prop) (ko27 : Nat → Int → Int → Int → Int → mSt → Prop) (ko58 : Nat → Int → Int → Int → mSt → Prop) (r0 : Nat) (x1 : Int) (x2 : Int) (x3 : Int) (x4 : Int) (S : mSt) : Prop :=
  ((8 ≤ x4 → ko58 r0 x1 x2 x3 S) ∧ (x4 < 8 → w_X11_nightsOnPeg N r0 x3 x4 x1 S (fun (S1 : mSt) (v1 : Int) => w_X7_tell N (r0 + 226) x3 x4 v1 S1 (fun (S2 : mSt) => ∀ v3 : Int, v3 = nm (x4 + 1) → ko27 r0 x1 x2 x3 v3 S2))))
theorem W_X11_soonest_27b (C : mC p l s m args meth c cX11_soonest "MoonWash" 5 (some FieldType.int) g) (N : Nat) {Q : mSt → Int → Prop} {E : String → mSt → Prop} {ko27 : Nat → Int → Int → Int → Int → mSt → Prop} {ko58 : Nat → Int → Int → Int → mSt → Prop} (hko27 : ∀ (r0 : Nat) (kr0 : KX r0 = (0, 9, 0)) (x1 : Int) (ox1 : okI x1) (x2 : Int) (ox2 : okI x2) (x3 : Int) (ox3 : okI x3) (x4 : Int) (ox4 : okI x4) (S : mSt) (H : Heap) (locs : List Loc) (ls : Array Slot), lv_has ls 5 [(0, .ref (b + r0)), (1, .int (mI x1)), (2, .int (mI x2)), (3, .int (mI x3)), (4, .int (mI x4))] → mW g b KX S H → va_S (mA b KX s.heap.size) s.heap H locs → ko27 r0 x1 x2 x3 x4 S → W p l e { frames := 7, cells := 2, slots := 12, locals := 165 } s m args below meth c H locs 2 12 (vx_MQ below (mQi g b KX Q (mA b KX s.heap.size)) (mEx g b KX E (mA b KX s.heap.size)) args s 2 12 (mA b KX s.heap.size)) (F0 m 27 ls [])) (hko58 : ∀ (r0 : Nat) (kr0 : KX r0 = (0, 9, 0)) (x1 : Int) (ox1 : okI x1) (x2 : Int) (ox2 : okI x2) (x3 : Int) (ox3 : okI x3) (S : mSt) (H : Heap) (locs : List Loc) (ls : Array Slot), lv_has ls 5 [(0, .ref (b + r0)), (1, .int (mI x1)), (2, .int (mI x2)), (3, .int (mI x3))] → mW g b KX S H → va_S (mA b KX s.heap.size) s.heap H locs → ko58 r0 x1 x2 x3 S → W p l e { frames := 7, cells := 2, slots := 12, locals := 165 } s m args below meth c H locs 2 12 (vx_MQ below (mQi g b KX Q (mA b KX s.heap.size)) (mEx g b KX E (mA b KX s.heap.size)) args s 2 12 (mA b KX s.heap.size)) (F0 m 58 ls [])) (r0 : Nat) (kr0 : KX r0 = (0, 9, 0)) (x1 : Int) (ox1 : okI x1) (x2 : Int) (ox2 : okI x2) (x3 : Int) (ox3 : okI x3) (x4 : Int) (ox4 : okI x4) (S : mSt) (H : Heap) (locs : List Loc) (ls : Array Slot) (hl : lv_has ls 5 [(0, .ref (b + r0)), (1, .int (mI x1)), (2, .int (mI x2)), (3, .int (mI x3)), (4, .int (mI x4))]) (hW : mW g b KX S H) (hS : va_S (mA b KX s.heap.size) s.heap H locs) (h : w_X11_soonest_27b N Q E ko27 ko58 r0 x1 x2 x3 x4 S) : W p l e { frames := 7, cells := 2, slots := 12, locals := 165 } s m args below meth c H locs 2 12 (vx_MQ below (mQi g b KX Q (mA b KX s.heap.size)) (mEx g b KX E (mA b KX s.heap.size)) args s 2 12 (mA b KX s.heap.size)) (F0 m 27 ls []) := by
  unfold w_X11_soonest_27b at h
  refine m_iload (pc := 27) C.1 dX11_soonest_27 hl 4 rfl ?_
  refine m_bipush (pc := 29) C.1 dX11_soonest_29 rfl ?_
  refine m_icmp_ge (pc := 31) (tgt := 58) C.1 ox4 (by decide : okI 8) dX11_soonest_31 (by decide) (fun hc => ?_) (fun hc => ?_)
  · replace h := h.1 hc
    exact hko58 r0 kr0 x1 ox1 x2 ox2 x3 ox3 S _ _ _ (lv_sub hl [0, 1, 2, 3] rfl) hW hS h
  · replace h := h.2 hc
    refine m_aload_n (pc := 34) C.1 dX11_soonest_34 rfl hl 0 rfl ?_
    refine g_9_12 (pc := 35) C hW kr0 q_404 dX11_soonest_35 ?_
    refine m_iload_n (pc := 38) C.1 dX11_soonest_38 rfl hl 3 rfl ?_
    refine m_iload (pc := 39) C.1 dX11_soonest_39 hl 4 rfl ?_
    refine m_aload_n (pc := 41) C.1 dX11_soonest_41 rfl hl 0 rfl ?_
    refine m_iload_n (pc := 42) C.1 dX11_soonest_42 rfl hl 3 rfl ?_
    refine m_iload (pc := 43) C.1 dX11_soonest_43 hl 4 rfl ?_
    refine m_iload_n (pc := 45) C.1 dX11_soonest_45 rfl hl 1 rfl ?_
    refine m_callVi (pc := 46) C.1 C.2.2.1 hl.1 C.2.1 hW hS (As := [.int (mI x3), .int (mI x4), .int (mI x1)]) (rest := [.int (mI x4), .int (mI x3), .ref (b + (r0 + 226))]) (r := r0) (T_X11_nightsOnPeg C.2.2.2.2.2.2 N r0 kr0 x3 ox3 x4 ox4 x1 ox1 h) kr0 rfl q_1225 q_1227 q_16 q_81 q_1228 pl_X11_nightsOnPeg (by decide) (Nat.le_of_ble_eq_true rfl) dX11_soonest_46 (fun v1 S1 H locs ov1 h hW1 hS => ?_)
    refine m_callVv (pc := 49) C.1 C.2.2.1 hl.1 C.2.1 hW1 hS (As := [.int (mI x3), .int (mI x4), .int (mI v1)]) (rest := []) (r := (r0 + 226)) (T_X7_tell C.2.2.2.2.2.2 N (r0 + 226) (k_9_12 kr0) x3 ox3 x4 ox4 v1 ov1 h) (k_9_12 kr0) rfl q_1233 q_1234 q_1235 q_91 q_1236 pl_X7_tell (by decide) (Nat.le_of_ble_eq_true rfl) dX11_soonest_49 (fun S2 H locs h hW2 hS => ?_)
    refine m_iinc (pc := 52) C.1 dX11_soonest_52 hl (by decide) (q0 := 4) rfl (fun v => [(4, .int v), (0, .ref (b + r0)), (1, .int (mI x1)), (2, .int (mI x2)), (3, .int (mI x3))]) (fun _ => rfl) (fun v3 ls ev3 ov3 hl => ?_)
    replace h := h v3 ev3
    refine m_goto (pc := 55) (tgt := 27) C.1 dX11_soonest_55 (by decide) ?_
    exact hko27 r0 kr0 x1 ox1 x2 ox2 x3 ox3 v3 ov3 S2 _ _ _ (lv_sub hl [1, 2, 3, 4, 0] rfl) hW2 hS h
def w_X11_soonest_27 (N : Nat) (Q : mSt → Int → Prop) (E : String → mSt → Prop) (ko58 : Nat → Int → Int → Int → mSt → Prop) : Nat → Nat → Int → Int → Int → Int → mSt → Prop
  | 0 => fun _ _ _ _ _ _ => False
  | k + 1 => w_X11_soonest_27b N Q E (w_X11_soonest_27 N Q E ko58 k) ko58
theorem W_X11_soonest_27 (C : mC p l s m args meth c cX11_soonest "MoonWash" 5 (some FieldType.int) g) (N : Nat) {Q : mSt → Int → Prop} {E : String → mSt → Prop} {ko58 : Nat → Int → Int → Int → mSt → Prop} (hko58 : ∀ (r0 : Nat) (kr0 : KX r0 = (0, 9, 0)) (x1 : Int) (ox1 : okI x1) (x2 : Int) (ox2 : okI x2) (x3 : Int) (ox3 : okI x3) (S : mSt) (H : Heap) (locs : List Loc) (ls : Array Slot), lv_has ls 5 [(0, .ref (b + r0)), (1, .int (mI x1)), (2, .int (mI x2)), (3, .int (mI x3))] → mW g b KX S H → va_S (mA b KX s.heap.size) s.heap H locs → ko58 r0 x1 x2 x3 S → W p l e { frames := 7, cells := 2, slots := 12, locals := 165 } s m args below meth c H locs 2 12 (vx_MQ below (mQi g b KX Q (mA b KX s.heap.size)) (mEx g b KX E (mA b KX s.heap.size)) args s 2 12 (mA b KX s.heap.size)) (F0 m 58 ls [])) : ∀ (k : Nat) (r0 : Nat) (kr0 : KX r0 = (0, 9, 0)) (x1 : Int) (ox1 : okI x1) (x2 : Int) (ox2 : okI x2) (x3 : Int) (ox3 : okI x3) (x4 : Int) (ox4 : okI x4) (S : mSt) (H : Heap) (locs : List Loc) (ls : Array Slot) (hl : lv_has ls 5 [(0, .ref (b + r0)), (1, .int (mI x1)), (2, .int (mI x2)), (3, .int (mI x3)), (4, .int (mI x4))]) (hW : mW g b KX S H) (hS : va_S (mA b KX s.heap.size) s.heap H locs) (h : w_X11_soonest_27 N Q E ko58 k r0 x1 x2 x3 x4 S), W p l e { frames := 7, cells := 2, slots := 12, locals := 165 } s m args below meth c H locs 2 12 (vx_MQ below (mQi g b KX Q (mA b KX s.heap.size)) (mEx g b KX E (mA b KX s.heap.size)) args s 2 12 (mA b KX s.heap.size)) (F0 m 27 ls []) := by
  intro k
  induction k with
  | zero => intro r0 kr0 x1 ox1 x2 ox2 x3 ox3 x4 ox4 S H locs ls hl hW hS h; exact False.elim h
  | succ k ih => intro r0 kr0 x1 ox1 x2 ox2 x3 ox3 x4 ox4 S H locs ls hl hW hS h; exact W_X11_soonest_27b C N ih hko58 r0 kr0 x1 ox1 x2 ox2 x3 ox3 x4 ox4 S H locs ls hl hW hS h
def w_X11_soonest_18b (N : Nat) (Q : mSt → Int → Prop) (E : String → mSt → Prop) (ko18 : Nat → Int → Int → Int → mSt → Prop) (ko64 : Nat → Int → mSt → Prop) (r0 : Nat) (x1 : Int) (x2 : Int) (x3 : Int) (S : mSt) : Prop :=
  ((8 ≤ x3 → ko64 r0 x2 S) ∧ (x3 < 8 → ∀ v1 : Int, v1 = 0 → w_X11_soonest_27 N Q E (fun (r0_2 : Nat) (x1_2 : Int) (x2_2 : Int) (x3_2 : Int) (S_2 : mSt) => ∀ v3 : Int, v3 = nm (x3_2 + 1) → ko18 r0_2 x1_2 x2_2 v3 S_2) N r0 x1 x2 x3 v1 S))
theorem W_X11_soonest_18b (C : mC p l s m args meth c cX11_soonest "MoonWash" 5 (some FieldType.int) g) (N : Nat) {Q : mSt → Int → Prop} {E : String → mSt → Prop} {ko18 : Nat → Int → Int → Int → mSt → Prop} {ko64 : Nat → Int → mSt → Prop} (hko18 : ∀ (r0 : Nat) (kr0 : KX r0 = (0, 9, 0)) (x1 : Int) (ox1 : okI x1) (x2 : Int) (ox2 : okI x2) (x3 : Int) (ox3 : okI x3) (S : mSt) (H : Heap) (locs : List Loc) (ls : Array Slot), lv_has ls 5 [(0, .ref (b + r0)), (1, .int (mI x1)), (2, .int (mI x2)), (3, .int (mI x3))] → mW g b KX S H → va_S (mA b KX s.heap.size) s.heap H locs → ko18 r0 x1 x2 x3 S → W p l e { frames := 7, cells := 2, slots := 12, locals := 165 } s m args below meth c H locs 2 12 (vx_MQ below (mQi g b KX Q (mA b KX s.heap.size)) (mEx g b KX E (mA b KX s.heap.size)) args s 2 12 (mA b KX s.heap.size)) (F0 m 18 ls [])) (hko64 : ∀ (r0 : Nat) (kr0 : KX r0 = (0, 9, 0)) (x2 : Int) (ox2 : okI x2) (S : mSt) (H : Heap) (locs : List Loc) (ls : Array Slot), lv_has ls 5 [(0, .ref (b + r0)), (2, .int (mI x2))] → mW g b KX S H → va_S (mA b KX s.heap.size) s.heap H locs → ko64 r0 x2 S → W p l e { frames := 7, cells := 2, slots := 12, locals := 165 } s m args below meth c H locs 2 12 (vx_MQ below (mQi g b KX Q (mA b KX s.heap.size)) (mEx g b KX E (mA b KX s.heap.size)) args s 2 12 (mA b KX s.heap.size)) (F0 m 64 ls [])) (r0 : Nat) (kr0 : KX r0 = (0, 9, 0)) (x1 : Int) (ox1 : okI x1) (x2 : Int) (ox2 : okI x2) (x3 : Int) (ox3 : okI x3) (S : mSt) (H : Heap) (locs : List Loc) (ls : Array Slot) (hl : lv_has ls 5 [(0, .ref (b + r0)), (1, .int (mI x1)), (2, .int (mI x2)), (3, .int (mI x3))]) (hW : mW g b KX S H) (hS : va_S (mA b KX s.heap.size) s.heap H locs) (h : w_X11_soonest_18b N Q E ko18 ko64 r0 x1 x2 x3 S) : W p l e { frames := 7, cells := 2, slots := 12, locals := 165 } s m args below meth c H locs 2 12 (vx_MQ below (mQi g b KX Q (mA b KX s.heap.size)) (mEx g b KX E (mA b KX s.heap.size)) args s 2 12 (mA b KX s.heap.size)) (F0 m 18 ls []) := by
  unfold w_X11_soonest_18b at h
  refine m_iload_n (pc := 18) C.1 dX11_soonest_18 rfl hl 3 rfl ?_
  refine m_bipush (pc := 19) C.1 dX11_soonest_19 rfl ?_
  refine m_icmp_ge (pc := 21) (tgt := 64) C.1 ox3 (by decide : okI 8) dX11_soonest_21 (by decide) (fun hc => ?_) (fun hc => ?_)
  · replace h := h.1 hc
    exact hko64 r0 kr0 x2 ox2 S _ _ _ (lv_sub hl [0, 2] rfl) hW hS h
  · replace h := h.2 hc
    refine m_iconst (pc := 24) C.1 dX11_soonest_24 ?_
    refine m_istore (pc := 25) C.1 dX11_soonest_25 hl (by decide) (fun v => [(4, .int v), (0, .ref (b + r0)), (1, .int (mI x1)), (2, .int (mI x2)), (3, .int (mI x3))]) (fun _ => rfl) (by decide : okI 0) (fun v1 ls ev1 ov1 hl => ?_)
    replace h := h v1 ev1
    refine W_X11_soonest_27 C N ?_ N r0 kr0 x1 ox1 x2 ox2 x3 ox3 v1 ov1 S _ _ _ (lv_sub hl [1, 2, 3, 4, 0] rfl) hW hS h
    · intro r0_2 kr0_2 x1_2 ox1_2 x2_2 ox2_2 x3_2 ox3_2 S_2 H locs ls hl hW_2 hS h
      refine m_iinc (pc := 58) C.1 dX11_soonest_58 hl (by decide) (q0 := 3) rfl (fun v => [(3, .int v), (0, .ref (b + r0_2)), (1, .int (mI x1_2)), (2, .int (mI x2_2))]) (fun _ => rfl) (fun v3 ls ev3 ov3 hl => ?_)
      replace h := h v3 ev3
      refine m_goto (pc := 61) (tgt := 18) C.1 dX11_soonest_61 (by decide) ?_
      exact hko18 r0_2 kr0_2 x1_2 ox1_2 x2_2 ox2_2 v3 ov3 S_2 _ _ _ (lv_sub hl [1, 2, 3, 0] rfl) hW_2 hS h
def w_X11_soonest_18 (N : Nat) (Q : mSt → Int → Prop) (E : String → mSt → Prop) (ko64 : Nat → Int → mSt → Prop) : Nat → Nat → Int → Int → Int → mSt → Prop
  | 0 => fun _ _ _ _ _ => False
  | k + 1 => w_X11_soonest_18b N Q E (w_X11_soonest_18 N Q E ko64 k) ko64
theorem W_X11_soonest_18 (C : mC p l s m args meth c cX11_soonest "MoonWash" 5 (some FieldType.int) g) (N : Nat) {Q : mSt → Int → Prop} {E : String → mSt → Prop} {ko64 : Nat → Int → mSt → Prop} (hko64 : ∀ (r0 : Nat) (kr0 : KX r0 = (0, 9, 0)) (x2 : Int) (ox2 : okI x2) (S : mSt) (H : Heap) (locs : List Loc) (ls : Array Slot), lv_has ls 5 [(0, .ref (b + r0)), (2, .int (mI x2))] → mW g b KX S H → va_S (mA b KX s.heap.size) s.heap H locs → ko64 r0 x2 S → W p l e { frames := 7, cells := 2, slots := 12, locals := 165 } s m args below meth c H locs 2 12 (vx_MQ below (mQi g b KX Q (mA b KX s.heap.size)) (mEx g b KX E (mA b KX s.heap.size)) args s 2 12 (mA b KX s.heap.size)) (F0 m 64 ls [])) : ∀ (k : Nat) (r0 : Nat) (kr0 : KX r0 = (0, 9, 0)) (x1 : Int) (ox1 : okI x1) (x2 : Int) (ox2 : okI x2) (x3 : Int) (ox3 : okI x3) (S : mSt) (H : Heap) (locs : List Loc) (ls : Array Slot) (hl : lv_has ls 5 [(0, .ref (b + r0)), (1, .int (mI x1)), (2, .int (mI x2)), (3, .int (mI x3))]) (hW : mW g b KX S H) (hS : va_S (mA b KX s.heap.size) s.heap H locs) (h : w_X11_soonest_18 N Q E ko64 k r0 x1 x2 x3 S), W p l e { frames := 7, cells := 2, slots := 12, locals := 165 } s m args below meth c H locs 2 12 (vx_MQ below (mQi g b KX Q (mA b KX s.heap.size)) (mEx g b KX E (mA b KX s.heap.size)) args s 2 12 (mA b KX s.heap.size)) (F0 m 18 ls []) := by
  intro k
  induction k with
  | zero => intro r0 kr0 x1 ox1 x2 ox2 x3 ox3 S H locs ls hl hW hS h; exact False.elim h
  | succ k ih => intro r0 kr0 x1 ox1 x2 ox2 x3 ox3 S H locs ls hl hW hS h; exact W_X11_soonest_18b C N ih hko64 r0 kr0 x1 ox1 x2 ox2 x3 ox3 S H locs ls hl hW hS h
def w_X11_soonest_9 (N : Nat) (Q : mSt → Int → Prop) (E : String → mSt → Prop)  (r0 : Nat) (x1 : Int) (x2 : Int) (S : mSt) : Prop :=
  w_X11_checkNumber N x1 0 9 S (fun (S1 : mSt) => ∀ v2 : Int, v2 = 0 → w_X11_soonest_18 N Q E (fun (r0_3 : Nat) (x2_3 : Int) (S_3 : mSt) => w_X7_fill N (r0_3 + 226) S_3 (fun (S4 : mSt) => ((x2_3 ≠ (-1) → w_X7_pegOfPart N (r0_3 + 226) x2_3 S4 (fun (S5 : mSt) (v5 : Int) => Q S5 v5)) ∧ (x2_3 = (-1) → w_X7_leastNights N (r0_3 + 226) S4 (fun (S6 : mSt) (v6 : Int) => Q S6 v6))))) N r0 x1 x2 v2 S1) E
theorem W_X11_soonest_9 (C : mC p l s m args meth c cX11_soonest "MoonWash" 5 (some FieldType.int) g) (N : Nat) {Q : mSt → Int → Prop} {E : String → mSt → Prop}   (r0 : Nat) (kr0 : KX r0 = (0, 9, 0)) (x1 : Int) (ox1 : okI x1) (x2 : Int) (ox2 : okI x2) (S : mSt) (H : Heap) (locs : List Loc) (ls : Array Slot) (hl : lv_has ls 5 [(0, .ref (b + r0)), (1, .int (mI x1)), (2, .int (mI x2))]) (hW : mW g b KX S H) (hS : va_S (mA b KX s.heap.size) s.heap H locs) (h : w_X11_soonest_9 N Q E  r0 x1 x2 S) : W p l e { frames := 7, cells := 2, slots := 12, locals := 165 } s m args below meth c H locs 1 6 (vx_MQ below (mQi g b KX Q (mA b KX s.heap.size)) (mEx g b KX E (mA b KX s.heap.size)) args s 2 12 (mA b KX s.heap.size)) (F0 m 9 ls []) := by
  unfold w_X11_soonest_9 at h
  refine m_iload_n (pc := 9) C.1 dX11_soonest_9 rfl hl 1 rfl ?_
  refine m_iconst (pc := 10) C.1 dX11_soonest_10 ?_
  refine m_bipush (pc := 11) C.1 dX11_soonest_11 rfl ?_
  refine m_callSvx (pc := 13) C.1 C.2.2.1 hl.1 C.2.1 hW hS (As := [.int (mI x1), .int (mI 0), .int (mI 9)]) (rest := []) (T_X11_checkNumber C.2.2.2.2.2.2 N x1 ox1 0 (by decide : okI 0) 9 (by decide : okI 9) h) q_1122 q_1123 q_81 q_1124 pl_X11_checkNumber (by decide) (Nat.le_of_ble_eq_true rfl) dX11_soonest_13 (fun En S1 H locs ce q9 hE hW1 hS h1 h2 h3 => m_prop C.2.2.2.2.2.1 C.2.2.2.2.1 hW1 hS hE h1 h2 h3 (by decide) (by decide)) (fun S1 H locs h hW1 hS => ?_)
  refine m_iconst (pc := 16) C.1 dX11_soonest_16 ?_
  refine m_istore_n (pc := 17) C.1 dX11_soonest_17 rfl hl (by decide) (fun v => [(3, .int v), (0, .ref (b + r0)), (1, .int (mI x1)), (2, .int (mI x2))]) (fun _ => rfl) (by decide : okI 0) (fun v2 ls ev2 ov2 hl => ?_)
  replace h := h v2 ev2
  refine W_X11_soonest_18 C N ?_ N r0 kr0 x1 ox1 x2 ox2 v2 ov2 S1 _ _ _ (lv_sub hl [1, 2, 3, 0] rfl) hW1 hS h
  · intro r0_3 kr0_3 x2_3 ox2_3 S_3 H locs ls hl hW_3 hS h
    refine m_aload_n (pc := 64) C.1 dX11_soonest_64 rfl hl 0 rfl ?_
    refine g_9_12 (pc := 65) C hW_3 kr0_3 q_404 dX11_soonest_65 ?_
    refine m_callVv (pc := 68) C.1 C.2.2.1 hl.1 C.2.1 hW_3 hS (As := []) (rest := []) (r := (r0_3 + 226)) (T_X7_fill C.2.2.2.2.2.2 N (r0_3 + 226) (k_9_12 kr0_3) h) (k_9_12 kr0_3) rfl q_1237 q_1238 q_1239 q_91 q_1240 pl_X7_fill (by decide) (Nat.le_of_ble_eq_true rfl) dX11_soonest_68 (fun S4 H locs h hW4 hS => ?_)
    refine m_iload_n (pc := 71) C.1 dX11_soonest_71 rfl hl 1 rfl ?_
    refine m_iconst (pc := 72) C.1 dX11_soonest_72 ?_
    refine m_icmp_ne (pc := 73) (tgt := 86) C.1 ox2_3 (by decide : okI (-1)) dX11_soonest_73 (by decide) (fun hc => ?_) (fun hc => ?_)
    · replace h := h.1 hc
      refine m_aload_n (pc := 86) C.1 dX11_soonest_86 rfl hl 0 rfl ?_
      refine g_9_12 (pc := 87) C hW4 kr0_3 q_404 dX11_soonest_87 ?_
      refine m_iload_n (pc := 90) C.1 dX11_soonest_90 rfl hl 1 rfl ?_
      refine m_callVi (pc := 91) C.1 C.2.2.1 hl.1 C.2.1 hW4 hS (As := [.int (mI x2_3)]) (rest := []) (r := (r0_3 + 226)) (T_X7_pegOfPart C.2.2.2.2.2.2 N (r0_3 + 226) (k_9_12 kr0_3) x2_3 ox2_3 h) (k_9_12 kr0_3) rfl q_1252 q_1253 q_1254 q_91 q_1255 pl_X7_pegOfPart (by decide) (Nat.le_of_ble_eq_true rfl) dX11_soonest_91 (fun v5 S5 H locs ov5 h hW5 hS => ?_)
      exact m_iret (pc := 94) C.1 C.2.2.2.1 C.2.2.2.2.1 hW5 hS ov5 h (by decide) (by decide) dX11_soonest_94
    · replace h := h.2 hc
      refine m_aload_n (pc := 76) C.1 dX11_soonest_76 rfl hl 0 rfl ?_
      refine g_9_12 (pc := 77) C hW4 kr0_3 q_404 dX11_soonest_77 ?_
      refine m_callVi (pc := 80) C.1 C.2.2.1 hl.1 C.2.1 hW4 hS (As := []) (rest := []) (r := (r0_3 + 226)) (T_X7_leastNights C.2.2.2.2.2.2 N (r0_3 + 226) (k_9_12 kr0_3) h) (k_9_12 kr0_3) rfl q_1248 q_1249 q_1250 q_91 q_1251 pl_X7_leastNights (by decide) (Nat.le_of_ble_eq_true rfl) dX11_soonest_80 (fun v6 S6 H locs ov6 h hW6 hS => ?_)
      refine m_goto (pc := 83) (tgt := 94) C.1 dX11_soonest_83 (by decide) ?_
      exact m_iret (pc := 94) C.1 C.2.2.2.1 C.2.2.2.2.1 hW6 hS ov6 h (by decide) (by decide) dX11_soonest_94
end
def w_X11_soonest (N : Nat) (r0 : Nat) (x1 : Int) (x2 : Int) (S : mSt) (Q : mSt → Int → Prop) (E : String → mSt → Prop) : Prop :=
  ((x2 = (-1) → w_X11_soonest_9 N Q E  r0 x1 x2 S) ∧ (x2 ≠ (-1) → w_X11_checkPart N x2 S (fun (S1 : mSt) => w_X11_soonest_9 N Q E  r0 x1 x2 S1) E))
theorem T_X11_soonest {l : Launch} (hl0 : l.stackTraces = false) {g : mG} {b : Nat} (N : Nat) (r0 : Nat) (kr0 : KX r0 = (0, 9, 0)) (x1 : Int) (ox1 : okI x1) (x2 : Int) (ox2 : okI x2) {S : mSt} {Q : mSt → Int → Prop} {E : String → mSt → Prop} (h : w_X11_soonest N r0 x1 x2 S Q E) (sz : Nat) : vx_Met l yX11_soonest (Cond.code yX11_soonest cX11_soonest 5 (some FieldType.int) :: wsG) { frames := 7, cells := 2, slots := 12, locals := 165 } (mPc g b KX S [.ref (b + r0), .int (mI x1), .int (mI x2)] sz) (mQi g b KX Q (mA b KX sz)) (mEx g b KX E (mA b KX sz)) 2 12 (mA b KX sz) :=
  m_of (av := [.ref (b + r0), .int (mI x1), .int (mI x2)]) (Qf := fun A => mQi g b KX Q A) (Xf := fun A => mEx g b KX E A) (by decide) (Nat.le_of_ble_eq_true rfl) (fun p e s m args below meth c ls X hK hml hr hlk hout hnm hW hl => by
    have C : mC p l s m args meth c cX11_soonest "MoonWash" 5 (some FieldType.int) g := ⟨X, hK, hml, hr, hlk, hout, hl0⟩
    have hS : va_S (mA b KX s.heap.size) s.heap s.heap [] := va_S.rf
    have hl : lv_has ls 5 [(0, .ref (b + r0)), (1, .int (mI x1)), (2, .int (mI x2))] := hl
    unfold w_X11_soonest at h
    refine m_iload_n (pc := 0) C.1 dX11_soonest_0 rfl hl 2 rfl ?_
    refine m_iconst (pc := 1) C.1 dX11_soonest_1 ?_
    refine m_icmp_eq (pc := 2) (tgt := 9) C.1 ox2 (by decide : okI (-1)) dX11_soonest_2 (by decide) (fun hc => ?_) (fun hc => ?_)
    · replace h := h.1 hc
      refine W.widen (k := 1) (n := 6) (by decide) (by decide) ?_
      exact W_X11_soonest_9 C N  r0 kr0 x1 ox1 x2 ox2 S _ _ _ (lv_sub hl [0, 1, 2] rfl) hW hS h
    · replace h := h.2 hc
      refine m_iload_n (pc := 5) C.1 dX11_soonest_5 rfl hl 2 rfl ?_
      refine m_callSvx (pc := 6) C.1 C.2.2.1 hl.1 C.2.1 hW hS (As := [.int (mI x2)]) (rest := []) (T_X11_checkPart C.2.2.2.2.2.2 N x2 ox2 h) q_936 q_937 q_81 q_938 pl_X11_checkPart (by decide) (Nat.le_of_ble_eq_true rfl) dX11_soonest_6 (fun En S1 H locs ce q9 hE hW1 hS h1 h2 h3 => m_prop C.2.2.2.2.2.1 C.2.2.2.2.1 hW1 hS hE h1 h2 h3 (by decide) (by decide)) (fun S1 H locs h hW1 hS => ?_)
      exact W_X11_soonest_9 C N  r0 kr0 x1 ox1 x2 ox2 S1 _ _ _ (lv_sub hl [0, 1, 2] rfl) hW1 hS h) sz
