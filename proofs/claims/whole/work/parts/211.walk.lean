set_option maxHeartbeats 4000000
set_option maxRecDepth 20000
section
variable {p : Program} {l : Launch} {e : Env} {s : State} {m : MethodId} {args : Array Value} {below : List Frame} {meth : Method} {c : Code} {g : mG} {b : Nat}
def w_X12_back_16b (N : Nat) (Q : mSt → Int → Prop) (ko16 : Nat → Int → mSt → Prop) (ko41 : Nat → mSt → Prop) (r0 : Nat) (x1 : Int) (S : mSt) : Prop :=
  ((750 ≤ x1 → ko41 r0 S) ∧ (x1 < 750 → (0 ≤ x1 ∧ x1 < 750 ∧ (0 ≤ x1 ∧ x1 < 750 ∧ ∀ S3 : mSt, S3 = mup S (r0 + 1) x1 (S (r0 + 2) x1) → ∀ v4 : Int, v4 = nm (x1 + 1) → ko16 r0 v4 S3))))
theorem W_X12_back_16b (C : mC p l s m args meth c cX12_back "MoonWashModel" 2 (some FieldType.boolean) g) (N : Nat) {Q : mSt → Int → Prop} {ko16 : Nat → Int → mSt → Prop} {ko41 : Nat → mSt → Prop} (hko16 : ∀ (r0 : Nat) (kr0 : KM r0 = (0, 10, 0)) (x1 : Int) (ox1 : okI x1) (S : mSt) (H : Heap) (locs : List Loc) (ls : Array Slot), lv_has ls 2 [(0, .ref (b + r0)), (1, .int (mI x1))] → mW g b KM S H → va_S (mA b KM s.heap.size) s.heap H locs → ko16 r0 x1 S → W p l e { frames := 0, cells := 0, slots := 0, locals := 0 } s m args below meth c H locs 0 0 (vx_MQ below (mQi g b KM Q (mA b KM s.heap.size)) (mEx g b KM (fun _ _ => False) (mA b KM s.heap.size)) args s 0 0 (mA b KM s.heap.size)) (F0 m 16 ls [])) (hko41 : ∀ (r0 : Nat) (kr0 : KM r0 = (0, 10, 0)) (S : mSt) (H : Heap) (locs : List Loc) (ls : Array Slot), lv_has ls 2 [(0, .ref (b + r0))] → mW g b KM S H → va_S (mA b KM s.heap.size) s.heap H locs → ko41 r0 S → W p l e { frames := 0, cells := 0, slots := 0, locals := 0 } s m args below meth c H locs 0 0 (vx_MQ below (mQi g b KM Q (mA b KM s.heap.size)) (mEx g b KM (fun _ _ => False) (mA b KM s.heap.size)) args s 0 0 (mA b KM s.heap.size)) (F0 m 41 ls [])) (r0 : Nat) (kr0 : KM r0 = (0, 10, 0)) (x1 : Int) (ox1 : okI x1) (S : mSt) (H : Heap) (locs : List Loc) (ls : Array Slot) (hl : lv_has ls 2 [(0, .ref (b + r0)), (1, .int (mI x1))]) (hW : mW g b KM S H) (hS : va_S (mA b KM s.heap.size) s.heap H locs) (h : w_X12_back_16b N Q ko16 ko41 r0 x1 S) : W p l e { frames := 0, cells := 0, slots := 0, locals := 0 } s m args below meth c H locs 0 0 (vx_MQ below (mQi g b KM Q (mA b KM s.heap.size)) (mEx g b KM (fun _ _ => False) (mA b KM s.heap.size)) args s 0 0 (mA b KM s.heap.size)) (F0 m 16 ls []) := by
  unfold w_X12_back_16b at h
  refine m_iload_n (pc := 16) C.1 dX12_back_16 rfl hl 1 rfl ?_
  refine m_sipush (pc := 17) C.1 dX12_back_17 rfl ?_
  refine m_icmp_ge (pc := 20) (tgt := 41) C.1 ox1 (by decide : okI 750) dX12_back_20 (by decide) (fun hc => ?_) (fun hc => ?_)
  · replace h := h.1 hc
    exact hko41 r0 kr0 S _ _ _ (lv_sub hl [0] rfl) hW hS h
  · replace h := h.2 hc
    refine m_aload_n (pc := 23) C.1 dX12_back_23 rfl hl 0 rfl ?_
    refine g_10_1 (pc := 24) C hW kr0 q_1384 dX12_back_24 ?_
    refine m_iload_n (pc := 27) C.1 dX12_back_27 rfl hl 1 rfl ?_
    refine m_aload_n (pc := 28) C.1 dX12_back_28 rfl hl 0 rfl ?_
    refine g_10_2 (pc := 29) C hW kr0 q_1385 dX12_back_29 ?_
    refine m_iload_n (pc := 32) C.1 dX12_back_32 rfl hl 1 rfl ?_
    obtain ⟨hb1a, hb1b, h⟩ := h
    refine m_iald (pc := 33) C.1 C.2.1 hW (k_10_2 kr0) ox1 hb1a hb1b dX12_back_33 ?_
    obtain ⟨hb2a, hb2b, h⟩ := h
    refine m_iast (pc := 34) C.1 C.2.1 hW hS (k_10_1 kr0) ox1 (hW.2.1 _ _) hb2a hb2b dX12_back_34 (fun S3 H locs e3 hW3 hS => ?_)
    replace h := h S3 e3
    refine m_iinc (pc := 35) C.1 dX12_back_35 hl (by decide) (q0 := 1) rfl (fun v => [(1, .int v), (0, .ref (b + r0))]) (fun _ => rfl) (fun v4 ls ev4 ov4 hl => ?_)
    replace h := h v4 ev4
    refine m_goto (pc := 38) (tgt := 16) C.1 dX12_back_38 (by decide) ?_
    exact hko16 r0 kr0 v4 ov4 S3 _ _ _ (lv_sub hl [1, 0] rfl) hW3 hS h
def w_X12_back_16 (N : Nat) (Q : mSt → Int → Prop) (ko41 : Nat → mSt → Prop) : Nat → Nat → Int → mSt → Prop
  | 0 => fun _ _ _ => False
  | k + 1 => w_X12_back_16b N Q (w_X12_back_16 N Q ko41 k) ko41
theorem W_X12_back_16 (C : mC p l s m args meth c cX12_back "MoonWashModel" 2 (some FieldType.boolean) g) (N : Nat) {Q : mSt → Int → Prop} {ko41 : Nat → mSt → Prop} (hko41 : ∀ (r0 : Nat) (kr0 : KM r0 = (0, 10, 0)) (S : mSt) (H : Heap) (locs : List Loc) (ls : Array Slot), lv_has ls 2 [(0, .ref (b + r0))] → mW g b KM S H → va_S (mA b KM s.heap.size) s.heap H locs → ko41 r0 S → W p l e { frames := 0, cells := 0, slots := 0, locals := 0 } s m args below meth c H locs 0 0 (vx_MQ below (mQi g b KM Q (mA b KM s.heap.size)) (mEx g b KM (fun _ _ => False) (mA b KM s.heap.size)) args s 0 0 (mA b KM s.heap.size)) (F0 m 41 ls [])) : ∀ (k : Nat) (r0 : Nat) (kr0 : KM r0 = (0, 10, 0)) (x1 : Int) (ox1 : okI x1) (S : mSt) (H : Heap) (locs : List Loc) (ls : Array Slot) (hl : lv_has ls 2 [(0, .ref (b + r0)), (1, .int (mI x1))]) (hW : mW g b KM S H) (hS : va_S (mA b KM s.heap.size) s.heap H locs) (h : w_X12_back_16 N Q ko41 k r0 x1 S), W p l e { frames := 0, cells := 0, slots := 0, locals := 0 } s m args below meth c H locs 0 0 (vx_MQ below (mQi g b KM Q (mA b KM s.heap.size)) (mEx g b KM (fun _ _ => False) (mA b KM s.heap.size)) args s 0 0 (mA b KM s.heap.size)) (F0 m 16 ls []) := by
  intro k
  induction k with
  | zero => intro r0 kr0 x1 ox1 S H locs ls hl hW hS h; exact False.elim h
  | succ k ih => intro r0 kr0 x1 ox1 S H locs ls hl hW hS h; exact W_X12_back_16b C N ih hko41 r0 kr0 x1 ox1 S H locs ls hl hW hS h
end
def w_X12_back (N : Nat) (r0 : Nat) (S : mSt) (Q : mSt → Int → Prop) : Prop :=
  ∀ S1 : mSt, S1 = mup S r0 0 0 → (((S1 r0 4) ≠ 0 → ∀ v2 : Int, v2 = 0 → w_X12_back_16 N Q (fun (r0_3 : Nat) (S_3 : mSt) => ∀ S4 : mSt, S4 = mup S_3 r0_3 7 0 → Q S4 1) N r0 v2 S1) ∧ ((S1 r0 4) = 0 → Q S1 0))
theorem T_X12_back {l : Launch} (hl0 : l.stackTraces = false) {g : mG} {b : Nat} (N : Nat) (r0 : Nat) (kr0 : KM r0 = (0, 10, 0)) {S : mSt} {Q : mSt → Int → Prop} (h : w_X12_back N r0 S Q) (sz : Nat) : vx_Met l yX12_back (Cond.code yX12_back cX12_back 2 (some FieldType.boolean) :: wsG) { frames := 0, cells := 0, slots := 0, locals := 0 } (mPc g b KM S [.ref (b + r0)] sz) (mQi g b KM Q (mA b KM sz)) (mEx g b KM (fun _ _ => False) (mA b KM sz)) 0 0 (mA b KM sz) :=
  m_of (av := [.ref (b + r0)]) (Qf := fun A => mQi g b KM Q A) (Xf := fun A => mEx g b KM (fun _ _ => False) A) (by decide) (Nat.le_of_ble_eq_true rfl) (fun p e s m args below meth c ls X hK hml hr hlk hout hnm hW hl => by
    have C : mC p l s m args meth c cX12_back "MoonWashModel" 2 (some FieldType.boolean) g := ⟨X, hK, hml, hr, hlk, hout, hl0⟩
    have hS : va_S (mA b KM s.heap.size) s.heap s.heap [] := va_S.rf
    have hl : lv_has ls 2 [(0, .ref (b + r0))] := hl
    unfold w_X12_back at h
    refine m_aload_n (pc := 0) C.1 dX12_back_0 rfl hl 0 rfl ?_
    refine m_iconst (pc := 1) C.1 dX12_back_1 ?_
    refine p_10_0 (pc := 2) C hW hS kr0 q_1383 (by decide : okI 0) dX12_back_2 (fun S1 H locs e1 hW1 hS => ?_)
    replace h := h S1 e1
    refine m_aload_n (pc := 5) C.1 dX12_back_5 rfl hl 0 rfl ?_
    refine g_10_4 (pc := 6) C hW1 kr0 q_1387 dX12_back_6 ?_
    refine m_if_ne (pc := 9) (tgt := 14) C.1 (hW1.2.1 _ _) dX12_back_9 (by decide) (fun hc => ?_) (fun hc => ?_)
    · replace h := h.1 hc
      refine m_iconst (pc := 14) C.1 dX12_back_14 ?_
      refine m_istore_n (pc := 15) C.1 dX12_back_15 rfl hl (by decide) (fun v => [(1, .int v), (0, .ref (b + r0))]) (fun _ => rfl) (by decide : okI 0) (fun v2 ls ev2 ov2 hl => ?_)
      replace h := h v2 ev2
      refine W_X12_back_16 C N ?_ N r0 kr0 v2 ov2 S1 _ _ _ (lv_sub hl [1, 0] rfl) hW1 hS h
      · intro r0_3 kr0_3 S_3 H locs ls hl hW_3 hS h
        refine m_aload_n (pc := 41) C.1 dX12_back_41 rfl hl 0 rfl ?_
        refine m_iconst (pc := 42) C.1 dX12_back_42 ?_
        refine p_10_7 (pc := 43) C hW_3 hS kr0_3 q_1390 (by decide : okI 0) dX12_back_43 (fun S4 H locs e4 hW4 hS => ?_)
        replace h := h S4 e4
        refine m_iconst (pc := 46) C.1 dX12_back_46 ?_
        exact m_zret (pc := 47) C.1 C.2.2.2.1 C.2.2.2.2.1 hW4 hS (by decide) h (by decide) (by decide) dX12_back_47
    · replace h := h.2 hc
      refine m_iconst (pc := 12) C.1 dX12_back_12 ?_
      exact m_zret (pc := 13) C.1 C.2.2.2.1 C.2.2.2.2.1 hW1 hS (by decide) h (by decide) (by decide) dX12_back_13) sz
section
variable {p : Program} {l : Launch} {e : Env} {s : State} {m : MethodId} {args : Array Value} {below : List Frame} {meth : Method} {c : Code} {g : mG} {b : Nat}
def w_X12_such_27 (N : Nat) (Q : mSt → Int → Prop) (ko4 : Nat → Int → Int → Int → mSt → Prop) (r0 : Nat) (x1 : Int) (x3 : Int) (xs0 : Int) (xs1 : Int) (S : mSt) : Prop :=
  ∀ v1 : Int, v1 = (bOr xs1 xs0) → ∀ v2 : Int, v2 = nm (x3 + 1) → ko4 r0 x1 v1 v2 S
theorem W_X12_such_27 (C : mC p l s m args meth c cX12_such "MoonWashModel" 4 (some FieldType.int) g) (N : Nat) {Q : mSt → Int → Prop} {ko4 : Nat → Int → Int → Int → mSt → Prop} (hko4 : ∀ (r0 : Nat) (kr0 : KM r0 = (0, 10, 0)) (x1 : Int) (ox1 : okI x1) (x2 : Int) (ox2 : okI x2) (x3 : Int) (ox3 : okI x3) (S : mSt) (H : Heap) (locs : List Loc) (ls : Array Slot), lv_has ls 4 [(0, .ref (b + r0)), (1, .int (mI x1)), (2, .int (mI x2)), (3, .int (mI x3))] → mW g b KM S H → va_S (mA b KM s.heap.size) s.heap H locs → ko4 r0 x1 x2 x3 S → W p l e { frames := 1, cells := 0, slots := 0, locals := 22 } s m args below meth c H locs 0 0 (vx_MQ below (mQi g b KM Q (mA b KM s.heap.size)) (mEx g b KM (fun _ _ => False) (mA b KM s.heap.size)) args s 0 0 (mA b KM s.heap.size)) (F0 m 4 ls [])) (r0 : Nat) (kr0 : KM r0 = (0, 10, 0)) (x1 : Int) (ox1 : okI x1) (x3 : Int) (ox3 : okI x3) (xs0 : Int) (oxs0 : okI xs0) (xs1 : Int) (oxs1 : okI xs1) (S : mSt) (H : Heap) (locs : List Loc) (ls : Array Slot) (hl : lv_has ls 4 [(0, .ref (b + r0)), (1, .int (mI x1)), (3, .int (mI x3))]) (hW : mW g b KM S H) (hS : va_S (mA b KM s.heap.size) s.heap H locs) (h : w_X12_such_27 N Q ko4 r0 x1 x3 xs0 xs1 S) : W p l e { frames := 1, cells := 0, slots := 0, locals := 22 } s m args below meth c H locs 0 0 (vx_MQ below (mQi g b KM Q (mA b KM s.heap.size)) (mEx g b KM (fun _ _ => False) (mA b KM s.heap.size)) args s 0 0 (mA b KM s.heap.size)) (F0 m 27 ls [.int (mI xs0), .int (mI xs1)]) := by
  unfold w_X12_such_27 at h
  refine m_ior (pc := 27) C.1 dX12_such_27 ?_
  refine m_istore_n (pc := 28) C.1 dX12_such_28 rfl hl (by decide) (fun v => [(2, .int v), (0, .ref (b + r0)), (1, .int (mI x1)), (3, .int (mI x3))]) (fun _ => rfl) (bOr_ok _ _) (fun v1 ls ev1 ov1 hl => ?_)
  replace h := h v1 ev1
  refine m_iinc (pc := 29) C.1 dX12_such_29 hl (by decide) (q0 := 3) rfl (fun v => [(3, .int v), (2, .int (mI v1)), (0, .ref (b + r0)), (1, .int (mI x1))]) (fun _ => rfl) (fun v2 ls ev2 ov2 hl => ?_)
  replace h := h v2 ev2
  refine m_goto (pc := 32) (tgt := 4) C.1 dX12_such_32 (by decide) ?_
  exact hko4 r0 kr0 x1 ox1 v1 ov1 v2 ov2 S _ _ _ (lv_sub hl [2, 3, 1, 0] rfl) hW hS h
def w_X12_such_4b (N : Nat) (Q : mSt → Int → Prop) (ko4 : Nat → Int → Int → Int → mSt → Prop) (ko35 : Int → mSt → Prop) (r0 : Nat) (x1 : Int) (x2 : Int) (x3 : Int) (S : mSt) : Prop :=
  ((8 ≤ x3 → ko35 x2 S) ∧ (x3 < 8 → w_X12_of N r0 x3 x1 S (fun (S1 : mSt) (v1 : Int) => ((v1 ≤ 0 → w_X12_such_27 N Q ko4 r0 x1 x3 0 x2 S1) ∧ (0 < v1 → w_X12_such_27 N Q ko4 r0 x1 x3 (bShl 1 x3) x2 S1)))))
theorem W_X12_such_4b (C : mC p l s m args meth c cX12_such "MoonWashModel" 4 (some FieldType.int) g) (N : Nat) {Q : mSt → Int → Prop} {ko4 : Nat → Int → Int → Int → mSt → Prop} {ko35 : Int → mSt → Prop} (hko4 : ∀ (r0 : Nat) (kr0 : KM r0 = (0, 10, 0)) (x1 : Int) (ox1 : okI x1) (x2 : Int) (ox2 : okI x2) (x3 : Int) (ox3 : okI x3) (S : mSt) (H : Heap) (locs : List Loc) (ls : Array Slot), lv_has ls 4 [(0, .ref (b + r0)), (1, .int (mI x1)), (2, .int (mI x2)), (3, .int (mI x3))] → mW g b KM S H → va_S (mA b KM s.heap.size) s.heap H locs → ko4 r0 x1 x2 x3 S → W p l e { frames := 1, cells := 0, slots := 0, locals := 22 } s m args below meth c H locs 0 0 (vx_MQ below (mQi g b KM Q (mA b KM s.heap.size)) (mEx g b KM (fun _ _ => False) (mA b KM s.heap.size)) args s 0 0 (mA b KM s.heap.size)) (F0 m 4 ls [])) (hko35 : ∀ (x2 : Int) (ox2 : okI x2) (S : mSt) (H : Heap) (locs : List Loc) (ls : Array Slot), lv_has ls 4 [(2, .int (mI x2))] → mW g b KM S H → va_S (mA b KM s.heap.size) s.heap H locs → ko35 x2 S → W p l e { frames := 1, cells := 0, slots := 0, locals := 22 } s m args below meth c H locs 0 0 (vx_MQ below (mQi g b KM Q (mA b KM s.heap.size)) (mEx g b KM (fun _ _ => False) (mA b KM s.heap.size)) args s 0 0 (mA b KM s.heap.size)) (F0 m 35 ls [])) (r0 : Nat) (kr0 : KM r0 = (0, 10, 0)) (x1 : Int) (ox1 : okI x1) (x2 : Int) (ox2 : okI x2) (x3 : Int) (ox3 : okI x3) (S : mSt) (H : Heap) (locs : List Loc) (ls : Array Slot) (hl : lv_has ls 4 [(0, .ref (b + r0)), (1, .int (mI x1)), (2, .int (mI x2)), (3, .int (mI x3))]) (hW : mW g b KM S H) (hS : va_S (mA b KM s.heap.size) s.heap H locs) (h : w_X12_such_4b N Q ko4 ko35 r0 x1 x2 x3 S) : W p l e { frames := 1, cells := 0, slots := 0, locals := 22 } s m args below meth c H locs 0 0 (vx_MQ below (mQi g b KM Q (mA b KM s.heap.size)) (mEx g b KM (fun _ _ => False) (mA b KM s.heap.size)) args s 0 0 (mA b KM s.heap.size)) (F0 m 4 ls []) := by
  unfold w_X12_such_4b at h
  refine m_iload_n (pc := 4) C.1 dX12_such_4 rfl hl 3 rfl ?_
  refine m_bipush (pc := 5) C.1 dX12_such_5 rfl ?_
  refine m_icmp_ge (pc := 7) (tgt := 35) C.1 ox3 (by decide : okI 8) dX12_such_7 (by decide) (fun hc => ?_) (fun hc => ?_)
  · replace h := h.1 hc
    exact hko35 x2 ox2 S _ _ _ (lv_sub hl [2] rfl) hW hS h
  · replace h := h.2 hc
    refine m_iload_n (pc := 10) C.1 dX12_such_10 rfl hl 2 rfl ?_
    refine m_aload_n (pc := 11) C.1 dX12_such_11 rfl hl 0 rfl ?_
    refine m_iload_n (pc := 12) C.1 dX12_such_12 rfl hl 3 rfl ?_
    refine m_iload_n (pc := 13) C.1 dX12_such_13 rfl hl 1 rfl ?_
    refine m_callVi (pc := 14) C.1 C.2.2.1 hl.1 C.2.1 hW hS (As := [.int (mI x3), .int (mI x1)]) (rest := [.int (mI x2)]) (r := r0) (T_X12_of C.2.2.2.2.2.2 N r0 kr0 x3 ox3 x1 ox1 h) kr0 rfl q_1630 q_1632 q_48 q_92 q_1633 pl_X12_of (by decide) (Nat.le_of_ble_eq_true rfl) dX12_such_14 (fun v1 S1 H locs ov1 h hW1 hS => ?_)
    refine m_if_le (pc := 17) (tgt := 26) C.1 ov1 dX12_such_17 (by decide) (fun hc => ?_) (fun hc => ?_)
    · replace h := h.1 hc
      refine m_iconst (pc := 26) C.1 dX12_such_26 ?_
      exact W_X12_such_27 C N hko4 r0 kr0 x1 ox1 x3 ox3 0 (by decide : okI 0) x2 ox2 S1 _ _ _ (lv_sub hl [0, 1, 3] rfl) hW1 hS h
    · replace h := h.2 hc
      refine m_iconst (pc := 20) C.1 dX12_such_20 ?_
      refine m_iload_n (pc := 21) C.1 dX12_such_21 rfl hl 3 rfl ?_
      refine m_ishl (pc := 22) C.1 dX12_such_22 ?_
      refine m_goto (pc := 23) (tgt := 27) C.1 dX12_such_23 (by decide) ?_
      exact W_X12_such_27 C N hko4 r0 kr0 x1 ox1 x3 ox3 (bShl 1 x3) (bShl_ok _ _) x2 ox2 S1 _ _ _ (lv_sub hl [0, 1, 3] rfl) hW1 hS h
def w_X12_such_4 (N : Nat) (Q : mSt → Int → Prop) (ko35 : Int → mSt → Prop) : Nat → Nat → Int → Int → Int → mSt → Prop
  | 0 => fun _ _ _ _ _ => False
  | k + 1 => w_X12_such_4b N Q (w_X12_such_4 N Q ko35 k) ko35
theorem W_X12_such_4 (C : mC p l s m args meth c cX12_such "MoonWashModel" 4 (some FieldType.int) g) (N : Nat) {Q : mSt → Int → Prop} {ko35 : Int → mSt → Prop} (hko35 : ∀ (x2 : Int) (ox2 : okI x2) (S : mSt) (H : Heap) (locs : List Loc) (ls : Array Slot), lv_has ls 4 [(2, .int (mI x2))] → mW g b KM S H → va_S (mA b KM s.heap.size) s.heap H locs → ko35 x2 S → W p l e { frames := 1, cells := 0, slots := 0, locals := 22 } s m args below meth c H locs 0 0 (vx_MQ below (mQi g b KM Q (mA b KM s.heap.size)) (mEx g b KM (fun _ _ => False) (mA b KM s.heap.size)) args s 0 0 (mA b KM s.heap.size)) (F0 m 35 ls [])) : ∀ (k : Nat) (r0 : Nat) (kr0 : KM r0 = (0, 10, 0)) (x1 : Int) (ox1 : okI x1) (x2 : Int) (ox2 : okI x2) (x3 : Int) (ox3 : okI x3) (S : mSt) (H : Heap) (locs : List Loc) (ls : Array Slot) (hl : lv_has ls 4 [(0, .ref (b + r0)), (1, .int (mI x1)), (2, .int (mI x2)), (3, .int (mI x3))]) (hW : mW g b KM S H) (hS : va_S (mA b KM s.heap.size) s.heap H locs) (h : w_X12_such_4 N Q ko35 k r0 x1 x2 x3 S), W p l e { frames := 1, cells := 0, slots := 0, locals := 22 } s m args below meth c H locs 0 0 (vx_MQ below (mQi g b KM Q (mA b KM s.heap.size)) (mEx g b KM (fun _ _ => False) (mA b KM s.heap.size)) args s 0 0 (mA b KM s.heap.size)) (F0 m 4 ls []) := by
  intro k
  induction k with
  | zero => intro r0 kr0 x1 ox1 x2 ox2 x3 ox3 S H locs ls hl hW hS h; exact False.elim h
  | succ k ih => intro r0 kr0 x1 ox1 x2 ox2 x3 ox3 S H locs ls hl hW hS h; exact W_X12_such_4b C N ih hko35 r0 kr0 x1 ox1 x2 ox2 x3 ox3 S H locs ls hl hW hS h
end
def w_X12_such (N : Nat) (r0 : Nat) (x1 : Int) (S : mSt) (Q : mSt → Int → Prop) : Prop :=
  ∀ v1 : Int, v1 = 0 → ∀ v2 : Int, v2 = 0 → w_X12_such_4 N Q (fun (x2_3 : Int) (S_3 : mSt) => Q S_3 x2_3) N r0 x1 v1 v2 S
theorem T_X12_such {l : Launch} (hl0 : l.stackTraces = false) {g : mG} {b : Nat} (N : Nat) (r0 : Nat) (kr0 : KM r0 = (0, 10, 0)) (x1 : Int) (ox1 : okI x1) {S : mSt} {Q : mSt → Int → Prop} (h : w_X12_such N r0 x1 S Q) (sz : Nat) : vx_Met l yX12_such (Cond.code yX12_such cX12_such 4 (some FieldType.int) :: wsG) { frames := 1, cells := 0, slots := 0, locals := 22 } (mPc g b KM S [.ref (b + r0), .int (mI x1)] sz) (mQi g b KM Q (mA b KM sz)) (mEx g b KM (fun _ _ => False) (mA b KM sz)) 0 0 (mA b KM sz) :=
  m_of (av := [.ref (b + r0), .int (mI x1)]) (Qf := fun A => mQi g b KM Q A) (Xf := fun A => mEx g b KM (fun _ _ => False) A) (by decide) (Nat.le_of_ble_eq_true rfl) (fun p e s m args below meth c ls X hK hml hr hlk hout hnm hW hl => by
    have C : mC p l s m args meth c cX12_such "MoonWashModel" 4 (some FieldType.int) g := ⟨X, hK, hml, hr, hlk, hout, hl0⟩
    have hS : va_S (mA b KM s.heap.size) s.heap s.heap [] := va_S.rf
    have hl : lv_has ls 4 [(0, .ref (b + r0)), (1, .int (mI x1))] := hl
    unfold w_X12_such at h
    refine m_iconst (pc := 0) C.1 dX12_such_0 ?_
    refine m_istore_n (pc := 1) C.1 dX12_such_1 rfl hl (by decide) (fun v => [(2, .int v), (0, .ref (b + r0)), (1, .int (mI x1))]) (fun _ => rfl) (by decide : okI 0) (fun v1 ls ev1 ov1 hl => ?_)
    replace h := h v1 ev1
    refine m_iconst (pc := 2) C.1 dX12_such_2 ?_
    refine m_istore_n (pc := 3) C.1 dX12_such_3 rfl hl (by decide) (fun v => [(3, .int v), (2, .int (mI v1)), (0, .ref (b + r0)), (1, .int (mI x1))]) (fun _ => rfl) (by decide : okI 0) (fun v2 ls ev2 ov2 hl => ?_)
    replace h := h v2 ev2
    refine W_X12_such_4 C N ?_ N r0 kr0 x1 ox1 v1 ov1 v2 ov2 S _ _ _ (lv_sub hl [2, 3, 1, 0] rfl) hW hS h
    · intro x2_3 ox2_3 S_3 H locs ls hl hW_3 hS h
      refine m_iload_n (pc := 35) C.1 dX12_such_35 rfl hl 0 rfl ?_
      exact m_iret (pc := 36) C.1 C.2.2.2.1 C.2.2.2.2.1 hW_3 hS ox2_3 h (by decide) (by decide) dX12_such_36) sz
section
variable {p : Program} {l : Launch} {e : Env} {s : State} {m : MethodId} {args : Array Value} {below : List Frame} {meth : Method} {c : Code} {g : mG} {b : Nat}
end
def w_X12_count (N : Nat) (r0 : Nat) (x1 : Int) (S : mSt) (Q : mSt → Int → Prop) : Prop :=
  ∀ S1 : mSt, S1 = mup S r0 0 0 → ((x1 ≠ 0 → ((x1 ≠ 1 → ((x1 ≠ 2 → ((x1 ≠ 3 → ((x1 ≠ 4 → ((x1 ≠ 5 → w_X12_isIn N x1 6 9 S1 (fun (S2 : mSt) (v2 : Int) => ((v2 = 0 → ((x1 ≠ 10 → ((x1 ≠ 11 → ((x1 ≠ 12 → ((x1 ≠ 13 → Q S2 (-1)) ∧ (x1 = 13 → Q S2 (S2 r0 7)))) ∧ (x1 = 12 → Q S2 (S2 (r0 + 1) 11)))) ∧ (x1 = 11 → w_X12_such N r0 2 S2 (fun (S3 : mSt) (v3 : Int) => Q S3 v3)))) ∧ (x1 = 10 → w_X12_such N r0 4 S2 (fun (S4 : mSt) (v4 : Int) => Q S4 v4)))) ∧ (v2 ≠ 0 → (0 ≤ (nm ((nm (5 + x1)) - 6)) ∧ (nm ((nm (5 + x1)) - 6)) < 750 ∧ Q S2 (S2 (r0 + 1) (nm ((nm (5 + x1)) - 6)))))))) ∧ (x1 = 5 → Q S1 (S1 (r0 + 1) 10)))) ∧ (x1 = 4 → Q S1 (S1 (r0 + 1) 9)))) ∧ (x1 = 3 → Q S1 (S1 (r0 + 1) 1)))) ∧ (x1 = 2 → Q S1 (S1 (r0 + 1) 0)))) ∧ (x1 = 1 → Q S1 (S1 (r0 + 1) 4)))) ∧ (x1 = 0 → Q S1 (S1 (r0 + 1) 3)))
theorem T_X12_count {l : Launch} (hl0 : l.stackTraces = false) {g : mG} {b : Nat} (N : Nat) (r0 : Nat) (kr0 : KM r0 = (0, 10, 0)) (x1 : Int) (ox1 : okI x1) {S : mSt} {Q : mSt → Int → Prop} (h : w_X12_count N r0 x1 S Q) (sz : Nat) : vx_Met l yX12_count (Cond.code yX12_count cX12_count 2 (some FieldType.int) :: wsG) { frames := 2, cells := 0, slots := 0, locals := 45 } (mPc g b KM S [.ref (b + r0), .int (mI x1)] sz) (mQi g b KM Q (mA b KM sz)) (mEx g b KM (fun _ _ => False) (mA b KM sz)) 0 0 (mA b KM sz) :=
  m_of (av := [.ref (b + r0), .int (mI x1)]) (Qf := fun A => mQi g b KM Q A) (Xf := fun A => mEx g b KM (fun _ _ => False) A) (by decide) (Nat.le_of_ble_eq_true rfl) (fun p e s m args below meth c ls X hK hml hr hlk hout hnm hW hl => by
    have C : mC p l s m args meth c cX12_count "MoonWashModel" 2 (some FieldType.int) g := ⟨X, hK, hml, hr, hlk, hout, hl0⟩
    have hS : va_S (mA b KM s.heap.size) s.heap s.heap [] := va_S.rf
    have hl : lv_has ls 2 [(0, .ref (b + r0)), (1, .int (mI x1))] := hl
    unfold w_X12_count at h
    refine m_aload_n (pc := 0) C.1 dX12_count_0 rfl hl 0 rfl ?_
    refine m_iconst (pc := 1) C.1 dX12_count_1 ?_
    refine p_10_0 (pc := 2) C hW hS kr0 q_1383 (by decide : okI 0) dX12_count_2 (fun S1 H locs e1 hW1 hS => ?_)
    replace h := h S1 e1
    refine m_iload_n (pc := 5) C.1 dX12_count_5 rfl hl 1 rfl ?_
    refine m_if_ne (pc := 6) (tgt := 16) C.1 ox1 dX12_count_6 (by decide) (fun hc => ?_) (fun hc => ?_)
    · replace h := h.1 hc
      refine m_iload_n (pc := 16) C.1 dX12_count_16 rfl hl 1 rfl ?_
      refine m_iconst (pc := 17) C.1 dX12_count_17 ?_
      refine m_icmp_ne (pc := 18) (tgt := 28) C.1 ox1 (by decide : okI 1) dX12_count_18 (by decide) (fun hc => ?_) (fun hc => ?_)
      · replace h := h.1 hc
        refine m_iload_n (pc := 28) C.1 dX12_count_28 rfl hl 1 rfl ?_
        refine m_iconst (pc := 29) C.1 dX12_count_29 ?_
        refine m_icmp_ne (pc := 30) (tgt := 40) C.1 ox1 (by decide : okI 2) dX12_count_30 (by decide) (fun hc => ?_) (fun hc => ?_)
        · replace h := h.1 hc
          refine m_iload_n (pc := 40) C.1 dX12_count_40 rfl hl 1 rfl ?_
          refine m_iconst (pc := 41) C.1 dX12_count_41 ?_
          refine m_icmp_ne (pc := 42) (tgt := 52) C.1 ox1 (by decide : okI 3) dX12_count_42 (by decide) (fun hc => ?_) (fun hc => ?_)
          · replace h := h.1 hc
            refine m_iload_n (pc := 52) C.1 dX12_count_52 rfl hl 1 rfl ?_
            refine m_iconst (pc := 53) C.1 dX12_count_53 ?_
            refine m_icmp_ne (pc := 54) (tgt := 65) C.1 ox1 (by decide : okI 4) dX12_count_54 (by decide) (fun hc => ?_) (fun hc => ?_)
            · replace h := h.1 hc
              refine m_iload_n (pc := 65) C.1 dX12_count_65 rfl hl 1 rfl ?_
              refine m_iconst (pc := 66) C.1 dX12_count_66 ?_
              refine m_icmp_ne (pc := 67) (tgt := 78) C.1 ox1 (by decide : okI 5) dX12_count_67 (by decide) (fun hc => ?_) (fun hc => ?_)
              · replace h := h.1 hc
                refine m_iload_n (pc := 78) C.1 dX12_count_78 rfl hl 1 rfl ?_
                refine m_bipush (pc := 79) C.1 dX12_count_79 rfl ?_
                refine m_bipush (pc := 81) C.1 dX12_count_81 rfl ?_
                refine m_callSi (pc := 83) C.1 C.2.2.1 hl.1 C.2.1 hW1 hS (As := [.int (mI x1), .int (mI 6), .int (mI 9)]) (rest := []) (T_X12_isIn C.2.2.2.2.2.2 N x1 ox1 6 (by decide : okI 6) 9 (by decide : okI 9) h) q_1475 q_1476 q_92 q_1477 pl_X12_isIn (by decide) (Nat.le_of_ble_eq_true rfl) dX12_count_83 (fun v2 S2 H locs ov2 h hW2 hS => ?_)
                refine m_if_eq (pc := 86) (tgt := 101) C.1 ov2 dX12_count_86 (by decide) (fun hc => ?_) (fun hc => ?_)
                · replace h := h.1 hc
                  refine m_iload_n (pc := 101) C.1 dX12_count_101 rfl hl 1 rfl ?_
                  refine m_bipush (pc := 102) C.1 dX12_count_102 rfl ?_
                  refine m_icmp_ne (pc := 104) (tgt := 113) C.1 ox1 (by decide : okI 10) dX12_count_104 (by decide) (fun hc => ?_) (fun hc => ?_)
                  · replace h := h.1 hc
                    refine m_iload_n (pc := 113) C.1 dX12_count_113 rfl hl 1 rfl ?_
                    refine m_bipush (pc := 114) C.1 dX12_count_114 rfl ?_
                    refine m_icmp_ne (pc := 116) (tgt := 125) C.1 ox1 (by decide : okI 11) dX12_count_116 (by decide) (fun hc => ?_) (fun hc => ?_)
                    · replace h := h.1 hc
                      refine m_iload_n (pc := 125) C.1 dX12_count_125 rfl hl 1 rfl ?_
                      refine m_bipush (pc := 126) C.1 dX12_count_126 rfl ?_
                      refine m_icmp_ne (pc := 128) (tgt := 139) C.1 ox1 (by decide : okI 12) dX12_count_128 (by decide) (fun hc => ?_) (fun hc => ?_)
                      · replace h := h.1 hc
                        refine m_iload_n (pc := 139) C.1 dX12_count_139 rfl hl 1 rfl ?_
                        refine m_bipush (pc := 140) C.1 dX12_count_140 rfl ?_
                        refine m_icmp_ne (pc := 142) (tgt := 152) C.1 ox1 (by decide : okI 13) dX12_count_142 (by decide) (fun hc => ?_) (fun hc => ?_)
                        · replace h := h.1 hc
                          refine m_iconst (pc := 152) C.1 dX12_count_152 ?_
                          exact m_iret (pc := 153) C.1 C.2.2.2.1 C.2.2.2.2.1 hW2 hS (by decide : okI (-1)) h (by decide) (by decide) dX12_count_153
                        · replace h := h.2 hc
                          refine m_aload_n (pc := 145) C.1 dX12_count_145 rfl hl 0 rfl ?_
                          refine g_10_7 (pc := 146) C hW2 kr0 q_1390 dX12_count_146 ?_
                          refine m_goto (pc := 149) (tgt := 153) C.1 dX12_count_149 (by decide) ?_
                          exact m_iret (pc := 153) C.1 C.2.2.2.1 C.2.2.2.2.1 hW2 hS (hW2.2.1 _ _) h (by decide) (by decide) dX12_count_153
                      · replace h := h.2 hc
                        refine m_aload_n (pc := 131) C.1 dX12_count_131 rfl hl 0 rfl ?_
                        refine g_10_1 (pc := 132) C hW2 kr0 q_1384 dX12_count_132 ?_
                        refine m_bipush (pc := 135) C.1 dX12_count_135 rfl ?_
                        refine m_iald (pc := 137) C.1 C.2.1 hW2 (k_10_1 kr0) (by decide : okI 11) (by decide) (by decide) dX12_count_137 ?_
                        exact m_iret (pc := 138) C.1 C.2.2.2.1 C.2.2.2.2.1 hW2 hS (hW2.2.1 _ _) h (by decide) (by decide) dX12_count_138
                    · replace h := h.2 hc
                      refine m_aload_n (pc := 119) C.1 dX12_count_119 rfl hl 0 rfl ?_
                      refine m_iconst (pc := 120) C.1 dX12_count_120 ?_
                      refine m_callVi (pc := 121) C.1 C.2.2.1 hl.1 C.2.1 hW2 hS (As := [.int (mI 2)]) (rest := []) (r := r0) (T_X12_such C.2.2.2.2.2.2 N r0 kr0 2 (by decide : okI 2) h) kr0 rfl q_1924 q_1926 q_79 q_92 q_1927 pl_X12_such (by decide) (Nat.le_of_ble_eq_true rfl) dX12_count_121 (fun v3 S3 H locs ov3 h hW3 hS => ?_)
                      exact m_iret (pc := 124) C.1 C.2.2.2.1 C.2.2.2.2.1 hW3 hS ov3 h (by decide) (by decide) dX12_count_124
                  · replace h := h.2 hc
                    refine m_aload_n (pc := 107) C.1 dX12_count_107 rfl hl 0 rfl ?_
                    refine m_iconst (pc := 108) C.1 dX12_count_108 ?_
                    refine m_callVi (pc := 109) C.1 C.2.2.1 hl.1 C.2.1 hW2 hS (As := [.int (mI 4)]) (rest := []) (r := r0) (T_X12_such C.2.2.2.2.2.2 N r0 kr0 4 (by decide : okI 4) h) kr0 rfl q_1924 q_1926 q_79 q_92 q_1927 pl_X12_such (by decide) (Nat.le_of_ble_eq_true rfl) dX12_count_109 (fun v4 S4 H locs ov4 h hW4 hS => ?_)
                    exact m_iret (pc := 112) C.1 C.2.2.2.1 C.2.2.2.2.1 hW4 hS ov4 h (by decide) (by decide) dX12_count_112
                · replace h := h.2 hc
                  refine m_aload_n (pc := 89) C.1 dX12_count_89 rfl hl 0 rfl ?_
                  refine g_10_1 (pc := 90) C hW2 kr0 q_1384 dX12_count_90 ?_
                  refine m_iconst (pc := 93) C.1 dX12_count_93 ?_
                  refine m_iload_n (pc := 94) C.1 dX12_count_94 rfl hl 1 rfl ?_
                  refine m_iadd (pc := 95) C.1 dX12_count_95 ?_
                  refine m_bipush (pc := 96) C.1 dX12_count_96 rfl ?_
                  refine m_isub (pc := 98) C.1 dX12_count_98 ?_
                  obtain ⟨hb5a, hb5b, h⟩ := h
                  refine m_iald (pc := 99) C.1 C.2.1 hW2 (k_10_1 kr0) (nm_ok _) hb5a hb5b dX12_count_99 ?_
                  exact m_iret (pc := 100) C.1 C.2.2.2.1 C.2.2.2.2.1 hW2 hS (hW2.2.1 _ _) h (by decide) (by decide) dX12_count_100
              · replace h := h.2 hc
                refine m_aload_n (pc := 70) C.1 dX12_count_70 rfl hl 0 rfl ?_
                refine g_10_1 (pc := 71) C hW1 kr0 q_1384 dX12_count_71 ?_
                refine m_bipush (pc := 74) C.1 dX12_count_74 rfl ?_
                refine m_iald (pc := 76) C.1 C.2.1 hW1 (k_10_1 kr0) (by decide : okI 10) (by decide) (by decide) dX12_count_76 ?_
                exact m_iret (pc := 77) C.1 C.2.2.2.1 C.2.2.2.2.1 hW1 hS (hW1.2.1 _ _) h (by decide) (by decide) dX12_count_77
            · replace h := h.2 hc
              refine m_aload_n (pc := 57) C.1 dX12_count_57 rfl hl 0 rfl ?_
              refine g_10_1 (pc := 58) C hW1 kr0 q_1384 dX12_count_58 ?_
              refine m_bipush (pc := 61) C.1 dX12_count_61 rfl ?_
              refine m_iald (pc := 63) C.1 C.2.1 hW1 (k_10_1 kr0) (by decide : okI 9) (by decide) (by decide) dX12_count_63 ?_
              exact m_iret (pc := 64) C.1 C.2.2.2.1 C.2.2.2.2.1 hW1 hS (hW1.2.1 _ _) h (by decide) (by decide) dX12_count_64
          · replace h := h.2 hc
            refine m_aload_n (pc := 45) C.1 dX12_count_45 rfl hl 0 rfl ?_
            refine g_10_1 (pc := 46) C hW1 kr0 q_1384 dX12_count_46 ?_
            refine m_iconst (pc := 49) C.1 dX12_count_49 ?_
            refine m_iald (pc := 50) C.1 C.2.1 hW1 (k_10_1 kr0) (by decide : okI 1) (by decide) (by decide) dX12_count_50 ?_
            exact m_iret (pc := 51) C.1 C.2.2.2.1 C.2.2.2.2.1 hW1 hS (hW1.2.1 _ _) h (by decide) (by decide) dX12_count_51
        · replace h := h.2 hc
          refine m_aload_n (pc := 33) C.1 dX12_count_33 rfl hl 0 rfl ?_
          refine g_10_1 (pc := 34) C hW1 kr0 q_1384 dX12_count_34 ?_
          refine m_iconst (pc := 37) C.1 dX12_count_37 ?_
          refine m_iald (pc := 38) C.1 C.2.1 hW1 (k_10_1 kr0) (by decide : okI 0) (by decide) (by decide) dX12_count_38 ?_
          exact m_iret (pc := 39) C.1 C.2.2.2.1 C.2.2.2.2.1 hW1 hS (hW1.2.1 _ _) h (by decide) (by decide) dX12_count_39
      · replace h := h.2 hc
        refine m_aload_n (pc := 21) C.1 dX12_count_21 rfl hl 0 rfl ?_
        refine g_10_1 (pc := 22) C hW1 kr0 q_1384 dX12_count_22 ?_
        refine m_iconst (pc := 25) C.1 dX12_count_25 ?_
        refine m_iald (pc := 26) C.1 C.2.1 hW1 (k_10_1 kr0) (by decide : okI 4) (by decide) (by decide) dX12_count_26 ?_
        exact m_iret (pc := 27) C.1 C.2.2.2.1 C.2.2.2.2.1 hW1 hS (hW1.2.1 _ _) h (by decide) (by decide) dX12_count_27
    · replace h := h.2 hc
      refine m_aload_n (pc := 9) C.1 dX12_count_9 rfl hl 0 rfl ?_
      refine g_10_1 (pc := 10) C hW1 kr0 q_1384 dX12_count_10 ?_
      refine m_iconst (pc := 13) C.1 dX12_count_13 ?_
      refine m_iald (pc := 14) C.1 C.2.1 hW1 (k_10_1 kr0) (by decide : okI 3) (by decide) (by decide) dX12_count_14 ?_
      exact m_iret (pc := 15) C.1 C.2.2.2.1 C.2.2.2.2.1 hW1 hS (hW1.2.1 _ _) h (by decide) (by decide) dX12_count_15) sz
