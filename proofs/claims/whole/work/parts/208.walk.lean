set_option maxHeartbeats 4000000
set_option maxRecDepth 20000
section
variable {p : Program} {l : Launch} {e : Env} {s : State} {m : MethodId} {args : Array Value} {below : List Frame} {meth : Method} {c : Code} {g : mG} {b : Nat}
def w_X12_soap_27 (N : Nat) (Q : mSt → Int → Prop)  (r0 : Nat) (x1 : Int) (x2 : Int) (xs0 : Int) (rs1 : Nat) (S : mSt) : Prop :=
  ∀ S1 : mSt, S1 = mup S rs1 0 xs0 → (((S1 r0 0) ≤ 0 → w_X12_ofSoap N r0 x1 x2 S1 (fun (S2 : mSt) (v2 : Int) => Q S2 v2)) ∧ (0 < (S1 r0 0) → Q S1 0))
theorem W_X12_soap_27 (C : mC p l s m args meth c cX12_soap "MoonWashModel" 3 (some FieldType.int) g) (N : Nat) {Q : mSt → Int → Prop}   (r0 : Nat) (kr0 : KM r0 = (0, 10, 0)) (x1 : Int) (ox1 : okI x1) (x2 : Int) (ox2 : okI x2) (xs0 : Int) (oxs0 : okI xs0) (rs1 : Nat) (krs1 : KM rs1 = (0, 10, 0)) (S : mSt) (H : Heap) (locs : List Loc) (ls : Array Slot) (hl : lv_has ls 3 [(0, .ref (b + r0)), (1, .int (mI x1)), (2, .int (mI x2))]) (hW : mW g b KM S H) (hS : va_S (mA b KM s.heap.size) s.heap H locs) (h : w_X12_soap_27 N Q  r0 x1 x2 xs0 rs1 S) : W p l e { frames := 2, cells := 0, slots := 0, locals := 43 } s m args below meth c H locs 0 0 (vx_MQ below (mQi g b KM Q (mA b KM s.heap.size)) (mEx g b KM (fun _ _ => False) (mA b KM s.heap.size)) args s 0 0 (mA b KM s.heap.size)) (F0 m 27 ls [.int (mI xs0), .ref (b + rs1)]) := by
  unfold w_X12_soap_27 at h
  refine p_10_0 (pc := 27) C hW hS krs1 q_1383 oxs0 dX12_soap_27 (fun S1 H locs e1 hW1 hS => ?_)
  replace h := h S1 e1
  refine m_aload_n (pc := 30) C.1 dX12_soap_30 rfl hl 0 rfl ?_
  refine g_10_0 (pc := 31) C hW1 kr0 q_1383 dX12_soap_31 ?_
  refine m_if_le (pc := 34) (tgt := 41) C.1 (hW1.2.1 _ _) dX12_soap_34 (by decide) (fun hc => ?_) (fun hc => ?_)
  · replace h := h.1 hc
    refine m_aload_n (pc := 41) C.1 dX12_soap_41 rfl hl 0 rfl ?_
    refine m_iload_n (pc := 42) C.1 dX12_soap_42 rfl hl 1 rfl ?_
    refine m_iload_n (pc := 43) C.1 dX12_soap_43 rfl hl 2 rfl ?_
    refine m_callVi (pc := 44) C.1 C.2.2.1 hl.1 C.2.1 hW1 hS (As := [.int (mI x1), .int (mI x2)]) (rest := []) (r := r0) (T_X12_ofSoap C.2.2.2.2.2.2 N r0 kr0 x1 ox1 x2 ox2 h) kr0 rfl q_1671 q_1673 q_56 q_92 q_1674 pl_X12_ofSoap (by decide) (Nat.le_of_ble_eq_true rfl) dX12_soap_44 (fun v2 S2 H locs ov2 h hW2 hS => ?_)
    exact m_iret (pc := 47) C.1 C.2.2.2.1 C.2.2.2.2.1 hW2 hS ov2 h (by decide) (by decide) dX12_soap_47
  · replace h := h.2 hc
    refine m_iconst (pc := 37) C.1 dX12_soap_37 ?_
    refine m_goto (pc := 38) (tgt := 47) C.1 dX12_soap_38 (by decide) ?_
    exact m_iret (pc := 47) C.1 C.2.2.2.1 C.2.2.2.2.1 hW1 hS (by decide : okI 0) h (by decide) (by decide) dX12_soap_47
end
def w_X12_soap (N : Nat) (r0 : Nat) (x1 : Int) (x2 : Int) (S : mSt) (Q : mSt → Int → Prop) : Prop :=
  w_X12_isSoap N r0 x1 S (fun (S1 : mSt) (v1 : Int) => ((v1 ≠ 0 → w_X12_isIn N x2 0 3 S1 (fun (S2 : mSt) (v2 : Int) => ((v2 ≠ 0 → w_X12_soap_27 N Q  r0 x1 x2 0 r0 S2) ∧ (v2 = 0 → w_X12_soap_27 N Q  r0 x1 x2 2 r0 S2)))) ∧ (v1 = 0 → w_X12_soap_27 N Q  r0 x1 x2 1 r0 S1)))
theorem T_X12_soap {l : Launch} (hl0 : l.stackTraces = false) {g : mG} {b : Nat} (N : Nat) (r0 : Nat) (kr0 : KM r0 = (0, 10, 0)) (x1 : Int) (ox1 : okI x1) (x2 : Int) (ox2 : okI x2) {S : mSt} {Q : mSt → Int → Prop} (h : w_X12_soap N r0 x1 x2 S Q) (sz : Nat) : vx_Met l yX12_soap (Cond.code yX12_soap cX12_soap 3 (some FieldType.int) :: wsG) { frames := 2, cells := 0, slots := 0, locals := 43 } (mPc g b KM S [.ref (b + r0), .int (mI x1), .int (mI x2)] sz) (mQi g b KM Q (mA b KM sz)) (mEx g b KM (fun _ _ => False) (mA b KM sz)) 0 0 (mA b KM sz) :=
  m_of (av := [.ref (b + r0), .int (mI x1), .int (mI x2)]) (Qf := fun A => mQi g b KM Q A) (Xf := fun A => mEx g b KM (fun _ _ => False) A) (by decide) (Nat.le_of_ble_eq_true rfl) (fun p e s m args below meth c ls X hK hml hr hlk hout hnm hW hl => by
    have C : mC p l s m args meth c cX12_soap "MoonWashModel" 3 (some FieldType.int) g := ⟨X, hK, hml, hr, hlk, hout, hl0⟩
    have hS : va_S (mA b KM s.heap.size) s.heap s.heap [] := va_S.rf
    have hl : lv_has ls 3 [(0, .ref (b + r0)), (1, .int (mI x1)), (2, .int (mI x2))] := hl
    unfold w_X12_soap at h
    refine m_aload_n (pc := 0) C.1 dX12_soap_0 rfl hl 0 rfl ?_
    refine m_aload_n (pc := 1) C.1 dX12_soap_1 rfl hl 0 rfl ?_
    refine m_iload_n (pc := 2) C.1 dX12_soap_2 rfl hl 1 rfl ?_
    refine m_callVi (pc := 3) C.1 C.2.2.1 hl.1 C.2.1 hW hS (As := [.int (mI x1)]) (rest := [.ref (b + r0)]) (r := r0) (T_X12_isSoap C.2.2.2.2.2.2 N r0 kr0 x1 ox1 h) kr0 rfl q_1679 q_1681 q_57 q_92 q_1682 pl_X12_isSoap (by decide) (Nat.le_of_ble_eq_true rfl) dX12_soap_3 (fun v1 S1 H locs ov1 h hW1 hS => ?_)
    refine m_if_ne (pc := 6) (tgt := 13) C.1 ov1 dX12_soap_6 (by decide) (fun hc => ?_) (fun hc => ?_)
    · replace h := h.1 hc
      refine m_iload_n (pc := 13) C.1 dX12_soap_13 rfl hl 2 rfl ?_
      refine m_iconst (pc := 14) C.1 dX12_soap_14 ?_
      refine m_iconst (pc := 15) C.1 dX12_soap_15 ?_
      refine m_callSi (pc := 16) C.1 C.2.2.1 hl.1 C.2.1 hW1 hS (As := [.int (mI x2), .int (mI 0), .int (mI 3)]) (rest := [.ref (b + r0)]) (T_X12_isIn C.2.2.2.2.2.2 N x2 ox2 0 (by decide : okI 0) 3 (by decide : okI 3) h) q_1475 q_1476 q_92 q_1477 pl_X12_isIn (by decide) (Nat.le_of_ble_eq_true rfl) dX12_soap_16 (fun v2 S2 H locs ov2 h hW2 hS => ?_)
      refine m_if_ne (pc := 19) (tgt := 26) C.1 ov2 dX12_soap_19 (by decide) (fun hc => ?_) (fun hc => ?_)
      · replace h := h.1 hc
        refine m_iconst (pc := 26) C.1 dX12_soap_26 ?_
        exact W_X12_soap_27 C N  r0 kr0 x1 ox1 x2 ox2 0 (by decide : okI 0) r0 kr0 S2 _ _ _ (lv_sub hl [0, 1, 2] rfl) hW2 hS h
      · replace h := h.2 hc
        refine m_iconst (pc := 22) C.1 dX12_soap_22 ?_
        refine m_goto (pc := 23) (tgt := 27) C.1 dX12_soap_23 (by decide) ?_
        exact W_X12_soap_27 C N  r0 kr0 x1 ox1 x2 ox2 2 (by decide : okI 2) r0 kr0 S2 _ _ _ (lv_sub hl [0, 1, 2] rfl) hW2 hS h
    · replace h := h.2 hc
      refine m_iconst (pc := 9) C.1 dX12_soap_9 ?_
      refine m_goto (pc := 10) (tgt := 27) C.1 dX12_soap_10 (by decide) ?_
      exact W_X12_soap_27 C N  r0 kr0 x1 ox1 x2 ox2 1 (by decide : okI 1) r0 kr0 S1 _ _ _ (lv_sub hl [0, 1, 2] rfl) hW1 hS h) sz
section
variable {p : Program} {l : Launch} {e : Env} {s : State} {m : MethodId} {args : Array Value} {below : List Frame} {meth : Method} {c : Code} {g : mG} {b : Nat}
def w_X12_peg_13 (N : Nat) (Q : mSt → Int → Prop)  (r0 : Nat) (x1 : Int) (x2 : Int) (xs0 : Int) (rs1 : Nat) (S : mSt) : Prop :=
  ∀ S1 : mSt, S1 = mup S rs1 0 xs0 → (((S1 r0 0) ≤ 0 → ((x2 = 0 → (0 ≤ (nm (62 + x1)) ∧ (nm (62 + x1)) < 750 ∧ Q S1 (S1 (r0 + 1) (nm (62 + x1))))) ∧ (x2 ≠ 0 → w_X12_partOn N r0 x1 S1 (fun (S3 : mSt) (v3 : Int) => Q S3 v3)))) ∧ (0 < (S1 r0 0) → Q S1 0))
theorem W_X12_peg_13 (C : mC p l s m args meth c cX12_peg "MoonWashModel" 3 (some FieldType.int) g) (N : Nat) {Q : mSt → Int → Prop}   (r0 : Nat) (kr0 : KM r0 = (0, 10, 0)) (x1 : Int) (ox1 : okI x1) (x2 : Int) (ox2 : okI x2) (xs0 : Int) (oxs0 : okI xs0) (rs1 : Nat) (krs1 : KM rs1 = (0, 10, 0)) (S : mSt) (H : Heap) (locs : List Loc) (ls : Array Slot) (hl : lv_has ls 3 [(0, .ref (b + r0)), (1, .int (mI x1)), (2, .int (mI x2))]) (hW : mW g b KM S H) (hS : va_S (mA b KM s.heap.size) s.heap H locs) (h : w_X12_peg_13 N Q  r0 x1 x2 xs0 rs1 S) : W p l e { frames := 2, cells := 0, slots := 0, locals := 44 } s m args below meth c H locs 0 0 (vx_MQ below (mQi g b KM Q (mA b KM s.heap.size)) (mEx g b KM (fun _ _ => False) (mA b KM s.heap.size)) args s 0 0 (mA b KM s.heap.size)) (F0 m 13 ls [.int (mI xs0), .ref (b + rs1)]) := by
  unfold w_X12_peg_13 at h
  refine p_10_0 (pc := 13) C hW hS krs1 q_1383 oxs0 dX12_peg_13 (fun S1 H locs e1 hW1 hS => ?_)
  replace h := h S1 e1
  refine m_aload_n (pc := 16) C.1 dX12_peg_16 rfl hl 0 rfl ?_
  refine g_10_0 (pc := 17) C hW1 kr0 q_1383 dX12_peg_17 ?_
  refine m_if_le (pc := 20) (tgt := 25) C.1 (hW1.2.1 _ _) dX12_peg_20 (by decide) (fun hc => ?_) (fun hc => ?_)
  · replace h := h.1 hc
    refine m_iload_n (pc := 25) C.1 dX12_peg_25 rfl hl 2 rfl ?_
    refine m_if_eq (pc := 26) (tgt := 37) C.1 ox2 dX12_peg_26 (by decide) (fun hc => ?_) (fun hc => ?_)
    · replace h := h.1 hc
      refine m_aload_n (pc := 37) C.1 dX12_peg_37 rfl hl 0 rfl ?_
      refine g_10_1 (pc := 38) C hW1 kr0 q_1384 dX12_peg_38 ?_
      refine m_bipush (pc := 41) C.1 dX12_peg_41 rfl ?_
      refine m_iload_n (pc := 43) C.1 dX12_peg_43 rfl hl 1 rfl ?_
      refine m_iadd (pc := 44) C.1 dX12_peg_44 ?_
      obtain ⟨hb2a, hb2b, h⟩ := h
      refine m_iald (pc := 45) C.1 C.2.1 hW1 (k_10_1 kr0) (nm_ok _) hb2a hb2b dX12_peg_45 ?_
      exact m_iret (pc := 46) C.1 C.2.2.2.1 C.2.2.2.2.1 hW1 hS (hW1.2.1 _ _) h (by decide) (by decide) dX12_peg_46
    · replace h := h.2 hc
      refine m_aload_n (pc := 29) C.1 dX12_peg_29 rfl hl 0 rfl ?_
      refine m_iload_n (pc := 30) C.1 dX12_peg_30 rfl hl 1 rfl ?_
      refine m_callVi (pc := 31) C.1 C.2.2.1 hl.1 C.2.1 hW1 hS (As := [.int (mI x1)]) (rest := []) (r := r0) (T_X12_partOn C.2.2.2.2.2.2 N r0 kr0 x1 ox1 h) kr0 rfl q_1687 q_1689 q_58 q_92 q_1690 pl_X12_partOn (by decide) (Nat.le_of_ble_eq_true rfl) dX12_peg_31 (fun v3 S3 H locs ov3 h hW3 hS => ?_)
      refine m_goto (pc := 34) (tgt := 46) C.1 dX12_peg_34 (by decide) ?_
      exact m_iret (pc := 46) C.1 C.2.2.2.1 C.2.2.2.2.1 hW3 hS ov3 h (by decide) (by decide) dX12_peg_46
  · replace h := h.2 hc
    refine m_iconst (pc := 23) C.1 dX12_peg_23 ?_
    exact m_iret (pc := 24) C.1 C.2.2.2.1 C.2.2.2.2.1 hW1 hS (by decide : okI 0) h (by decide) (by decide) dX12_peg_24
end
def w_X12_peg (N : Nat) (r0 : Nat) (x1 : Int) (x2 : Int) (S : mSt) (Q : mSt → Int → Prop) : Prop :=
  w_X12_isPart N x1 S (fun (S1 : mSt) (v1 : Int) => ((v1 ≠ 0 → w_X12_peg_13 N Q  r0 x1 x2 0 r0 S1) ∧ (v1 = 0 → w_X12_peg_13 N Q  r0 x1 x2 1 r0 S1)))
theorem T_X12_peg {l : Launch} (hl0 : l.stackTraces = false) {g : mG} {b : Nat} (N : Nat) (r0 : Nat) (kr0 : KM r0 = (0, 10, 0)) (x1 : Int) (ox1 : okI x1) (x2 : Int) (ox2 : okI x2) {S : mSt} {Q : mSt → Int → Prop} (h : w_X12_peg N r0 x1 x2 S Q) (sz : Nat) : vx_Met l yX12_peg (Cond.code yX12_peg cX12_peg 3 (some FieldType.int) :: wsG) { frames := 2, cells := 0, slots := 0, locals := 44 } (mPc g b KM S [.ref (b + r0), .int (mI x1), .int (mI x2)] sz) (mQi g b KM Q (mA b KM sz)) (mEx g b KM (fun _ _ => False) (mA b KM sz)) 0 0 (mA b KM sz) :=
  m_of (av := [.ref (b + r0), .int (mI x1), .int (mI x2)]) (Qf := fun A => mQi g b KM Q A) (Xf := fun A => mEx g b KM (fun _ _ => False) A) (by decide) (Nat.le_of_ble_eq_true rfl) (fun p e s m args below meth c ls X hK hml hr hlk hout hnm hW hl => by
    have C : mC p l s m args meth c cX12_peg "MoonWashModel" 3 (some FieldType.int) g := ⟨X, hK, hml, hr, hlk, hout, hl0⟩
    have hS : va_S (mA b KM s.heap.size) s.heap s.heap [] := va_S.rf
    have hl : lv_has ls 3 [(0, .ref (b + r0)), (1, .int (mI x1)), (2, .int (mI x2))] := hl
    unfold w_X12_peg at h
    refine m_aload_n (pc := 0) C.1 dX12_peg_0 rfl hl 0 rfl ?_
    refine m_iload_n (pc := 1) C.1 dX12_peg_1 rfl hl 1 rfl ?_
    refine m_callSi (pc := 2) C.1 C.2.2.1 hl.1 C.2.1 hW hS (As := [.int (mI x1)]) (rest := [.ref (b + r0)]) (T_X12_isPart C.2.2.2.2.2.2 N x1 ox1 h) q_1627 q_1628 q_92 q_1629 pl_X12_isPart (by decide) (Nat.le_of_ble_eq_true rfl) dX12_peg_2 (fun v1 S1 H locs ov1 h hW1 hS => ?_)
    refine m_if_ne (pc := 5) (tgt := 12) C.1 ov1 dX12_peg_5 (by decide) (fun hc => ?_) (fun hc => ?_)
    · replace h := h.1 hc
      refine m_iconst (pc := 12) C.1 dX12_peg_12 ?_
      exact W_X12_peg_13 C N  r0 kr0 x1 ox1 x2 ox2 0 (by decide : okI 0) r0 kr0 S1 _ _ _ (lv_sub hl [0, 1, 2] rfl) hW1 hS h
    · replace h := h.2 hc
      refine m_iconst (pc := 8) C.1 dX12_peg_8 ?_
      refine m_goto (pc := 9) (tgt := 13) C.1 dX12_peg_9 (by decide) ?_
      exact W_X12_peg_13 C N  r0 kr0 x1 ox1 x2 ox2 1 (by decide : okI 1) r0 kr0 S1 _ _ _ (lv_sub hl [0, 1, 2] rfl) hW1 hS h) sz
section
variable {p : Program} {l : Launch} {e : Env} {s : State} {m : MethodId} {args : Array Value} {below : List Frame} {meth : Method} {c : Code} {g : mG} {b : Nat}
def w_X12_due_22 (N : Nat) (Q : mSt → Int → Prop)  (r0 : Nat) (x1 : Int) (x2 : Int) (xs0 : Int) (rs1 : Nat) (S : mSt) : Prop :=
  ∀ S1 : mSt, S1 = mup S rs1 0 xs0 → (((S1 r0 0) ≤ 0 → ((x2 = 0 → (0 ≤ (nm ((nm (94 + (nm (2 * x1)))) + 0)) ∧ (nm ((nm (94 + (nm (2 * x1)))) + 0)) < 750 ∧ Q S1 (S1 (r0 + 1) (nm ((nm (94 + (nm (2 * x1)))) + 0))))) ∧ (x2 ≠ 0 → (0 ≤ (nm ((nm (94 + (nm (2 * x1)))) + 1)) ∧ (nm ((nm (94 + (nm (2 * x1)))) + 1)) < 750 ∧ Q S1 (S1 (r0 + 1) (nm ((nm (94 + (nm (2 * x1)))) + 1))))))) ∧ (0 < (S1 r0 0) → Q S1 0))
theorem W_X12_due_22 (C : mC p l s m args meth c cX12_due "MoonWashModel" 3 (some FieldType.int) g) (N : Nat) {Q : mSt → Int → Prop}   (r0 : Nat) (kr0 : KM r0 = (0, 10, 0)) (x1 : Int) (ox1 : okI x1) (x2 : Int) (ox2 : okI x2) (xs0 : Int) (oxs0 : okI xs0) (rs1 : Nat) (krs1 : KM rs1 = (0, 10, 0)) (S : mSt) (H : Heap) (locs : List Loc) (ls : Array Slot) (hl : lv_has ls 3 [(0, .ref (b + r0)), (1, .int (mI x1)), (2, .int (mI x2))]) (hW : mW g b KM S H) (hS : va_S (mA b KM s.heap.size) s.heap H locs) (h : w_X12_due_22 N Q  r0 x1 x2 xs0 rs1 S) : W p l e { frames := 1, cells := 0, slots := 0, locals := 22 } s m args below meth c H locs 0 0 (vx_MQ below (mQi g b KM Q (mA b KM s.heap.size)) (mEx g b KM (fun _ _ => False) (mA b KM s.heap.size)) args s 0 0 (mA b KM s.heap.size)) (F0 m 22 ls [.int (mI xs0), .ref (b + rs1)]) := by
  unfold w_X12_due_22 at h
  refine p_10_0 (pc := 22) C hW hS krs1 q_1383 oxs0 dX12_due_22 (fun S1 H locs e1 hW1 hS => ?_)
  replace h := h S1 e1
  refine m_aload_n (pc := 25) C.1 dX12_due_25 rfl hl 0 rfl ?_
  refine g_10_0 (pc := 26) C hW1 kr0 q_1383 dX12_due_26 ?_
  refine m_if_le (pc := 29) (tgt := 34) C.1 (hW1.2.1 _ _) dX12_due_29 (by decide) (fun hc => ?_) (fun hc => ?_)
  · replace h := h.1 hc
    refine m_aload_n (pc := 34) C.1 dX12_due_34 rfl hl 0 rfl ?_
    refine g_10_1 (pc := 35) C hW1 kr0 q_1384 dX12_due_35 ?_
    refine m_bipush (pc := 38) C.1 dX12_due_38 rfl ?_
    refine m_iconst (pc := 40) C.1 dX12_due_40 ?_
    refine m_iload_n (pc := 41) C.1 dX12_due_41 rfl hl 1 rfl ?_
    refine m_imul (pc := 42) C.1 dX12_due_42 ?_
    refine m_iadd (pc := 43) C.1 dX12_due_43 ?_
    refine m_iload_n (pc := 44) C.1 dX12_due_44 rfl hl 2 rfl ?_
    refine m_if_eq (pc := 45) (tgt := 52) C.1 ox2 dX12_due_45 (by decide) (fun hc => ?_) (fun hc => ?_)
    · replace h := h.1 hc
      refine m_iconst (pc := 52) C.1 dX12_due_52 ?_
      refine m_iadd (pc := 53) C.1 dX12_due_53 ?_
      obtain ⟨hb2a, hb2b, h⟩ := h
      refine m_iald (pc := 54) C.1 C.2.1 hW1 (k_10_1 kr0) (nm_ok _) hb2a hb2b dX12_due_54 ?_
      exact m_iret (pc := 55) C.1 C.2.2.2.1 C.2.2.2.2.1 hW1 hS (hW1.2.1 _ _) h (by decide) (by decide) dX12_due_55
    · replace h := h.2 hc
      refine m_iconst (pc := 48) C.1 dX12_due_48 ?_
      refine m_goto (pc := 49) (tgt := 53) C.1 dX12_due_49 (by decide) ?_
      refine m_iadd (pc := 53) C.1 dX12_due_53 ?_
      obtain ⟨hb3a, hb3b, h⟩ := h
      refine m_iald (pc := 54) C.1 C.2.1 hW1 (k_10_1 kr0) (nm_ok _) hb3a hb3b dX12_due_54 ?_
      exact m_iret (pc := 55) C.1 C.2.2.2.1 C.2.2.2.2.1 hW1 hS (hW1.2.1 _ _) h (by decide) (by decide) dX12_due_55
  · replace h := h.2 hc
    refine m_iconst (pc := 32) C.1 dX12_due_32 ?_
    exact m_iret (pc := 33) C.1 C.2.2.2.1 C.2.2.2.2.1 hW1 hS (by decide : okI 0) h (by decide) (by decide) dX12_due_33
end
def w_X12_due (N : Nat) (r0 : Nat) (x1 : Int) (x2 : Int) (S : mSt) (Q : mSt → Int → Prop) : Prop :=
  w_X12_isIn N x1 0 (nm ((S (r0 + 1) 4) - 1)) S (fun (S1 : mSt) (v1 : Int) => ((v1 ≠ 0 → w_X12_due_22 N Q  r0 x1 x2 0 r0 S1) ∧ (v1 = 0 → w_X12_due_22 N Q  r0 x1 x2 1 r0 S1)))
theorem T_X12_due {l : Launch} (hl0 : l.stackTraces = false) {g : mG} {b : Nat} (N : Nat) (r0 : Nat) (kr0 : KM r0 = (0, 10, 0)) (x1 : Int) (ox1 : okI x1) (x2 : Int) (ox2 : okI x2) {S : mSt} {Q : mSt → Int → Prop} (h : w_X12_due N r0 x1 x2 S Q) (sz : Nat) : vx_Met l yX12_due (Cond.code yX12_due cX12_due 3 (some FieldType.int) :: wsG) { frames := 1, cells := 0, slots := 0, locals := 22 } (mPc g b KM S [.ref (b + r0), .int (mI x1), .int (mI x2)] sz) (mQi g b KM Q (mA b KM sz)) (mEx g b KM (fun _ _ => False) (mA b KM sz)) 0 0 (mA b KM sz) :=
  m_of (av := [.ref (b + r0), .int (mI x1), .int (mI x2)]) (Qf := fun A => mQi g b KM Q A) (Xf := fun A => mEx g b KM (fun _ _ => False) A) (by decide) (Nat.le_of_ble_eq_true rfl) (fun p e s m args below meth c ls X hK hml hr hlk hout hnm hW hl => by
    have C : mC p l s m args meth c cX12_due "MoonWashModel" 3 (some FieldType.int) g := ⟨X, hK, hml, hr, hlk, hout, hl0⟩
    have hS : va_S (mA b KM s.heap.size) s.heap s.heap [] := va_S.rf
    have hl : lv_has ls 3 [(0, .ref (b + r0)), (1, .int (mI x1)), (2, .int (mI x2))] := hl
    unfold w_X12_due at h
    refine m_aload_n (pc := 0) C.1 dX12_due_0 rfl hl 0 rfl ?_
    refine m_iload_n (pc := 1) C.1 dX12_due_1 rfl hl 1 rfl ?_
    refine m_iconst (pc := 2) C.1 dX12_due_2 ?_
    refine m_aload_n (pc := 3) C.1 dX12_due_3 rfl hl 0 rfl ?_
    refine g_10_1 (pc := 4) C hW kr0 q_1384 dX12_due_4 ?_
    refine m_iconst (pc := 7) C.1 dX12_due_7 ?_
    refine m_iald (pc := 8) C.1 C.2.1 hW (k_10_1 kr0) (by decide : okI 4) (by decide) (by decide) dX12_due_8 ?_
    refine m_iconst (pc := 9) C.1 dX12_due_9 ?_
    refine m_isub (pc := 10) C.1 dX12_due_10 ?_
    refine m_callSi (pc := 11) C.1 C.2.2.1 hl.1 C.2.1 hW hS (As := [.int (mI x1), .int (mI 0), .int (mI (nm ((S (r0 + 1) 4) - 1)))]) (rest := [.ref (b + r0)]) (T_X12_isIn C.2.2.2.2.2.2 N x1 ox1 0 (by decide : okI 0) (nm ((S (r0 + 1) 4) - 1)) (nm_ok _) h) q_1475 q_1476 q_92 q_1477 pl_X12_isIn (by decide) (Nat.le_of_ble_eq_true rfl) dX12_due_11 (fun v1 S1 H locs ov1 h hW1 hS => ?_)
    refine m_if_ne (pc := 14) (tgt := 21) C.1 ov1 dX12_due_14 (by decide) (fun hc => ?_) (fun hc => ?_)
    · replace h := h.1 hc
      refine m_iconst (pc := 21) C.1 dX12_due_21 ?_
      exact W_X12_due_22 C N  r0 kr0 x1 ox1 x2 ox2 0 (by decide : okI 0) r0 kr0 S1 _ _ _ (lv_sub hl [0, 1, 2] rfl) hW1 hS h
    · replace h := h.2 hc
      refine m_iconst (pc := 17) C.1 dX12_due_17 ?_
      refine m_goto (pc := 18) (tgt := 22) C.1 dX12_due_18 (by decide) ?_
      exact W_X12_due_22 C N  r0 kr0 x1 ox1 x2 ox2 1 (by decide : okI 1) r0 kr0 S1 _ _ _ (lv_sub hl [0, 1, 2] rfl) hW1 hS h) sz
section
variable {p : Program} {l : Launch} {e : Env} {s : State} {m : MethodId} {args : Array Value} {below : List Frame} {meth : Method} {c : Code} {g : mG} {b : Nat}
def w_X12_remembers_52b (N : Nat) (Q : mSt → Prop) (ko52 : Nat → Int → mSt → Prop) (ko86 : Nat → mSt → Prop) (r0 : Nat) (x1 : Int) (S : mSt) : Prop :=
  ((350 ≤ x1 → ko86 r0 S) ∧ (x1 < 350 → (0 ≤ x1 ∧ x1 < 750 ∧ (0 ≤ (nm ((nm (350 * (S r0 7))) + x1)) ∧ (nm ((nm (350 * (S r0 7))) + x1)) < 4200 ∧ ∀ S3 : mSt, S3 = mup S (r0 + 5) (nm ((nm (350 * (S r0 7))) + x1)) (S (r0 + 1) x1) → ∀ v4 : Int, v4 = nm (x1 + 1) → ko52 r0 v4 S3))))
theorem W_X12_remembers_52b (C : mC p l s m args meth c cX12_remembers "MoonWashModel" 2 none g) (N : Nat) {Q : mSt → Prop} {ko52 : Nat → Int → mSt → Prop} {ko86 : Nat → mSt → Prop} (hko52 : ∀ (r0 : Nat) (kr0 : KM r0 = (0, 10, 0)) (x1 : Int) (ox1 : okI x1) (S : mSt) (H : Heap) (locs : List Loc) (ls : Array Slot), lv_has ls 2 [(0, .ref (b + r0)), (1, .int (mI x1))] → mW g b KM S H → va_S (mA b KM s.heap.size) s.heap H locs → ko52 r0 x1 S → W p l e { frames := 0, cells := 0, slots := 0, locals := 0 } s m args below meth c H locs 0 0 (vx_MQ below (mQv g b KM Q (mA b KM s.heap.size)) (mEx g b KM (fun _ _ => False) (mA b KM s.heap.size)) args s 0 0 (mA b KM s.heap.size)) (F0 m 52 ls [])) (hko86 : ∀ (r0 : Nat) (kr0 : KM r0 = (0, 10, 0)) (S : mSt) (H : Heap) (locs : List Loc) (ls : Array Slot), lv_has ls 2 [(0, .ref (b + r0))] → mW g b KM S H → va_S (mA b KM s.heap.size) s.heap H locs → ko86 r0 S → W p l e { frames := 0, cells := 0, slots := 0, locals := 0 } s m args below meth c H locs 0 0 (vx_MQ below (mQv g b KM Q (mA b KM s.heap.size)) (mEx g b KM (fun _ _ => False) (mA b KM s.heap.size)) args s 0 0 (mA b KM s.heap.size)) (F0 m 86 ls [])) (r0 : Nat) (kr0 : KM r0 = (0, 10, 0)) (x1 : Int) (ox1 : okI x1) (S : mSt) (H : Heap) (locs : List Loc) (ls : Array Slot) (hl : lv_has ls 2 [(0, .ref (b + r0)), (1, .int (mI x1))]) (hW : mW g b KM S H) (hS : va_S (mA b KM s.heap.size) s.heap H locs) (h : w_X12_remembers_52b N Q ko52 ko86 r0 x1 S) : W p l e { frames := 0, cells := 0, slots := 0, locals := 0 } s m args below meth c H locs 0 0 (vx_MQ below (mQv g b KM Q (mA b KM s.heap.size)) (mEx g b KM (fun _ _ => False) (mA b KM s.heap.size)) args s 0 0 (mA b KM s.heap.size)) (F0 m 52 ls []) := by
  unfold w_X12_remembers_52b at h
  refine m_iload_n (pc := 52) C.1 dX12_remembers_52 rfl hl 1 rfl ?_
  refine m_sipush (pc := 53) C.1 dX12_remembers_53 rfl ?_
  refine m_icmp_ge (pc := 56) (tgt := 86) C.1 ox1 (by decide : okI 350) dX12_remembers_56 (by decide) (fun hc => ?_) (fun hc => ?_)
  · replace h := h.1 hc
    exact hko86 r0 kr0 S _ _ _ (lv_sub hl [0] rfl) hW hS h
  · replace h := h.2 hc
    refine m_aload_n (pc := 59) C.1 dX12_remembers_59 rfl hl 0 rfl ?_
    refine g_10_6 (pc := 60) C hW kr0 q_1389 dX12_remembers_60 ?_
    refine m_sipush (pc := 63) C.1 dX12_remembers_63 rfl ?_
    refine m_aload_n (pc := 66) C.1 dX12_remembers_66 rfl hl 0 rfl ?_
    refine g_10_7 (pc := 67) C hW kr0 q_1390 dX12_remembers_67 ?_
    refine m_imul (pc := 70) C.1 dX12_remembers_70 ?_
    refine m_iload_n (pc := 71) C.1 dX12_remembers_71 rfl hl 1 rfl ?_
    refine m_iadd (pc := 72) C.1 dX12_remembers_72 ?_
    refine m_aload_n (pc := 73) C.1 dX12_remembers_73 rfl hl 0 rfl ?_
    refine g_10_1 (pc := 74) C hW kr0 q_1384 dX12_remembers_74 ?_
    refine m_iload_n (pc := 77) C.1 dX12_remembers_77 rfl hl 1 rfl ?_
    obtain ⟨hb1a, hb1b, h⟩ := h
    refine m_iald (pc := 78) C.1 C.2.1 hW (k_10_1 kr0) ox1 hb1a hb1b dX12_remembers_78 ?_
    obtain ⟨hb2a, hb2b, h⟩ := h
    refine m_iast (pc := 79) C.1 C.2.1 hW hS (k_10_6 kr0) (nm_ok _) (hW.2.1 _ _) hb2a hb2b dX12_remembers_79 (fun S3 H locs e3 hW3 hS => ?_)
    replace h := h S3 e3
    refine m_iinc (pc := 80) C.1 dX12_remembers_80 hl (by decide) (q0 := 1) rfl (fun v => [(1, .int v), (0, .ref (b + r0))]) (fun _ => rfl) (fun v4 ls ev4 ov4 hl => ?_)
    replace h := h v4 ev4
    refine m_goto (pc := 83) (tgt := 52) C.1 dX12_remembers_83 (by decide) ?_
    exact hko52 r0 kr0 v4 ov4 S3 _ _ _ (lv_sub hl [1, 0] rfl) hW3 hS h
def w_X12_remembers_52 (N : Nat) (Q : mSt → Prop) (ko86 : Nat → mSt → Prop) : Nat → Nat → Int → mSt → Prop
  | 0 => fun _ _ _ => False
  | k + 1 => w_X12_remembers_52b N Q (w_X12_remembers_52 N Q ko86 k) ko86
theorem W_X12_remembers_52 (C : mC p l s m args meth c cX12_remembers "MoonWashModel" 2 none g) (N : Nat) {Q : mSt → Prop} {ko86 : Nat → mSt → Prop} (hko86 : ∀ (r0 : Nat) (kr0 : KM r0 = (0, 10, 0)) (S : mSt) (H : Heap) (locs : List Loc) (ls : Array Slot), lv_has ls 2 [(0, .ref (b + r0))] → mW g b KM S H → va_S (mA b KM s.heap.size) s.heap H locs → ko86 r0 S → W p l e { frames := 0, cells := 0, slots := 0, locals := 0 } s m args below meth c H locs 0 0 (vx_MQ below (mQv g b KM Q (mA b KM s.heap.size)) (mEx g b KM (fun _ _ => False) (mA b KM s.heap.size)) args s 0 0 (mA b KM s.heap.size)) (F0 m 86 ls [])) : ∀ (k : Nat) (r0 : Nat) (kr0 : KM r0 = (0, 10, 0)) (x1 : Int) (ox1 : okI x1) (S : mSt) (H : Heap) (locs : List Loc) (ls : Array Slot) (hl : lv_has ls 2 [(0, .ref (b + r0)), (1, .int (mI x1))]) (hW : mW g b KM S H) (hS : va_S (mA b KM s.heap.size) s.heap H locs) (h : w_X12_remembers_52 N Q ko86 k r0 x1 S), W p l e { frames := 0, cells := 0, slots := 0, locals := 0 } s m args below meth c H locs 0 0 (vx_MQ below (mQv g b KM Q (mA b KM s.heap.size)) (mEx g b KM (fun _ _ => False) (mA b KM s.heap.size)) args s 0 0 (mA b KM s.heap.size)) (F0 m 52 ls []) := by
  intro k
  induction k with
  | zero => intro r0 kr0 x1 ox1 S H locs ls hl hW hS h; exact False.elim h
  | succ k ih => intro r0 kr0 x1 ox1 S H locs ls hl hW hS h; exact W_X12_remembers_52b C N ih hko86 r0 kr0 x1 ox1 S H locs ls hl hW hS h
def w_X12_remembers_50 (N : Nat) (Q : mSt → Prop)  (r0 : Nat) (S : mSt) : Prop :=
  ∀ v1 : Int, v1 = 0 → w_X12_remembers_52 N Q (fun (r0_2 : Nat) (S_2 : mSt) => ∀ S3 : mSt, S3 = mup S_2 r0_2 7 (nm ((S_2 r0_2 7) + 1)) → Q S3) N r0 v1 S
theorem W_X12_remembers_50 (C : mC p l s m args meth c cX12_remembers "MoonWashModel" 2 none g) (N : Nat) {Q : mSt → Prop}   (r0 : Nat) (kr0 : KM r0 = (0, 10, 0)) (S : mSt) (H : Heap) (locs : List Loc) (ls : Array Slot) (hl : lv_has ls 2 [(0, .ref (b + r0))]) (hW : mW g b KM S H) (hS : va_S (mA b KM s.heap.size) s.heap H locs) (h : w_X12_remembers_50 N Q  r0 S) : W p l e { frames := 0, cells := 0, slots := 0, locals := 0 } s m args below meth c H locs 0 0 (vx_MQ below (mQv g b KM Q (mA b KM s.heap.size)) (mEx g b KM (fun _ _ => False) (mA b KM s.heap.size)) args s 0 0 (mA b KM s.heap.size)) (F0 m 50 ls []) := by
  unfold w_X12_remembers_50 at h
  refine m_iconst (pc := 50) C.1 dX12_remembers_50 ?_
  refine m_istore_n (pc := 51) C.1 dX12_remembers_51 rfl hl (by decide) (fun v => [(1, .int v), (0, .ref (b + r0))]) (fun _ => rfl) (by decide : okI 0) (fun v1 ls ev1 ov1 hl => ?_)
  replace h := h v1 ev1
  refine W_X12_remembers_52 C N ?_ N r0 kr0 v1 ov1 S _ _ _ (lv_sub hl [1, 0] rfl) hW hS h
  · intro r0_2 kr0_2 S_2 H locs ls hl hW_2 hS h
    refine m_aload_n (pc := 86) C.1 dX12_remembers_86 rfl hl 0 rfl ?_
    refine lv_dup (pc := 87) C.1.1 C.1.2.1 dX12_remembers_87 rfl ?_
    refine g_10_7 (pc := 88) C hW_2 kr0_2 q_1390 dX12_remembers_88 ?_
    refine m_iconst (pc := 91) C.1 dX12_remembers_91 ?_
    refine m_iadd (pc := 92) C.1 dX12_remembers_92 ?_
    refine p_10_7 (pc := 93) C hW_2 hS kr0_2 q_1390 (nm_ok _) dX12_remembers_93 (fun S3 H locs e3 hW3 hS => ?_)
    replace h := h S3 e3
    exact m_vret (pc := 96) C.1 C.2.2.2.1 C.2.2.2.2.1 hW3 hS h (by decide) (by decide) dX12_remembers_96
def w_X12_remembers_11b (N : Nat) (Q : mSt → Prop) (ko11 : Nat → Int → mSt → Prop) (ko40 : Nat → mSt → Prop) (r0 : Nat) (x1 : Int) (S : mSt) : Prop :=
  ((3850 ≤ x1 → ko40 r0 S) ∧ (x1 < 3850 → (0 ≤ (nm (x1 + 350)) ∧ (nm (x1 + 350)) < 4200 ∧ (0 ≤ x1 ∧ x1 < 4200 ∧ ∀ S3 : mSt, S3 = mup S (r0 + 5) x1 (S (r0 + 5) (nm (x1 + 350))) → ∀ v4 : Int, v4 = nm (x1 + 1) → ko11 r0 v4 S3))))
theorem W_X12_remembers_11b (C : mC p l s m args meth c cX12_remembers "MoonWashModel" 2 none g) (N : Nat) {Q : mSt → Prop} {ko11 : Nat → Int → mSt → Prop} {ko40 : Nat → mSt → Prop} (hko11 : ∀ (r0 : Nat) (kr0 : KM r0 = (0, 10, 0)) (x1 : Int) (ox1 : okI x1) (S : mSt) (H : Heap) (locs : List Loc) (ls : Array Slot), lv_has ls 2 [(0, .ref (b + r0)), (1, .int (mI x1))] → mW g b KM S H → va_S (mA b KM s.heap.size) s.heap H locs → ko11 r0 x1 S → W p l e { frames := 0, cells := 0, slots := 0, locals := 0 } s m args below meth c H locs 0 0 (vx_MQ below (mQv g b KM Q (mA b KM s.heap.size)) (mEx g b KM (fun _ _ => False) (mA b KM s.heap.size)) args s 0 0 (mA b KM s.heap.size)) (F0 m 11 ls [])) (hko40 : ∀ (r0 : Nat) (kr0 : KM r0 = (0, 10, 0)) (S : mSt) (H : Heap) (locs : List Loc) (ls : Array Slot), lv_has ls 2 [(0, .ref (b + r0))] → mW g b KM S H → va_S (mA b KM s.heap.size) s.heap H locs → ko40 r0 S → W p l e { frames := 0, cells := 0, slots := 0, locals := 0 } s m args below meth c H locs 0 0 (vx_MQ below (mQv g b KM Q (mA b KM s.heap.size)) (mEx g b KM (fun _ _ => False) (mA b KM s.heap.size)) args s 0 0 (mA b KM s.heap.size)) (F0 m 40 ls [])) (r0 : Nat) (kr0 : KM r0 = (0, 10, 0)) (x1 : Int) (ox1 : okI x1) (S : mSt) (H : Heap) (locs : List Loc) (ls : Array Slot) (hl : lv_has ls 2 [(0, .ref (b + r0)), (1, .int (mI x1))]) (hW : mW g b KM S H) (hS : va_S (mA b KM s.heap.size) s.heap H locs) (h : w_X12_remembers_11b N Q ko11 ko40 r0 x1 S) : W p l e { frames := 0, cells := 0, slots := 0, locals := 0 } s m args below meth c H locs 0 0 (vx_MQ below (mQv g b KM Q (mA b KM s.heap.size)) (mEx g b KM (fun _ _ => False) (mA b KM s.heap.size)) args s 0 0 (mA b KM s.heap.size)) (F0 m 11 ls []) := by
  unfold w_X12_remembers_11b at h
  refine m_iload_n (pc := 11) C.1 dX12_remembers_11 rfl hl 1 rfl ?_
  refine m_sipush (pc := 12) C.1 dX12_remembers_12 rfl ?_
  refine m_icmp_ge (pc := 15) (tgt := 40) C.1 ox1 (by decide : okI 3850) dX12_remembers_15 (by decide) (fun hc => ?_) (fun hc => ?_)
  · replace h := h.1 hc
    exact hko40 r0 kr0 S _ _ _ (lv_sub hl [0] rfl) hW hS h
  · replace h := h.2 hc
    refine m_aload_n (pc := 18) C.1 dX12_remembers_18 rfl hl 0 rfl ?_
    refine g_10_6 (pc := 19) C hW kr0 q_1389 dX12_remembers_19 ?_
    refine m_iload_n (pc := 22) C.1 dX12_remembers_22 rfl hl 1 rfl ?_
    refine m_aload_n (pc := 23) C.1 dX12_remembers_23 rfl hl 0 rfl ?_
    refine g_10_6 (pc := 24) C hW kr0 q_1389 dX12_remembers_24 ?_
    refine m_iload_n (pc := 27) C.1 dX12_remembers_27 rfl hl 1 rfl ?_
    refine m_sipush (pc := 28) C.1 dX12_remembers_28 rfl ?_
    refine m_iadd (pc := 31) C.1 dX12_remembers_31 ?_
    obtain ⟨hb1a, hb1b, h⟩ := h
    refine m_iald (pc := 32) C.1 C.2.1 hW (k_10_6 kr0) (nm_ok _) hb1a hb1b dX12_remembers_32 ?_
    obtain ⟨hb2a, hb2b, h⟩ := h
    refine m_iast (pc := 33) C.1 C.2.1 hW hS (k_10_6 kr0) ox1 (hW.2.1 _ _) hb2a hb2b dX12_remembers_33 (fun S3 H locs e3 hW3 hS => ?_)
    replace h := h S3 e3
    refine m_iinc (pc := 34) C.1 dX12_remembers_34 hl (by decide) (q0 := 1) rfl (fun v => [(1, .int v), (0, .ref (b + r0))]) (fun _ => rfl) (fun v4 ls ev4 ov4 hl => ?_)
    replace h := h v4 ev4
    refine m_goto (pc := 37) (tgt := 11) C.1 dX12_remembers_37 (by decide) ?_
    exact hko11 r0 kr0 v4 ov4 S3 _ _ _ (lv_sub hl [1, 0] rfl) hW3 hS h
def w_X12_remembers_11 (N : Nat) (Q : mSt → Prop) (ko40 : Nat → mSt → Prop) : Nat → Nat → Int → mSt → Prop
  | 0 => fun _ _ _ => False
  | k + 1 => w_X12_remembers_11b N Q (w_X12_remembers_11 N Q ko40 k) ko40
theorem W_X12_remembers_11 (C : mC p l s m args meth c cX12_remembers "MoonWashModel" 2 none g) (N : Nat) {Q : mSt → Prop} {ko40 : Nat → mSt → Prop} (hko40 : ∀ (r0 : Nat) (kr0 : KM r0 = (0, 10, 0)) (S : mSt) (H : Heap) (locs : List Loc) (ls : Array Slot), lv_has ls 2 [(0, .ref (b + r0))] → mW g b KM S H → va_S (mA b KM s.heap.size) s.heap H locs → ko40 r0 S → W p l e { frames := 0, cells := 0, slots := 0, locals := 0 } s m args below meth c H locs 0 0 (vx_MQ below (mQv g b KM Q (mA b KM s.heap.size)) (mEx g b KM (fun _ _ => False) (mA b KM s.heap.size)) args s 0 0 (mA b KM s.heap.size)) (F0 m 40 ls [])) : ∀ (k : Nat) (r0 : Nat) (kr0 : KM r0 = (0, 10, 0)) (x1 : Int) (ox1 : okI x1) (S : mSt) (H : Heap) (locs : List Loc) (ls : Array Slot) (hl : lv_has ls 2 [(0, .ref (b + r0)), (1, .int (mI x1))]) (hW : mW g b KM S H) (hS : va_S (mA b KM s.heap.size) s.heap H locs) (h : w_X12_remembers_11 N Q ko40 k r0 x1 S), W p l e { frames := 0, cells := 0, slots := 0, locals := 0 } s m args below meth c H locs 0 0 (vx_MQ below (mQv g b KM Q (mA b KM s.heap.size)) (mEx g b KM (fun _ _ => False) (mA b KM s.heap.size)) args s 0 0 (mA b KM s.heap.size)) (F0 m 11 ls []) := by
  intro k
  induction k with
  | zero => intro r0 kr0 x1 ox1 S H locs ls hl hW hS h; exact False.elim h
  | succ k ih => intro r0 kr0 x1 ox1 S H locs ls hl hW hS h; exact W_X12_remembers_11b C N ih hko40 r0 kr0 x1 ox1 S H locs ls hl hW hS h
end
def w_X12_remembers (N : Nat) (r0 : Nat) (S : mSt) (Q : mSt → Prop) : Prop :=
  (((S r0 7) ≠ 12 → w_X12_remembers_50 N Q  r0 S) ∧ ((S r0 7) = 12 → ∀ v1 : Int, v1 = 0 → w_X12_remembers_11 N Q (fun (r0_2 : Nat) (S_2 : mSt) => ∀ S3 : mSt, S3 = mup S_2 r0_2 7 (nm ((S_2 r0_2 7) - 1)) → w_X12_remembers_50 N Q  r0_2 S3) N r0 v1 S))
theorem T_X12_remembers {l : Launch} (hl0 : l.stackTraces = false) {g : mG} {b : Nat} (N : Nat) (r0 : Nat) (kr0 : KM r0 = (0, 10, 0)) {S : mSt} {Q : mSt → Prop} (h : w_X12_remembers N r0 S Q) (sz : Nat) : vx_Met l yX12_remembers (Cond.code yX12_remembers cX12_remembers 2 none :: wsG) { frames := 0, cells := 0, slots := 0, locals := 0 } (mPc g b KM S [.ref (b + r0)] sz) (mQv g b KM Q (mA b KM sz)) (mEx g b KM (fun _ _ => False) (mA b KM sz)) 0 0 (mA b KM sz) :=
  m_of (av := [.ref (b + r0)]) (Qf := fun A => mQv g b KM Q A) (Xf := fun A => mEx g b KM (fun _ _ => False) A) (by decide) (Nat.le_of_ble_eq_true rfl) (fun p e s m args below meth c ls X hK hml hr hlk hout hnm hW hl => by
    have C : mC p l s m args meth c cX12_remembers "MoonWashModel" 2 none g := ⟨X, hK, hml, hr, hlk, hout, hl0⟩
    have hS : va_S (mA b KM s.heap.size) s.heap s.heap [] := va_S.rf
    have hl : lv_has ls 2 [(0, .ref (b + r0))] := hl
    unfold w_X12_remembers at h
    refine m_aload_n (pc := 0) C.1 dX12_remembers_0 rfl hl 0 rfl ?_
    refine g_10_7 (pc := 1) C hW kr0 q_1390 dX12_remembers_1 ?_
    refine m_bipush (pc := 4) C.1 dX12_remembers_4 rfl ?_
    refine m_icmp_ne (pc := 6) (tgt := 50) C.1 (hW.2.1 _ _) (by decide : okI 12) dX12_remembers_6 (by decide) (fun hc => ?_) (fun hc => ?_)
    · replace h := h.1 hc
      exact W_X12_remembers_50 C N  r0 kr0 S _ _ _ (lv_sub hl [0] rfl) hW hS h
    · replace h := h.2 hc
      refine m_iconst (pc := 9) C.1 dX12_remembers_9 ?_
      refine m_istore_n (pc := 10) C.1 dX12_remembers_10 rfl hl (by decide) (fun v => [(1, .int v), (0, .ref (b + r0))]) (fun _ => rfl) (by decide : okI 0) (fun v1 ls ev1 ov1 hl => ?_)
      replace h := h v1 ev1
      refine W_X12_remembers_11 C N ?_ N r0 kr0 v1 ov1 S _ _ _ (lv_sub hl [1, 0] rfl) hW hS h
      · intro r0_2 kr0_2 S_2 H locs ls hl hW_2 hS h
        refine m_aload_n (pc := 40) C.1 dX12_remembers_40 rfl hl 0 rfl ?_
        refine lv_dup (pc := 41) C.1.1 C.1.2.1 dX12_remembers_41 rfl ?_
        refine g_10_7 (pc := 42) C hW_2 kr0_2 q_1390 dX12_remembers_42 ?_
        refine m_iconst (pc := 45) C.1 dX12_remembers_45 ?_
        refine m_isub (pc := 46) C.1 dX12_remembers_46 ?_
        refine p_10_7 (pc := 47) C hW_2 hS kr0_2 q_1390 (nm_ok _) dX12_remembers_47 (fun S3 H locs e3 hW3 hS => ?_)
        replace h := h S3 e3
        exact W_X12_remembers_50 C N  r0_2 kr0_2 S3 _ _ _ (lv_sub hl [0] rfl) hW3 hS h) sz
section
variable {p : Program} {l : Launch} {e : Env} {s : State} {m : MethodId} {args : Array Value} {below : List Frame} {meth : Method} {c : Code} {g : mG} {b : Nat}
end
def w_X12_cleans (N : Nat) (r0 : Nat) (x1 : Int) (x2 : Int) (S : mSt) (Q : mSt → Prop) : Prop :=
  w_X12_of N r0 x1 0 S (fun (S1 : mSt) (v1 : Int) => w_X12_ofSoap N r0 x2 0 S1 (fun (S2 : mSt) (v2 : Int) => w_X12_greater N 0 (nm (v1 - v2)) S2 (fun (S3 : mSt) (v3 : Int) => w_X12_has N r0 x1 0 v3 S3 (fun (S4 : mSt) => w_X12_of N r0 x1 3 S4 (fun (S5 : mSt) (v5 : Int) => w_X12_ofSoap N r0 x2 3 S5 (fun (S6 : mSt) (v6 : Int) => w_X12_has N r0 x1 3 (bAnd v5 (bXor v6 (-1))) S6 (fun (S7 : mSt) => w_X12_of N r0 x1 1 S7 (fun (S8 : mSt) (v8 : Int) => w_X12_ofSoap N r0 x2 2 S8 (fun (S9 : mSt) (v9 : Int) => w_X12_lesser N 9 (nm ((nm (v8 + 1)) + v9)) S9 (fun (S10 : mSt) (v10 : Int) => w_X12_has N r0 x1 1 v10 S10 (fun (S11 : mSt) => Q S11)))))))))))
theorem T_X12_cleans {l : Launch} (hl0 : l.stackTraces = false) {g : mG} {b : Nat} (N : Nat) (r0 : Nat) (kr0 : KM r0 = (0, 10, 0)) (x1 : Int) (ox1 : okI x1) (x2 : Int) (ox2 : okI x2) {S : mSt} {Q : mSt → Prop} (h : w_X12_cleans N r0 x1 x2 S Q) (sz : Nat) : vx_Met l yX12_cleans (Cond.code yX12_cleans cX12_cleans 3 none :: wsG) { frames := 1, cells := 0, slots := 0, locals := 23 } (mPc g b KM S [.ref (b + r0), .int (mI x1), .int (mI x2)] sz) (mQv g b KM Q (mA b KM sz)) (mEx g b KM (fun _ _ => False) (mA b KM sz)) 0 0 (mA b KM sz) :=
  m_of (av := [.ref (b + r0), .int (mI x1), .int (mI x2)]) (Qf := fun A => mQv g b KM Q A) (Xf := fun A => mEx g b KM (fun _ _ => False) A) (by decide) (Nat.le_of_ble_eq_true rfl) (fun p e s m args below meth c ls X hK hml hr hlk hout hnm hW hl => by
    have C : mC p l s m args meth c cX12_cleans "MoonWashModel" 3 none g := ⟨X, hK, hml, hr, hlk, hout, hl0⟩
    have hS : va_S (mA b KM s.heap.size) s.heap s.heap [] := va_S.rf
    have hl : lv_has ls 3 [(0, .ref (b + r0)), (1, .int (mI x1)), (2, .int (mI x2))] := hl
    unfold w_X12_cleans at h
    refine m_aload_n (pc := 0) C.1 dX12_cleans_0 rfl hl 0 rfl ?_
    refine m_iload_n (pc := 1) C.1 dX12_cleans_1 rfl hl 1 rfl ?_
    refine m_iconst (pc := 2) C.1 dX12_cleans_2 ?_
    refine m_iconst (pc := 3) C.1 dX12_cleans_3 ?_
    refine m_aload_n (pc := 4) C.1 dX12_cleans_4 rfl hl 0 rfl ?_
    refine m_iload_n (pc := 5) C.1 dX12_cleans_5 rfl hl 1 rfl ?_
    refine m_iconst (pc := 6) C.1 dX12_cleans_6 ?_
    refine m_callVi (pc := 7) C.1 C.2.2.1 hl.1 C.2.1 hW hS (As := [.int (mI x1), .int (mI 0)]) (rest := [.int (mI 0), .int (mI 0), .int (mI x1), .ref (b + r0)]) (r := r0) (T_X12_of C.2.2.2.2.2.2 N r0 kr0 x1 ox1 0 (by decide : okI 0) h) kr0 rfl q_1630 q_1632 q_48 q_92 q_1633 pl_X12_of (by decide) (Nat.le_of_ble_eq_true rfl) dX12_cleans_7 (fun v1 S1 H locs ov1 h hW1 hS => ?_)
    refine m_aload_n (pc := 10) C.1 dX12_cleans_10 rfl hl 0 rfl ?_
    refine m_iload_n (pc := 11) C.1 dX12_cleans_11 rfl hl 2 rfl ?_
    refine m_iconst (pc := 12) C.1 dX12_cleans_12 ?_
    refine m_callVi (pc := 13) C.1 C.2.2.1 hl.1 C.2.1 hW1 hS (As := [.int (mI x2), .int (mI 0)]) (rest := [.int (mI v1), .int (mI 0), .int (mI 0), .int (mI x1), .ref (b + r0)]) (r := r0) (T_X12_ofSoap C.2.2.2.2.2.2 N r0 kr0 x2 ox2 0 (by decide : okI 0) h) kr0 rfl q_1671 q_1673 q_56 q_92 q_1674 pl_X12_ofSoap (by decide) (Nat.le_of_ble_eq_true rfl) dX12_cleans_13 (fun v2 S2 H locs ov2 h hW2 hS => ?_)
    refine m_isub (pc := 16) C.1 dX12_cleans_16 ?_
    refine m_callSi (pc := 17) C.1 C.2.2.1 hl.1 C.2.1 hW2 hS (As := [.int (mI 0), .int (mI (nm (v1 - v2)))]) (rest := [.int (mI 0), .int (mI x1), .ref (b + r0)]) (T_X12_greater C.2.2.2.2.2.2 N 0 (by decide : okI 0) (nm (v1 - v2)) (nm_ok _) h) q_1652 q_1653 q_92 q_1654 pl_X12_greater (by decide) (Nat.le_of_ble_eq_true rfl) dX12_cleans_17 (fun v3 S3 H locs ov3 h hW3 hS => ?_)
    refine m_callVv (pc := 20) C.1 C.2.2.1 hl.1 C.2.1 hW3 hS (As := [.int (mI x1), .int (mI 0), .int (mI v3)]) (rest := []) (r := r0) (T_X12_has C.2.2.2.2.2.2 N r0 kr0 x1 ox1 0 (by decide : okI 0) v3 ov3 h) kr0 rfl q_1379 q_1381 q_22 q_92 q_1382 pl_X12_has (by decide) (Nat.le_of_ble_eq_true rfl) dX12_cleans_20 (fun S4 H locs h hW4 hS => ?_)
    refine m_aload_n (pc := 23) C.1 dX12_cleans_23 rfl hl 0 rfl ?_
    refine m_iload_n (pc := 24) C.1 dX12_cleans_24 rfl hl 1 rfl ?_
    refine m_iconst (pc := 25) C.1 dX12_cleans_25 ?_
    refine m_aload_n (pc := 26) C.1 dX12_cleans_26 rfl hl 0 rfl ?_
    refine m_iload_n (pc := 27) C.1 dX12_cleans_27 rfl hl 1 rfl ?_
    refine m_iconst (pc := 28) C.1 dX12_cleans_28 ?_
    refine m_callVi (pc := 29) C.1 C.2.2.1 hl.1 C.2.1 hW4 hS (As := [.int (mI x1), .int (mI 3)]) (rest := [.int (mI 3), .int (mI x1), .ref (b + r0)]) (r := r0) (T_X12_of C.2.2.2.2.2.2 N r0 kr0 x1 ox1 3 (by decide : okI 3) h) kr0 rfl q_1630 q_1632 q_48 q_92 q_1633 pl_X12_of (by decide) (Nat.le_of_ble_eq_true rfl) dX12_cleans_29 (fun v5 S5 H locs ov5 h hW5 hS => ?_)
    refine m_aload_n (pc := 32) C.1 dX12_cleans_32 rfl hl 0 rfl ?_
    refine m_iload_n (pc := 33) C.1 dX12_cleans_33 rfl hl 2 rfl ?_
    refine m_iconst (pc := 34) C.1 dX12_cleans_34 ?_
    refine m_callVi (pc := 35) C.1 C.2.2.1 hl.1 C.2.1 hW5 hS (As := [.int (mI x2), .int (mI 3)]) (rest := [.int (mI v5), .int (mI 3), .int (mI x1), .ref (b + r0)]) (r := r0) (T_X12_ofSoap C.2.2.2.2.2.2 N r0 kr0 x2 ox2 3 (by decide : okI 3) h) kr0 rfl q_1671 q_1673 q_56 q_92 q_1674 pl_X12_ofSoap (by decide) (Nat.le_of_ble_eq_true rfl) dX12_cleans_35 (fun v6 S6 H locs ov6 h hW6 hS => ?_)
    refine m_iconst (pc := 38) C.1 dX12_cleans_38 ?_
    refine m_ixor (pc := 39) C.1 dX12_cleans_39 ?_
    refine m_iand (pc := 40) C.1 dX12_cleans_40 ?_
    refine m_callVv (pc := 41) C.1 C.2.2.1 hl.1 C.2.1 hW6 hS (As := [.int (mI x1), .int (mI 3), .int (mI (bAnd v5 (bXor v6 (-1))))]) (rest := []) (r := r0) (T_X12_has C.2.2.2.2.2.2 N r0 kr0 x1 ox1 3 (by decide : okI 3) (bAnd v5 (bXor v6 (-1))) (bAnd_ok _ _) h) kr0 rfl q_1379 q_1381 q_22 q_92 q_1382 pl_X12_has (by decide) (Nat.le_of_ble_eq_true rfl) dX12_cleans_41 (fun S7 H locs h hW7 hS => ?_)
    refine m_aload_n (pc := 44) C.1 dX12_cleans_44 rfl hl 0 rfl ?_
    refine m_iload_n (pc := 45) C.1 dX12_cleans_45 rfl hl 1 rfl ?_
    refine m_iconst (pc := 46) C.1 dX12_cleans_46 ?_
    refine m_bipush (pc := 47) C.1 dX12_cleans_47 rfl ?_
    refine m_aload_n (pc := 49) C.1 dX12_cleans_49 rfl hl 0 rfl ?_
    refine m_iload_n (pc := 50) C.1 dX12_cleans_50 rfl hl 1 rfl ?_
    refine m_iconst (pc := 51) C.1 dX12_cleans_51 ?_
    refine m_callVi (pc := 52) C.1 C.2.2.1 hl.1 C.2.1 hW7 hS (As := [.int (mI x1), .int (mI 1)]) (rest := [.int (mI 9), .int (mI 1), .int (mI x1), .ref (b + r0)]) (r := r0) (T_X12_of C.2.2.2.2.2.2 N r0 kr0 x1 ox1 1 (by decide : okI 1) h) kr0 rfl q_1630 q_1632 q_48 q_92 q_1633 pl_X12_of (by decide) (Nat.le_of_ble_eq_true rfl) dX12_cleans_52 (fun v8 S8 H locs ov8 h hW8 hS => ?_)
    refine m_iconst (pc := 55) C.1 dX12_cleans_55 ?_
    refine m_iadd (pc := 56) C.1 dX12_cleans_56 ?_
    refine m_aload_n (pc := 57) C.1 dX12_cleans_57 rfl hl 0 rfl ?_
    refine m_iload_n (pc := 58) C.1 dX12_cleans_58 rfl hl 2 rfl ?_
    refine m_iconst (pc := 59) C.1 dX12_cleans_59 ?_
    refine m_callVi (pc := 60) C.1 C.2.2.1 hl.1 C.2.1 hW8 hS (As := [.int (mI x2), .int (mI 2)]) (rest := [.int (mI (nm (v8 + 1))), .int (mI 9), .int (mI 1), .int (mI x1), .ref (b + r0)]) (r := r0) (T_X12_ofSoap C.2.2.2.2.2.2 N r0 kr0 x2 ox2 2 (by decide : okI 2) h) kr0 rfl q_1671 q_1673 q_56 q_92 q_1674 pl_X12_ofSoap (by decide) (Nat.le_of_ble_eq_true rfl) dX12_cleans_60 (fun v9 S9 H locs ov9 h hW9 hS => ?_)
    refine m_iadd (pc := 63) C.1 dX12_cleans_63 ?_
    refine m_callSi (pc := 64) C.1 C.2.2.1 hl.1 C.2.1 hW9 hS (As := [.int (mI 9), .int (mI (nm ((nm (v8 + 1)) + v9)))]) (rest := [.int (mI 1), .int (mI x1), .ref (b + r0)]) (T_X12_lesser C.2.2.2.2.2.2 N 9 (by decide : okI 9) (nm ((nm (v8 + 1)) + v9)) (nm_ok _) h) q_1649 q_1650 q_92 q_1651 pl_X12_lesser (by decide) (Nat.le_of_ble_eq_true rfl) dX12_cleans_64 (fun v10 S10 H locs ov10 h hW10 hS => ?_)
    refine m_callVv (pc := 67) C.1 C.2.2.1 hl.1 C.2.1 hW10 hS (As := [.int (mI x1), .int (mI 1), .int (mI v10)]) (rest := []) (r := r0) (T_X12_has C.2.2.2.2.2.2 N r0 kr0 x1 ox1 1 (by decide : okI 1) v10 ov10 h) kr0 rfl q_1379 q_1381 q_22 q_92 q_1382 pl_X12_has (by decide) (Nat.le_of_ble_eq_true rfl) dX12_cleans_67 (fun S11 H locs h hW11 hS => ?_)
    exact m_vret (pc := 70) C.1 C.2.2.2.1 C.2.2.2.2.1 hW11 hS h (by decide) (by decide) dX12_cleans_70) sz
section
variable {p : Program} {l : Launch} {e : Env} {s : State} {m : MethodId} {args : Array Value} {below : List Frame} {meth : Method} {c : Code} {g : mG} {b : Nat}
def w_X12_wash_111b (N : Nat) (Q : mSt → Int → Prop) (ko111 : Nat → Int → Int → Int → Int → mSt → Prop) (ko145 : Nat → Int → Int → Int → mSt → Prop) (r0 : Nat) (x1 : Int) (x2 : Int) (x3 : Int) (x4 : Int) (S : mSt) : Prop :=
  ((x4 < 4 → ko145 r0 x1 x2 x3 S) ∧ (4 ≤ x4 → (0 ≤ (nm ((nm (110 + x4)) - 4)) ∧ (nm ((nm (110 + x4)) - 4)) < 750 ∧ (0 ≤ (nm (110 + x4)) ∧ (nm (110 + x4)) < 750 ∧ ∀ S3 : mSt, S3 = mup S (r0 + 1) (nm (110 + x4)) (S (r0 + 1) (nm ((nm (110 + x4)) - 4))) → ∀ v4 : Int, v4 = nm (x4 + (-1)) → ko111 r0 x1 x2 x3 v4 S3))))
theorem W_X12_wash_111b (C : mC p l s m args meth c cX12_wash "MoonWashModel" 5 (some FieldType.int) g) (N : Nat) {Q : mSt → Int → Prop} {ko111 : Nat → Int → Int → Int → Int → mSt → Prop} {ko145 : Nat → Int → Int → Int → mSt → Prop} (hko111 : ∀ (r0 : Nat) (kr0 : KM r0 = (0, 10, 0)) (x1 : Int) (ox1 : okI x1) (x2 : Int) (ox2 : okI x2) (x3 : Int) (ox3 : okI x3) (x4 : Int) (ox4 : okI x4) (S : mSt) (H : Heap) (locs : List Loc) (ls : Array Slot), lv_has ls 5 [(0, .ref (b + r0)), (1, .int (mI x1)), (2, .int (mI x2)), (3, .int (mI x3)), (4, .int (mI x4))] → mW g b KM S H → va_S (mA b KM s.heap.size) s.heap H locs → ko111 r0 x1 x2 x3 x4 S → W p l e { frames := 2, cells := 0, slots := 0, locals := 45 } s m args below meth c H locs 0 0 (vx_MQ below (mQi g b KM Q (mA b KM s.heap.size)) (mEx g b KM (fun _ _ => False) (mA b KM s.heap.size)) args s 0 0 (mA b KM s.heap.size)) (F0 m 111 ls [])) (hko145 : ∀ (r0 : Nat) (kr0 : KM r0 = (0, 10, 0)) (x1 : Int) (ox1 : okI x1) (x2 : Int) (ox2 : okI x2) (x3 : Int) (ox3 : okI x3) (S : mSt) (H : Heap) (locs : List Loc) (ls : Array Slot), lv_has ls 5 [(0, .ref (b + r0)), (1, .int (mI x1)), (2, .int (mI x2)), (3, .int (mI x3))] → mW g b KM S H → va_S (mA b KM s.heap.size) s.heap H locs → ko145 r0 x1 x2 x3 S → W p l e { frames := 2, cells := 0, slots := 0, locals := 45 } s m args below meth c H locs 0 0 (vx_MQ below (mQi g b KM Q (mA b KM s.heap.size)) (mEx g b KM (fun _ _ => False) (mA b KM s.heap.size)) args s 0 0 (mA b KM s.heap.size)) (F0 m 145 ls [])) (r0 : Nat) (kr0 : KM r0 = (0, 10, 0)) (x1 : Int) (ox1 : okI x1) (x2 : Int) (ox2 : okI x2) (x3 : Int) (ox3 : okI x3) (x4 : Int) (ox4 : okI x4) (S : mSt) (H : Heap) (locs : List Loc) (ls : Array Slot) (hl : lv_has ls 5 [(0, .ref (b + r0)), (1, .int (mI x1)), (2, .int (mI x2)), (3, .int (mI x3)), (4, .int (mI x4))]) (hW : mW g b KM S H) (hS : va_S (mA b KM s.heap.size) s.heap H locs) (h : w_X12_wash_111b N Q ko111 ko145 r0 x1 x2 x3 x4 S) : W p l e { frames := 2, cells := 0, slots := 0, locals := 45 } s m args below meth c H locs 0 0 (vx_MQ below (mQi g b KM Q (mA b KM s.heap.size)) (mEx g b KM (fun _ _ => False) (mA b KM s.heap.size)) args s 0 0 (mA b KM s.heap.size)) (F0 m 111 ls []) := by
  unfold w_X12_wash_111b at h
  refine m_iload (pc := 111) C.1 dX12_wash_111 hl 4 rfl ?_
  refine m_iconst (pc := 113) C.1 dX12_wash_113 ?_
  refine m_icmp_lt (pc := 114) (tgt := 145) C.1 ox4 (by decide : okI 4) dX12_wash_114 (by decide) (fun hc => ?_) (fun hc => ?_)
  · replace h := h.1 hc
    exact hko145 r0 kr0 x1 ox1 x2 ox2 x3 ox3 S _ _ _ (lv_sub hl [0, 1, 2, 3] rfl) hW hS h
  · replace h := h.2 hc
    refine m_aload_n (pc := 117) C.1 dX12_wash_117 rfl hl 0 rfl ?_
    refine g_10_1 (pc := 118) C hW kr0 q_1384 dX12_wash_118 ?_
    refine m_bipush (pc := 121) C.1 dX12_wash_121 rfl ?_
    refine m_iload (pc := 123) C.1 dX12_wash_123 hl 4 rfl ?_
    refine m_iadd (pc := 125) C.1 dX12_wash_125 ?_
    refine m_aload_n (pc := 126) C.1 dX12_wash_126 rfl hl 0 rfl ?_
    refine g_10_1 (pc := 127) C hW kr0 q_1384 dX12_wash_127 ?_
    refine m_bipush (pc := 130) C.1 dX12_wash_130 rfl ?_
    refine m_iload (pc := 132) C.1 dX12_wash_132 hl 4 rfl ?_
    refine m_iadd (pc := 134) C.1 dX12_wash_134 ?_
    refine m_iconst (pc := 135) C.1 dX12_wash_135 ?_
    refine m_isub (pc := 136) C.1 dX12_wash_136 ?_
    obtain ⟨hb1a, hb1b, h⟩ := h
    refine m_iald (pc := 137) C.1 C.2.1 hW (k_10_1 kr0) (nm_ok _) hb1a hb1b dX12_wash_137 ?_
    obtain ⟨hb2a, hb2b, h⟩ := h
    refine m_iast (pc := 138) C.1 C.2.1 hW hS (k_10_1 kr0) (nm_ok _) (hW.2.1 _ _) hb2a hb2b dX12_wash_138 (fun S3 H locs e3 hW3 hS => ?_)
    replace h := h S3 e3
    refine m_iinc (pc := 139) C.1 dX12_wash_139 hl (by decide) (q0 := 4) rfl (fun v => [(4, .int v), (0, .ref (b + r0)), (1, .int (mI x1)), (2, .int (mI x2)), (3, .int (mI x3))]) (fun _ => rfl) (fun v4 ls ev4 ov4 hl => ?_)
    replace h := h v4 ev4
    refine m_goto (pc := 142) (tgt := 111) C.1 dX12_wash_142 (by decide) ?_
    exact hko111 r0 kr0 x1 ox1 x2 ox2 x3 ox3 v4 ov4 S3 _ _ _ (lv_sub hl [1, 2, 3, 4, 0] rfl) hW3 hS h
def w_X12_wash_111 (N : Nat) (Q : mSt → Int → Prop) (ko145 : Nat → Int → Int → Int → mSt → Prop) : Nat → Nat → Int → Int → Int → Int → mSt → Prop
  | 0 => fun _ _ _ _ _ _ => False
  | k + 1 => w_X12_wash_111b N Q (w_X12_wash_111 N Q ko145 k) ko145
theorem W_X12_wash_111 (C : mC p l s m args meth c cX12_wash "MoonWashModel" 5 (some FieldType.int) g) (N : Nat) {Q : mSt → Int → Prop} {ko145 : Nat → Int → Int → Int → mSt → Prop} (hko145 : ∀ (r0 : Nat) (kr0 : KM r0 = (0, 10, 0)) (x1 : Int) (ox1 : okI x1) (x2 : Int) (ox2 : okI x2) (x3 : Int) (ox3 : okI x3) (S : mSt) (H : Heap) (locs : List Loc) (ls : Array Slot), lv_has ls 5 [(0, .ref (b + r0)), (1, .int (mI x1)), (2, .int (mI x2)), (3, .int (mI x3))] → mW g b KM S H → va_S (mA b KM s.heap.size) s.heap H locs → ko145 r0 x1 x2 x3 S → W p l e { frames := 2, cells := 0, slots := 0, locals := 45 } s m args below meth c H locs 0 0 (vx_MQ below (mQi g b KM Q (mA b KM s.heap.size)) (mEx g b KM (fun _ _ => False) (mA b KM s.heap.size)) args s 0 0 (mA b KM s.heap.size)) (F0 m 145 ls [])) : ∀ (k : Nat) (r0 : Nat) (kr0 : KM r0 = (0, 10, 0)) (x1 : Int) (ox1 : okI x1) (x2 : Int) (ox2 : okI x2) (x3 : Int) (ox3 : okI x3) (x4 : Int) (ox4 : okI x4) (S : mSt) (H : Heap) (locs : List Loc) (ls : Array Slot) (hl : lv_has ls 5 [(0, .ref (b + r0)), (1, .int (mI x1)), (2, .int (mI x2)), (3, .int (mI x3)), (4, .int (mI x4))]) (hW : mW g b KM S H) (hS : va_S (mA b KM s.heap.size) s.heap H locs) (h : w_X12_wash_111 N Q ko145 k r0 x1 x2 x3 x4 S), W p l e { frames := 2, cells := 0, slots := 0, locals := 45 } s m args below meth c H locs 0 0 (vx_MQ below (mQi g b KM Q (mA b KM s.heap.size)) (mEx g b KM (fun _ _ => False) (mA b KM s.heap.size)) args s 0 0 (mA b KM s.heap.size)) (F0 m 111 ls []) := by
  intro k
  induction k with
  | zero => intro r0 kr0 x1 ox1 x2 ox2 x3 ox3 x4 ox4 S H locs ls hl hW hS h; exact False.elim h
  | succ k ih => intro r0 kr0 x1 ox1 x2 ox2 x3 ox3 x4 ox4 S H locs ls hl hW hS h; exact W_X12_wash_111b C N ih hko145 r0 kr0 x1 ox1 x2 ox2 x3 ox3 x4 ox4 S H locs ls hl hW hS h
def w_X12_wash_40 (N : Nat) (Q : mSt → Int → Prop)  (r0 : Nat) (x1 : Int) (x2 : Int) (xs0 : Int) (rs1 : Nat) (S : mSt) : Prop :=
  ∀ S1 : mSt, S1 = mup S rs1 0 xs0 → (((S1 r0 0) ≤ 0 → w_X12_remembers N r0 S1 (fun (S2 : mSt) => w_X12_of N r0 x1 3 S2 (fun (S3 : mSt) (v3 : Int) => w_X12_ofSoap N r0 x2 3 S3 (fun (S4 : mSt) (v4 : Int) => ∀ v5 : Int, v5 = (bAnd v3 v4) → w_X12_ofSoap N r0 x2 1 S4 (fun (S6 : mSt) (v6 : Int) => ∀ S7 : mSt, S7 = mup S6 (r0 + 1) 5 (nm ((S4 (r0 + 1) 5) - v6)) → w_X12_cleans N r0 x1 x2 S7 (fun (S8 : mSt) => w_X12_has N r0 x1 2 9 S8 (fun (S9 : mSt) => w_X12_has N r0 x1 4 0 S9 (fun (S10 : mSt) => ∀ v11 : Int, v11 = 239 → w_X12_wash_111 N Q (fun (r0_12 : Nat) (x1_12 : Int) (x2_12 : Int) (x3_12 : Int) (S_12 : mSt) => ∀ S13 : mSt, S13 = mup S_12 (r0_12 + 1) 110 (S_12 (r0_12 + 1) 9) → ∀ S14 : mSt, S14 = mup S13 (r0_12 + 1) 111 x1_12 → ∀ S15 : mSt, S15 = mup S14 (r0_12 + 1) 112 x2_12 → ∀ S16 : mSt, S16 = mup S15 (r0_12 + 1) 113 x3_12 → w_X12_lesser N 60 (nm ((S16 (r0_12 + 1) 11) + 1)) S16 (fun (S17 : mSt) (v17 : Int) => ∀ S18 : mSt, S18 = mup S17 (r0_12 + 1) 11 v17 → Q S18 x3_12)) N r0 x1 x2 v5 v11 S10)))))))) ∧ (0 < (S1 r0 0) → Q S1 0))
theorem W_X12_wash_40 (C : mC p l s m args meth c cX12_wash "MoonWashModel" 5 (some FieldType.int) g) (N : Nat) {Q : mSt → Int → Prop}   (r0 : Nat) (kr0 : KM r0 = (0, 10, 0)) (x1 : Int) (ox1 : okI x1) (x2 : Int) (ox2 : okI x2) (xs0 : Int) (oxs0 : okI xs0) (rs1 : Nat) (krs1 : KM rs1 = (0, 10, 0)) (S : mSt) (H : Heap) (locs : List Loc) (ls : Array Slot) (hl : lv_has ls 5 [(0, .ref (b + r0)), (1, .int (mI x1)), (2, .int (mI x2))]) (hW : mW g b KM S H) (hS : va_S (mA b KM s.heap.size) s.heap H locs) (h : w_X12_wash_40 N Q  r0 x1 x2 xs0 rs1 S) : W p l e { frames := 2, cells := 0, slots := 0, locals := 45 } s m args below meth c H locs 0 0 (vx_MQ below (mQi g b KM Q (mA b KM s.heap.size)) (mEx g b KM (fun _ _ => False) (mA b KM s.heap.size)) args s 0 0 (mA b KM s.heap.size)) (F0 m 40 ls [.int (mI xs0), .ref (b + rs1)]) := by
  unfold w_X12_wash_40 at h
  refine p_10_0 (pc := 40) C hW hS krs1 q_1383 oxs0 dX12_wash_40 (fun S1 H locs e1 hW1 hS => ?_)
  replace h := h S1 e1
  refine m_aload_n (pc := 43) C.1 dX12_wash_43 rfl hl 0 rfl ?_
  refine g_10_0 (pc := 44) C hW1 kr0 q_1383 dX12_wash_44 ?_
  refine m_if_le (pc := 47) (tgt := 52) C.1 (hW1.2.1 _ _) dX12_wash_47 (by decide) (fun hc => ?_) (fun hc => ?_)
  · replace h := h.1 hc
    refine m_aload_n (pc := 52) C.1 dX12_wash_52 rfl hl 0 rfl ?_
    refine m_callVv (pc := 53) C.1 C.2.2.1 hl.1 C.2.1 hW1 hS (As := []) (rest := []) (r := r0) (T_X12_remembers C.2.2.2.2.2.2 N r0 kr0 h) kr0 rfl q_1699 q_1701 q_59 q_92 q_1702 pl_X12_remembers (by decide) (Nat.le_of_ble_eq_true rfl) dX12_wash_53 (fun S2 H locs h hW2 hS => ?_)
    refine m_aload_n (pc := 56) C.1 dX12_wash_56 rfl hl 0 rfl ?_
    refine m_iload_n (pc := 57) C.1 dX12_wash_57 rfl hl 1 rfl ?_
    refine m_iconst (pc := 58) C.1 dX12_wash_58 ?_
    refine m_callVi (pc := 59) C.1 C.2.2.1 hl.1 C.2.1 hW2 hS (As := [.int (mI x1), .int (mI 3)]) (rest := []) (r := r0) (T_X12_of C.2.2.2.2.2.2 N r0 kr0 x1 ox1 3 (by decide : okI 3) h) kr0 rfl q_1630 q_1632 q_48 q_92 q_1633 pl_X12_of (by decide) (Nat.le_of_ble_eq_true rfl) dX12_wash_59 (fun v3 S3 H locs ov3 h hW3 hS => ?_)
    refine m_aload_n (pc := 62) C.1 dX12_wash_62 rfl hl 0 rfl ?_
    refine m_iload_n (pc := 63) C.1 dX12_wash_63 rfl hl 2 rfl ?_
    refine m_iconst (pc := 64) C.1 dX12_wash_64 ?_
    refine m_callVi (pc := 65) C.1 C.2.2.1 hl.1 C.2.1 hW3 hS (As := [.int (mI x2), .int (mI 3)]) (rest := [.int (mI v3)]) (r := r0) (T_X12_ofSoap C.2.2.2.2.2.2 N r0 kr0 x2 ox2 3 (by decide : okI 3) h) kr0 rfl q_1671 q_1673 q_56 q_92 q_1674 pl_X12_ofSoap (by decide) (Nat.le_of_ble_eq_true rfl) dX12_wash_65 (fun v4 S4 H locs ov4 h hW4 hS => ?_)
    refine m_iand (pc := 68) C.1 dX12_wash_68 ?_
    refine m_istore_n (pc := 69) C.1 dX12_wash_69 rfl hl (by decide) (fun v => [(3, .int v), (0, .ref (b + r0)), (1, .int (mI x1)), (2, .int (mI x2))]) (fun _ => rfl) (bAnd_ok _ _) (fun v5 ls ev5 ov5 hl => ?_)
    replace h := h v5 ev5
    refine m_aload_n (pc := 70) C.1 dX12_wash_70 rfl hl 1 rfl ?_
    refine g_10_1 (pc := 71) C hW4 kr0 q_1384 dX12_wash_71 ?_
    refine m_iconst (pc := 74) C.1 dX12_wash_74 ?_
    refine lv_dup2_11 (pc := 75) C.1.1 C.1.2.1 dX12_wash_75 rfl rfl ?_
    refine m_iald (pc := 76) C.1 C.2.1 hW4 (k_10_1 kr0) (by decide : okI 5) (by decide) (by decide) dX12_wash_76 ?_
    refine m_aload_n (pc := 77) C.1 dX12_wash_77 rfl hl 1 rfl ?_
    refine m_iload_n (pc := 78) C.1 dX12_wash_78 rfl hl 3 rfl ?_
    refine m_iconst (pc := 79) C.1 dX12_wash_79 ?_
    refine m_callVi (pc := 80) C.1 C.2.2.1 hl.1 C.2.1 hW4 hS (As := [.int (mI x2), .int (mI 1)]) (rest := [.int (mI (S4 (r0 + 1) 5)), .int (mI 5), .ref (b + (r0 + 1))]) (r := r0) (T_X12_ofSoap C.2.2.2.2.2.2 N r0 kr0 x2 ox2 1 (by decide : okI 1) h) kr0 rfl q_1671 q_1673 q_56 q_92 q_1674 pl_X12_ofSoap (by decide) (Nat.le_of_ble_eq_true rfl) dX12_wash_80 (fun v6 S6 H locs ov6 h hW6 hS => ?_)
    refine m_isub (pc := 83) C.1 dX12_wash_83 ?_
    refine m_iast (pc := 84) C.1 C.2.1 hW6 hS (k_10_1 kr0) (by decide : okI 5) (nm_ok _) (by decide) (by decide) dX12_wash_84 (fun S7 H locs e7 hW7 hS => ?_)
    replace h := h S7 e7
    refine m_aload_n (pc := 85) C.1 dX12_wash_85 rfl hl 1 rfl ?_
    refine m_iload_n (pc := 86) C.1 dX12_wash_86 rfl hl 2 rfl ?_
    refine m_iload_n (pc := 87) C.1 dX12_wash_87 rfl hl 3 rfl ?_
    refine m_callVv (pc := 88) C.1 C.2.2.1 hl.1 C.2.1 hW7 hS (As := [.int (mI x1), .int (mI x2)]) (rest := []) (r := r0) (T_X12_cleans C.2.2.2.2.2.2 N r0 kr0 x1 ox1 x2 ox2 h) kr0 rfl q_1703 q_1705 q_60 q_92 q_1706 pl_X12_cleans (by decide) (Nat.le_of_ble_eq_true rfl) dX12_wash_88 (fun S8 H locs h hW8 hS => ?_)
    refine m_aload_n (pc := 91) C.1 dX12_wash_91 rfl hl 1 rfl ?_
    refine m_iload_n (pc := 92) C.1 dX12_wash_92 rfl hl 2 rfl ?_
    refine m_iconst (pc := 93) C.1 dX12_wash_93 ?_
    refine m_bipush (pc := 94) C.1 dX12_wash_94 rfl ?_
    refine m_callVv (pc := 96) C.1 C.2.2.1 hl.1 C.2.1 hW8 hS (As := [.int (mI x1), .int (mI 2), .int (mI 9)]) (rest := []) (r := r0) (T_X12_has C.2.2.2.2.2.2 N r0 kr0 x1 ox1 2 (by decide : okI 2) 9 (by decide : okI 9) h) kr0 rfl q_1379 q_1381 q_22 q_92 q_1382 pl_X12_has (by decide) (Nat.le_of_ble_eq_true rfl) dX12_wash_96 (fun S9 H locs h hW9 hS => ?_)
    refine m_aload_n (pc := 99) C.1 dX12_wash_99 rfl hl 1 rfl ?_
    refine m_iload_n (pc := 100) C.1 dX12_wash_100 rfl hl 2 rfl ?_
    refine m_iconst (pc := 101) C.1 dX12_wash_101 ?_
    refine m_iconst (pc := 102) C.1 dX12_wash_102 ?_
    refine m_callVv (pc := 103) C.1 C.2.2.1 hl.1 C.2.1 hW9 hS (As := [.int (mI x1), .int (mI 4), .int (mI 0)]) (rest := []) (r := r0) (T_X12_has C.2.2.2.2.2.2 N r0 kr0 x1 ox1 4 (by decide : okI 4) 0 (by decide : okI 0) h) kr0 rfl q_1379 q_1381 q_22 q_92 q_1382 pl_X12_has (by decide) (Nat.le_of_ble_eq_true rfl) dX12_wash_103 (fun S10 H locs h hW10 hS => ?_)
    refine m_sipush (pc := 106) C.1 dX12_wash_106 rfl ?_
    refine m_istore (pc := 109) C.1 dX12_wash_109 hl (by decide) (fun v => [(4, .int v), (3, .int (mI v5)), (0, .ref (b + r0)), (1, .int (mI x1)), (2, .int (mI x2))]) (fun _ => rfl) (by decide : okI 239) (fun v11 ls ev11 ov11 hl => ?_)
    replace h := h v11 ev11
    refine W_X12_wash_111 C N ?_ N r0 kr0 x1 ox1 x2 ox2 v5 ov5 v11 ov11 S10 _ _ _ (lv_sub hl [2, 3, 4, 1, 0] rfl) hW10 hS h
    · intro r0_12 kr0_12 x1_12 ox1_12 x2_12 ox2_12 x3_12 ox3_12 S_12 H locs ls hl hW_12 hS h
      refine m_aload_n (pc := 145) C.1 dX12_wash_145 rfl hl 0 rfl ?_
      refine g_10_1 (pc := 146) C hW_12 kr0_12 q_1384 dX12_wash_146 ?_
      refine m_bipush (pc := 149) C.1 dX12_wash_149 rfl ?_
      refine m_aload_n (pc := 151) C.1 dX12_wash_151 rfl hl 0 rfl ?_
      refine g_10_1 (pc := 152) C hW_12 kr0_12 q_1384 dX12_wash_152 ?_
      refine m_bipush (pc := 155) C.1 dX12_wash_155 rfl ?_
      refine m_iald (pc := 157) C.1 C.2.1 hW_12 (k_10_1 kr0_12) (by decide : okI 9) (by decide) (by decide) dX12_wash_157 ?_
      refine m_iast (pc := 158) C.1 C.2.1 hW_12 hS (k_10_1 kr0_12) (by decide : okI 110) (hW_12.2.1 _ _) (by decide) (by decide) dX12_wash_158 (fun S13 H locs e13 hW13 hS => ?_)
      replace h := h S13 e13
      refine m_aload_n (pc := 159) C.1 dX12_wash_159 rfl hl 0 rfl ?_
      refine g_10_1 (pc := 160) C hW13 kr0_12 q_1384 dX12_wash_160 ?_
      refine m_bipush (pc := 163) C.1 dX12_wash_163 rfl ?_
      refine m_iload_n (pc := 165) C.1 dX12_wash_165 rfl hl 1 rfl ?_
      refine m_iast (pc := 166) C.1 C.2.1 hW13 hS (k_10_1 kr0_12) (by decide : okI 111) ox1_12 (by decide) (by decide) dX12_wash_166 (fun S14 H locs e14 hW14 hS => ?_)
      replace h := h S14 e14
      refine m_aload_n (pc := 167) C.1 dX12_wash_167 rfl hl 0 rfl ?_
      refine g_10_1 (pc := 168) C hW14 kr0_12 q_1384 dX12_wash_168 ?_
      refine m_bipush (pc := 171) C.1 dX12_wash_171 rfl ?_
      refine m_iload_n (pc := 173) C.1 dX12_wash_173 rfl hl 2 rfl ?_
      refine m_iast (pc := 174) C.1 C.2.1 hW14 hS (k_10_1 kr0_12) (by decide : okI 112) ox2_12 (by decide) (by decide) dX12_wash_174 (fun S15 H locs e15 hW15 hS => ?_)
      replace h := h S15 e15
      refine m_aload_n (pc := 175) C.1 dX12_wash_175 rfl hl 0 rfl ?_
      refine g_10_1 (pc := 176) C hW15 kr0_12 q_1384 dX12_wash_176 ?_
      refine m_bipush (pc := 179) C.1 dX12_wash_179 rfl ?_
      refine m_iload_n (pc := 181) C.1 dX12_wash_181 rfl hl 3 rfl ?_
      refine m_iast (pc := 182) C.1 C.2.1 hW15 hS (k_10_1 kr0_12) (by decide : okI 113) ox3_12 (by decide) (by decide) dX12_wash_182 (fun S16 H locs e16 hW16 hS => ?_)
      replace h := h S16 e16
      refine m_aload_n (pc := 183) C.1 dX12_wash_183 rfl hl 0 rfl ?_
      refine g_10_1 (pc := 184) C hW16 kr0_12 q_1384 dX12_wash_184 ?_
      refine m_bipush (pc := 187) C.1 dX12_wash_187 rfl ?_
      refine m_bipush (pc := 189) C.1 dX12_wash_189 rfl ?_
      refine m_aload_n (pc := 191) C.1 dX12_wash_191 rfl hl 0 rfl ?_
      refine g_10_1 (pc := 192) C hW16 kr0_12 q_1384 dX12_wash_192 ?_
      refine m_bipush (pc := 195) C.1 dX12_wash_195 rfl ?_
      refine m_iald (pc := 197) C.1 C.2.1 hW16 (k_10_1 kr0_12) (by decide : okI 11) (by decide) (by decide) dX12_wash_197 ?_
      refine m_iconst (pc := 198) C.1 dX12_wash_198 ?_
      refine m_iadd (pc := 199) C.1 dX12_wash_199 ?_
      refine m_callSi (pc := 200) C.1 C.2.2.1 hl.1 C.2.1 hW16 hS (As := [.int (mI 60), .int (mI (nm ((S16 (r0_12 + 1) 11) + 1)))]) (rest := [.int (mI 11), .ref (b + (r0_12 + 1))]) (T_X12_lesser C.2.2.2.2.2.2 N 60 (by decide : okI 60) (nm ((S16 (r0_12 + 1) 11) + 1)) (nm_ok _) h) q_1649 q_1650 q_92 q_1651 pl_X12_lesser (by decide) (Nat.le_of_ble_eq_true rfl) dX12_wash_200 (fun v17 S17 H locs ov17 h hW17 hS => ?_)
      refine m_iast (pc := 203) C.1 C.2.1 hW17 hS (k_10_1 kr0_12) (by decide : okI 11) ov17 (by decide) (by decide) dX12_wash_203 (fun S18 H locs e18 hW18 hS => ?_)
      replace h := h S18 e18
      refine m_iload_n (pc := 204) C.1 dX12_wash_204 rfl hl 3 rfl ?_
      exact m_iret (pc := 205) C.1 C.2.2.2.1 C.2.2.2.2.1 hW18 hS ox3_12 h (by decide) (by decide) dX12_wash_205
  · replace h := h.2 hc
    refine m_iconst (pc := 50) C.1 dX12_wash_50 ?_
    exact m_iret (pc := 51) C.1 C.2.2.2.1 C.2.2.2.2.1 hW1 hS (by decide : okI 0) h (by decide) (by decide) dX12_wash_51
def w_X12_wash_16 (N : Nat) (Q : mSt → Int → Prop)  (r0 : Nat) (x1 : Int) (x2 : Int) (rs0 : Nat) (S : mSt) : Prop :=
  w_X12_wash_40 N Q  r0 x1 x2 1 rs0 S
theorem W_X12_wash_16 (C : mC p l s m args meth c cX12_wash "MoonWashModel" 5 (some FieldType.int) g) (N : Nat) {Q : mSt → Int → Prop}   (r0 : Nat) (kr0 : KM r0 = (0, 10, 0)) (x1 : Int) (ox1 : okI x1) (x2 : Int) (ox2 : okI x2) (rs0 : Nat) (krs0 : KM rs0 = (0, 10, 0)) (S : mSt) (H : Heap) (locs : List Loc) (ls : Array Slot) (hl : lv_has ls 5 [(0, .ref (b + r0)), (1, .int (mI x1)), (2, .int (mI x2))]) (hW : mW g b KM S H) (hS : va_S (mA b KM s.heap.size) s.heap H locs) (h : w_X12_wash_16 N Q  r0 x1 x2 rs0 S) : W p l e { frames := 2, cells := 0, slots := 0, locals := 45 } s m args below meth c H locs 0 0 (vx_MQ below (mQi g b KM Q (mA b KM s.heap.size)) (mEx g b KM (fun _ _ => False) (mA b KM s.heap.size)) args s 0 0 (mA b KM s.heap.size)) (F0 m 16 ls [.ref (b + rs0)]) := by
  unfold w_X12_wash_16 at h
  refine m_iconst (pc := 16) C.1 dX12_wash_16 ?_
  refine m_goto (pc := 17) (tgt := 40) C.1 dX12_wash_17 (by decide) ?_
  exact W_X12_wash_40 C N  r0 kr0 x1 ox1 x2 ox2 1 (by decide : okI 1) rs0 krs0 S _ _ _ (lv_sub hl [0, 1, 2] rfl) hW hS h
end
def w_X12_wash (N : Nat) (r0 : Nat) (x1 : Int) (x2 : Int) (S : mSt) (Q : mSt → Int → Prop) : Prop :=
  w_X12_isPart N x1 S (fun (S1 : mSt) (v1 : Int) => ((v1 = 0 → w_X12_wash_16 N Q  r0 x1 x2 r0 S1) ∧ (v1 ≠ 0 → w_X12_isSoap N r0 x2 S1 (fun (S2 : mSt) (v2 : Int) => ((v2 ≠ 0 → w_X12_ofSoap N r0 x2 1 S2 (fun (S3 : mSt) (v3 : Int) => ((v3 ≤ (S2 (r0 + 1) 5) → w_X12_wash_40 N Q  r0 x1 x2 0 r0 S3) ∧ ((S2 (r0 + 1) 5) < v3 → w_X12_wash_40 N Q  r0 x1 x2 2 r0 S3)))) ∧ (v2 = 0 → w_X12_wash_16 N Q  r0 x1 x2 r0 S2))))))
theorem T_X12_wash {l : Launch} (hl0 : l.stackTraces = false) {g : mG} {b : Nat} (N : Nat) (r0 : Nat) (kr0 : KM r0 = (0, 10, 0)) (x1 : Int) (ox1 : okI x1) (x2 : Int) (ox2 : okI x2) {S : mSt} {Q : mSt → Int → Prop} (h : w_X12_wash N r0 x1 x2 S Q) (sz : Nat) : vx_Met l yX12_wash (Cond.code yX12_wash cX12_wash 5 (some FieldType.int) :: wsG) { frames := 2, cells := 0, slots := 0, locals := 45 } (mPc g b KM S [.ref (b + r0), .int (mI x1), .int (mI x2)] sz) (mQi g b KM Q (mA b KM sz)) (mEx g b KM (fun _ _ => False) (mA b KM sz)) 0 0 (mA b KM sz) :=
  m_of (av := [.ref (b + r0), .int (mI x1), .int (mI x2)]) (Qf := fun A => mQi g b KM Q A) (Xf := fun A => mEx g b KM (fun _ _ => False) A) (by decide) (Nat.le_of_ble_eq_true rfl) (fun p e s m args below meth c ls X hK hml hr hlk hout hnm hW hl => by
    have C : mC p l s m args meth c cX12_wash "MoonWashModel" 5 (some FieldType.int) g := ⟨X, hK, hml, hr, hlk, hout, hl0⟩
    have hS : va_S (mA b KM s.heap.size) s.heap s.heap [] := va_S.rf
    have hl : lv_has ls 5 [(0, .ref (b + r0)), (1, .int (mI x1)), (2, .int (mI x2))] := hl
    unfold w_X12_wash at h
    refine m_aload_n (pc := 0) C.1 dX12_wash_0 rfl hl 0 rfl ?_
    refine m_iload_n (pc := 1) C.1 dX12_wash_1 rfl hl 1 rfl ?_
    refine m_callSi (pc := 2) C.1 C.2.2.1 hl.1 C.2.1 hW hS (As := [.int (mI x1)]) (rest := [.ref (b + r0)]) (T_X12_isPart C.2.2.2.2.2.2 N x1 ox1 h) q_1627 q_1628 q_92 q_1629 pl_X12_isPart (by decide) (Nat.le_of_ble_eq_true rfl) dX12_wash_2 (fun v1 S1 H locs ov1 h hW1 hS => ?_)
    refine m_if_eq (pc := 5) (tgt := 16) C.1 ov1 dX12_wash_5 (by decide) (fun hc => ?_) (fun hc => ?_)
    · replace h := h.1 hc
      exact W_X12_wash_16 C N  r0 kr0 x1 ox1 x2 ox2 r0 kr0 S1 _ _ _ (lv_sub hl [0, 1, 2] rfl) hW1 hS h
    · replace h := h.2 hc
      refine m_aload_n (pc := 8) C.1 dX12_wash_8 rfl hl 0 rfl ?_
      refine m_iload_n (pc := 9) C.1 dX12_wash_9 rfl hl 2 rfl ?_
      refine m_callVi (pc := 10) C.1 C.2.2.1 hl.1 C.2.1 hW1 hS (As := [.int (mI x2)]) (rest := [.ref (b + r0)]) (r := r0) (T_X12_isSoap C.2.2.2.2.2.2 N r0 kr0 x2 ox2 h) kr0 rfl q_1679 q_1681 q_57 q_92 q_1682 pl_X12_isSoap (by decide) (Nat.le_of_ble_eq_true rfl) dX12_wash_10 (fun v2 S2 H locs ov2 h hW2 hS => ?_)
      refine m_if_ne (pc := 13) (tgt := 20) C.1 ov2 dX12_wash_13 (by decide) (fun hc => ?_) (fun hc => ?_)
      · replace h := h.1 hc
        refine m_aload_n (pc := 20) C.1 dX12_wash_20 rfl hl 0 rfl ?_
        refine g_10_1 (pc := 21) C hW2 kr0 q_1384 dX12_wash_21 ?_
        refine m_iconst (pc := 24) C.1 dX12_wash_24 ?_
        refine m_iald (pc := 25) C.1 C.2.1 hW2 (k_10_1 kr0) (by decide : okI 5) (by decide) (by decide) dX12_wash_25 ?_
        refine m_aload_n (pc := 26) C.1 dX12_wash_26 rfl hl 0 rfl ?_
        refine m_iload_n (pc := 27) C.1 dX12_wash_27 rfl hl 2 rfl ?_
        refine m_iconst (pc := 28) C.1 dX12_wash_28 ?_
        refine m_callVi (pc := 29) C.1 C.2.2.1 hl.1 C.2.1 hW2 hS (As := [.int (mI x2), .int (mI 1)]) (rest := [.int (mI (S2 (r0 + 1) 5)), .ref (b + r0)]) (r := r0) (T_X12_ofSoap C.2.2.2.2.2.2 N r0 kr0 x2 ox2 1 (by decide : okI 1) h) kr0 rfl q_1671 q_1673 q_56 q_92 q_1674 pl_X12_ofSoap (by decide) (Nat.le_of_ble_eq_true rfl) dX12_wash_29 (fun v3 S3 H locs ov3 h hW3 hS => ?_)
        refine m_icmp_ge (pc := 32) (tgt := 39) C.1 (hW2.2.1 _ _) ov3 dX12_wash_32 (by decide) (fun hc => ?_) (fun hc => ?_)
        · replace h := h.1 hc
          refine m_iconst (pc := 39) C.1 dX12_wash_39 ?_
          exact W_X12_wash_40 C N  r0 kr0 x1 ox1 x2 ox2 0 (by decide : okI 0) r0 kr0 S3 _ _ _ (lv_sub hl [0, 1, 2] rfl) hW3 hS h
        · replace h := h.2 hc
          refine m_iconst (pc := 35) C.1 dX12_wash_35 ?_
          refine m_goto (pc := 36) (tgt := 40) C.1 dX12_wash_36 (by decide) ?_
          exact W_X12_wash_40 C N  r0 kr0 x1 ox1 x2 ox2 2 (by decide : okI 2) r0 kr0 S3 _ _ _ (lv_sub hl [0, 1, 2] rfl) hW3 hS h
      · replace h := h.2 hc
        exact W_X12_wash_16 C N  r0 kr0 x1 ox1 x2 ox2 r0 kr0 S2 _ _ _ (lv_sub hl [0, 1, 2] rfl) hW2 hS h) sz
section
variable {p : Program} {l : Launch} {e : Env} {s : State} {m : MethodId} {args : Array Value} {below : List Frame} {meth : Method} {c : Code} {g : mG} {b : Nat}
def w_X12_hang_57 (N : Nat) (Q : mSt → Int → Prop)  (x2 : Int) (x3 : Int) (xs0 : Int) (xs1 : Int) (xs2 : Int) (rs3 : Nat) (S : mSt) : Prop :=
  w_X12_has N rs3 xs2 xs1 xs0 S (fun (S1 : mSt) => ((x3 = x2 → Q S1 0) ∧ (x3 ≠ x2 → Q S1 1)))
theorem W_X12_hang_57 (C : mC p l s m args meth c cX12_hang "MoonWashModel" 4 (some FieldType.boolean) g) (N : Nat) {Q : mSt → Int → Prop}   (x2 : Int) (ox2 : okI x2) (x3 : Int) (ox3 : okI x3) (xs0 : Int) (oxs0 : okI xs0) (xs1 : Int) (oxs1 : okI xs1) (xs2 : Int) (oxs2 : okI xs2) (rs3 : Nat) (krs3 : KM rs3 = (0, 10, 0)) (S : mSt) (H : Heap) (locs : List Loc) (ls : Array Slot) (hl : lv_has ls 4 [(2, .int (mI x2)), (3, .int (mI x3))]) (hW : mW g b KM S H) (hS : va_S (mA b KM s.heap.size) s.heap H locs) (h : w_X12_hang_57 N Q  x2 x3 xs0 xs1 xs2 rs3 S) : W p l e { frames := 2, cells := 0, slots := 0, locals := 42 } s m args below meth c H locs 0 0 (vx_MQ below (mQi g b KM Q (mA b KM s.heap.size)) (mEx g b KM (fun _ _ => False) (mA b KM s.heap.size)) args s 0 0 (mA b KM s.heap.size)) (F0 m 57 ls [.int (mI xs0), .int (mI xs1), .int (mI xs2), .ref (b + rs3)]) := by
  unfold w_X12_hang_57 at h
  refine m_callVv (pc := 57) C.1 C.2.2.1 hl.1 C.2.1 hW hS (As := [.int (mI xs2), .int (mI xs1), .int (mI xs0)]) (rest := []) (r := rs3) (T_X12_has C.2.2.2.2.2.2 N rs3 krs3 xs2 oxs2 xs1 oxs1 xs0 oxs0 h) krs3 rfl q_1379 q_1381 q_22 q_92 q_1382 pl_X12_has (by decide) (Nat.le_of_ble_eq_true rfl) dX12_hang_57 (fun S1 H locs h hW1 hS => ?_)
  refine m_iload_n (pc := 60) C.1 dX12_hang_60 rfl hl 1 rfl ?_
  refine m_iload_n (pc := 61) C.1 dX12_hang_61 rfl hl 0 rfl ?_
  refine m_icmp_eq (pc := 62) (tgt := 69) C.1 ox3 ox2 dX12_hang_62 (by decide) (fun hc => ?_) (fun hc => ?_)
  · replace h := h.1 hc
    refine m_iconst (pc := 69) C.1 dX12_hang_69 ?_
    exact m_zret (pc := 70) C.1 C.2.2.2.1 C.2.2.2.2.1 hW1 hS (by decide) h (by decide) (by decide) dX12_hang_70
  · replace h := h.2 hc
    refine m_iconst (pc := 65) C.1 dX12_hang_65 ?_
    refine m_goto (pc := 66) (tgt := 70) C.1 dX12_hang_66 (by decide) ?_
    exact m_zret (pc := 70) C.1 C.2.2.2.1 C.2.2.2.2.1 hW1 hS (by decide) h (by decide) (by decide) dX12_hang_70
def w_X12_hang_44 (N : Nat) (Q : mSt → Int → Prop)  (r0 : Nat) (x1 : Int) (x2 : Int) (xs0 : Int) (S : mSt) : Prop :=
  ∀ v1 : Int, v1 = xs0 → ((x2 = 0 → w_X12_hang_57 N Q  x2 v1 0 4 x1 r0 S) ∧ (x2 ≠ 0 → w_X12_hang_57 N Q  x2 v1 1 4 x1 r0 S))
theorem W_X12_hang_44 (C : mC p l s m args meth c cX12_hang "MoonWashModel" 4 (some FieldType.boolean) g) (N : Nat) {Q : mSt → Int → Prop}   (r0 : Nat) (kr0 : KM r0 = (0, 10, 0)) (x1 : Int) (ox1 : okI x1) (x2 : Int) (ox2 : okI x2) (xs0 : Int) (oxs0 : okI xs0) (S : mSt) (H : Heap) (locs : List Loc) (ls : Array Slot) (hl : lv_has ls 4 [(0, .ref (b + r0)), (1, .int (mI x1)), (2, .int (mI x2))]) (hW : mW g b KM S H) (hS : va_S (mA b KM s.heap.size) s.heap H locs) (h : w_X12_hang_44 N Q  r0 x1 x2 xs0 S) : W p l e { frames := 2, cells := 0, slots := 0, locals := 42 } s m args below meth c H locs 0 0 (vx_MQ below (mQi g b KM Q (mA b KM s.heap.size)) (mEx g b KM (fun _ _ => False) (mA b KM s.heap.size)) args s 0 0 (mA b KM s.heap.size)) (F0 m 44 ls [.int (mI xs0)]) := by
  unfold w_X12_hang_44 at h
  refine m_istore_n (pc := 44) C.1 dX12_hang_44 rfl hl (by decide) (fun v => [(3, .int v), (0, .ref (b + r0)), (1, .int (mI x1)), (2, .int (mI x2))]) (fun _ => rfl) oxs0 (fun v1 ls ev1 ov1 hl => ?_)
  replace h := h v1 ev1
  refine m_aload_n (pc := 45) C.1 dX12_hang_45 rfl hl 1 rfl ?_
  refine m_iload_n (pc := 46) C.1 dX12_hang_46 rfl hl 2 rfl ?_
  refine m_iconst (pc := 47) C.1 dX12_hang_47 ?_
  refine m_iload_n (pc := 48) C.1 dX12_hang_48 rfl hl 3 rfl ?_
  refine m_if_eq (pc := 49) (tgt := 56) C.1 ox2 dX12_hang_49 (by decide) (fun hc => ?_) (fun hc => ?_)
  · replace h := h.1 hc
    refine m_iconst (pc := 56) C.1 dX12_hang_56 ?_
    exact W_X12_hang_57 C N  x2 ox2 v1 ov1 0 (by decide : okI 0) 4 (by decide : okI 4) x1 ox1 r0 kr0 S _ _ _ (lv_sub hl [3, 0] rfl) hW hS h
  · replace h := h.2 hc
    refine m_iconst (pc := 52) C.1 dX12_hang_52 ?_
    refine m_goto (pc := 53) (tgt := 57) C.1 dX12_hang_53 (by decide) ?_
    exact W_X12_hang_57 C N  x2 ox2 v1 ov1 1 (by decide : okI 1) 4 (by decide : okI 4) x1 ox1 r0 kr0 S _ _ _ (lv_sub hl [3, 0] rfl) hW hS h
def w_X12_hang_13 (N : Nat) (Q : mSt → Int → Prop)  (r0 : Nat) (x1 : Int) (x2 : Int) (xs0 : Int) (rs1 : Nat) (S : mSt) : Prop :=
  ∀ S1 : mSt, S1 = mup S rs1 0 xs0 → (((S1 r0 0) ≤ 0 → w_X12_remembers N r0 S1 (fun (S2 : mSt) => w_X12_of N r0 x1 4 S2 (fun (S3 : mSt) (v3 : Int) => ((v3 ≠ 1 → w_X12_hang_44 N Q  r0 x1 x2 0 S3) ∧ (v3 = 1 → w_X12_hang_44 N Q  r0 x1 x2 1 S3))))) ∧ (0 < (S1 r0 0) → Q S1 0))
theorem W_X12_hang_13 (C : mC p l s m args meth c cX12_hang "MoonWashModel" 4 (some FieldType.boolean) g) (N : Nat) {Q : mSt → Int → Prop}   (r0 : Nat) (kr0 : KM r0 = (0, 10, 0)) (x1 : Int) (ox1 : okI x1) (x2 : Int) (ox2 : okI x2) (xs0 : Int) (oxs0 : okI xs0) (rs1 : Nat) (krs1 : KM rs1 = (0, 10, 0)) (S : mSt) (H : Heap) (locs : List Loc) (ls : Array Slot) (hl : lv_has ls 4 [(0, .ref (b + r0)), (1, .int (mI x1)), (2, .int (mI x2))]) (hW : mW g b KM S H) (hS : va_S (mA b KM s.heap.size) s.heap H locs) (h : w_X12_hang_13 N Q  r0 x1 x2 xs0 rs1 S) : W p l e { frames := 2, cells := 0, slots := 0, locals := 42 } s m args below meth c H locs 0 0 (vx_MQ below (mQi g b KM Q (mA b KM s.heap.size)) (mEx g b KM (fun _ _ => False) (mA b KM s.heap.size)) args s 0 0 (mA b KM s.heap.size)) (F0 m 13 ls [.int (mI xs0), .ref (b + rs1)]) := by
  unfold w_X12_hang_13 at h
  refine p_10_0 (pc := 13) C hW hS krs1 q_1383 oxs0 dX12_hang_13 (fun S1 H locs e1 hW1 hS => ?_)
  replace h := h S1 e1
  refine m_aload_n (pc := 16) C.1 dX12_hang_16 rfl hl 0 rfl ?_
  refine g_10_0 (pc := 17) C hW1 kr0 q_1383 dX12_hang_17 ?_
  refine m_if_le (pc := 20) (tgt := 25) C.1 (hW1.2.1 _ _) dX12_hang_20 (by decide) (fun hc => ?_) (fun hc => ?_)
  · replace h := h.1 hc
    refine m_aload_n (pc := 25) C.1 dX12_hang_25 rfl hl 0 rfl ?_
    refine m_callVv (pc := 26) C.1 C.2.2.1 hl.1 C.2.1 hW1 hS (As := []) (rest := []) (r := r0) (T_X12_remembers C.2.2.2.2.2.2 N r0 kr0 h) kr0 rfl q_1699 q_1701 q_59 q_92 q_1702 pl_X12_remembers (by decide) (Nat.le_of_ble_eq_true rfl) dX12_hang_26 (fun S2 H locs h hW2 hS => ?_)
    refine m_aload_n (pc := 29) C.1 dX12_hang_29 rfl hl 0 rfl ?_
    refine m_iload_n (pc := 30) C.1 dX12_hang_30 rfl hl 1 rfl ?_
    refine m_iconst (pc := 31) C.1 dX12_hang_31 ?_
    refine m_callVi (pc := 32) C.1 C.2.2.1 hl.1 C.2.1 hW2 hS (As := [.int (mI x1), .int (mI 4)]) (rest := []) (r := r0) (T_X12_of C.2.2.2.2.2.2 N r0 kr0 x1 ox1 4 (by decide : okI 4) h) kr0 rfl q_1630 q_1632 q_48 q_92 q_1633 pl_X12_of (by decide) (Nat.le_of_ble_eq_true rfl) dX12_hang_32 (fun v3 S3 H locs ov3 h hW3 hS => ?_)
    refine m_iconst (pc := 35) C.1 dX12_hang_35 ?_
    refine m_icmp_ne (pc := 36) (tgt := 43) C.1 ov3 (by decide : okI 1) dX12_hang_36 (by decide) (fun hc => ?_) (fun hc => ?_)
    · replace h := h.1 hc
      refine m_iconst (pc := 43) C.1 dX12_hang_43 ?_
      exact W_X12_hang_44 C N  r0 kr0 x1 ox1 x2 ox2 0 (by decide : okI 0) S3 _ _ _ (lv_sub hl [0, 1, 2] rfl) hW3 hS h
    · replace h := h.2 hc
      refine m_iconst (pc := 39) C.1 dX12_hang_39 ?_
      refine m_goto (pc := 40) (tgt := 44) C.1 dX12_hang_40 (by decide) ?_
      exact W_X12_hang_44 C N  r0 kr0 x1 ox1 x2 ox2 1 (by decide : okI 1) S3 _ _ _ (lv_sub hl [0, 1, 2] rfl) hW3 hS h
  · replace h := h.2 hc
    refine m_iconst (pc := 23) C.1 dX12_hang_23 ?_
    exact m_zret (pc := 24) C.1 C.2.2.2.1 C.2.2.2.2.1 hW1 hS (by decide) h (by decide) (by decide) dX12_hang_24
end
def w_X12_hang (N : Nat) (r0 : Nat) (x1 : Int) (x2 : Int) (S : mSt) (Q : mSt → Int → Prop) : Prop :=
  w_X12_isPart N x1 S (fun (S1 : mSt) (v1 : Int) => ((v1 ≠ 0 → w_X12_hang_13 N Q  r0 x1 x2 0 r0 S1) ∧ (v1 = 0 → w_X12_hang_13 N Q  r0 x1 x2 1 r0 S1)))
theorem T_X12_hang {l : Launch} (hl0 : l.stackTraces = false) {g : mG} {b : Nat} (N : Nat) (r0 : Nat) (kr0 : KM r0 = (0, 10, 0)) (x1 : Int) (ox1 : okI x1) (x2 : Int) (ox2 : okI x2) {S : mSt} {Q : mSt → Int → Prop} (h : w_X12_hang N r0 x1 x2 S Q) (sz : Nat) : vx_Met l yX12_hang (Cond.code yX12_hang cX12_hang 4 (some FieldType.boolean) :: wsG) { frames := 2, cells := 0, slots := 0, locals := 42 } (mPc g b KM S [.ref (b + r0), .int (mI x1), .int (mI x2)] sz) (mQi g b KM Q (mA b KM sz)) (mEx g b KM (fun _ _ => False) (mA b KM sz)) 0 0 (mA b KM sz) :=
  m_of (av := [.ref (b + r0), .int (mI x1), .int (mI x2)]) (Qf := fun A => mQi g b KM Q A) (Xf := fun A => mEx g b KM (fun _ _ => False) A) (by decide) (Nat.le_of_ble_eq_true rfl) (fun p e s m args below meth c ls X hK hml hr hlk hout hnm hW hl => by
    have C : mC p l s m args meth c cX12_hang "MoonWashModel" 4 (some FieldType.boolean) g := ⟨X, hK, hml, hr, hlk, hout, hl0⟩
    have hS : va_S (mA b KM s.heap.size) s.heap s.heap [] := va_S.rf
    have hl : lv_has ls 4 [(0, .ref (b + r0)), (1, .int (mI x1)), (2, .int (mI x2))] := hl
    unfold w_X12_hang at h
    refine m_aload_n (pc := 0) C.1 dX12_hang_0 rfl hl 0 rfl ?_
    refine m_iload_n (pc := 1) C.1 dX12_hang_1 rfl hl 1 rfl ?_
    refine m_callSi (pc := 2) C.1 C.2.2.1 hl.1 C.2.1 hW hS (As := [.int (mI x1)]) (rest := [.ref (b + r0)]) (T_X12_isPart C.2.2.2.2.2.2 N x1 ox1 h) q_1627 q_1628 q_92 q_1629 pl_X12_isPart (by decide) (Nat.le_of_ble_eq_true rfl) dX12_hang_2 (fun v1 S1 H locs ov1 h hW1 hS => ?_)
    refine m_if_ne (pc := 5) (tgt := 12) C.1 ov1 dX12_hang_5 (by decide) (fun hc => ?_) (fun hc => ?_)
    · replace h := h.1 hc
      refine m_iconst (pc := 12) C.1 dX12_hang_12 ?_
      exact W_X12_hang_13 C N  r0 kr0 x1 ox1 x2 ox2 0 (by decide : okI 0) r0 kr0 S1 _ _ _ (lv_sub hl [0, 1, 2] rfl) hW1 hS h
    · replace h := h.2 hc
      refine m_iconst (pc := 8) C.1 dX12_hang_8 ?_
      refine m_goto (pc := 9) (tgt := 13) C.1 dX12_hang_9 (by decide) ?_
      exact W_X12_hang_13 C N  r0 kr0 x1 ox1 x2 ox2 1 (by decide : okI 1) r0 kr0 S1 _ _ _ (lv_sub hl [0, 1, 2] rfl) hW1 hS h) sz
section
variable {p : Program} {l : Launch} {e : Env} {s : State} {m : MethodId} {args : Array Value} {below : List Frame} {meth : Method} {c : Code} {g : mG} {b : Nat}
def w_X12_darn_27 (N : Nat) (Q : mSt → Int → Prop)  (r0 : Nat) (x1 : Int) (xs0 : Int) (rs1 : Nat) (S : mSt) : Prop :=
  ∀ S1 : mSt, S1 = mup S rs1 0 xs0 → (((S1 r0 0) ≤ 0 → w_X12_remembers N r0 S1 (fun (S2 : mSt) => ∀ S3 : mSt, S3 = mup S2 (r0 + 1) 5 (nm ((S2 (r0 + 1) 5) - 2)) → w_X12_of N r0 x1 1 S3 (fun (S4 : mSt) (v4 : Int) => w_X12_greater N 0 (nm (v4 - 3)) S4 (fun (S5 : mSt) (v5 : Int) => w_X12_has N r0 x1 1 v5 S5 (fun (S6 : mSt) => w_X12_of N r0 x1 1 S6 (fun (S7 : mSt) (v7 : Int) => Q S7 v7)))))) ∧ (0 < (S1 r0 0) → Q S1 0))
theorem W_X12_darn_27 (C : mC p l s m args meth c cX12_darn "MoonWashModel" 2 (some FieldType.int) g) (N : Nat) {Q : mSt → Int → Prop}   (r0 : Nat) (kr0 : KM r0 = (0, 10, 0)) (x1 : Int) (ox1 : okI x1) (xs0 : Int) (oxs0 : okI xs0) (rs1 : Nat) (krs1 : KM rs1 = (0, 10, 0)) (S : mSt) (H : Heap) (locs : List Loc) (ls : Array Slot) (hl : lv_has ls 2 [(0, .ref (b + r0)), (1, .int (mI x1))]) (hW : mW g b KM S H) (hS : va_S (mA b KM s.heap.size) s.heap H locs) (h : w_X12_darn_27 N Q  r0 x1 xs0 rs1 S) : W p l e { frames := 2, cells := 0, slots := 0, locals := 42 } s m args below meth c H locs 0 0 (vx_MQ below (mQi g b KM Q (mA b KM s.heap.size)) (mEx g b KM (fun _ _ => False) (mA b KM s.heap.size)) args s 0 0 (mA b KM s.heap.size)) (F0 m 27 ls [.int (mI xs0), .ref (b + rs1)]) := by
  unfold w_X12_darn_27 at h
  refine p_10_0 (pc := 27) C hW hS krs1 q_1383 oxs0 dX12_darn_27 (fun S1 H locs e1 hW1 hS => ?_)
  replace h := h S1 e1
  refine m_aload_n (pc := 30) C.1 dX12_darn_30 rfl hl 0 rfl ?_
  refine g_10_0 (pc := 31) C hW1 kr0 q_1383 dX12_darn_31 ?_
  refine m_if_le (pc := 34) (tgt := 39) C.1 (hW1.2.1 _ _) dX12_darn_34 (by decide) (fun hc => ?_) (fun hc => ?_)
  · replace h := h.1 hc
    refine m_aload_n (pc := 39) C.1 dX12_darn_39 rfl hl 0 rfl ?_
    refine m_callVv (pc := 40) C.1 C.2.2.1 hl.1 C.2.1 hW1 hS (As := []) (rest := []) (r := r0) (T_X12_remembers C.2.2.2.2.2.2 N r0 kr0 h) kr0 rfl q_1699 q_1701 q_59 q_92 q_1702 pl_X12_remembers (by decide) (Nat.le_of_ble_eq_true rfl) dX12_darn_40 (fun S2 H locs h hW2 hS => ?_)
    refine m_aload_n (pc := 43) C.1 dX12_darn_43 rfl hl 0 rfl ?_
    refine g_10_1 (pc := 44) C hW2 kr0 q_1384 dX12_darn_44 ?_
    refine m_iconst (pc := 47) C.1 dX12_darn_47 ?_
    refine lv_dup2_11 (pc := 48) C.1.1 C.1.2.1 dX12_darn_48 rfl rfl ?_
    refine m_iald (pc := 49) C.1 C.2.1 hW2 (k_10_1 kr0) (by decide : okI 5) (by decide) (by decide) dX12_darn_49 ?_
    refine m_iconst (pc := 50) C.1 dX12_darn_50 ?_
    refine m_isub (pc := 51) C.1 dX12_darn_51 ?_
    refine m_iast (pc := 52) C.1 C.2.1 hW2 hS (k_10_1 kr0) (by decide : okI 5) (nm_ok _) (by decide) (by decide) dX12_darn_52 (fun S3 H locs e3 hW3 hS => ?_)
    replace h := h S3 e3
    refine m_aload_n (pc := 53) C.1 dX12_darn_53 rfl hl 0 rfl ?_
    refine m_iload_n (pc := 54) C.1 dX12_darn_54 rfl hl 1 rfl ?_
    refine m_iconst (pc := 55) C.1 dX12_darn_55 ?_
    refine m_iconst (pc := 56) C.1 dX12_darn_56 ?_
    refine m_aload_n (pc := 57) C.1 dX12_darn_57 rfl hl 0 rfl ?_
    refine m_iload_n (pc := 58) C.1 dX12_darn_58 rfl hl 1 rfl ?_
    refine m_iconst (pc := 59) C.1 dX12_darn_59 ?_
    refine m_callVi (pc := 60) C.1 C.2.2.1 hl.1 C.2.1 hW3 hS (As := [.int (mI x1), .int (mI 1)]) (rest := [.int (mI 0), .int (mI 1), .int (mI x1), .ref (b + r0)]) (r := r0) (T_X12_of C.2.2.2.2.2.2 N r0 kr0 x1 ox1 1 (by decide : okI 1) h) kr0 rfl q_1630 q_1632 q_48 q_92 q_1633 pl_X12_of (by decide) (Nat.le_of_ble_eq_true rfl) dX12_darn_60 (fun v4 S4 H locs ov4 h hW4 hS => ?_)
    refine m_iconst (pc := 63) C.1 dX12_darn_63 ?_
    refine m_isub (pc := 64) C.1 dX12_darn_64 ?_
    refine m_callSi (pc := 65) C.1 C.2.2.1 hl.1 C.2.1 hW4 hS (As := [.int (mI 0), .int (mI (nm (v4 - 3)))]) (rest := [.int (mI 1), .int (mI x1), .ref (b + r0)]) (T_X12_greater C.2.2.2.2.2.2 N 0 (by decide : okI 0) (nm (v4 - 3)) (nm_ok _) h) q_1652 q_1653 q_92 q_1654 pl_X12_greater (by decide) (Nat.le_of_ble_eq_true rfl) dX12_darn_65 (fun v5 S5 H locs ov5 h hW5 hS => ?_)
    refine m_callVv (pc := 68) C.1 C.2.2.1 hl.1 C.2.1 hW5 hS (As := [.int (mI x1), .int (mI 1), .int (mI v5)]) (rest := []) (r := r0) (T_X12_has C.2.2.2.2.2.2 N r0 kr0 x1 ox1 1 (by decide : okI 1) v5 ov5 h) kr0 rfl q_1379 q_1381 q_22 q_92 q_1382 pl_X12_has (by decide) (Nat.le_of_ble_eq_true rfl) dX12_darn_68 (fun S6 H locs h hW6 hS => ?_)
    refine m_aload_n (pc := 71) C.1 dX12_darn_71 rfl hl 0 rfl ?_
    refine m_iload_n (pc := 72) C.1 dX12_darn_72 rfl hl 1 rfl ?_
    refine m_iconst (pc := 73) C.1 dX12_darn_73 ?_
    refine m_callVi (pc := 74) C.1 C.2.2.1 hl.1 C.2.1 hW6 hS (As := [.int (mI x1), .int (mI 1)]) (rest := []) (r := r0) (T_X12_of C.2.2.2.2.2.2 N r0 kr0 x1 ox1 1 (by decide : okI 1) h) kr0 rfl q_1630 q_1632 q_48 q_92 q_1633 pl_X12_of (by decide) (Nat.le_of_ble_eq_true rfl) dX12_darn_74 (fun v7 S7 H locs ov7 h hW7 hS => ?_)
    exact m_iret (pc := 77) C.1 C.2.2.2.1 C.2.2.2.2.1 hW7 hS ov7 h (by decide) (by decide) dX12_darn_77
  · replace h := h.2 hc
    refine m_iconst (pc := 37) C.1 dX12_darn_37 ?_
    exact m_iret (pc := 38) C.1 C.2.2.2.1 C.2.2.2.2.1 hW1 hS (by decide : okI 0) h (by decide) (by decide) dX12_darn_38
end
def w_X12_darn (N : Nat) (r0 : Nat) (x1 : Int) (S : mSt) (Q : mSt → Int → Prop) : Prop :=
  w_X12_isPart N x1 S (fun (S1 : mSt) (v1 : Int) => ((v1 ≠ 0 → ((2 ≤ (S1 (r0 + 1) 5) → w_X12_darn_27 N Q  r0 x1 0 r0 S1) ∧ ((S1 (r0 + 1) 5) < 2 → w_X12_darn_27 N Q  r0 x1 2 r0 S1))) ∧ (v1 = 0 → w_X12_darn_27 N Q  r0 x1 1 r0 S1)))
theorem T_X12_darn {l : Launch} (hl0 : l.stackTraces = false) {g : mG} {b : Nat} (N : Nat) (r0 : Nat) (kr0 : KM r0 = (0, 10, 0)) (x1 : Int) (ox1 : okI x1) {S : mSt} {Q : mSt → Int → Prop} (h : w_X12_darn N r0 x1 S Q) (sz : Nat) : vx_Met l yX12_darn (Cond.code yX12_darn cX12_darn 2 (some FieldType.int) :: wsG) { frames := 2, cells := 0, slots := 0, locals := 42 } (mPc g b KM S [.ref (b + r0), .int (mI x1)] sz) (mQi g b KM Q (mA b KM sz)) (mEx g b KM (fun _ _ => False) (mA b KM sz)) 0 0 (mA b KM sz) :=
  m_of (av := [.ref (b + r0), .int (mI x1)]) (Qf := fun A => mQi g b KM Q A) (Xf := fun A => mEx g b KM (fun _ _ => False) A) (by decide) (Nat.le_of_ble_eq_true rfl) (fun p e s m args below meth c ls X hK hml hr hlk hout hnm hW hl => by
    have C : mC p l s m args meth c cX12_darn "MoonWashModel" 2 (some FieldType.int) g := ⟨X, hK, hml, hr, hlk, hout, hl0⟩
    have hS : va_S (mA b KM s.heap.size) s.heap s.heap [] := va_S.rf
    have hl : lv_has ls 2 [(0, .ref (b + r0)), (1, .int (mI x1))] := hl
    unfold w_X12_darn at h
    refine m_aload_n (pc := 0) C.1 dX12_darn_0 rfl hl 0 rfl ?_
    refine m_iload_n (pc := 1) C.1 dX12_darn_1 rfl hl 1 rfl ?_
    refine m_callSi (pc := 2) C.1 C.2.2.1 hl.1 C.2.1 hW hS (As := [.int (mI x1)]) (rest := [.ref (b + r0)]) (T_X12_isPart C.2.2.2.2.2.2 N x1 ox1 h) q_1627 q_1628 q_92 q_1629 pl_X12_isPart (by decide) (Nat.le_of_ble_eq_true rfl) dX12_darn_2 (fun v1 S1 H locs ov1 h hW1 hS => ?_)
    refine m_if_ne (pc := 5) (tgt := 12) C.1 ov1 dX12_darn_5 (by decide) (fun hc => ?_) (fun hc => ?_)
    · replace h := h.1 hc
      refine m_aload_n (pc := 12) C.1 dX12_darn_12 rfl hl 0 rfl ?_
      refine g_10_1 (pc := 13) C hW1 kr0 q_1384 dX12_darn_13 ?_
      refine m_iconst (pc := 16) C.1 dX12_darn_16 ?_
      refine m_iald (pc := 17) C.1 C.2.1 hW1 (k_10_1 kr0) (by decide : okI 5) (by decide) (by decide) dX12_darn_17 ?_
      refine m_iconst (pc := 18) C.1 dX12_darn_18 ?_
      refine m_icmp_ge (pc := 19) (tgt := 26) C.1 (hW1.2.1 _ _) (by decide : okI 2) dX12_darn_19 (by decide) (fun hc => ?_) (fun hc => ?_)
      · replace h := h.1 hc
        refine m_iconst (pc := 26) C.1 dX12_darn_26 ?_
        exact W_X12_darn_27 C N  r0 kr0 x1 ox1 0 (by decide : okI 0) r0 kr0 S1 _ _ _ (lv_sub hl [0, 1] rfl) hW1 hS h
      · replace h := h.2 hc
        refine m_iconst (pc := 22) C.1 dX12_darn_22 ?_
        refine m_goto (pc := 23) (tgt := 27) C.1 dX12_darn_23 (by decide) ?_
        exact W_X12_darn_27 C N  r0 kr0 x1 ox1 2 (by decide : okI 2) r0 kr0 S1 _ _ _ (lv_sub hl [0, 1] rfl) hW1 hS h
    · replace h := h.2 hc
      refine m_iconst (pc := 8) C.1 dX12_darn_8 ?_
      refine m_goto (pc := 9) (tgt := 27) C.1 dX12_darn_9 (by decide) ?_
      exact W_X12_darn_27 C N  r0 kr0 x1 ox1 1 (by decide : okI 1) r0 kr0 S1 _ _ _ (lv_sub hl [0, 1] rfl) hW1 hS h) sz
section
variable {p : Program} {l : Launch} {e : Env} {s : State} {m : MethodId} {args : Array Value} {below : List Frame} {meth : Method} {c : Code} {g : mG} {b : Nat}
def w_X12_move_20 (N : Nat) (Q : mSt → Int → Prop)  (r0 : Nat) (x1 : Int) (x2 : Int) (xs0 : Int) (rs1 : Nat) (S : mSt) : Prop :=
  ∀ S1 : mSt, S1 = mup S rs1 0 xs0 → (((S1 r0 0) ≤ 0 → w_X12_remembers N r0 S1 (fun (S2 : mSt) => w_X12_partOn N r0 x2 S2 (fun (S3 : mSt) (v3 : Int) => ∀ v4 : Int, v4 = v3 → w_X12_of N r0 x1 5 S3 (fun (S5 : mSt) (v5 : Int) => w_X12_has N r0 v4 5 v5 S5 (fun (S6 : mSt) => w_X12_has N r0 x1 5 x2 S6 (fun (S7 : mSt) => Q S7 v4)))))) ∧ (0 < (S1 r0 0) → Q S1 0))
theorem W_X12_move_20 (C : mC p l s m args meth c cX12_move "MoonWashModel" 4 (some FieldType.int) g) (N : Nat) {Q : mSt → Int → Prop}   (r0 : Nat) (kr0 : KM r0 = (0, 10, 0)) (x1 : Int) (ox1 : okI x1) (x2 : Int) (ox2 : okI x2) (xs0 : Int) (oxs0 : okI xs0) (rs1 : Nat) (krs1 : KM rs1 = (0, 10, 0)) (S : mSt) (H : Heap) (locs : List Loc) (ls : Array Slot) (hl : lv_has ls 4 [(0, .ref (b + r0)), (1, .int (mI x1)), (2, .int (mI x2))]) (hW : mW g b KM S H) (hS : va_S (mA b KM s.heap.size) s.heap H locs) (h : w_X12_move_20 N Q  r0 x1 x2 xs0 rs1 S) : W p l e { frames := 2, cells := 0, slots := 0, locals := 44 } s m args below meth c H locs 0 0 (vx_MQ below (mQi g b KM Q (mA b KM s.heap.size)) (mEx g b KM (fun _ _ => False) (mA b KM s.heap.size)) args s 0 0 (mA b KM s.heap.size)) (F0 m 20 ls [.int (mI xs0), .ref (b + rs1)]) := by
  unfold w_X12_move_20 at h
  refine p_10_0 (pc := 20) C hW hS krs1 q_1383 oxs0 dX12_move_20 (fun S1 H locs e1 hW1 hS => ?_)
  replace h := h S1 e1
  refine m_aload_n (pc := 23) C.1 dX12_move_23 rfl hl 0 rfl ?_
  refine g_10_0 (pc := 24) C hW1 kr0 q_1383 dX12_move_24 ?_
  refine m_if_le (pc := 27) (tgt := 32) C.1 (hW1.2.1 _ _) dX12_move_27 (by decide) (fun hc => ?_) (fun hc => ?_)
  · replace h := h.1 hc
    refine m_aload_n (pc := 32) C.1 dX12_move_32 rfl hl 0 rfl ?_
    refine m_callVv (pc := 33) C.1 C.2.2.1 hl.1 C.2.1 hW1 hS (As := []) (rest := []) (r := r0) (T_X12_remembers C.2.2.2.2.2.2 N r0 kr0 h) kr0 rfl q_1699 q_1701 q_59 q_92 q_1702 pl_X12_remembers (by decide) (Nat.le_of_ble_eq_true rfl) dX12_move_33 (fun S2 H locs h hW2 hS => ?_)
    refine m_aload_n (pc := 36) C.1 dX12_move_36 rfl hl 0 rfl ?_
    refine m_iload_n (pc := 37) C.1 dX12_move_37 rfl hl 2 rfl ?_
    refine m_callVi (pc := 38) C.1 C.2.2.1 hl.1 C.2.1 hW2 hS (As := [.int (mI x2)]) (rest := []) (r := r0) (T_X12_partOn C.2.2.2.2.2.2 N r0 kr0 x2 ox2 h) kr0 rfl q_1687 q_1689 q_58 q_92 q_1690 pl_X12_partOn (by decide) (Nat.le_of_ble_eq_true rfl) dX12_move_38 (fun v3 S3 H locs ov3 h hW3 hS => ?_)
    refine m_istore_n (pc := 41) C.1 dX12_move_41 rfl hl (by decide) (fun v => [(3, .int v), (0, .ref (b + r0)), (1, .int (mI x1)), (2, .int (mI x2))]) (fun _ => rfl) ov3 (fun v4 ls ev4 ov4 hl => ?_)
    replace h := h v4 ev4
    refine m_aload_n (pc := 42) C.1 dX12_move_42 rfl hl 1 rfl ?_
    refine m_iload_n (pc := 43) C.1 dX12_move_43 rfl hl 0 rfl ?_
    refine m_iconst (pc := 44) C.1 dX12_move_44 ?_
    refine m_aload_n (pc := 45) C.1 dX12_move_45 rfl hl 1 rfl ?_
    refine m_iload_n (pc := 46) C.1 dX12_move_46 rfl hl 2 rfl ?_
    refine m_iconst (pc := 47) C.1 dX12_move_47 ?_
    refine m_callVi (pc := 48) C.1 C.2.2.1 hl.1 C.2.1 hW3 hS (As := [.int (mI x1), .int (mI 5)]) (rest := [.int (mI 5), .int (mI v4), .ref (b + r0)]) (r := r0) (T_X12_of C.2.2.2.2.2.2 N r0 kr0 x1 ox1 5 (by decide : okI 5) h) kr0 rfl q_1630 q_1632 q_48 q_92 q_1633 pl_X12_of (by decide) (Nat.le_of_ble_eq_true rfl) dX12_move_48 (fun v5 S5 H locs ov5 h hW5 hS => ?_)
    refine m_callVv (pc := 51) C.1 C.2.2.1 hl.1 C.2.1 hW5 hS (As := [.int (mI v4), .int (mI 5), .int (mI v5)]) (rest := []) (r := r0) (T_X12_has C.2.2.2.2.2.2 N r0 kr0 v4 ov4 5 (by decide : okI 5) v5 ov5 h) kr0 rfl q_1379 q_1381 q_22 q_92 q_1382 pl_X12_has (by decide) (Nat.le_of_ble_eq_true rfl) dX12_move_51 (fun S6 H locs h hW6 hS => ?_)
    refine m_aload_n (pc := 54) C.1 dX12_move_54 rfl hl 1 rfl ?_
    refine m_iload_n (pc := 55) C.1 dX12_move_55 rfl hl 2 rfl ?_
    refine m_iconst (pc := 56) C.1 dX12_move_56 ?_
    refine m_iload_n (pc := 57) C.1 dX12_move_57 rfl hl 3 rfl ?_
    refine m_callVv (pc := 58) C.1 C.2.2.1 hl.1 C.2.1 hW6 hS (As := [.int (mI x1), .int (mI 5), .int (mI x2)]) (rest := []) (r := r0) (T_X12_has C.2.2.2.2.2.2 N r0 kr0 x1 ox1 5 (by decide : okI 5) x2 ox2 h) kr0 rfl q_1379 q_1381 q_22 q_92 q_1382 pl_X12_has (by decide) (Nat.le_of_ble_eq_true rfl) dX12_move_58 (fun S7 H locs h hW7 hS => ?_)
    refine m_iload_n (pc := 61) C.1 dX12_move_61 rfl hl 0 rfl ?_
    exact m_iret (pc := 62) C.1 C.2.2.2.1 C.2.2.2.2.1 hW7 hS ov4 h (by decide) (by decide) dX12_move_62
  · replace h := h.2 hc
    refine m_iconst (pc := 30) C.1 dX12_move_30 ?_
    exact m_iret (pc := 31) C.1 C.2.2.2.1 C.2.2.2.2.1 hW1 hS (by decide : okI 0) h (by decide) (by decide) dX12_move_31
def w_X12_move_15 (N : Nat) (Q : mSt → Int → Prop)  (r0 : Nat) (x1 : Int) (x2 : Int) (rs0 : Nat) (S : mSt) : Prop :=
  w_X12_move_20 N Q  r0 x1 x2 1 rs0 S
theorem W_X12_move_15 (C : mC p l s m args meth c cX12_move "MoonWashModel" 4 (some FieldType.int) g) (N : Nat) {Q : mSt → Int → Prop}   (r0 : Nat) (kr0 : KM r0 = (0, 10, 0)) (x1 : Int) (ox1 : okI x1) (x2 : Int) (ox2 : okI x2) (rs0 : Nat) (krs0 : KM rs0 = (0, 10, 0)) (S : mSt) (H : Heap) (locs : List Loc) (ls : Array Slot) (hl : lv_has ls 4 [(0, .ref (b + r0)), (1, .int (mI x1)), (2, .int (mI x2))]) (hW : mW g b KM S H) (hS : va_S (mA b KM s.heap.size) s.heap H locs) (h : w_X12_move_15 N Q  r0 x1 x2 rs0 S) : W p l e { frames := 2, cells := 0, slots := 0, locals := 44 } s m args below meth c H locs 0 0 (vx_MQ below (mQi g b KM Q (mA b KM s.heap.size)) (mEx g b KM (fun _ _ => False) (mA b KM s.heap.size)) args s 0 0 (mA b KM s.heap.size)) (F0 m 15 ls [.ref (b + rs0)]) := by
  unfold w_X12_move_15 at h
  refine m_iconst (pc := 15) C.1 dX12_move_15 ?_
  refine m_goto (pc := 16) (tgt := 20) C.1 dX12_move_16 (by decide) ?_
  exact W_X12_move_20 C N  r0 kr0 x1 ox1 x2 ox2 1 (by decide : okI 1) rs0 krs0 S _ _ _ (lv_sub hl [0, 1, 2] rfl) hW hS h
end
def w_X12_move (N : Nat) (r0 : Nat) (x1 : Int) (x2 : Int) (S : mSt) (Q : mSt → Int → Prop) : Prop :=
  w_X12_isPart N x1 S (fun (S1 : mSt) (v1 : Int) => ((v1 = 0 → w_X12_move_15 N Q  r0 x1 x2 r0 S1) ∧ (v1 ≠ 0 → w_X12_isPart N x2 S1 (fun (S2 : mSt) (v2 : Int) => ((v2 ≠ 0 → w_X12_move_20 N Q  r0 x1 x2 0 r0 S2) ∧ (v2 = 0 → w_X12_move_15 N Q  r0 x1 x2 r0 S2))))))
theorem T_X12_move {l : Launch} (hl0 : l.stackTraces = false) {g : mG} {b : Nat} (N : Nat) (r0 : Nat) (kr0 : KM r0 = (0, 10, 0)) (x1 : Int) (ox1 : okI x1) (x2 : Int) (ox2 : okI x2) {S : mSt} {Q : mSt → Int → Prop} (h : w_X12_move N r0 x1 x2 S Q) (sz : Nat) : vx_Met l yX12_move (Cond.code yX12_move cX12_move 4 (some FieldType.int) :: wsG) { frames := 2, cells := 0, slots := 0, locals := 44 } (mPc g b KM S [.ref (b + r0), .int (mI x1), .int (mI x2)] sz) (mQi g b KM Q (mA b KM sz)) (mEx g b KM (fun _ _ => False) (mA b KM sz)) 0 0 (mA b KM sz) :=
  m_of (av := [.ref (b + r0), .int (mI x1), .int (mI x2)]) (Qf := fun A => mQi g b KM Q A) (Xf := fun A => mEx g b KM (fun _ _ => False) A) (by decide) (Nat.le_of_ble_eq_true rfl) (fun p e s m args below meth c ls X hK hml hr hlk hout hnm hW hl => by
    have C : mC p l s m args meth c cX12_move "MoonWashModel" 4 (some FieldType.int) g := ⟨X, hK, hml, hr, hlk, hout, hl0⟩
    have hS : va_S (mA b KM s.heap.size) s.heap s.heap [] := va_S.rf
    have hl : lv_has ls 4 [(0, .ref (b + r0)), (1, .int (mI x1)), (2, .int (mI x2))] := hl
    unfold w_X12_move at h
    refine m_aload_n (pc := 0) C.1 dX12_move_0 rfl hl 0 rfl ?_
    refine m_iload_n (pc := 1) C.1 dX12_move_1 rfl hl 1 rfl ?_
    refine m_callSi (pc := 2) C.1 C.2.2.1 hl.1 C.2.1 hW hS (As := [.int (mI x1)]) (rest := [.ref (b + r0)]) (T_X12_isPart C.2.2.2.2.2.2 N x1 ox1 h) q_1627 q_1628 q_92 q_1629 pl_X12_isPart (by decide) (Nat.le_of_ble_eq_true rfl) dX12_move_2 (fun v1 S1 H locs ov1 h hW1 hS => ?_)
    refine m_if_eq (pc := 5) (tgt := 15) C.1 ov1 dX12_move_5 (by decide) (fun hc => ?_) (fun hc => ?_)
    · replace h := h.1 hc
      exact W_X12_move_15 C N  r0 kr0 x1 ox1 x2 ox2 r0 kr0 S1 _ _ _ (lv_sub hl [0, 1, 2] rfl) hW1 hS h
    · replace h := h.2 hc
      refine m_iload_n (pc := 8) C.1 dX12_move_8 rfl hl 2 rfl ?_
      refine m_callSi (pc := 9) C.1 C.2.2.1 hl.1 C.2.1 hW1 hS (As := [.int (mI x2)]) (rest := [.ref (b + r0)]) (T_X12_isPart C.2.2.2.2.2.2 N x2 ox2 h) q_1627 q_1628 q_92 q_1629 pl_X12_isPart (by decide) (Nat.le_of_ble_eq_true rfl) dX12_move_9 (fun v2 S2 H locs ov2 h hW2 hS => ?_)
      refine m_if_ne (pc := 12) (tgt := 19) C.1 ov2 dX12_move_12 (by decide) (fun hc => ?_) (fun hc => ?_)
      · replace h := h.1 hc
        refine m_iconst (pc := 19) C.1 dX12_move_19 ?_
        exact W_X12_move_20 C N  r0 kr0 x1 ox1 x2 ox2 0 (by decide : okI 0) r0 kr0 S2 _ _ _ (lv_sub hl [0, 1, 2] rfl) hW2 hS h
      · replace h := h.2 hc
        exact W_X12_move_15 C N  r0 kr0 x1 ox1 x2 ox2 r0 kr0 S2 _ _ _ (lv_sub hl [0, 1, 2] rfl) hW2 hS h) sz
section
variable {p : Program} {l : Launch} {e : Env} {s : State} {m : MethodId} {args : Array Value} {below : List Frame} {meth : Method} {c : Code} {g : mG} {b : Nat}
def w_X12_drop_47b (N : Nat) (Q : mSt → Int → Prop) (ko47 : Nat → Int → mSt → Prop) (ko82 : Nat → mSt → Prop) (r0 : Nat) (x2 : Int) (S : mSt) : Prop :=
  (((nm (70 + (nm (4 * (S (r0 + 1) 3))))) ≤ x2 → ko82 r0 S) ∧ (x2 < (nm (70 + (nm (4 * (S (r0 + 1) 3))))) → (0 ≤ (nm (x2 + 4)) ∧ (nm (x2 + 4)) < 750 ∧ (0 ≤ x2 ∧ x2 < 750 ∧ ∀ S3 : mSt, S3 = mup S (r0 + 1) x2 (S (r0 + 1) (nm (x2 + 4))) → ∀ v4 : Int, v4 = nm (x2 + 1) → ko47 r0 v4 S3))))
theorem W_X12_drop_47b (C : mC p l s m args meth c cX12_drop "MoonWashModel" 3 (some FieldType.int) g) (N : Nat) {Q : mSt → Int → Prop} {ko47 : Nat → Int → mSt → Prop} {ko82 : Nat → mSt → Prop} (hko47 : ∀ (r0 : Nat) (kr0 : KM r0 = (0, 10, 0)) (x2 : Int) (ox2 : okI x2) (S : mSt) (H : Heap) (locs : List Loc) (ls : Array Slot), lv_has ls 3 [(0, .ref (b + r0)), (2, .int (mI x2))] → mW g b KM S H → va_S (mA b KM s.heap.size) s.heap H locs → ko47 r0 x2 S → W p l e { frames := 2, cells := 0, slots := 0, locals := 43 } s m args below meth c H locs 0 0 (vx_MQ below (mQi g b KM Q (mA b KM s.heap.size)) (mEx g b KM (fun _ _ => False) (mA b KM s.heap.size)) args s 0 0 (mA b KM s.heap.size)) (F0 m 47 ls [])) (hko82 : ∀ (r0 : Nat) (kr0 : KM r0 = (0, 10, 0)) (S : mSt) (H : Heap) (locs : List Loc) (ls : Array Slot), lv_has ls 3 [(0, .ref (b + r0))] → mW g b KM S H → va_S (mA b KM s.heap.size) s.heap H locs → ko82 r0 S → W p l e { frames := 2, cells := 0, slots := 0, locals := 43 } s m args below meth c H locs 0 0 (vx_MQ below (mQi g b KM Q (mA b KM s.heap.size)) (mEx g b KM (fun _ _ => False) (mA b KM s.heap.size)) args s 0 0 (mA b KM s.heap.size)) (F0 m 82 ls [])) (r0 : Nat) (kr0 : KM r0 = (0, 10, 0)) (x2 : Int) (ox2 : okI x2) (S : mSt) (H : Heap) (locs : List Loc) (ls : Array Slot) (hl : lv_has ls 3 [(0, .ref (b + r0)), (2, .int (mI x2))]) (hW : mW g b KM S H) (hS : va_S (mA b KM s.heap.size) s.heap H locs) (h : w_X12_drop_47b N Q ko47 ko82 r0 x2 S) : W p l e { frames := 2, cells := 0, slots := 0, locals := 43 } s m args below meth c H locs 0 0 (vx_MQ below (mQi g b KM Q (mA b KM s.heap.size)) (mEx g b KM (fun _ _ => False) (mA b KM s.heap.size)) args s 0 0 (mA b KM s.heap.size)) (F0 m 47 ls []) := by
  unfold w_X12_drop_47b at h
  refine m_iload_n (pc := 47) C.1 dX12_drop_47 rfl hl 1 rfl ?_
  refine m_bipush (pc := 48) C.1 dX12_drop_48 rfl ?_
  refine m_iconst (pc := 50) C.1 dX12_drop_50 ?_
  refine m_aload_n (pc := 51) C.1 dX12_drop_51 rfl hl 0 rfl ?_
  refine g_10_1 (pc := 52) C hW kr0 q_1384 dX12_drop_52 ?_
  refine m_iconst (pc := 55) C.1 dX12_drop_55 ?_
  refine m_iald (pc := 56) C.1 C.2.1 hW (k_10_1 kr0) (by decide : okI 3) (by decide) (by decide) dX12_drop_56 ?_
  refine m_imul (pc := 57) C.1 dX12_drop_57 ?_
  refine m_iadd (pc := 58) C.1 dX12_drop_58 ?_
  refine m_icmp_ge (pc := 59) (tgt := 82) C.1 ox2 (nm_ok _) dX12_drop_59 (by decide) (fun hc => ?_) (fun hc => ?_)
  · replace h := h.1 hc
    exact hko82 r0 kr0 S _ _ _ (lv_sub hl [0] rfl) hW hS h
  · replace h := h.2 hc
    refine m_aload_n (pc := 62) C.1 dX12_drop_62 rfl hl 0 rfl ?_
    refine g_10_1 (pc := 63) C hW kr0 q_1384 dX12_drop_63 ?_
    refine m_iload_n (pc := 66) C.1 dX12_drop_66 rfl hl 1 rfl ?_
    refine m_aload_n (pc := 67) C.1 dX12_drop_67 rfl hl 0 rfl ?_
    refine g_10_1 (pc := 68) C hW kr0 q_1384 dX12_drop_68 ?_
    refine m_iload_n (pc := 71) C.1 dX12_drop_71 rfl hl 1 rfl ?_
    refine m_iconst (pc := 72) C.1 dX12_drop_72 ?_
    refine m_iadd (pc := 73) C.1 dX12_drop_73 ?_
    obtain ⟨hb1a, hb1b, h⟩ := h
    refine m_iald (pc := 74) C.1 C.2.1 hW (k_10_1 kr0) (nm_ok _) hb1a hb1b dX12_drop_74 ?_
    obtain ⟨hb2a, hb2b, h⟩ := h
    refine m_iast (pc := 75) C.1 C.2.1 hW hS (k_10_1 kr0) ox2 (hW.2.1 _ _) hb2a hb2b dX12_drop_75 (fun S3 H locs e3 hW3 hS => ?_)
    replace h := h S3 e3
    refine m_iinc (pc := 76) C.1 dX12_drop_76 hl (by decide) (q0 := 1) rfl (fun v => [(2, .int v), (0, .ref (b + r0))]) (fun _ => rfl) (fun v4 ls ev4 ov4 hl => ?_)
    replace h := h v4 ev4
    refine m_goto (pc := 79) (tgt := 47) C.1 dX12_drop_79 (by decide) ?_
    exact hko47 r0 kr0 v4 ov4 S3 _ _ _ (lv_sub hl [1, 0] rfl) hW3 hS h
def w_X12_drop_47 (N : Nat) (Q : mSt → Int → Prop) (ko82 : Nat → mSt → Prop) : Nat → Nat → Int → mSt → Prop
  | 0 => fun _ _ _ => False
  | k + 1 => w_X12_drop_47b N Q (w_X12_drop_47 N Q ko82 k) ko82
theorem W_X12_drop_47 (C : mC p l s m args meth c cX12_drop "MoonWashModel" 3 (some FieldType.int) g) (N : Nat) {Q : mSt → Int → Prop} {ko82 : Nat → mSt → Prop} (hko82 : ∀ (r0 : Nat) (kr0 : KM r0 = (0, 10, 0)) (S : mSt) (H : Heap) (locs : List Loc) (ls : Array Slot), lv_has ls 3 [(0, .ref (b + r0))] → mW g b KM S H → va_S (mA b KM s.heap.size) s.heap H locs → ko82 r0 S → W p l e { frames := 2, cells := 0, slots := 0, locals := 43 } s m args below meth c H locs 0 0 (vx_MQ below (mQi g b KM Q (mA b KM s.heap.size)) (mEx g b KM (fun _ _ => False) (mA b KM s.heap.size)) args s 0 0 (mA b KM s.heap.size)) (F0 m 82 ls [])) : ∀ (k : Nat) (r0 : Nat) (kr0 : KM r0 = (0, 10, 0)) (x2 : Int) (ox2 : okI x2) (S : mSt) (H : Heap) (locs : List Loc) (ls : Array Slot) (hl : lv_has ls 3 [(0, .ref (b + r0)), (2, .int (mI x2))]) (hW : mW g b KM S H) (hS : va_S (mA b KM s.heap.size) s.heap H locs) (h : w_X12_drop_47 N Q ko82 k r0 x2 S), W p l e { frames := 2, cells := 0, slots := 0, locals := 43 } s m args below meth c H locs 0 0 (vx_MQ below (mQi g b KM Q (mA b KM s.heap.size)) (mEx g b KM (fun _ _ => False) (mA b KM s.heap.size)) args s 0 0 (mA b KM s.heap.size)) (F0 m 47 ls []) := by
  intro k
  induction k with
  | zero => intro r0 kr0 x2 ox2 S H locs ls hl hW hS h; exact False.elim h
  | succ k ih => intro r0 kr0 x2 ox2 S H locs ls hl hW hS h; exact W_X12_drop_47b C N ih hko82 r0 kr0 x2 ox2 S H locs ls hl hW hS h
def w_X12_drop_14 (N : Nat) (Q : mSt → Int → Prop)  (r0 : Nat) (x1 : Int) (xs0 : Int) (rs1 : Nat) (S : mSt) : Prop :=
  ∀ S1 : mSt, S1 = mup S rs1 0 xs0 → (((S1 r0 0) ≤ 0 → w_X12_remembers N r0 S1 (fun (S2 : mSt) => ∀ S3 : mSt, S3 = mup S2 (r0 + 1) 3 (nm ((S2 (r0 + 1) 3) - 1)) → ∀ v4 : Int, v4 = (nm (70 + (nm (4 * x1)))) → w_X12_drop_47 N Q (fun (r0_5 : Nat) (S_5 : mSt) => Q S_5 (S_5 (r0_5 + 1) 3)) N r0 v4 S3)) ∧ (0 < (S1 r0 0) → Q S1 0))
theorem W_X12_drop_14 (C : mC p l s m args meth c cX12_drop "MoonWashModel" 3 (some FieldType.int) g) (N : Nat) {Q : mSt → Int → Prop}   (r0 : Nat) (kr0 : KM r0 = (0, 10, 0)) (x1 : Int) (ox1 : okI x1) (xs0 : Int) (oxs0 : okI xs0) (rs1 : Nat) (krs1 : KM rs1 = (0, 10, 0)) (S : mSt) (H : Heap) (locs : List Loc) (ls : Array Slot) (hl : lv_has ls 3 [(0, .ref (b + r0)), (1, .int (mI x1))]) (hW : mW g b KM S H) (hS : va_S (mA b KM s.heap.size) s.heap H locs) (h : w_X12_drop_14 N Q  r0 x1 xs0 rs1 S) : W p l e { frames := 2, cells := 0, slots := 0, locals := 43 } s m args below meth c H locs 0 0 (vx_MQ below (mQi g b KM Q (mA b KM s.heap.size)) (mEx g b KM (fun _ _ => False) (mA b KM s.heap.size)) args s 0 0 (mA b KM s.heap.size)) (F0 m 14 ls [.int (mI xs0), .ref (b + rs1)]) := by
  unfold w_X12_drop_14 at h
  refine p_10_0 (pc := 14) C hW hS krs1 q_1383 oxs0 dX12_drop_14 (fun S1 H locs e1 hW1 hS => ?_)
  replace h := h S1 e1
  refine m_aload_n (pc := 17) C.1 dX12_drop_17 rfl hl 0 rfl ?_
  refine g_10_0 (pc := 18) C hW1 kr0 q_1383 dX12_drop_18 ?_
  refine m_if_le (pc := 21) (tgt := 26) C.1 (hW1.2.1 _ _) dX12_drop_21 (by decide) (fun hc => ?_) (fun hc => ?_)
  · replace h := h.1 hc
    refine m_aload_n (pc := 26) C.1 dX12_drop_26 rfl hl 0 rfl ?_
    refine m_callVv (pc := 27) C.1 C.2.2.1 hl.1 C.2.1 hW1 hS (As := []) (rest := []) (r := r0) (T_X12_remembers C.2.2.2.2.2.2 N r0 kr0 h) kr0 rfl q_1699 q_1701 q_59 q_92 q_1702 pl_X12_remembers (by decide) (Nat.le_of_ble_eq_true rfl) dX12_drop_27 (fun S2 H locs h hW2 hS => ?_)
    refine m_aload_n (pc := 30) C.1 dX12_drop_30 rfl hl 0 rfl ?_
    refine g_10_1 (pc := 31) C hW2 kr0 q_1384 dX12_drop_31 ?_
    refine m_iconst (pc := 34) C.1 dX12_drop_34 ?_
    refine lv_dup2_11 (pc := 35) C.1.1 C.1.2.1 dX12_drop_35 rfl rfl ?_
    refine m_iald (pc := 36) C.1 C.2.1 hW2 (k_10_1 kr0) (by decide : okI 3) (by decide) (by decide) dX12_drop_36 ?_
    refine m_iconst (pc := 37) C.1 dX12_drop_37 ?_
    refine m_isub (pc := 38) C.1 dX12_drop_38 ?_
    refine m_iast (pc := 39) C.1 C.2.1 hW2 hS (k_10_1 kr0) (by decide : okI 3) (nm_ok _) (by decide) (by decide) dX12_drop_39 (fun S3 H locs e3 hW3 hS => ?_)
    replace h := h S3 e3
    refine m_bipush (pc := 40) C.1 dX12_drop_40 rfl ?_
    refine m_iconst (pc := 42) C.1 dX12_drop_42 ?_
    refine m_iload_n (pc := 43) C.1 dX12_drop_43 rfl hl 1 rfl ?_
    refine m_imul (pc := 44) C.1 dX12_drop_44 ?_
    refine m_iadd (pc := 45) C.1 dX12_drop_45 ?_
    refine m_istore_n (pc := 46) C.1 dX12_drop_46 rfl hl (by decide) (fun v => [(2, .int v), (0, .ref (b + r0)), (1, .int (mI x1))]) (fun _ => rfl) (nm_ok _) (fun v4 ls ev4 ov4 hl => ?_)
    replace h := h v4 ev4
    refine W_X12_drop_47 C N ?_ N r0 kr0 v4 ov4 S3 _ _ _ (lv_sub hl [1, 0] rfl) hW3 hS h
    · intro r0_5 kr0_5 S_5 H locs ls hl hW_5 hS h
      refine m_aload_n (pc := 82) C.1 dX12_drop_82 rfl hl 0 rfl ?_
      refine g_10_1 (pc := 83) C hW_5 kr0_5 q_1384 dX12_drop_83 ?_
      refine m_iconst (pc := 86) C.1 dX12_drop_86 ?_
      refine m_iald (pc := 87) C.1 C.2.1 hW_5 (k_10_1 kr0_5) (by decide : okI 3) (by decide) (by decide) dX12_drop_87 ?_
      exact m_iret (pc := 88) C.1 C.2.2.2.1 C.2.2.2.2.1 hW_5 hS (hW_5.2.1 _ _) h (by decide) (by decide) dX12_drop_88
  · replace h := h.2 hc
    refine m_iconst (pc := 24) C.1 dX12_drop_24 ?_
    exact m_iret (pc := 25) C.1 C.2.2.2.1 C.2.2.2.2.1 hW1 hS (by decide : okI 0) h (by decide) (by decide) dX12_drop_25
end
def w_X12_drop (N : Nat) (r0 : Nat) (x1 : Int) (S : mSt) (Q : mSt → Int → Prop) : Prop :=
  w_X12_isSoap N r0 x1 S (fun (S1 : mSt) (v1 : Int) => ((v1 ≠ 0 → w_X12_drop_14 N Q  r0 x1 0 r0 S1) ∧ (v1 = 0 → w_X12_drop_14 N Q  r0 x1 1 r0 S1)))
theorem T_X12_drop {l : Launch} (hl0 : l.stackTraces = false) {g : mG} {b : Nat} (N : Nat) (r0 : Nat) (kr0 : KM r0 = (0, 10, 0)) (x1 : Int) (ox1 : okI x1) {S : mSt} {Q : mSt → Int → Prop} (h : w_X12_drop N r0 x1 S Q) (sz : Nat) : vx_Met l yX12_drop (Cond.code yX12_drop cX12_drop 3 (some FieldType.int) :: wsG) { frames := 2, cells := 0, slots := 0, locals := 43 } (mPc g b KM S [.ref (b + r0), .int (mI x1)] sz) (mQi g b KM Q (mA b KM sz)) (mEx g b KM (fun _ _ => False) (mA b KM sz)) 0 0 (mA b KM sz) :=
  m_of (av := [.ref (b + r0), .int (mI x1)]) (Qf := fun A => mQi g b KM Q A) (Xf := fun A => mEx g b KM (fun _ _ => False) A) (by decide) (Nat.le_of_ble_eq_true rfl) (fun p e s m args below meth c ls X hK hml hr hlk hout hnm hW hl => by
    have C : mC p l s m args meth c cX12_drop "MoonWashModel" 3 (some FieldType.int) g := ⟨X, hK, hml, hr, hlk, hout, hl0⟩
    have hS : va_S (mA b KM s.heap.size) s.heap s.heap [] := va_S.rf
    have hl : lv_has ls 3 [(0, .ref (b + r0)), (1, .int (mI x1))] := hl
    unfold w_X12_drop at h
    refine m_aload_n (pc := 0) C.1 dX12_drop_0 rfl hl 0 rfl ?_
    refine m_aload_n (pc := 1) C.1 dX12_drop_1 rfl hl 0 rfl ?_
    refine m_iload_n (pc := 2) C.1 dX12_drop_2 rfl hl 1 rfl ?_
    refine m_callVi (pc := 3) C.1 C.2.2.1 hl.1 C.2.1 hW hS (As := [.int (mI x1)]) (rest := [.ref (b + r0)]) (r := r0) (T_X12_isSoap C.2.2.2.2.2.2 N r0 kr0 x1 ox1 h) kr0 rfl q_1679 q_1681 q_57 q_92 q_1682 pl_X12_isSoap (by decide) (Nat.le_of_ble_eq_true rfl) dX12_drop_3 (fun v1 S1 H locs ov1 h hW1 hS => ?_)
    refine m_if_ne (pc := 6) (tgt := 13) C.1 ov1 dX12_drop_6 (by decide) (fun hc => ?_) (fun hc => ?_)
    · replace h := h.1 hc
      refine m_iconst (pc := 13) C.1 dX12_drop_13 ?_
      exact W_X12_drop_14 C N  r0 kr0 x1 ox1 0 (by decide : okI 0) r0 kr0 S1 _ _ _ (lv_sub hl [0, 1] rfl) hW1 hS h
    · replace h := h.2 hc
      refine m_iconst (pc := 9) C.1 dX12_drop_9 ?_
      refine m_goto (pc := 10) (tgt := 14) C.1 dX12_drop_10 (by decide) ?_
      exact W_X12_drop_14 C N  r0 kr0 x1 ox1 1 (by decide : okI 1) r0 kr0 S1 _ _ _ (lv_sub hl [0, 1] rfl) hW1 hS h) sz
section
variable {p : Program} {l : Launch} {e : Env} {s : State} {m : MethodId} {args : Array Value} {below : List Frame} {meth : Method} {c : Code} {g : mG} {b : Nat}
def w_X12_nights_16 (N : Nat) (Q : mSt → Int → Prop)  (r0 : Nat) (x1 : Int) (xs0 : Int) (rs1 : Nat) (S : mSt) : Prop :=
  ∀ S1 : mSt, S1 = mup S rs1 0 xs0 → (((S1 r0 0) ≤ 0 → w_X12_remembers N r0 S1 (fun (S2 : mSt) => w_X12_goes N r0 x1 S2 (fun (S3 : mSt) (v3 : Int) => Q S3 v3))) ∧ (0 < (S1 r0 0) → Q S1 0))
theorem W_X12_nights_16 (C : mC p l s m args meth c cX12_nights "MoonWashModel" 2 (some FieldType.int) g) (N : Nat) {Q : mSt → Int → Prop}   (r0 : Nat) (kr0 : KM r0 = (0, 10, 0)) (x1 : Int) (ox1 : okI x1) (xs0 : Int) (oxs0 : okI xs0) (rs1 : Nat) (krs1 : KM rs1 = (0, 10, 0)) (S : mSt) (H : Heap) (locs : List Loc) (ls : Array Slot) (hl : lv_has ls 2 [(0, .ref (b + r0)), (1, .int (mI x1))]) (hW : mW g b KM S H) (hS : va_S (mA b KM s.heap.size) s.heap H locs) (h : w_X12_nights_16 N Q  r0 x1 xs0 rs1 S) : W p l e { frames := 124, cells := 0, slots := 0, locals := 3252 } s m args below meth c H locs 0 0 (vx_MQ below (mQi g b KM Q (mA b KM s.heap.size)) (mEx g b KM (fun _ _ => False) (mA b KM s.heap.size)) args s 0 0 (mA b KM s.heap.size)) (F0 m 16 ls [.int (mI xs0), .ref (b + rs1)]) := by
  unfold w_X12_nights_16 at h
  refine p_10_0 (pc := 16) C hW hS krs1 q_1383 oxs0 dX12_nights_16 (fun S1 H locs e1 hW1 hS => ?_)
  replace h := h S1 e1
  refine m_aload_n (pc := 19) C.1 dX12_nights_19 rfl hl 0 rfl ?_
  refine g_10_0 (pc := 20) C hW1 kr0 q_1383 dX12_nights_20 ?_
  refine m_if_le (pc := 23) (tgt := 28) C.1 (hW1.2.1 _ _) dX12_nights_23 (by decide) (fun hc => ?_) (fun hc => ?_)
  · replace h := h.1 hc
    refine m_aload_n (pc := 28) C.1 dX12_nights_28 rfl hl 0 rfl ?_
    refine m_callVv (pc := 29) C.1 C.2.2.1 hl.1 C.2.1 hW1 hS (As := []) (rest := []) (r := r0) (T_X12_remembers C.2.2.2.2.2.2 N r0 kr0 h) kr0 rfl q_1699 q_1701 q_59 q_92 q_1702 pl_X12_remembers (by decide) (Nat.le_of_ble_eq_true rfl) dX12_nights_29 (fun S2 H locs h hW2 hS => ?_)
    refine m_aload_n (pc := 32) C.1 dX12_nights_32 rfl hl 0 rfl ?_
    refine m_iload_n (pc := 33) C.1 dX12_nights_33 rfl hl 1 rfl ?_
    refine m_callVi (pc := 34) C.1 C.2.2.1 hl.1 C.2.1 hW2 hS (As := [.int (mI x1)]) (rest := []) (r := r0) (T_X12_goes C.2.2.2.2.2.2 N r0 kr0 x1 ox1 h) kr0 rfl q_1727 q_1729 q_61 q_92 q_1730 pl_X12_goes (by decide) (Nat.le_of_ble_eq_true rfl) dX12_nights_34 (fun v3 S3 H locs ov3 h hW3 hS => ?_)
    exact m_iret (pc := 37) C.1 C.2.2.2.1 C.2.2.2.2.1 hW3 hS ov3 h (by decide) (by decide) dX12_nights_37
  · replace h := h.2 hc
    refine m_iconst (pc := 26) C.1 dX12_nights_26 ?_
    exact m_iret (pc := 27) C.1 C.2.2.2.1 C.2.2.2.2.1 hW1 hS (by decide : okI 0) h (by decide) (by decide) dX12_nights_27
end
def w_X12_nights (N : Nat) (r0 : Nat) (x1 : Int) (S : mSt) (Q : mSt → Int → Prop) : Prop :=
  w_X12_isIn N x1 1 60 S (fun (S1 : mSt) (v1 : Int) => ((v1 ≠ 0 → w_X12_nights_16 N Q  r0 x1 0 r0 S1) ∧ (v1 = 0 → w_X12_nights_16 N Q  r0 x1 1 r0 S1)))
theorem T_X12_nights {l : Launch} (hl0 : l.stackTraces = false) {g : mG} {b : Nat} (N : Nat) (r0 : Nat) (kr0 : KM r0 = (0, 10, 0)) (x1 : Int) (ox1 : okI x1) {S : mSt} {Q : mSt → Int → Prop} (h : w_X12_nights N r0 x1 S Q) (sz : Nat) : vx_Met l yX12_nights (Cond.code yX12_nights cX12_nights 2 (some FieldType.int) :: wsG) { frames := 124, cells := 0, slots := 0, locals := 3252 } (mPc g b KM S [.ref (b + r0), .int (mI x1)] sz) (mQi g b KM Q (mA b KM sz)) (mEx g b KM (fun _ _ => False) (mA b KM sz)) 0 0 (mA b KM sz) :=
  m_of (av := [.ref (b + r0), .int (mI x1)]) (Qf := fun A => mQi g b KM Q A) (Xf := fun A => mEx g b KM (fun _ _ => False) A) (by decide) (Nat.le_of_ble_eq_true rfl) (fun p e s m args below meth c ls X hK hml hr hlk hout hnm hW hl => by
    have C : mC p l s m args meth c cX12_nights "MoonWashModel" 2 (some FieldType.int) g := ⟨X, hK, hml, hr, hlk, hout, hl0⟩
    have hS : va_S (mA b KM s.heap.size) s.heap s.heap [] := va_S.rf
    have hl : lv_has ls 2 [(0, .ref (b + r0)), (1, .int (mI x1))] := hl
    unfold w_X12_nights at h
    refine m_aload_n (pc := 0) C.1 dX12_nights_0 rfl hl 0 rfl ?_
    refine m_iload_n (pc := 1) C.1 dX12_nights_1 rfl hl 1 rfl ?_
    refine m_iconst (pc := 2) C.1 dX12_nights_2 ?_
    refine m_bipush (pc := 3) C.1 dX12_nights_3 rfl ?_
    refine m_callSi (pc := 5) C.1 C.2.2.1 hl.1 C.2.1 hW hS (As := [.int (mI x1), .int (mI 1), .int (mI 60)]) (rest := [.ref (b + r0)]) (T_X12_isIn C.2.2.2.2.2.2 N x1 ox1 1 (by decide : okI 1) 60 (by decide : okI 60) h) q_1475 q_1476 q_92 q_1477 pl_X12_isIn (by decide) (Nat.le_of_ble_eq_true rfl) dX12_nights_5 (fun v1 S1 H locs ov1 h hW1 hS => ?_)
    refine m_if_ne (pc := 8) (tgt := 15) C.1 ov1 dX12_nights_8 (by decide) (fun hc => ?_) (fun hc => ?_)
    · replace h := h.1 hc
      refine m_iconst (pc := 15) C.1 dX12_nights_15 ?_
      exact W_X12_nights_16 C N  r0 kr0 x1 ox1 0 (by decide : okI 0) r0 kr0 S1 _ _ _ (lv_sub hl [0, 1] rfl) hW1 hS h
    · replace h := h.2 hc
      refine m_iconst (pc := 11) C.1 dX12_nights_11 ?_
      refine m_goto (pc := 12) (tgt := 16) C.1 dX12_nights_12 (by decide) ?_
      exact W_X12_nights_16 C N  r0 kr0 x1 ox1 1 (by decide : okI 1) r0 kr0 S1 _ _ _ (lv_sub hl [0, 1] rfl) hW1 hS h) sz
section
variable {p : Program} {l : Launch} {e : Env} {s : State} {m : MethodId} {args : Array Value} {below : List Frame} {meth : Method} {c : Code} {g : mG} {b : Nat}
def w_X12_shining_26 (N : Nat) (Q : mSt → Int → Prop) (ko4 : Nat → Int → Int → mSt → Prop) (r0 : Nat) (x2 : Int) (xs0 : Int) (xs1 : Int) (S : mSt) : Prop :=
  ∀ v1 : Int, v1 = (bOr xs1 xs0) → ∀ v2 : Int, v2 = nm (x2 + 1) → ko4 r0 v1 v2 S
theorem W_X12_shining_26 (C : mC p l s m args meth c cX12_shining "MoonWashModel" 3 (some FieldType.int) g) (N : Nat) {Q : mSt → Int → Prop} {ko4 : Nat → Int → Int → mSt → Prop} (hko4 : ∀ (r0 : Nat) (kr0 : KM r0 = (0, 10, 0)) (x1 : Int) (ox1 : okI x1) (x2 : Int) (ox2 : okI x2) (S : mSt) (H : Heap) (locs : List Loc) (ls : Array Slot), lv_has ls 3 [(0, .ref (b + r0)), (1, .int (mI x1)), (2, .int (mI x2))] → mW g b KM S H → va_S (mA b KM s.heap.size) s.heap H locs → ko4 r0 x1 x2 S → W p l e { frames := 121, cells := 0, slots := 0, locals := 3184 } s m args below meth c H locs 0 0 (vx_MQ below (mQi g b KM Q (mA b KM s.heap.size)) (mEx g b KM (fun _ _ => False) (mA b KM s.heap.size)) args s 0 0 (mA b KM s.heap.size)) (F0 m 4 ls [])) (r0 : Nat) (kr0 : KM r0 = (0, 10, 0)) (x2 : Int) (ox2 : okI x2) (xs0 : Int) (oxs0 : okI xs0) (xs1 : Int) (oxs1 : okI xs1) (S : mSt) (H : Heap) (locs : List Loc) (ls : Array Slot) (hl : lv_has ls 3 [(0, .ref (b + r0)), (2, .int (mI x2))]) (hW : mW g b KM S H) (hS : va_S (mA b KM s.heap.size) s.heap H locs) (h : w_X12_shining_26 N Q ko4 r0 x2 xs0 xs1 S) : W p l e { frames := 121, cells := 0, slots := 0, locals := 3184 } s m args below meth c H locs 0 0 (vx_MQ below (mQi g b KM Q (mA b KM s.heap.size)) (mEx g b KM (fun _ _ => False) (mA b KM s.heap.size)) args s 0 0 (mA b KM s.heap.size)) (F0 m 26 ls [.int (mI xs0), .int (mI xs1)]) := by
  unfold w_X12_shining_26 at h
  refine m_ior (pc := 26) C.1 dX12_shining_26 ?_
  refine m_istore_n (pc := 27) C.1 dX12_shining_27 rfl hl (by decide) (fun v => [(1, .int v), (0, .ref (b + r0)), (2, .int (mI x2))]) (fun _ => rfl) (bOr_ok _ _) (fun v1 ls ev1 ov1 hl => ?_)
  replace h := h v1 ev1
  refine m_iinc (pc := 28) C.1 dX12_shining_28 hl (by decide) (q0 := 2) rfl (fun v => [(2, .int v), (1, .int (mI v1)), (0, .ref (b + r0))]) (fun _ => rfl) (fun v2 ls ev2 ov2 hl => ?_)
  replace h := h v2 ev2
  refine m_goto (pc := 31) (tgt := 4) C.1 dX12_shining_31 (by decide) ?_
  exact hko4 r0 kr0 v1 ov1 v2 ov2 S _ _ _ (lv_sub hl [2, 1, 0] rfl) hW hS h
def w_X12_shining_4b (N : Nat) (Q : mSt → Int → Prop) (ko4 : Nat → Int → Int → mSt → Prop) (ko34 : Int → mSt → Prop) (r0 : Nat) (x1 : Int) (x2 : Int) (S : mSt) : Prop :=
  ((8 ≤ x2 → ko34 x1 S) ∧ (x2 < 8 → w_X12_lightOf N r0 x2 S (fun (S1 : mSt) (v1 : Int) => ((v1 ≤ 0 → w_X12_shining_26 N Q ko4 r0 x2 0 x1 S1) ∧ (0 < v1 → w_X12_shining_26 N Q ko4 r0 x2 (bShl 1 x2) x1 S1)))))
theorem W_X12_shining_4b (C : mC p l s m args meth c cX12_shining "MoonWashModel" 3 (some FieldType.int) g) (N : Nat) {Q : mSt → Int → Prop} {ko4 : Nat → Int → Int → mSt → Prop} {ko34 : Int → mSt → Prop} (hko4 : ∀ (r0 : Nat) (kr0 : KM r0 = (0, 10, 0)) (x1 : Int) (ox1 : okI x1) (x2 : Int) (ox2 : okI x2) (S : mSt) (H : Heap) (locs : List Loc) (ls : Array Slot), lv_has ls 3 [(0, .ref (b + r0)), (1, .int (mI x1)), (2, .int (mI x2))] → mW g b KM S H → va_S (mA b KM s.heap.size) s.heap H locs → ko4 r0 x1 x2 S → W p l e { frames := 121, cells := 0, slots := 0, locals := 3184 } s m args below meth c H locs 0 0 (vx_MQ below (mQi g b KM Q (mA b KM s.heap.size)) (mEx g b KM (fun _ _ => False) (mA b KM s.heap.size)) args s 0 0 (mA b KM s.heap.size)) (F0 m 4 ls [])) (hko34 : ∀ (x1 : Int) (ox1 : okI x1) (S : mSt) (H : Heap) (locs : List Loc) (ls : Array Slot), lv_has ls 3 [(1, .int (mI x1))] → mW g b KM S H → va_S (mA b KM s.heap.size) s.heap H locs → ko34 x1 S → W p l e { frames := 121, cells := 0, slots := 0, locals := 3184 } s m args below meth c H locs 0 0 (vx_MQ below (mQi g b KM Q (mA b KM s.heap.size)) (mEx g b KM (fun _ _ => False) (mA b KM s.heap.size)) args s 0 0 (mA b KM s.heap.size)) (F0 m 34 ls [])) (r0 : Nat) (kr0 : KM r0 = (0, 10, 0)) (x1 : Int) (ox1 : okI x1) (x2 : Int) (ox2 : okI x2) (S : mSt) (H : Heap) (locs : List Loc) (ls : Array Slot) (hl : lv_has ls 3 [(0, .ref (b + r0)), (1, .int (mI x1)), (2, .int (mI x2))]) (hW : mW g b KM S H) (hS : va_S (mA b KM s.heap.size) s.heap H locs) (h : w_X12_shining_4b N Q ko4 ko34 r0 x1 x2 S) : W p l e { frames := 121, cells := 0, slots := 0, locals := 3184 } s m args below meth c H locs 0 0 (vx_MQ below (mQi g b KM Q (mA b KM s.heap.size)) (mEx g b KM (fun _ _ => False) (mA b KM s.heap.size)) args s 0 0 (mA b KM s.heap.size)) (F0 m 4 ls []) := by
  unfold w_X12_shining_4b at h
  refine m_iload_n (pc := 4) C.1 dX12_shining_4 rfl hl 2 rfl ?_
  refine m_bipush (pc := 5) C.1 dX12_shining_5 rfl ?_
  refine m_icmp_ge (pc := 7) (tgt := 34) C.1 ox2 (by decide : okI 8) dX12_shining_7 (by decide) (fun hc => ?_) (fun hc => ?_)
  · replace h := h.1 hc
    exact hko34 x1 ox1 S _ _ _ (lv_sub hl [1] rfl) hW hS h
  · replace h := h.2 hc
    refine m_iload_n (pc := 10) C.1 dX12_shining_10 rfl hl 1 rfl ?_
    refine m_aload_n (pc := 11) C.1 dX12_shining_11 rfl hl 0 rfl ?_
    refine m_iload_n (pc := 12) C.1 dX12_shining_12 rfl hl 2 rfl ?_
    refine m_callVi (pc := 13) C.1 C.2.2.1 hl.1 C.2.1 hW hS (As := [.int (mI x2)]) (rest := [.int (mI x1)]) (r := r0) (T_X12_lightOf C.2.2.2.2.2.2 N r0 kr0 x2 ox2 h) kr0 rfl q_1634 q_1636 q_49 q_92 q_1637 pl_X12_lightOf (by decide) (Nat.le_of_ble_eq_true rfl) dX12_shining_13 (fun v1 S1 H locs ov1 h hW1 hS => ?_)
    refine m_if_le (pc := 16) (tgt := 25) C.1 ov1 dX12_shining_16 (by decide) (fun hc => ?_) (fun hc => ?_)
    · replace h := h.1 hc
      refine m_iconst (pc := 25) C.1 dX12_shining_25 ?_
      exact W_X12_shining_26 C N hko4 r0 kr0 x2 ox2 0 (by decide : okI 0) x1 ox1 S1 _ _ _ (lv_sub hl [0, 2] rfl) hW1 hS h
    · replace h := h.2 hc
      refine m_iconst (pc := 19) C.1 dX12_shining_19 ?_
      refine m_iload_n (pc := 20) C.1 dX12_shining_20 rfl hl 2 rfl ?_
      refine m_ishl (pc := 21) C.1 dX12_shining_21 ?_
      refine m_goto (pc := 22) (tgt := 26) C.1 dX12_shining_22 (by decide) ?_
      exact W_X12_shining_26 C N hko4 r0 kr0 x2 ox2 (bShl 1 x2) (bShl_ok _ _) x1 ox1 S1 _ _ _ (lv_sub hl [0, 2] rfl) hW1 hS h
def w_X12_shining_4 (N : Nat) (Q : mSt → Int → Prop) (ko34 : Int → mSt → Prop) : Nat → Nat → Int → Int → mSt → Prop
  | 0 => fun _ _ _ _ => False
  | k + 1 => w_X12_shining_4b N Q (w_X12_shining_4 N Q ko34 k) ko34
theorem W_X12_shining_4 (C : mC p l s m args meth c cX12_shining "MoonWashModel" 3 (some FieldType.int) g) (N : Nat) {Q : mSt → Int → Prop} {ko34 : Int → mSt → Prop} (hko34 : ∀ (x1 : Int) (ox1 : okI x1) (S : mSt) (H : Heap) (locs : List Loc) (ls : Array Slot), lv_has ls 3 [(1, .int (mI x1))] → mW g b KM S H → va_S (mA b KM s.heap.size) s.heap H locs → ko34 x1 S → W p l e { frames := 121, cells := 0, slots := 0, locals := 3184 } s m args below meth c H locs 0 0 (vx_MQ below (mQi g b KM Q (mA b KM s.heap.size)) (mEx g b KM (fun _ _ => False) (mA b KM s.heap.size)) args s 0 0 (mA b KM s.heap.size)) (F0 m 34 ls [])) : ∀ (k : Nat) (r0 : Nat) (kr0 : KM r0 = (0, 10, 0)) (x1 : Int) (ox1 : okI x1) (x2 : Int) (ox2 : okI x2) (S : mSt) (H : Heap) (locs : List Loc) (ls : Array Slot) (hl : lv_has ls 3 [(0, .ref (b + r0)), (1, .int (mI x1)), (2, .int (mI x2))]) (hW : mW g b KM S H) (hS : va_S (mA b KM s.heap.size) s.heap H locs) (h : w_X12_shining_4 N Q ko34 k r0 x1 x2 S), W p l e { frames := 121, cells := 0, slots := 0, locals := 3184 } s m args below meth c H locs 0 0 (vx_MQ below (mQi g b KM Q (mA b KM s.heap.size)) (mEx g b KM (fun _ _ => False) (mA b KM s.heap.size)) args s 0 0 (mA b KM s.heap.size)) (F0 m 4 ls []) := by
  intro k
  induction k with
  | zero => intro r0 kr0 x1 ox1 x2 ox2 S H locs ls hl hW hS h; exact False.elim h
  | succ k ih => intro r0 kr0 x1 ox1 x2 ox2 S H locs ls hl hW hS h; exact W_X12_shining_4b C N ih hko34 r0 kr0 x1 ox1 x2 ox2 S H locs ls hl hW hS h
end
def w_X12_shining (N : Nat) (r0 : Nat) (S : mSt) (Q : mSt → Int → Prop) : Prop :=
  ∀ v1 : Int, v1 = 0 → ∀ v2 : Int, v2 = 0 → w_X12_shining_4 N Q (fun (x1_3 : Int) (S_3 : mSt) => Q S_3 x1_3) N r0 v1 v2 S
theorem T_X12_shining {l : Launch} (hl0 : l.stackTraces = false) {g : mG} {b : Nat} (N : Nat) (r0 : Nat) (kr0 : KM r0 = (0, 10, 0)) {S : mSt} {Q : mSt → Int → Prop} (h : w_X12_shining N r0 S Q) (sz : Nat) : vx_Met l yX12_shining (Cond.code yX12_shining cX12_shining 3 (some FieldType.int) :: wsG) { frames := 121, cells := 0, slots := 0, locals := 3184 } (mPc g b KM S [.ref (b + r0)] sz) (mQi g b KM Q (mA b KM sz)) (mEx g b KM (fun _ _ => False) (mA b KM sz)) 0 0 (mA b KM sz) :=
  m_of (av := [.ref (b + r0)]) (Qf := fun A => mQi g b KM Q A) (Xf := fun A => mEx g b KM (fun _ _ => False) A) (by decide) (Nat.le_of_ble_eq_true rfl) (fun p e s m args below meth c ls X hK hml hr hlk hout hnm hW hl => by
    have C : mC p l s m args meth c cX12_shining "MoonWashModel" 3 (some FieldType.int) g := ⟨X, hK, hml, hr, hlk, hout, hl0⟩
    have hS : va_S (mA b KM s.heap.size) s.heap s.heap [] := va_S.rf
    have hl : lv_has ls 3 [(0, .ref (b + r0))] := hl
    unfold w_X12_shining at h
    refine m_iconst (pc := 0) C.1 dX12_shining_0 ?_
    refine m_istore_n (pc := 1) C.1 dX12_shining_1 rfl hl (by decide) (fun v => [(1, .int v), (0, .ref (b + r0))]) (fun _ => rfl) (by decide : okI 0) (fun v1 ls ev1 ov1 hl => ?_)
    replace h := h v1 ev1
    refine m_iconst (pc := 2) C.1 dX12_shining_2 ?_
    refine m_istore_n (pc := 3) C.1 dX12_shining_3 rfl hl (by decide) (fun v => [(2, .int v), (1, .int (mI v1)), (0, .ref (b + r0))]) (fun _ => rfl) (by decide : okI 0) (fun v2 ls ev2 ov2 hl => ?_)
    replace h := h v2 ev2
    refine W_X12_shining_4 C N ?_ N r0 kr0 v1 ov1 v2 ov2 S _ _ _ (lv_sub hl [2, 1, 0] rfl) hW hS h
    · intro x1_3 ox1_3 S_3 H locs ls hl hW_3 hS h
      refine m_iload_n (pc := 34) C.1 dX12_shining_34 rfl hl 0 rfl ?_
      exact m_iret (pc := 35) C.1 C.2.2.2.1 C.2.2.2.2.1 hW_3 hS ox1_3 h (by decide) (by decide) dX12_shining_35) sz
section
variable {p : Program} {l : Launch} {e : Env} {s : State} {m : MethodId} {args : Array Value} {below : List Frame} {meth : Method} {c : Code} {g : mG} {b : Nat}
end
def w_X12_shines (N : Nat) (r0 : Nat) (S : mSt) (Q : mSt → Int → Prop) : Prop :=
  ∀ S1 : mSt, S1 = mup S r0 0 0 → w_X12_shining N r0 S1 (fun (S2 : mSt) (v2 : Int) => Q S2 v2)
theorem T_X12_shines {l : Launch} (hl0 : l.stackTraces = false) {g : mG} {b : Nat} (N : Nat) (r0 : Nat) (kr0 : KM r0 = (0, 10, 0)) {S : mSt} {Q : mSt → Int → Prop} (h : w_X12_shines N r0 S Q) (sz : Nat) : vx_Met l yX12_shines (Cond.code yX12_shines cX12_shines 1 (some FieldType.int) :: wsG) { frames := 122, cells := 0, slots := 0, locals := 3206 } (mPc g b KM S [.ref (b + r0)] sz) (mQi g b KM Q (mA b KM sz)) (mEx g b KM (fun _ _ => False) (mA b KM sz)) 0 0 (mA b KM sz) :=
  m_of (av := [.ref (b + r0)]) (Qf := fun A => mQi g b KM Q A) (Xf := fun A => mEx g b KM (fun _ _ => False) A) (by decide) (Nat.le_of_ble_eq_true rfl) (fun p e s m args below meth c ls X hK hml hr hlk hout hnm hW hl => by
    have C : mC p l s m args meth c cX12_shines "MoonWashModel" 1 (some FieldType.int) g := ⟨X, hK, hml, hr, hlk, hout, hl0⟩
    have hS : va_S (mA b KM s.heap.size) s.heap s.heap [] := va_S.rf
    have hl : lv_has ls 1 [(0, .ref (b + r0))] := hl
    unfold w_X12_shines at h
    refine m_aload_n (pc := 0) C.1 dX12_shines_0 rfl hl 0 rfl ?_
    refine m_iconst (pc := 1) C.1 dX12_shines_1 ?_
    refine p_10_0 (pc := 2) C hW hS kr0 q_1383 (by decide : okI 0) dX12_shines_2 (fun S1 H locs e1 hW1 hS => ?_)
    replace h := h S1 e1
    refine m_aload_n (pc := 5) C.1 dX12_shines_5 rfl hl 0 rfl ?_
    refine m_callVi (pc := 6) C.1 C.2.2.1 hl.1 C.2.1 hW1 hS (As := []) (rest := []) (r := r0) (T_X12_shining C.2.2.2.2.2.2 N r0 kr0 h) kr0 rfl q_1756 q_1758 q_67 q_92 q_1759 pl_X12_shining (by decide) (Nat.le_of_ble_eq_true rfl) dX12_shines_6 (fun v2 S2 H locs ov2 h hW2 hS => ?_)
    exact m_iret (pc := 9) C.1 C.2.2.2.1 C.2.2.2.2.1 hW2 hS ov2 h (by decide) (by decide) dX12_shines_9) sz
section
variable {p : Program} {l : Launch} {e : Env} {s : State} {m : MethodId} {args : Array Value} {below : List Frame} {meth : Method} {c : Code} {g : mG} {b : Nat}
end
def w_X12_light (N : Nat) (r0 : Nat) (S : mSt) (Q : mSt → Int → Prop) : Prop :=
  ∀ S1 : mSt, S1 = mup S r0 0 0 → w_X12_lightOfAll N r0 S1 (fun (S2 : mSt) (v2 : Int) => Q S2 v2)
theorem T_X12_light {l : Launch} (hl0 : l.stackTraces = false) {g : mG} {b : Nat} (N : Nat) (r0 : Nat) (kr0 : KM r0 = (0, 10, 0)) {S : mSt} {Q : mSt → Int → Prop} (h : w_X12_light N r0 S Q) (sz : Nat) : vx_Met l yX12_light (Cond.code yX12_light cX12_light 1 (some FieldType.int) :: wsG) { frames := 122, cells := 0, slots := 0, locals := 3206 } (mPc g b KM S [.ref (b + r0)] sz) (mQi g b KM Q (mA b KM sz)) (mEx g b KM (fun _ _ => False) (mA b KM sz)) 0 0 (mA b KM sz) :=
  m_of (av := [.ref (b + r0)]) (Qf := fun A => mQi g b KM Q A) (Xf := fun A => mEx g b KM (fun _ _ => False) A) (by decide) (Nat.le_of_ble_eq_true rfl) (fun p e s m args below meth c ls X hK hml hr hlk hout hnm hW hl => by
    have C : mC p l s m args meth c cX12_light "MoonWashModel" 1 (some FieldType.int) g := ⟨X, hK, hml, hr, hlk, hout, hl0⟩
    have hS : va_S (mA b KM s.heap.size) s.heap s.heap [] := va_S.rf
    have hl : lv_has ls 1 [(0, .ref (b + r0))] := hl
    unfold w_X12_light at h
    refine m_aload_n (pc := 0) C.1 dX12_light_0 rfl hl 0 rfl ?_
    refine m_iconst (pc := 1) C.1 dX12_light_1 ?_
    refine p_10_0 (pc := 2) C hW hS kr0 q_1383 (by decide : okI 0) dX12_light_2 (fun S1 H locs e1 hW1 hS => ?_)
    replace h := h S1 e1
    refine m_aload_n (pc := 5) C.1 dX12_light_5 rfl hl 0 rfl ?_
    refine m_callVi (pc := 6) C.1 C.2.2.1 hl.1 C.2.1 hW1 hS (As := []) (rest := []) (r := r0) (T_X12_lightOfAll C.2.2.2.2.2.2 N r0 kr0 h) kr0 rfl q_1663 q_1665 q_54 q_92 q_1666 pl_X12_lightOfAll (by decide) (Nat.le_of_ble_eq_true rfl) dX12_light_6 (fun v2 S2 H locs ov2 h hW2 hS => ?_)
    exact m_iret (pc := 9) C.1 C.2.2.2.1 C.2.2.2.2.1 hW2 hS ov2 h (by decide) (by decide) dX12_light_9) sz
section
variable {p : Program} {l : Launch} {e : Env} {s : State} {m : MethodId} {args : Array Value} {below : List Frame} {meth : Method} {c : Code} {g : mG} {b : Nat}
def w_X12_wouldBe_2b (N : Nat) (Q : mSt → Int → Prop) (ko2 : Nat → Int → Int → Int → mSt → Prop) (ko26 : Nat → Int → Int → mSt → Prop) (r0 : Nat) (x1 : Int) (x2 : Int) (x3 : Int) (S : mSt) : Prop :=
  ((6 ≤ x3 → ko26 r0 x1 x2 S) ∧ (x3 < 6 → w_X12_of N r0 x1 x3 S (fun (S1 : mSt) (v1 : Int) => (0 ≤ x3 ∧ x3 < 750 ∧ ∀ S3 : mSt, S3 = mup S1 (r0 + 3) x3 v1 → ∀ v4 : Int, v4 = nm (x3 + 1) → ko2 r0 x1 x2 v4 S3))))
theorem W_X12_wouldBe_2b (C : mC p l s m args meth c cX12_wouldBe "MoonWashModel" 5 (some FieldType.int) g) (N : Nat) {Q : mSt → Int → Prop} {ko2 : Nat → Int → Int → Int → mSt → Prop} {ko26 : Nat → Int → Int → mSt → Prop} (hko2 : ∀ (r0 : Nat) (kr0 : KM r0 = (0, 10, 0)) (x1 : Int) (ox1 : okI x1) (x2 : Int) (ox2 : okI x2) (x3 : Int) (ox3 : okI x3) (S : mSt) (H : Heap) (locs : List Loc) (ls : Array Slot), lv_has ls 5 [(0, .ref (b + r0)), (1, .int (mI x1)), (2, .int (mI x2)), (3, .int (mI x3))] → mW g b KM S H → va_S (mA b KM s.heap.size) s.heap H locs → ko2 r0 x1 x2 x3 S → W p l e { frames := 120, cells := 0, slots := 0, locals := 3163 } s m args below meth c H locs 0 0 (vx_MQ below (mQi g b KM Q (mA b KM s.heap.size)) (mEx g b KM (fun _ _ => False) (mA b KM s.heap.size)) args s 0 0 (mA b KM s.heap.size)) (F0 m 2 ls [])) (hko26 : ∀ (r0 : Nat) (kr0 : KM r0 = (0, 10, 0)) (x1 : Int) (ox1 : okI x1) (x2 : Int) (ox2 : okI x2) (S : mSt) (H : Heap) (locs : List Loc) (ls : Array Slot), lv_has ls 5 [(0, .ref (b + r0)), (1, .int (mI x1)), (2, .int (mI x2))] → mW g b KM S H → va_S (mA b KM s.heap.size) s.heap H locs → ko26 r0 x1 x2 S → W p l e { frames := 120, cells := 0, slots := 0, locals := 3163 } s m args below meth c H locs 0 0 (vx_MQ below (mQi g b KM Q (mA b KM s.heap.size)) (mEx g b KM (fun _ _ => False) (mA b KM s.heap.size)) args s 0 0 (mA b KM s.heap.size)) (F0 m 26 ls [])) (r0 : Nat) (kr0 : KM r0 = (0, 10, 0)) (x1 : Int) (ox1 : okI x1) (x2 : Int) (ox2 : okI x2) (x3 : Int) (ox3 : okI x3) (S : mSt) (H : Heap) (locs : List Loc) (ls : Array Slot) (hl : lv_has ls 5 [(0, .ref (b + r0)), (1, .int (mI x1)), (2, .int (mI x2)), (3, .int (mI x3))]) (hW : mW g b KM S H) (hS : va_S (mA b KM s.heap.size) s.heap H locs) (h : w_X12_wouldBe_2b N Q ko2 ko26 r0 x1 x2 x3 S) : W p l e { frames := 120, cells := 0, slots := 0, locals := 3163 } s m args below meth c H locs 0 0 (vx_MQ below (mQi g b KM Q (mA b KM s.heap.size)) (mEx g b KM (fun _ _ => False) (mA b KM s.heap.size)) args s 0 0 (mA b KM s.heap.size)) (F0 m 2 ls []) := by
  unfold w_X12_wouldBe_2b at h
  refine m_iload_n (pc := 2) C.1 dX12_wouldBe_2 rfl hl 3 rfl ?_
  refine m_bipush (pc := 3) C.1 dX12_wouldBe_3 rfl ?_
  refine m_icmp_ge (pc := 5) (tgt := 26) C.1 ox3 (by decide : okI 6) dX12_wouldBe_5 (by decide) (fun hc => ?_) (fun hc => ?_)
  · replace h := h.1 hc
    exact hko26 r0 kr0 x1 ox1 x2 ox2 S _ _ _ (lv_sub hl [0, 1, 2] rfl) hW hS h
  · replace h := h.2 hc
    refine m_aload_n (pc := 8) C.1 dX12_wouldBe_8 rfl hl 0 rfl ?_
    refine g_10_3 (pc := 9) C hW kr0 q_1386 dX12_wouldBe_9 ?_
    refine m_iload_n (pc := 12) C.1 dX12_wouldBe_12 rfl hl 3 rfl ?_
    refine m_aload_n (pc := 13) C.1 dX12_wouldBe_13 rfl hl 0 rfl ?_
    refine m_iload_n (pc := 14) C.1 dX12_wouldBe_14 rfl hl 1 rfl ?_
    refine m_iload_n (pc := 15) C.1 dX12_wouldBe_15 rfl hl 3 rfl ?_
    refine m_callVi (pc := 16) C.1 C.2.2.1 hl.1 C.2.1 hW hS (As := [.int (mI x1), .int (mI x3)]) (rest := [.int (mI x3), .ref (b + (r0 + 3))]) (r := r0) (T_X12_of C.2.2.2.2.2.2 N r0 kr0 x1 ox1 x3 ox3 h) kr0 rfl q_1630 q_1632 q_48 q_92 q_1633 pl_X12_of (by decide) (Nat.le_of_ble_eq_true rfl) dX12_wouldBe_16 (fun v1 S1 H locs ov1 h hW1 hS => ?_)
    obtain ⟨hb2a, hb2b, h⟩ := h
    refine m_iast (pc := 19) C.1 C.2.1 hW1 hS (k_10_3 kr0) ox3 ov1 hb2a hb2b dX12_wouldBe_19 (fun S3 H locs e3 hW3 hS => ?_)
    replace h := h S3 e3
    refine m_iinc (pc := 20) C.1 dX12_wouldBe_20 hl (by decide) (q0 := 3) rfl (fun v => [(3, .int v), (0, .ref (b + r0)), (1, .int (mI x1)), (2, .int (mI x2))]) (fun _ => rfl) (fun v4 ls ev4 ov4 hl => ?_)
    replace h := h v4 ev4
    refine m_goto (pc := 23) (tgt := 2) C.1 dX12_wouldBe_23 (by decide) ?_
    exact hko2 r0 kr0 x1 ox1 x2 ox2 v4 ov4 S3 _ _ _ (lv_sub hl [1, 2, 3, 0] rfl) hW3 hS h
def w_X12_wouldBe_2 (N : Nat) (Q : mSt → Int → Prop) (ko26 : Nat → Int → Int → mSt → Prop) : Nat → Nat → Int → Int → Int → mSt → Prop
  | 0 => fun _ _ _ _ _ => False
  | k + 1 => w_X12_wouldBe_2b N Q (w_X12_wouldBe_2 N Q ko26 k) ko26
theorem W_X12_wouldBe_2 (C : mC p l s m args meth c cX12_wouldBe "MoonWashModel" 5 (some FieldType.int) g) (N : Nat) {Q : mSt → Int → Prop} {ko26 : Nat → Int → Int → mSt → Prop} (hko26 : ∀ (r0 : Nat) (kr0 : KM r0 = (0, 10, 0)) (x1 : Int) (ox1 : okI x1) (x2 : Int) (ox2 : okI x2) (S : mSt) (H : Heap) (locs : List Loc) (ls : Array Slot), lv_has ls 5 [(0, .ref (b + r0)), (1, .int (mI x1)), (2, .int (mI x2))] → mW g b KM S H → va_S (mA b KM s.heap.size) s.heap H locs → ko26 r0 x1 x2 S → W p l e { frames := 120, cells := 0, slots := 0, locals := 3163 } s m args below meth c H locs 0 0 (vx_MQ below (mQi g b KM Q (mA b KM s.heap.size)) (mEx g b KM (fun _ _ => False) (mA b KM s.heap.size)) args s 0 0 (mA b KM s.heap.size)) (F0 m 26 ls [])) : ∀ (k : Nat) (r0 : Nat) (kr0 : KM r0 = (0, 10, 0)) (x1 : Int) (ox1 : okI x1) (x2 : Int) (ox2 : okI x2) (x3 : Int) (ox3 : okI x3) (S : mSt) (H : Heap) (locs : List Loc) (ls : Array Slot) (hl : lv_has ls 5 [(0, .ref (b + r0)), (1, .int (mI x1)), (2, .int (mI x2)), (3, .int (mI x3))]) (hW : mW g b KM S H) (hS : va_S (mA b KM s.heap.size) s.heap H locs) (h : w_X12_wouldBe_2 N Q ko26 k r0 x1 x2 x3 S), W p l e { frames := 120, cells := 0, slots := 0, locals := 3163 } s m args below meth c H locs 0 0 (vx_MQ below (mQi g b KM Q (mA b KM s.heap.size)) (mEx g b KM (fun _ _ => False) (mA b KM s.heap.size)) args s 0 0 (mA b KM s.heap.size)) (F0 m 2 ls []) := by
  intro k
  induction k with
  | zero => intro r0 kr0 x1 ox1 x2 ox2 x3 ox3 S H locs ls hl hW hS h; exact False.elim h
  | succ k ih => intro r0 kr0 x1 ox1 x2 ox2 x3 ox3 S H locs ls hl hW hS h; exact W_X12_wouldBe_2b C N ih hko26 r0 kr0 x1 ox1 x2 ox2 x3 ox3 S H locs ls hl hW hS h
def w_X12_wouldBe_60b (N : Nat) (Q : mSt → Int → Prop) (ko60 : Nat → Int → Int → Int → mSt → Prop) (ko87 : Int → mSt → Prop) (r0 : Nat) (x1 : Int) (x3 : Int) (x4 : Int) (S : mSt) : Prop :=
  ((6 ≤ x4 → ko87 x3 S) ∧ (x4 < 6 → (0 ≤ x4 ∧ x4 < 750 ∧ w_X12_has N r0 x1 x4 (S (r0 + 3) x4) S (fun (S2 : mSt) => ∀ v3 : Int, v3 = nm (x4 + 1) → ko60 r0 x1 x3 v3 S2))))
theorem W_X12_wouldBe_60b (C : mC p l s m args meth c cX12_wouldBe "MoonWashModel" 5 (some FieldType.int) g) (N : Nat) {Q : mSt → Int → Prop} {ko60 : Nat → Int → Int → Int → mSt → Prop} {ko87 : Int → mSt → Prop} (hko60 : ∀ (r0 : Nat) (kr0 : KM r0 = (0, 10, 0)) (x1 : Int) (ox1 : okI x1) (x3 : Int) (ox3 : okI x3) (x4 : Int) (ox4 : okI x4) (S : mSt) (H : Heap) (locs : List Loc) (ls : Array Slot), lv_has ls 5 [(0, .ref (b + r0)), (1, .int (mI x1)), (3, .int (mI x3)), (4, .int (mI x4))] → mW g b KM S H → va_S (mA b KM s.heap.size) s.heap H locs → ko60 r0 x1 x3 x4 S → W p l e { frames := 120, cells := 0, slots := 0, locals := 3163 } s m args below meth c H locs 0 0 (vx_MQ below (mQi g b KM Q (mA b KM s.heap.size)) (mEx g b KM (fun _ _ => False) (mA b KM s.heap.size)) args s 0 0 (mA b KM s.heap.size)) (F0 m 60 ls [])) (hko87 : ∀ (x3 : Int) (ox3 : okI x3) (S : mSt) (H : Heap) (locs : List Loc) (ls : Array Slot), lv_has ls 5 [(3, .int (mI x3))] → mW g b KM S H → va_S (mA b KM s.heap.size) s.heap H locs → ko87 x3 S → W p l e { frames := 120, cells := 0, slots := 0, locals := 3163 } s m args below meth c H locs 0 0 (vx_MQ below (mQi g b KM Q (mA b KM s.heap.size)) (mEx g b KM (fun _ _ => False) (mA b KM s.heap.size)) args s 0 0 (mA b KM s.heap.size)) (F0 m 87 ls [])) (r0 : Nat) (kr0 : KM r0 = (0, 10, 0)) (x1 : Int) (ox1 : okI x1) (x3 : Int) (ox3 : okI x3) (x4 : Int) (ox4 : okI x4) (S : mSt) (H : Heap) (locs : List Loc) (ls : Array Slot) (hl : lv_has ls 5 [(0, .ref (b + r0)), (1, .int (mI x1)), (3, .int (mI x3)), (4, .int (mI x4))]) (hW : mW g b KM S H) (hS : va_S (mA b KM s.heap.size) s.heap H locs) (h : w_X12_wouldBe_60b N Q ko60 ko87 r0 x1 x3 x4 S) : W p l e { frames := 120, cells := 0, slots := 0, locals := 3163 } s m args below meth c H locs 0 0 (vx_MQ below (mQi g b KM Q (mA b KM s.heap.size)) (mEx g b KM (fun _ _ => False) (mA b KM s.heap.size)) args s 0 0 (mA b KM s.heap.size)) (F0 m 60 ls []) := by
  unfold w_X12_wouldBe_60b at h
  refine m_iload (pc := 60) C.1 dX12_wouldBe_60 hl 3 rfl ?_
  refine m_bipush (pc := 62) C.1 dX12_wouldBe_62 rfl ?_
  refine m_icmp_ge (pc := 64) (tgt := 87) C.1 ox4 (by decide : okI 6) dX12_wouldBe_64 (by decide) (fun hc => ?_) (fun hc => ?_)
  · replace h := h.1 hc
    exact hko87 x3 ox3 S _ _ _ (lv_sub hl [2] rfl) hW hS h
  · replace h := h.2 hc
    refine m_aload_n (pc := 67) C.1 dX12_wouldBe_67 rfl hl 0 rfl ?_
    refine m_iload_n (pc := 68) C.1 dX12_wouldBe_68 rfl hl 1 rfl ?_
    refine m_iload (pc := 69) C.1 dX12_wouldBe_69 hl 3 rfl ?_
    refine m_aload_n (pc := 71) C.1 dX12_wouldBe_71 rfl hl 0 rfl ?_
    refine g_10_3 (pc := 72) C hW kr0 q_1386 dX12_wouldBe_72 ?_
    refine m_iload (pc := 75) C.1 dX12_wouldBe_75 hl 3 rfl ?_
    obtain ⟨hb1a, hb1b, h⟩ := h
    refine m_iald (pc := 77) C.1 C.2.1 hW (k_10_3 kr0) ox4 hb1a hb1b dX12_wouldBe_77 ?_
    refine m_callVv (pc := 78) C.1 C.2.2.1 hl.1 C.2.1 hW hS (As := [.int (mI x1), .int (mI x4), .int (mI (S (r0 + 3) x4))]) (rest := []) (r := r0) (T_X12_has C.2.2.2.2.2.2 N r0 kr0 x1 ox1 x4 ox4 (S (r0 + 3) x4) (hW.2.1 _ _) h) kr0 rfl q_1379 q_1381 q_22 q_92 q_1382 pl_X12_has (by decide) (Nat.le_of_ble_eq_true rfl) dX12_wouldBe_78 (fun S2 H locs h hW2 hS => ?_)
    refine m_iinc (pc := 81) C.1 dX12_wouldBe_81 hl (by decide) (q0 := 3) rfl (fun v => [(4, .int v), (0, .ref (b + r0)), (1, .int (mI x1)), (3, .int (mI x3))]) (fun _ => rfl) (fun v3 ls ev3 ov3 hl => ?_)
    replace h := h v3 ev3
    refine m_goto (pc := 84) (tgt := 60) C.1 dX12_wouldBe_84 (by decide) ?_
    exact hko60 r0 kr0 x1 ox1 x3 ox3 v3 ov3 S2 _ _ _ (lv_sub hl [1, 2, 3, 0] rfl) hW2 hS h
def w_X12_wouldBe_60 (N : Nat) (Q : mSt → Int → Prop) (ko87 : Int → mSt → Prop) : Nat → Nat → Int → Int → Int → mSt → Prop
  | 0 => fun _ _ _ _ _ => False
  | k + 1 => w_X12_wouldBe_60b N Q (w_X12_wouldBe_60 N Q ko87 k) ko87
theorem W_X12_wouldBe_60 (C : mC p l s m args meth c cX12_wouldBe "MoonWashModel" 5 (some FieldType.int) g) (N : Nat) {Q : mSt → Int → Prop} {ko87 : Int → mSt → Prop} (hko87 : ∀ (x3 : Int) (ox3 : okI x3) (S : mSt) (H : Heap) (locs : List Loc) (ls : Array Slot), lv_has ls 5 [(3, .int (mI x3))] → mW g b KM S H → va_S (mA b KM s.heap.size) s.heap H locs → ko87 x3 S → W p l e { frames := 120, cells := 0, slots := 0, locals := 3163 } s m args below meth c H locs 0 0 (vx_MQ below (mQi g b KM Q (mA b KM s.heap.size)) (mEx g b KM (fun _ _ => False) (mA b KM s.heap.size)) args s 0 0 (mA b KM s.heap.size)) (F0 m 87 ls [])) : ∀ (k : Nat) (r0 : Nat) (kr0 : KM r0 = (0, 10, 0)) (x1 : Int) (ox1 : okI x1) (x3 : Int) (ox3 : okI x3) (x4 : Int) (ox4 : okI x4) (S : mSt) (H : Heap) (locs : List Loc) (ls : Array Slot) (hl : lv_has ls 5 [(0, .ref (b + r0)), (1, .int (mI x1)), (3, .int (mI x3)), (4, .int (mI x4))]) (hW : mW g b KM S H) (hS : va_S (mA b KM s.heap.size) s.heap H locs) (h : w_X12_wouldBe_60 N Q ko87 k r0 x1 x3 x4 S), W p l e { frames := 120, cells := 0, slots := 0, locals := 3163 } s m args below meth c H locs 0 0 (vx_MQ below (mQi g b KM Q (mA b KM s.heap.size)) (mEx g b KM (fun _ _ => False) (mA b KM s.heap.size)) args s 0 0 (mA b KM s.heap.size)) (F0 m 60 ls []) := by
  intro k
  induction k with
  | zero => intro r0 kr0 x1 ox1 x3 ox3 x4 ox4 S H locs ls hl hW hS h; exact False.elim h
  | succ k ih => intro r0 kr0 x1 ox1 x3 ox3 x4 ox4 S H locs ls hl hW hS h; exact W_X12_wouldBe_60b C N ih hko87 r0 kr0 x1 ox1 x3 ox3 x4 ox4 S H locs ls hl hW hS h
def w_X12_wouldBe_37 (N : Nat) (Q : mSt → Int → Prop)  (r0 : Nat) (x1 : Int) (S : mSt) : Prop :=
  w_X12_has N r0 x1 2 0 S (fun (S1 : mSt) => w_X12_has N r0 x1 4 1 S1 (fun (S2 : mSt) => w_X12_whiteOf N r0 x1 S2 (fun (S3 : mSt) (v3 : Int) => ∀ v4 : Int, v4 = v3 → ∀ v5 : Int, v5 = 0 → w_X12_wouldBe_60 N Q (fun (x3_6 : Int) (S_6 : mSt) => Q S_6 x3_6) N r0 x1 v4 v5 S3)))
theorem W_X12_wouldBe_37 (C : mC p l s m args meth c cX12_wouldBe "MoonWashModel" 5 (some FieldType.int) g) (N : Nat) {Q : mSt → Int → Prop}   (r0 : Nat) (kr0 : KM r0 = (0, 10, 0)) (x1 : Int) (ox1 : okI x1) (S : mSt) (H : Heap) (locs : List Loc) (ls : Array Slot) (hl : lv_has ls 5 [(0, .ref (b + r0)), (1, .int (mI x1))]) (hW : mW g b KM S H) (hS : va_S (mA b KM s.heap.size) s.heap H locs) (h : w_X12_wouldBe_37 N Q  r0 x1 S) : W p l e { frames := 120, cells := 0, slots := 0, locals := 3163 } s m args below meth c H locs 0 0 (vx_MQ below (mQi g b KM Q (mA b KM s.heap.size)) (mEx g b KM (fun _ _ => False) (mA b KM s.heap.size)) args s 0 0 (mA b KM s.heap.size)) (F0 m 37 ls []) := by
  unfold w_X12_wouldBe_37 at h
  refine m_aload_n (pc := 37) C.1 dX12_wouldBe_37 rfl hl 0 rfl ?_
  refine m_iload_n (pc := 38) C.1 dX12_wouldBe_38 rfl hl 1 rfl ?_
  refine m_iconst (pc := 39) C.1 dX12_wouldBe_39 ?_
  refine m_iconst (pc := 40) C.1 dX12_wouldBe_40 ?_
  refine m_callVv (pc := 41) C.1 C.2.2.1 hl.1 C.2.1 hW hS (As := [.int (mI x1), .int (mI 2), .int (mI 0)]) (rest := []) (r := r0) (T_X12_has C.2.2.2.2.2.2 N r0 kr0 x1 ox1 2 (by decide : okI 2) 0 (by decide : okI 0) h) kr0 rfl q_1379 q_1381 q_22 q_92 q_1382 pl_X12_has (by decide) (Nat.le_of_ble_eq_true rfl) dX12_wouldBe_41 (fun S1 H locs h hW1 hS => ?_)
  refine m_aload_n (pc := 44) C.1 dX12_wouldBe_44 rfl hl 0 rfl ?_
  refine m_iload_n (pc := 45) C.1 dX12_wouldBe_45 rfl hl 1 rfl ?_
  refine m_iconst (pc := 46) C.1 dX12_wouldBe_46 ?_
  refine m_iconst (pc := 47) C.1 dX12_wouldBe_47 ?_
  refine m_callVv (pc := 48) C.1 C.2.2.1 hl.1 C.2.1 hW1 hS (As := [.int (mI x1), .int (mI 4), .int (mI 1)]) (rest := []) (r := r0) (T_X12_has C.2.2.2.2.2.2 N r0 kr0 x1 ox1 4 (by decide : okI 4) 1 (by decide : okI 1) h) kr0 rfl q_1379 q_1381 q_22 q_92 q_1382 pl_X12_has (by decide) (Nat.le_of_ble_eq_true rfl) dX12_wouldBe_48 (fun S2 H locs h hW2 hS => ?_)
  refine m_aload_n (pc := 51) C.1 dX12_wouldBe_51 rfl hl 0 rfl ?_
  refine m_iload_n (pc := 52) C.1 dX12_wouldBe_52 rfl hl 1 rfl ?_
  refine m_callVi (pc := 53) C.1 C.2.2.1 hl.1 C.2.1 hW2 hS (As := [.int (mI x1)]) (rest := []) (r := r0) (T_X12_whiteOf C.2.2.2.2.2.2 N r0 kr0 x1 ox1 h) kr0 rfl q_1638 q_1640 q_50 q_92 q_1641 pl_X12_whiteOf (by decide) (Nat.le_of_ble_eq_true rfl) dX12_wouldBe_53 (fun v3 S3 H locs ov3 h hW3 hS => ?_)
  refine m_istore_n (pc := 56) C.1 dX12_wouldBe_56 rfl hl (by decide) (fun v => [(3, .int v), (0, .ref (b + r0)), (1, .int (mI x1))]) (fun _ => rfl) ov3 (fun v4 ls ev4 ov4 hl => ?_)
  replace h := h v4 ev4
  refine m_iconst (pc := 57) C.1 dX12_wouldBe_57 ?_
  refine m_istore (pc := 58) C.1 dX12_wouldBe_58 hl (by decide) (fun v => [(4, .int v), (3, .int (mI v4)), (0, .ref (b + r0)), (1, .int (mI x1))]) (fun _ => rfl) (by decide : okI 0) (fun v5 ls ev5 ov5 hl => ?_)
  replace h := h v5 ev5
  refine W_X12_wouldBe_60 C N ?_ N r0 kr0 x1 ox1 v4 ov4 v5 ov5 S3 _ _ _ (lv_sub hl [2, 3, 1, 0] rfl) hW3 hS h
  · intro x3_6 ox3_6 S_6 H locs ls hl hW_6 hS h
    refine m_iload_n (pc := 87) C.1 dX12_wouldBe_87 rfl hl 0 rfl ?_
    exact m_iret (pc := 88) C.1 C.2.2.2.1 C.2.2.2.2.1 hW_6 hS ox3_6 h (by decide) (by decide) dX12_wouldBe_88
end
def w_X12_wouldBe (N : Nat) (r0 : Nat) (x1 : Int) (x2 : Int) (S : mSt) (Q : mSt → Int → Prop) : Prop :=
  ∀ v1 : Int, v1 = 0 → w_X12_wouldBe_2 N Q (fun (r0_2 : Nat) (x1_2 : Int) (x2_2 : Int) (S_2 : mSt) => ((x2_2 = (-1) → w_X12_wouldBe_37 N Q  r0_2 x1_2 S_2) ∧ (x2_2 ≠ (-1) → w_X12_cleans N r0_2 x1_2 x2_2 S_2 (fun (S3 : mSt) => w_X12_wouldBe_37 N Q  r0_2 x1_2 S3)))) N r0 x1 x2 v1 S
theorem T_X12_wouldBe {l : Launch} (hl0 : l.stackTraces = false) {g : mG} {b : Nat} (N : Nat) (r0 : Nat) (kr0 : KM r0 = (0, 10, 0)) (x1 : Int) (ox1 : okI x1) (x2 : Int) (ox2 : okI x2) {S : mSt} {Q : mSt → Int → Prop} (h : w_X12_wouldBe N r0 x1 x2 S Q) (sz : Nat) : vx_Met l yX12_wouldBe (Cond.code yX12_wouldBe cX12_wouldBe 5 (some FieldType.int) :: wsG) { frames := 120, cells := 0, slots := 0, locals := 3163 } (mPc g b KM S [.ref (b + r0), .int (mI x1), .int (mI x2)] sz) (mQi g b KM Q (mA b KM sz)) (mEx g b KM (fun _ _ => False) (mA b KM sz)) 0 0 (mA b KM sz) :=
  m_of (av := [.ref (b + r0), .int (mI x1), .int (mI x2)]) (Qf := fun A => mQi g b KM Q A) (Xf := fun A => mEx g b KM (fun _ _ => False) A) (by decide) (Nat.le_of_ble_eq_true rfl) (fun p e s m args below meth c ls X hK hml hr hlk hout hnm hW hl => by
    have C : mC p l s m args meth c cX12_wouldBe "MoonWashModel" 5 (some FieldType.int) g := ⟨X, hK, hml, hr, hlk, hout, hl0⟩
    have hS : va_S (mA b KM s.heap.size) s.heap s.heap [] := va_S.rf
    have hl : lv_has ls 5 [(0, .ref (b + r0)), (1, .int (mI x1)), (2, .int (mI x2))] := hl
    unfold w_X12_wouldBe at h
    refine m_iconst (pc := 0) C.1 dX12_wouldBe_0 ?_
    refine m_istore_n (pc := 1) C.1 dX12_wouldBe_1 rfl hl (by decide) (fun v => [(3, .int v), (0, .ref (b + r0)), (1, .int (mI x1)), (2, .int (mI x2))]) (fun _ => rfl) (by decide : okI 0) (fun v1 ls ev1 ov1 hl => ?_)
    replace h := h v1 ev1
    refine W_X12_wouldBe_2 C N ?_ N r0 kr0 x1 ox1 x2 ox2 v1 ov1 S _ _ _ (lv_sub hl [1, 2, 3, 0] rfl) hW hS h
    · intro r0_2 kr0_2 x1_2 ox1_2 x2_2 ox2_2 S_2 H locs ls hl hW_2 hS h
      refine m_iload_n (pc := 26) C.1 dX12_wouldBe_26 rfl hl 2 rfl ?_
      refine m_iconst (pc := 27) C.1 dX12_wouldBe_27 ?_
      refine m_icmp_eq (pc := 28) (tgt := 37) C.1 ox2_2 (by decide : okI (-1)) dX12_wouldBe_28 (by decide) (fun hc => ?_) (fun hc => ?_)
      · replace h := h.1 hc
        exact W_X12_wouldBe_37 C N  r0_2 kr0_2 x1_2 ox1_2 S_2 _ _ _ (lv_sub hl [0, 1] rfl) hW_2 hS h
      · replace h := h.2 hc
        refine m_aload_n (pc := 31) C.1 dX12_wouldBe_31 rfl hl 0 rfl ?_
        refine m_iload_n (pc := 32) C.1 dX12_wouldBe_32 rfl hl 1 rfl ?_
        refine m_iload_n (pc := 33) C.1 dX12_wouldBe_33 rfl hl 2 rfl ?_
        refine m_callVv (pc := 34) C.1 C.2.2.1 hl.1 C.2.1 hW_2 hS (As := [.int (mI x1_2), .int (mI x2_2)]) (rest := []) (r := r0_2) (T_X12_cleans C.2.2.2.2.2.2 N r0_2 kr0_2 x1_2 ox1_2 x2_2 ox2_2 h) kr0_2 rfl q_1703 q_1705 q_60 q_92 q_1706 pl_X12_cleans (by decide) (Nat.le_of_ble_eq_true rfl) dX12_wouldBe_34 (fun S3 H locs h hW3 hS => ?_)
        exact W_X12_wouldBe_37 C N  r0_2 kr0_2 x1_2 ox1_2 S3 _ _ _ (lv_sub hl [0, 1] rfl) hW3 hS h) sz
section
variable {p : Program} {l : Launch} {e : Env} {s : State} {m : MethodId} {args : Array Value} {below : List Frame} {meth : Method} {c : Code} {g : mG} {b : Nat}
def w_X12_would_21 (N : Nat) (Q : mSt → Int → Prop)  (r0 : Nat) (x1 : Int) (x2 : Int) (xs0 : Int) (rs1 : Nat) (S : mSt) : Prop :=
  ∀ S1 : mSt, S1 = mup S rs1 0 xs0 → (((S1 r0 0) ≤ 0 → w_X12_wouldBe N r0 x1 x2 S1 (fun (S2 : mSt) (v2 : Int) => Q S2 v2)) ∧ (0 < (S1 r0 0) → Q S1 0))
theorem W_X12_would_21 (C : mC p l s m args meth c cX12_would "MoonWashModel" 3 (some FieldType.int) g) (N : Nat) {Q : mSt → Int → Prop}   (r0 : Nat) (kr0 : KM r0 = (0, 10, 0)) (x1 : Int) (ox1 : okI x1) (x2 : Int) (ox2 : okI x2) (xs0 : Int) (oxs0 : okI xs0) (rs1 : Nat) (krs1 : KM rs1 = (0, 10, 0)) (S : mSt) (H : Heap) (locs : List Loc) (ls : Array Slot) (hl : lv_has ls 3 [(0, .ref (b + r0)), (1, .int (mI x1)), (2, .int (mI x2))]) (hW : mW g b KM S H) (hS : va_S (mA b KM s.heap.size) s.heap H locs) (h : w_X12_would_21 N Q  r0 x1 x2 xs0 rs1 S) : W p l e { frames := 121, cells := 0, slots := 0, locals := 3187 } s m args below meth c H locs 0 0 (vx_MQ below (mQi g b KM Q (mA b KM s.heap.size)) (mEx g b KM (fun _ _ => False) (mA b KM s.heap.size)) args s 0 0 (mA b KM s.heap.size)) (F0 m 21 ls [.int (mI xs0), .ref (b + rs1)]) := by
  unfold w_X12_would_21 at h
  refine p_10_0 (pc := 21) C hW hS krs1 q_1383 oxs0 dX12_would_21 (fun S1 H locs e1 hW1 hS => ?_)
  replace h := h S1 e1
  refine m_aload_n (pc := 24) C.1 dX12_would_24 rfl hl 0 rfl ?_
  refine g_10_0 (pc := 25) C hW1 kr0 q_1383 dX12_would_25 ?_
  refine m_if_le (pc := 28) (tgt := 35) C.1 (hW1.2.1 _ _) dX12_would_28 (by decide) (fun hc => ?_) (fun hc => ?_)
  · replace h := h.1 hc
    refine m_aload_n (pc := 35) C.1 dX12_would_35 rfl hl 0 rfl ?_
    refine m_iload_n (pc := 36) C.1 dX12_would_36 rfl hl 1 rfl ?_
    refine m_iload_n (pc := 37) C.1 dX12_would_37 rfl hl 2 rfl ?_
    refine m_callVi (pc := 38) C.1 C.2.2.1 hl.1 C.2.1 hW1 hS (As := [.int (mI x1), .int (mI x2)]) (rest := []) (r := r0) (T_X12_wouldBe C.2.2.2.2.2.2 N r0 kr0 x1 ox1 x2 ox2 h) kr0 rfl q_1768 q_1770 q_68 q_92 q_1771 pl_X12_wouldBe (by decide) (Nat.le_of_ble_eq_true rfl) dX12_would_38 (fun v2 S2 H locs ov2 h hW2 hS => ?_)
    exact m_iret (pc := 41) C.1 C.2.2.2.1 C.2.2.2.2.1 hW2 hS ov2 h (by decide) (by decide) dX12_would_41
  · replace h := h.2 hc
    refine m_iconst (pc := 31) C.1 dX12_would_31 ?_
    refine m_goto (pc := 32) (tgt := 41) C.1 dX12_would_32 (by decide) ?_
    exact m_iret (pc := 41) C.1 C.2.2.2.1 C.2.2.2.2.1 hW1 hS (by decide : okI 0) h (by decide) (by decide) dX12_would_41
def w_X12_would_16 (N : Nat) (Q : mSt → Int → Prop)  (r0 : Nat) (x1 : Int) (x2 : Int) (rs0 : Nat) (S : mSt) : Prop :=
  w_X12_would_21 N Q  r0 x1 x2 1 rs0 S
theorem W_X12_would_16 (C : mC p l s m args meth c cX12_would "MoonWashModel" 3 (some FieldType.int) g) (N : Nat) {Q : mSt → Int → Prop}   (r0 : Nat) (kr0 : KM r0 = (0, 10, 0)) (x1 : Int) (ox1 : okI x1) (x2 : Int) (ox2 : okI x2) (rs0 : Nat) (krs0 : KM rs0 = (0, 10, 0)) (S : mSt) (H : Heap) (locs : List Loc) (ls : Array Slot) (hl : lv_has ls 3 [(0, .ref (b + r0)), (1, .int (mI x1)), (2, .int (mI x2))]) (hW : mW g b KM S H) (hS : va_S (mA b KM s.heap.size) s.heap H locs) (h : w_X12_would_16 N Q  r0 x1 x2 rs0 S) : W p l e { frames := 121, cells := 0, slots := 0, locals := 3187 } s m args below meth c H locs 0 0 (vx_MQ below (mQi g b KM Q (mA b KM s.heap.size)) (mEx g b KM (fun _ _ => False) (mA b KM s.heap.size)) args s 0 0 (mA b KM s.heap.size)) (F0 m 16 ls [.ref (b + rs0)]) := by
  unfold w_X12_would_16 at h
  refine m_iconst (pc := 16) C.1 dX12_would_16 ?_
  refine m_goto (pc := 17) (tgt := 21) C.1 dX12_would_17 (by decide) ?_
  exact W_X12_would_21 C N  r0 kr0 x1 ox1 x2 ox2 1 (by decide : okI 1) rs0 krs0 S _ _ _ (lv_sub hl [0, 1, 2] rfl) hW hS h
end
def w_X12_would (N : Nat) (r0 : Nat) (x1 : Int) (x2 : Int) (S : mSt) (Q : mSt → Int → Prop) : Prop :=
  w_X12_isPart N x1 S (fun (S1 : mSt) (v1 : Int) => ((v1 = 0 → w_X12_would_16 N Q  r0 x1 x2 r0 S1) ∧ (v1 ≠ 0 → w_X12_isSoap N r0 x2 S1 (fun (S2 : mSt) (v2 : Int) => ((v2 ≠ 0 → w_X12_would_21 N Q  r0 x1 x2 0 r0 S2) ∧ (v2 = 0 → w_X12_would_16 N Q  r0 x1 x2 r0 S2))))))
theorem T_X12_would {l : Launch} (hl0 : l.stackTraces = false) {g : mG} {b : Nat} (N : Nat) (r0 : Nat) (kr0 : KM r0 = (0, 10, 0)) (x1 : Int) (ox1 : okI x1) (x2 : Int) (ox2 : okI x2) {S : mSt} {Q : mSt → Int → Prop} (h : w_X12_would N r0 x1 x2 S Q) (sz : Nat) : vx_Met l yX12_would (Cond.code yX12_would cX12_would 3 (some FieldType.int) :: wsG) { frames := 121, cells := 0, slots := 0, locals := 3187 } (mPc g b KM S [.ref (b + r0), .int (mI x1), .int (mI x2)] sz) (mQi g b KM Q (mA b KM sz)) (mEx g b KM (fun _ _ => False) (mA b KM sz)) 0 0 (mA b KM sz) :=
  m_of (av := [.ref (b + r0), .int (mI x1), .int (mI x2)]) (Qf := fun A => mQi g b KM Q A) (Xf := fun A => mEx g b KM (fun _ _ => False) A) (by decide) (Nat.le_of_ble_eq_true rfl) (fun p e s m args below meth c ls X hK hml hr hlk hout hnm hW hl => by
    have C : mC p l s m args meth c cX12_would "MoonWashModel" 3 (some FieldType.int) g := ⟨X, hK, hml, hr, hlk, hout, hl0⟩
    have hS : va_S (mA b KM s.heap.size) s.heap s.heap [] := va_S.rf
    have hl : lv_has ls 3 [(0, .ref (b + r0)), (1, .int (mI x1)), (2, .int (mI x2))] := hl
    unfold w_X12_would at h
    refine m_aload_n (pc := 0) C.1 dX12_would_0 rfl hl 0 rfl ?_
    refine m_iload_n (pc := 1) C.1 dX12_would_1 rfl hl 1 rfl ?_
    refine m_callSi (pc := 2) C.1 C.2.2.1 hl.1 C.2.1 hW hS (As := [.int (mI x1)]) (rest := [.ref (b + r0)]) (T_X12_isPart C.2.2.2.2.2.2 N x1 ox1 h) q_1627 q_1628 q_92 q_1629 pl_X12_isPart (by decide) (Nat.le_of_ble_eq_true rfl) dX12_would_2 (fun v1 S1 H locs ov1 h hW1 hS => ?_)
    refine m_if_eq (pc := 5) (tgt := 16) C.1 ov1 dX12_would_5 (by decide) (fun hc => ?_) (fun hc => ?_)
    · replace h := h.1 hc
      exact W_X12_would_16 C N  r0 kr0 x1 ox1 x2 ox2 r0 kr0 S1 _ _ _ (lv_sub hl [0, 1, 2] rfl) hW1 hS h
    · replace h := h.2 hc
      refine m_aload_n (pc := 8) C.1 dX12_would_8 rfl hl 0 rfl ?_
      refine m_iload_n (pc := 9) C.1 dX12_would_9 rfl hl 2 rfl ?_
      refine m_callVi (pc := 10) C.1 C.2.2.1 hl.1 C.2.1 hW1 hS (As := [.int (mI x2)]) (rest := [.ref (b + r0)]) (r := r0) (T_X12_isSoap C.2.2.2.2.2.2 N r0 kr0 x2 ox2 h) kr0 rfl q_1679 q_1681 q_57 q_92 q_1682 pl_X12_isSoap (by decide) (Nat.le_of_ble_eq_true rfl) dX12_would_10 (fun v2 S2 H locs ov2 h hW2 hS => ?_)
      refine m_if_ne (pc := 13) (tgt := 20) C.1 ov2 dX12_would_13 (by decide) (fun hc => ?_) (fun hc => ?_)
      · replace h := h.1 hc
        refine m_iconst (pc := 20) C.1 dX12_would_20 ?_
        exact W_X12_would_21 C N  r0 kr0 x1 ox1 x2 ox2 0 (by decide : okI 0) r0 kr0 S2 _ _ _ (lv_sub hl [0, 1, 2] rfl) hW2 hS h
      · replace h := h.2 hc
        exact W_X12_would_16 C N  r0 kr0 x1 ox1 x2 ox2 r0 kr0 S2 _ _ _ (lv_sub hl [0, 1, 2] rfl) hW2 hS h) sz
section
variable {p : Program} {l : Launch} {e : Env} {s : State} {m : MethodId} {args : Array Value} {below : List Frame} {meth : Method} {c : Code} {g : mG} {b : Nat}
def w_X12_best_89 (N : Nat) (Q : mSt → Int → Prop) (ko32 : Nat → Int → Int → Int → Int → mSt → Prop) (r0 : Nat) (x1 : Int) (x2 : Int) (x3 : Int) (x4 : Int) (S : mSt) : Prop :=
  ∀ v1 : Int, v1 = nm (x4 + 1) → ko32 r0 x1 x2 x3 v1 S
theorem W_X12_best_89 (C : mC p l s m args meth c cX12_best "MoonWashModel" 6 (some FieldType.int) g) (N : Nat) {Q : mSt → Int → Prop} {ko32 : Nat → Int → Int → Int → Int → mSt → Prop} (hko32 : ∀ (r0 : Nat) (kr0 : KM r0 = (0, 10, 0)) (x1 : Int) (ox1 : okI x1) (x2 : Int) (ox2 : okI x2) (x3 : Int) (ox3 : okI x3) (x4 : Int) (ox4 : okI x4) (S : mSt) (H : Heap) (locs : List Loc) (ls : Array Slot), lv_has ls 6 [(0, .ref (b + r0)), (1, .int (mI x1)), (2, .int (mI x2)), (3, .int (mI x3)), (4, .int (mI x4))] → mW g b KM S H → va_S (mA b KM s.heap.size) s.heap H locs → ko32 r0 x1 x2 x3 x4 S → W p l e { frames := 121, cells := 0, slots := 0, locals := 3187 } s m args below meth c H locs 0 0 (vx_MQ below (mQi g b KM Q (mA b KM s.heap.size)) (mEx g b KM (fun _ _ => False) (mA b KM s.heap.size)) args s 0 0 (mA b KM s.heap.size)) (F0 m 32 ls [])) (r0 : Nat) (kr0 : KM r0 = (0, 10, 0)) (x1 : Int) (ox1 : okI x1) (x2 : Int) (ox2 : okI x2) (x3 : Int) (ox3 : okI x3) (x4 : Int) (ox4 : okI x4) (S : mSt) (H : Heap) (locs : List Loc) (ls : Array Slot) (hl : lv_has ls 6 [(0, .ref (b + r0)), (1, .int (mI x1)), (2, .int (mI x2)), (3, .int (mI x3)), (4, .int (mI x4))]) (hW : mW g b KM S H) (hS : va_S (mA b KM s.heap.size) s.heap H locs) (h : w_X12_best_89 N Q ko32 r0 x1 x2 x3 x4 S) : W p l e { frames := 121, cells := 0, slots := 0, locals := 3187 } s m args below meth c H locs 0 0 (vx_MQ below (mQi g b KM Q (mA b KM s.heap.size)) (mEx g b KM (fun _ _ => False) (mA b KM s.heap.size)) args s 0 0 (mA b KM s.heap.size)) (F0 m 89 ls []) := by
  unfold w_X12_best_89 at h
  refine m_iinc (pc := 89) C.1 dX12_best_89 hl (by decide) (q0 := 4) rfl (fun v => [(4, .int v), (0, .ref (b + r0)), (1, .int (mI x1)), (2, .int (mI x2)), (3, .int (mI x3))]) (fun _ => rfl) (fun v1 ls ev1 ov1 hl => ?_)
  replace h := h v1 ev1
  refine m_goto (pc := 92) (tgt := 32) C.1 dX12_best_92 (by decide) ?_
  exact hko32 r0 kr0 x1 ox1 x2 ox2 x3 ox3 v1 ov1 S _ _ _ (lv_sub hl [1, 2, 3, 4, 0] rfl) hW hS h
def w_X12_best_83 (N : Nat) (Q : mSt → Int → Prop) (ko32 : Nat → Int → Int → Int → Int → mSt → Prop) (r0 : Nat) (x1 : Int) (x4 : Int) (x5 : Int) (S : mSt) : Prop :=
  ∀ v1 : Int, v1 = x5 → ∀ v2 : Int, v2 = x4 → w_X12_best_89 N Q ko32 r0 x1 v2 v1 x4 S
theorem W_X12_best_83 (C : mC p l s m args meth c cX12_best "MoonWashModel" 6 (some FieldType.int) g) (N : Nat) {Q : mSt → Int → Prop} {ko32 : Nat → Int → Int → Int → Int → mSt → Prop} (hko32 : ∀ (r0 : Nat) (kr0 : KM r0 = (0, 10, 0)) (x1 : Int) (ox1 : okI x1) (x2 : Int) (ox2 : okI x2) (x3 : Int) (ox3 : okI x3) (x4 : Int) (ox4 : okI x4) (S : mSt) (H : Heap) (locs : List Loc) (ls : Array Slot), lv_has ls 6 [(0, .ref (b + r0)), (1, .int (mI x1)), (2, .int (mI x2)), (3, .int (mI x3)), (4, .int (mI x4))] → mW g b KM S H → va_S (mA b KM s.heap.size) s.heap H locs → ko32 r0 x1 x2 x3 x4 S → W p l e { frames := 121, cells := 0, slots := 0, locals := 3187 } s m args below meth c H locs 0 0 (vx_MQ below (mQi g b KM Q (mA b KM s.heap.size)) (mEx g b KM (fun _ _ => False) (mA b KM s.heap.size)) args s 0 0 (mA b KM s.heap.size)) (F0 m 32 ls [])) (r0 : Nat) (kr0 : KM r0 = (0, 10, 0)) (x1 : Int) (ox1 : okI x1) (x4 : Int) (ox4 : okI x4) (x5 : Int) (ox5 : okI x5) (S : mSt) (H : Heap) (locs : List Loc) (ls : Array Slot) (hl : lv_has ls 6 [(0, .ref (b + r0)), (1, .int (mI x1)), (4, .int (mI x4)), (5, .int (mI x5))]) (hW : mW g b KM S H) (hS : va_S (mA b KM s.heap.size) s.heap H locs) (h : w_X12_best_83 N Q ko32 r0 x1 x4 x5 S) : W p l e { frames := 121, cells := 0, slots := 0, locals := 3187 } s m args below meth c H locs 0 0 (vx_MQ below (mQi g b KM Q (mA b KM s.heap.size)) (mEx g b KM (fun _ _ => False) (mA b KM s.heap.size)) args s 0 0 (mA b KM s.heap.size)) (F0 m 83 ls []) := by
  unfold w_X12_best_83 at h
  refine m_iload (pc := 83) C.1 dX12_best_83 hl 3 rfl ?_
  refine m_istore_n (pc := 85) C.1 dX12_best_85 rfl hl (by decide) (fun v => [(3, .int v), (0, .ref (b + r0)), (1, .int (mI x1)), (4, .int (mI x4)), (5, .int (mI x5))]) (fun _ => rfl) ox5 (fun v1 ls ev1 ov1 hl => ?_)
  replace h := h v1 ev1
  refine m_iload (pc := 86) C.1 dX12_best_86 hl 3 rfl ?_
  refine m_istore_n (pc := 88) C.1 dX12_best_88 rfl hl (by decide) (fun v => [(2, .int v), (3, .int (mI v1)), (0, .ref (b + r0)), (1, .int (mI x1)), (4, .int (mI x4)), (5, .int (mI x5))]) (fun _ => rfl) ox4 (fun v2 ls ev2 ov2 hl => ?_)
  replace h := h v2 ev2
  exact W_X12_best_89 C N hko32 r0 kr0 x1 ox1 v2 ov2 v1 ov1 x4 ox4 S _ _ _ (lv_sub hl [2, 3, 0, 1, 4] rfl) hW hS h
def w_X12_best_32b (N : Nat) (Q : mSt → Int → Prop) (ko32 : Nat → Int → Int → Int → Int → mSt → Prop) (ko95 : Int → mSt → Prop) (r0 : Nat) (x1 : Int) (x2 : Int) (x3 : Int) (x4 : Int) (S : mSt) : Prop :=
  (((S (r0 + 1) 3) ≤ x4 → ko95 x2 S) ∧ (x4 < (S (r0 + 1) 3) → w_X12_wouldBe N r0 x1 x4 S (fun (S1 : mSt) (v1 : Int) => ∀ v2 : Int, v2 = v1 → ((v2 < x3 → w_X12_best_89 N Q ko32 r0 x1 x2 x3 x4 S1) ∧ (x3 ≤ v2 → ((v2 ≠ x3 → w_X12_best_83 N Q ko32 r0 x1 x4 v2 S1) ∧ (v2 = x3 → w_X12_ofSoap N r0 x4 1 S1 (fun (S3 : mSt) (v3 : Int) => w_X12_ofSoap N r0 x2 1 S3 (fun (S4 : mSt) (v4 : Int) => ((v3 < v4 → w_X12_best_83 N Q ko32 r0 x1 x4 v2 S4) ∧ (v4 ≤ v3 → w_X12_best_89 N Q ko32 r0 x1 x2 x3 x4 S4)))))))))))
theorem W_X12_best_32b (C : mC p l s m args meth c cX12_best "MoonWashModel" 6 (some FieldType.int) g) (N : Nat) {Q : mSt → Int → Prop} {ko32 : Nat → Int → Int → Int → Int → mSt → Prop} {ko95 : Int → mSt → Prop} (hko32 : ∀ (r0 : Nat) (kr0 : KM r0 = (0, 10, 0)) (x1 : Int) (ox1 : okI x1) (x2 : Int) (ox2 : okI x2) (x3 : Int) (ox3 : okI x3) (x4 : Int) (ox4 : okI x4) (S : mSt) (H : Heap) (locs : List Loc) (ls : Array Slot), lv_has ls 6 [(0, .ref (b + r0)), (1, .int (mI x1)), (2, .int (mI x2)), (3, .int (mI x3)), (4, .int (mI x4))] → mW g b KM S H → va_S (mA b KM s.heap.size) s.heap H locs → ko32 r0 x1 x2 x3 x4 S → W p l e { frames := 121, cells := 0, slots := 0, locals := 3187 } s m args below meth c H locs 0 0 (vx_MQ below (mQi g b KM Q (mA b KM s.heap.size)) (mEx g b KM (fun _ _ => False) (mA b KM s.heap.size)) args s 0 0 (mA b KM s.heap.size)) (F0 m 32 ls [])) (hko95 : ∀ (x2 : Int) (ox2 : okI x2) (S : mSt) (H : Heap) (locs : List Loc) (ls : Array Slot), lv_has ls 6 [(2, .int (mI x2))] → mW g b KM S H → va_S (mA b KM s.heap.size) s.heap H locs → ko95 x2 S → W p l e { frames := 121, cells := 0, slots := 0, locals := 3187 } s m args below meth c H locs 0 0 (vx_MQ below (mQi g b KM Q (mA b KM s.heap.size)) (mEx g b KM (fun _ _ => False) (mA b KM s.heap.size)) args s 0 0 (mA b KM s.heap.size)) (F0 m 95 ls [])) (r0 : Nat) (kr0 : KM r0 = (0, 10, 0)) (x1 : Int) (ox1 : okI x1) (x2 : Int) (ox2 : okI x2) (x3 : Int) (ox3 : okI x3) (x4 : Int) (ox4 : okI x4) (S : mSt) (H : Heap) (locs : List Loc) (ls : Array Slot) (hl : lv_has ls 6 [(0, .ref (b + r0)), (1, .int (mI x1)), (2, .int (mI x2)), (3, .int (mI x3)), (4, .int (mI x4))]) (hW : mW g b KM S H) (hS : va_S (mA b KM s.heap.size) s.heap H locs) (h : w_X12_best_32b N Q ko32 ko95 r0 x1 x2 x3 x4 S) : W p l e { frames := 121, cells := 0, slots := 0, locals := 3187 } s m args below meth c H locs 0 0 (vx_MQ below (mQi g b KM Q (mA b KM s.heap.size)) (mEx g b KM (fun _ _ => False) (mA b KM s.heap.size)) args s 0 0 (mA b KM s.heap.size)) (F0 m 32 ls []) := by
  unfold w_X12_best_32b at h
  refine m_iload (pc := 32) C.1 dX12_best_32 hl 4 rfl ?_
  refine m_aload_n (pc := 34) C.1 dX12_best_34 rfl hl 0 rfl ?_
  refine g_10_1 (pc := 35) C hW kr0 q_1384 dX12_best_35 ?_
  refine m_iconst (pc := 38) C.1 dX12_best_38 ?_
  refine m_iald (pc := 39) C.1 C.2.1 hW (k_10_1 kr0) (by decide : okI 3) (by decide) (by decide) dX12_best_39 ?_
  refine m_icmp_ge (pc := 40) (tgt := 95) C.1 ox4 (hW.2.1 _ _) dX12_best_40 (by decide) (fun hc => ?_) (fun hc => ?_)
  · replace h := h.1 hc
    exact hko95 x2 ox2 S _ _ _ (lv_sub hl [2] rfl) hW hS h
  · replace h := h.2 hc
    refine m_aload_n (pc := 43) C.1 dX12_best_43 rfl hl 0 rfl ?_
    refine m_iload_n (pc := 44) C.1 dX12_best_44 rfl hl 1 rfl ?_
    refine m_iload (pc := 45) C.1 dX12_best_45 hl 4 rfl ?_
    refine m_callVi (pc := 47) C.1 C.2.2.1 hl.1 C.2.1 hW hS (As := [.int (mI x1), .int (mI x4)]) (rest := []) (r := r0) (T_X12_wouldBe C.2.2.2.2.2.2 N r0 kr0 x1 ox1 x4 ox4 h) kr0 rfl q_1768 q_1770 q_68 q_92 q_1771 pl_X12_wouldBe (by decide) (Nat.le_of_ble_eq_true rfl) dX12_best_47 (fun v1 S1 H locs ov1 h hW1 hS => ?_)
    refine m_istore (pc := 50) C.1 dX12_best_50 hl (by decide) (fun v => [(5, .int v), (0, .ref (b + r0)), (1, .int (mI x1)), (2, .int (mI x2)), (3, .int (mI x3)), (4, .int (mI x4))]) (fun _ => rfl) ov1 (fun v2 ls ev2 ov2 hl => ?_)
    replace h := h v2 ev2
    refine m_iload (pc := 52) C.1 dX12_best_52 hl 0 rfl ?_
    refine m_iload_n (pc := 54) C.1 dX12_best_54 rfl hl 4 rfl ?_
    refine m_icmp_lt (pc := 55) (tgt := 89) C.1 ov2 ox3 dX12_best_55 (by decide) (fun hc => ?_) (fun hc => ?_)
    · replace h := h.1 hc
      exact W_X12_best_89 C N hko32 r0 kr0 x1 ox1 x2 ox2 x3 ox3 x4 ox4 S1 _ _ _ (lv_sub hl [1, 2, 3, 4, 5] rfl) hW1 hS h
    · replace h := h.2 hc
      refine m_iload (pc := 58) C.1 dX12_best_58 hl 0 rfl ?_
      refine m_iload_n (pc := 60) C.1 dX12_best_60 rfl hl 4 rfl ?_
      refine m_icmp_ne (pc := 61) (tgt := 83) C.1 ov2 ox3 dX12_best_61 (by decide) (fun hc => ?_) (fun hc => ?_)
      · replace h := h.1 hc
        exact W_X12_best_83 C N hko32 r0 kr0 x1 ox1 x4 ox4 v2 ov2 S1 _ _ _ (lv_sub hl [1, 2, 5, 0] rfl) hW1 hS h
      · replace h := h.2 hc
        refine m_aload_n (pc := 64) C.1 dX12_best_64 rfl hl 1 rfl ?_
        refine m_iload (pc := 65) C.1 dX12_best_65 hl 5 rfl ?_
        refine m_iconst (pc := 67) C.1 dX12_best_67 ?_
        refine m_callVi (pc := 68) C.1 C.2.2.1 hl.1 C.2.1 hW1 hS (As := [.int (mI x4), .int (mI 1)]) (rest := []) (r := r0) (T_X12_ofSoap C.2.2.2.2.2.2 N r0 kr0 x4 ox4 1 (by decide : okI 1) h) kr0 rfl q_1671 q_1673 q_56 q_92 q_1674 pl_X12_ofSoap (by decide) (Nat.le_of_ble_eq_true rfl) dX12_best_68 (fun v3 S3 H locs ov3 h hW3 hS => ?_)
        refine m_aload_n (pc := 71) C.1 dX12_best_71 rfl hl 1 rfl ?_
        refine m_iload_n (pc := 72) C.1 dX12_best_72 rfl hl 3 rfl ?_
        refine m_iconst (pc := 73) C.1 dX12_best_73 ?_
        refine m_callVi (pc := 74) C.1 C.2.2.1 hl.1 C.2.1 hW3 hS (As := [.int (mI x2), .int (mI 1)]) (rest := [.int (mI v3)]) (r := r0) (T_X12_ofSoap C.2.2.2.2.2.2 N r0 kr0 x2 ox2 1 (by decide : okI 1) h) kr0 rfl q_1671 q_1673 q_56 q_92 q_1674 pl_X12_ofSoap (by decide) (Nat.le_of_ble_eq_true rfl) dX12_best_74 (fun v4 S4 H locs ov4 h hW4 hS => ?_)
        refine m_icmp_lt (pc := 77) (tgt := 83) C.1 ov3 ov4 dX12_best_77 (by decide) (fun hc => ?_) (fun hc => ?_)
        · replace h := h.1 hc
          exact W_X12_best_83 C N hko32 r0 kr0 x1 ox1 x4 ox4 v2 ov2 S4 _ _ _ (lv_sub hl [1, 2, 5, 0] rfl) hW4 hS h
        · replace h := h.2 hc
          refine m_goto (pc := 80) (tgt := 89) C.1 dX12_best_80 (by decide) ?_
          exact W_X12_best_89 C N hko32 r0 kr0 x1 ox1 x2 ox2 x3 ox3 x4 ox4 S4 _ _ _ (lv_sub hl [1, 2, 3, 4, 5] rfl) hW4 hS h
def w_X12_best_32 (N : Nat) (Q : mSt → Int → Prop) (ko95 : Int → mSt → Prop) : Nat → Nat → Int → Int → Int → Int → mSt → Prop
  | 0 => fun _ _ _ _ _ _ => False
  | k + 1 => w_X12_best_32b N Q (w_X12_best_32 N Q ko95 k) ko95
theorem W_X12_best_32 (C : mC p l s m args meth c cX12_best "MoonWashModel" 6 (some FieldType.int) g) (N : Nat) {Q : mSt → Int → Prop} {ko95 : Int → mSt → Prop} (hko95 : ∀ (x2 : Int) (ox2 : okI x2) (S : mSt) (H : Heap) (locs : List Loc) (ls : Array Slot), lv_has ls 6 [(2, .int (mI x2))] → mW g b KM S H → va_S (mA b KM s.heap.size) s.heap H locs → ko95 x2 S → W p l e { frames := 121, cells := 0, slots := 0, locals := 3187 } s m args below meth c H locs 0 0 (vx_MQ below (mQi g b KM Q (mA b KM s.heap.size)) (mEx g b KM (fun _ _ => False) (mA b KM s.heap.size)) args s 0 0 (mA b KM s.heap.size)) (F0 m 95 ls [])) : ∀ (k : Nat) (r0 : Nat) (kr0 : KM r0 = (0, 10, 0)) (x1 : Int) (ox1 : okI x1) (x2 : Int) (ox2 : okI x2) (x3 : Int) (ox3 : okI x3) (x4 : Int) (ox4 : okI x4) (S : mSt) (H : Heap) (locs : List Loc) (ls : Array Slot) (hl : lv_has ls 6 [(0, .ref (b + r0)), (1, .int (mI x1)), (2, .int (mI x2)), (3, .int (mI x3)), (4, .int (mI x4))]) (hW : mW g b KM S H) (hS : va_S (mA b KM s.heap.size) s.heap H locs) (h : w_X12_best_32 N Q ko95 k r0 x1 x2 x3 x4 S), W p l e { frames := 121, cells := 0, slots := 0, locals := 3187 } s m args below meth c H locs 0 0 (vx_MQ below (mQi g b KM Q (mA b KM s.heap.size)) (mEx g b KM (fun _ _ => False) (mA b KM s.heap.size)) args s 0 0 (mA b KM s.heap.size)) (F0 m 32 ls []) := by
  intro k
  induction k with
  | zero => intro r0 kr0 x1 ox1 x2 ox2 x3 ox3 x4 ox4 S H locs ls hl hW hS h; exact False.elim h
  | succ k ih => intro r0 kr0 x1 ox1 x2 ox2 x3 ox3 x4 ox4 S H locs ls hl hW hS h; exact W_X12_best_32b C N ih hko95 r0 kr0 x1 ox1 x2 ox2 x3 ox3 x4 ox4 S H locs ls hl hW hS h
def w_X12_best_13 (N : Nat) (Q : mSt → Int → Prop)  (r0 : Nat) (x1 : Int) (xs0 : Int) (rs1 : Nat) (S : mSt) : Prop :=
  ∀ S1 : mSt, S1 = mup S rs1 0 xs0 → (((S1 r0 0) ≤ 0 → ∀ v2 : Int, v2 = (-1) → ∀ v3 : Int, v3 = (-1) → ∀ v4 : Int, v4 = 0 → w_X12_best_32 N Q (fun (x2_5 : Int) (S_5 : mSt) => Q S_5 x2_5) N r0 x1 v2 v3 v4 S1) ∧ (0 < (S1 r0 0) → Q S1 0))
theorem W_X12_best_13 (C : mC p l s m args meth c cX12_best "MoonWashModel" 6 (some FieldType.int) g) (N : Nat) {Q : mSt → Int → Prop}   (r0 : Nat) (kr0 : KM r0 = (0, 10, 0)) (x1 : Int) (ox1 : okI x1) (xs0 : Int) (oxs0 : okI xs0) (rs1 : Nat) (krs1 : KM rs1 = (0, 10, 0)) (S : mSt) (H : Heap) (locs : List Loc) (ls : Array Slot) (hl : lv_has ls 6 [(0, .ref (b + r0)), (1, .int (mI x1))]) (hW : mW g b KM S H) (hS : va_S (mA b KM s.heap.size) s.heap H locs) (h : w_X12_best_13 N Q  r0 x1 xs0 rs1 S) : W p l e { frames := 121, cells := 0, slots := 0, locals := 3187 } s m args below meth c H locs 0 0 (vx_MQ below (mQi g b KM Q (mA b KM s.heap.size)) (mEx g b KM (fun _ _ => False) (mA b KM s.heap.size)) args s 0 0 (mA b KM s.heap.size)) (F0 m 13 ls [.int (mI xs0), .ref (b + rs1)]) := by
  unfold w_X12_best_13 at h
  refine p_10_0 (pc := 13) C hW hS krs1 q_1383 oxs0 dX12_best_13 (fun S1 H locs e1 hW1 hS => ?_)
  replace h := h S1 e1
  refine m_aload_n (pc := 16) C.1 dX12_best_16 rfl hl 0 rfl ?_
  refine g_10_0 (pc := 17) C hW1 kr0 q_1383 dX12_best_17 ?_
  refine m_if_le (pc := 20) (tgt := 25) C.1 (hW1.2.1 _ _) dX12_best_20 (by decide) (fun hc => ?_) (fun hc => ?_)
  · replace h := h.1 hc
    refine m_iconst (pc := 25) C.1 dX12_best_25 ?_
    refine m_istore_n (pc := 26) C.1 dX12_best_26 rfl hl (by decide) (fun v => [(2, .int v), (0, .ref (b + r0)), (1, .int (mI x1))]) (fun _ => rfl) (by decide : okI (-1)) (fun v2 ls ev2 ov2 hl => ?_)
    replace h := h v2 ev2
    refine m_iconst (pc := 27) C.1 dX12_best_27 ?_
    refine m_istore_n (pc := 28) C.1 dX12_best_28 rfl hl (by decide) (fun v => [(3, .int v), (2, .int (mI v2)), (0, .ref (b + r0)), (1, .int (mI x1))]) (fun _ => rfl) (by decide : okI (-1)) (fun v3 ls ev3 ov3 hl => ?_)
    replace h := h v3 ev3
    refine m_iconst (pc := 29) C.1 dX12_best_29 ?_
    refine m_istore (pc := 30) C.1 dX12_best_30 hl (by decide) (fun v => [(4, .int v), (3, .int (mI v3)), (2, .int (mI v2)), (0, .ref (b + r0)), (1, .int (mI x1))]) (fun _ => rfl) (by decide : okI 0) (fun v4 ls ev4 ov4 hl => ?_)
    replace h := h v4 ev4
    refine W_X12_best_32 C N ?_ N r0 kr0 x1 ox1 v2 ov2 v3 ov3 v4 ov4 S1 _ _ _ (lv_sub hl [3, 4, 2, 1, 0] rfl) hW1 hS h
    · intro x2_5 ox2_5 S_5 H locs ls hl hW_5 hS h
      refine m_iload_n (pc := 95) C.1 dX12_best_95 rfl hl 0 rfl ?_
      exact m_iret (pc := 96) C.1 C.2.2.2.1 C.2.2.2.2.1 hW_5 hS ox2_5 h (by decide) (by decide) dX12_best_96
  · replace h := h.2 hc
    refine m_iconst (pc := 23) C.1 dX12_best_23 ?_
    exact m_iret (pc := 24) C.1 C.2.2.2.1 C.2.2.2.2.1 hW1 hS (by decide : okI 0) h (by decide) (by decide) dX12_best_24
end
def w_X12_best (N : Nat) (r0 : Nat) (x1 : Int) (S : mSt) (Q : mSt → Int → Prop) : Prop :=
  w_X12_isPart N x1 S (fun (S1 : mSt) (v1 : Int) => ((v1 ≠ 0 → w_X12_best_13 N Q  r0 x1 0 r0 S1) ∧ (v1 = 0 → w_X12_best_13 N Q  r0 x1 1 r0 S1)))
theorem T_X12_best {l : Launch} (hl0 : l.stackTraces = false) {g : mG} {b : Nat} (N : Nat) (r0 : Nat) (kr0 : KM r0 = (0, 10, 0)) (x1 : Int) (ox1 : okI x1) {S : mSt} {Q : mSt → Int → Prop} (h : w_X12_best N r0 x1 S Q) (sz : Nat) : vx_Met l yX12_best (Cond.code yX12_best cX12_best 6 (some FieldType.int) :: wsG) { frames := 121, cells := 0, slots := 0, locals := 3187 } (mPc g b KM S [.ref (b + r0), .int (mI x1)] sz) (mQi g b KM Q (mA b KM sz)) (mEx g b KM (fun _ _ => False) (mA b KM sz)) 0 0 (mA b KM sz) :=
  m_of (av := [.ref (b + r0), .int (mI x1)]) (Qf := fun A => mQi g b KM Q A) (Xf := fun A => mEx g b KM (fun _ _ => False) A) (by decide) (Nat.le_of_ble_eq_true rfl) (fun p e s m args below meth c ls X hK hml hr hlk hout hnm hW hl => by
    have C : mC p l s m args meth c cX12_best "MoonWashModel" 6 (some FieldType.int) g := ⟨X, hK, hml, hr, hlk, hout, hl0⟩
    have hS : va_S (mA b KM s.heap.size) s.heap s.heap [] := va_S.rf
    have hl : lv_has ls 6 [(0, .ref (b + r0)), (1, .int (mI x1))] := hl
    unfold w_X12_best at h
    refine m_aload_n (pc := 0) C.1 dX12_best_0 rfl hl 0 rfl ?_
    refine m_iload_n (pc := 1) C.1 dX12_best_1 rfl hl 1 rfl ?_
    refine m_callSi (pc := 2) C.1 C.2.2.1 hl.1 C.2.1 hW hS (As := [.int (mI x1)]) (rest := [.ref (b + r0)]) (T_X12_isPart C.2.2.2.2.2.2 N x1 ox1 h) q_1627 q_1628 q_92 q_1629 pl_X12_isPart (by decide) (Nat.le_of_ble_eq_true rfl) dX12_best_2 (fun v1 S1 H locs ov1 h hW1 hS => ?_)
    refine m_if_ne (pc := 5) (tgt := 12) C.1 ov1 dX12_best_5 (by decide) (fun hc => ?_) (fun hc => ?_)
    · replace h := h.1 hc
      refine m_iconst (pc := 12) C.1 dX12_best_12 ?_
      exact W_X12_best_13 C N  r0 kr0 x1 ox1 0 (by decide : okI 0) r0 kr0 S1 _ _ _ (lv_sub hl [0, 1] rfl) hW1 hS h
    · replace h := h.2 hc
      refine m_iconst (pc := 8) C.1 dX12_best_8 ?_
      refine m_goto (pc := 9) (tgt := 13) C.1 dX12_best_9 (by decide) ?_
      exact W_X12_best_13 C N  r0 kr0 x1 ox1 1 (by decide : okI 1) r0 kr0 S1 _ _ _ (lv_sub hl [0, 1] rfl) hW1 hS h) sz
section
variable {p : Program} {l : Launch} {e : Env} {s : State} {m : MethodId} {args : Array Value} {below : List Frame} {meth : Method} {c : Code} {g : mG} {b : Nat}
end
def w_X12_from (N : Nat) (r0 : Nat) (x1 : Int) (x2 : Int) (S : mSt) (Q : mSt → Int → Prop) : Prop :=
  w_X12_lesser N 160 x2 S (fun (S1 : mSt) (v1 : Int) => (0 ≤ (nm ((nm (161 * x1)) + v1)) ∧ (nm ((nm (161 * x1)) + v1)) < 1449 ∧ Q S1 (S1 (r0 + 9) (nm ((nm (161 * x1)) + v1)))))
theorem T_X12_from {l : Launch} (hl0 : l.stackTraces = false) {g : mG} {b : Nat} (N : Nat) (r0 : Nat) (kr0 : KM r0 = (0, 10, 0)) (x1 : Int) (ox1 : okI x1) (x2 : Int) (ox2 : okI x2) {S : mSt} {Q : mSt → Int → Prop} (h : w_X12_from N r0 x1 x2 S Q) (sz : Nat) : vx_Met l yX12_from (Cond.code yX12_from cX12_from 3 (some FieldType.int) :: wsG) { frames := 1, cells := 0, slots := 0, locals := 21 } (mPc g b KM S [.ref (b + r0), .int (mI x1), .int (mI x2)] sz) (mQi g b KM Q (mA b KM sz)) (mEx g b KM (fun _ _ => False) (mA b KM sz)) 0 0 (mA b KM sz) :=
  m_of (av := [.ref (b + r0), .int (mI x1), .int (mI x2)]) (Qf := fun A => mQi g b KM Q A) (Xf := fun A => mEx g b KM (fun _ _ => False) A) (by decide) (Nat.le_of_ble_eq_true rfl) (fun p e s m args below meth c ls X hK hml hr hlk hout hnm hW hl => by
    have C : mC p l s m args meth c cX12_from "MoonWashModel" 3 (some FieldType.int) g := ⟨X, hK, hml, hr, hlk, hout, hl0⟩
    have hS : va_S (mA b KM s.heap.size) s.heap s.heap [] := va_S.rf
    have hl : lv_has ls 3 [(0, .ref (b + r0)), (1, .int (mI x1)), (2, .int (mI x2))] := hl
    unfold w_X12_from at h
    refine m_aload_n (pc := 0) C.1 dX12_from_0 rfl hl 0 rfl ?_
    refine g_10_22 (pc := 1) C hW kr0 q_1405 dX12_from_1 ?_
    refine m_sipush (pc := 4) C.1 dX12_from_4 rfl ?_
    refine m_iload_n (pc := 7) C.1 dX12_from_7 rfl hl 1 rfl ?_
    refine m_imul (pc := 8) C.1 dX12_from_8 ?_
    refine m_sipush (pc := 9) C.1 dX12_from_9 rfl ?_
    refine m_iload_n (pc := 12) C.1 dX12_from_12 rfl hl 2 rfl ?_
    refine m_callSi (pc := 13) C.1 C.2.2.1 hl.1 C.2.1 hW hS (As := [.int (mI 160), .int (mI x2)]) (rest := [.int (mI (nm (161 * x1))), .ref (b + (r0 + 9))]) (T_X12_lesser C.2.2.2.2.2.2 N 160 (by decide : okI 160) x2 ox2 h) q_1649 q_1650 q_92 q_1651 pl_X12_lesser (by decide) (Nat.le_of_ble_eq_true rfl) dX12_from_13 (fun v1 S1 H locs ov1 h hW1 hS => ?_)
    refine m_iadd (pc := 16) C.1 dX12_from_16 ?_
    obtain ⟨hb2a, hb2b, h⟩ := h
    refine m_iald (pc := 17) C.1 C.2.1 hW1 (k_10_22 kr0) (nm_ok _) hb2a hb2b dX12_from_17 ?_
    exact m_iret (pc := 18) C.1 C.2.2.2.1 C.2.2.2.2.1 hW1 hS (hW1.2.1 _ _) h (by decide) (by decide) dX12_from_18) sz
section
variable {p : Program} {l : Launch} {e : Env} {s : State} {m : MethodId} {args : Array Value} {below : List Frame} {meth : Method} {c : Code} {g : mG} {b : Nat}
end
def w_X12_white (N : Nat) (r0 : Nat) (x1 : Int) (x2 : Int) (S : mSt) (Q : mSt → Int → Prop) : Prop :=
  (0 ≤ (nm ((nm (7 * x1)) + x2)) ∧ (nm ((nm (7 * x1)) + x2)) < 56 ∧ Q S (S (r0 + 8) (nm ((nm (7 * x1)) + x2))))
theorem T_X12_white {l : Launch} (hl0 : l.stackTraces = false) {g : mG} {b : Nat} (N : Nat) (r0 : Nat) (kr0 : KM r0 = (0, 10, 0)) (x1 : Int) (ox1 : okI x1) (x2 : Int) (ox2 : okI x2) {S : mSt} {Q : mSt → Int → Prop} (h : w_X12_white N r0 x1 x2 S Q) (sz : Nat) : vx_Met l yX12_white (Cond.code yX12_white cX12_white 3 (some FieldType.int) :: wsG) { frames := 0, cells := 0, slots := 0, locals := 0 } (mPc g b KM S [.ref (b + r0), .int (mI x1), .int (mI x2)] sz) (mQi g b KM Q (mA b KM sz)) (mEx g b KM (fun _ _ => False) (mA b KM sz)) 0 0 (mA b KM sz) :=
  m_of (av := [.ref (b + r0), .int (mI x1), .int (mI x2)]) (Qf := fun A => mQi g b KM Q A) (Xf := fun A => mEx g b KM (fun _ _ => False) A) (by decide) (Nat.le_of_ble_eq_true rfl) (fun p e s m args below meth c ls X hK hml hr hlk hout hnm hW hl => by
    have C : mC p l s m args meth c cX12_white "MoonWashModel" 3 (some FieldType.int) g := ⟨X, hK, hml, hr, hlk, hout, hl0⟩
    have hS : va_S (mA b KM s.heap.size) s.heap s.heap [] := va_S.rf
    have hl : lv_has ls 3 [(0, .ref (b + r0)), (1, .int (mI x1)), (2, .int (mI x2))] := hl
    unfold w_X12_white at h
    refine m_aload_n (pc := 0) C.1 dX12_white_0 rfl hl 0 rfl ?_
    refine g_10_21 (pc := 1) C hW kr0 q_1404 dX12_white_1 ?_
    refine m_bipush (pc := 4) C.1 dX12_white_4 rfl ?_
    refine m_iload_n (pc := 6) C.1 dX12_white_6 rfl hl 1 rfl ?_
    refine m_imul (pc := 7) C.1 dX12_white_7 ?_
    refine m_iload_n (pc := 8) C.1 dX12_white_8 rfl hl 2 rfl ?_
    refine m_iadd (pc := 9) C.1 dX12_white_9 ?_
    obtain ⟨hb1a, hb1b, h⟩ := h
    refine m_iald (pc := 10) C.1 C.2.1 hW (k_10_21 kr0) (nm_ok _) hb1a hb1b dX12_white_10 ?_
    exact m_iret (pc := 11) C.1 C.2.2.2.1 C.2.2.2.2.1 hW hS (hW.2.1 _ _) h (by decide) (by decide) dX12_white_11) sz
section
variable {p : Program} {l : Launch} {e : Env} {s : State} {m : MethodId} {args : Array Value} {below : List Frame} {meth : Method} {c : Code} {g : mG} {b : Nat}
end
def w_X12_costs (N : Nat) (r0 : Nat) (x1 : Int) (S : mSt) (Q : mSt → Int → Prop) : Prop :=
  ((x1 ≠ 0 → w_X12_ofSoap N r0 (nm (x1 - 1)) 1 S (fun (S1 : mSt) (v1 : Int) => Q S1 v1)) ∧ (x1 = 0 → Q S 0))
theorem T_X12_costs {l : Launch} (hl0 : l.stackTraces = false) {g : mG} {b : Nat} (N : Nat) (r0 : Nat) (kr0 : KM r0 = (0, 10, 0)) (x1 : Int) (ox1 : okI x1) {S : mSt} {Q : mSt → Int → Prop} (h : w_X12_costs N r0 x1 S Q) (sz : Nat) : vx_Met l yX12_costs (Cond.code yX12_costs cX12_costs 2 (some FieldType.int) :: wsG) { frames := 1, cells := 0, slots := 0, locals := 22 } (mPc g b KM S [.ref (b + r0), .int (mI x1)] sz) (mQi g b KM Q (mA b KM sz)) (mEx g b KM (fun _ _ => False) (mA b KM sz)) 0 0 (mA b KM sz) :=
  m_of (av := [.ref (b + r0), .int (mI x1)]) (Qf := fun A => mQi g b KM Q A) (Xf := fun A => mEx g b KM (fun _ _ => False) A) (by decide) (Nat.le_of_ble_eq_true rfl) (fun p e s m args below meth c ls X hK hml hr hlk hout hnm hW hl => by
    have C : mC p l s m args meth c cX12_costs "MoonWashModel" 2 (some FieldType.int) g := ⟨X, hK, hml, hr, hlk, hout, hl0⟩
    have hS : va_S (mA b KM s.heap.size) s.heap s.heap [] := va_S.rf
    have hl : lv_has ls 2 [(0, .ref (b + r0)), (1, .int (mI x1))] := hl
    unfold w_X12_costs at h
    refine m_iload_n (pc := 0) C.1 dX12_costs_0 rfl hl 1 rfl ?_
    refine m_if_ne (pc := 1) (tgt := 8) C.1 ox1 dX12_costs_1 (by decide) (fun hc => ?_) (fun hc => ?_)
    · replace h := h.1 hc
      refine m_aload_n (pc := 8) C.1 dX12_costs_8 rfl hl 0 rfl ?_
      refine m_iload_n (pc := 9) C.1 dX12_costs_9 rfl hl 1 rfl ?_
      refine m_iconst (pc := 10) C.1 dX12_costs_10 ?_
      refine m_isub (pc := 11) C.1 dX12_costs_11 ?_
      refine m_iconst (pc := 12) C.1 dX12_costs_12 ?_
      refine m_callVi (pc := 13) C.1 C.2.2.1 hl.1 C.2.1 hW hS (As := [.int (mI (nm (x1 - 1))), .int (mI 1)]) (rest := []) (r := r0) (T_X12_ofSoap C.2.2.2.2.2.2 N r0 kr0 (nm (x1 - 1)) (nm_ok _) 1 (by decide : okI 1) h) kr0 rfl q_1671 q_1673 q_56 q_92 q_1674 pl_X12_ofSoap (by decide) (Nat.le_of_ble_eq_true rfl) dX12_costs_13 (fun v1 S1 H locs ov1 h hW1 hS => ?_)
      exact m_iret (pc := 16) C.1 C.2.2.2.1 C.2.2.2.2.1 hW1 hS ov1 h (by decide) (by decide) dX12_costs_16
    · replace h := h.2 hc
      refine m_iconst (pc := 4) C.1 dX12_costs_4 ?_
      refine m_goto (pc := 5) (tgt := 16) C.1 dX12_costs_5 (by decide) ?_
      exact m_iret (pc := 16) C.1 C.2.2.2.1 C.2.2.2.2.1 hW hS (by decide : okI 0) h (by decide) (by decide) dX12_costs_16) sz
section
variable {p : Program} {l : Launch} {e : Env} {s : State} {m : MethodId} {args : Array Value} {below : List Frame} {meth : Method} {c : Code} {g : mG} {b : Nat}
def w_X12_least_56b (N : Nat) (Q : mSt → Int → Prop) (ko56 : Nat → Int → Int → Int → Int → mSt → Prop) (ko94 : Nat → Int → Int → Int → mSt → Prop) (r0 : Nat) (x1 : Int) (x2 : Int) (x3 : Int) (x4 : Int) (S : mSt) : Prop :=
  (((S (r0 + 1) 3) < x4 → ko94 r0 x1 x2 x3 S) ∧ (x4 ≤ (S (r0 + 1) 3) → w_X12_wouldBe N r0 x3 (nm (x4 - 1)) S (fun (S1 : mSt) (v1 : Int) => (0 ≤ (nm ((nm (7 * x3)) + x4)) ∧ (nm ((nm (7 * x3)) + x4)) < 56 ∧ ∀ S3 : mSt, S3 = mup S1 (r0 + 8) (nm ((nm (7 * x3)) + x4)) v1 → ∀ v4 : Int, v4 = nm (x4 + 1) → ko56 r0 x1 x2 x3 v4 S3))))
theorem W_X12_least_56b (C : mC p l s m args meth c cX12_least "MoonWashModel" 7 (some FieldType.int) g) (N : Nat) {Q : mSt → Int → Prop} {ko56 : Nat → Int → Int → Int → Int → mSt → Prop} {ko94 : Nat → Int → Int → Int → mSt → Prop} (hko56 : ∀ (r0 : Nat) (kr0 : KM r0 = (0, 10, 0)) (x1 : Int) (ox1 : okI x1) (x2 : Int) (ox2 : okI x2) (x3 : Int) (ox3 : okI x3) (x4 : Int) (ox4 : okI x4) (S : mSt) (H : Heap) (locs : List Loc) (ls : Array Slot), lv_has ls 7 [(0, .ref (b + r0)), (1, .int (mI x1)), (2, .int (mI x2)), (3, .int (mI x3)), (4, .int (mI x4))] → mW g b KM S H → va_S (mA b KM s.heap.size) s.heap H locs → ko56 r0 x1 x2 x3 x4 S → W p l e { frames := 121, cells := 0, slots := 0, locals := 3187 } s m args below meth c H locs 0 0 (vx_MQ below (mQi g b KM Q (mA b KM s.heap.size)) (mEx g b KM (fun _ _ => False) (mA b KM s.heap.size)) args s 0 0 (mA b KM s.heap.size)) (F0 m 56 ls [])) (hko94 : ∀ (r0 : Nat) (kr0 : KM r0 = (0, 10, 0)) (x1 : Int) (ox1 : okI x1) (x2 : Int) (ox2 : okI x2) (x3 : Int) (ox3 : okI x3) (S : mSt) (H : Heap) (locs : List Loc) (ls : Array Slot), lv_has ls 7 [(0, .ref (b + r0)), (1, .int (mI x1)), (2, .int (mI x2)), (3, .int (mI x3))] → mW g b KM S H → va_S (mA b KM s.heap.size) s.heap H locs → ko94 r0 x1 x2 x3 S → W p l e { frames := 121, cells := 0, slots := 0, locals := 3187 } s m args below meth c H locs 0 0 (vx_MQ below (mQi g b KM Q (mA b KM s.heap.size)) (mEx g b KM (fun _ _ => False) (mA b KM s.heap.size)) args s 0 0 (mA b KM s.heap.size)) (F0 m 94 ls [])) (r0 : Nat) (kr0 : KM r0 = (0, 10, 0)) (x1 : Int) (ox1 : okI x1) (x2 : Int) (ox2 : okI x2) (x3 : Int) (ox3 : okI x3) (x4 : Int) (ox4 : okI x4) (S : mSt) (H : Heap) (locs : List Loc) (ls : Array Slot) (hl : lv_has ls 7 [(0, .ref (b + r0)), (1, .int (mI x1)), (2, .int (mI x2)), (3, .int (mI x3)), (4, .int (mI x4))]) (hW : mW g b KM S H) (hS : va_S (mA b KM s.heap.size) s.heap H locs) (h : w_X12_least_56b N Q ko56 ko94 r0 x1 x2 x3 x4 S) : W p l e { frames := 121, cells := 0, slots := 0, locals := 3187 } s m args below meth c H locs 0 0 (vx_MQ below (mQi g b KM Q (mA b KM s.heap.size)) (mEx g b KM (fun _ _ => False) (mA b KM s.heap.size)) args s 0 0 (mA b KM s.heap.size)) (F0 m 56 ls []) := by
  unfold w_X12_least_56b at h
  refine m_iload (pc := 56) C.1 dX12_least_56 hl 4 rfl ?_
  refine m_aload_n (pc := 58) C.1 dX12_least_58 rfl hl 0 rfl ?_
  refine g_10_1 (pc := 59) C hW kr0 q_1384 dX12_least_59 ?_
  refine m_iconst (pc := 62) C.1 dX12_least_62 ?_
  refine m_iald (pc := 63) C.1 C.2.1 hW (k_10_1 kr0) (by decide : okI 3) (by decide) (by decide) dX12_least_63 ?_
  refine m_icmp_gt (pc := 64) (tgt := 94) C.1 ox4 (hW.2.1 _ _) dX12_least_64 (by decide) (fun hc => ?_) (fun hc => ?_)
  · replace h := h.1 hc
    exact hko94 r0 kr0 x1 ox1 x2 ox2 x3 ox3 S _ _ _ (lv_sub hl [0, 1, 2, 3] rfl) hW hS h
  · replace h := h.2 hc
    refine m_aload_n (pc := 67) C.1 dX12_least_67 rfl hl 0 rfl ?_
    refine g_10_21 (pc := 68) C hW kr0 q_1404 dX12_least_68 ?_
    refine m_bipush (pc := 71) C.1 dX12_least_71 rfl ?_
    refine m_iload_n (pc := 73) C.1 dX12_least_73 rfl hl 3 rfl ?_
    refine m_imul (pc := 74) C.1 dX12_least_74 ?_
    refine m_iload (pc := 75) C.1 dX12_least_75 hl 4 rfl ?_
    refine m_iadd (pc := 77) C.1 dX12_least_77 ?_
    refine m_aload_n (pc := 78) C.1 dX12_least_78 rfl hl 0 rfl ?_
    refine m_iload_n (pc := 79) C.1 dX12_least_79 rfl hl 3 rfl ?_
    refine m_iload (pc := 80) C.1 dX12_least_80 hl 4 rfl ?_
    refine m_iconst (pc := 82) C.1 dX12_least_82 ?_
    refine m_isub (pc := 83) C.1 dX12_least_83 ?_
    refine m_callVi (pc := 84) C.1 C.2.2.1 hl.1 C.2.1 hW hS (As := [.int (mI x3), .int (mI (nm (x4 - 1)))]) (rest := [.int (mI (nm ((nm (7 * x3)) + x4))), .ref (b + (r0 + 8))]) (r := r0) (T_X12_wouldBe C.2.2.2.2.2.2 N r0 kr0 x3 ox3 (nm (x4 - 1)) (nm_ok _) h) kr0 rfl q_1768 q_1770 q_68 q_92 q_1771 pl_X12_wouldBe (by decide) (Nat.le_of_ble_eq_true rfl) dX12_least_84 (fun v1 S1 H locs ov1 h hW1 hS => ?_)
    obtain ⟨hb2a, hb2b, h⟩ := h
    refine m_iast (pc := 87) C.1 C.2.1 hW1 hS (k_10_21 kr0) (nm_ok _) ov1 hb2a hb2b dX12_least_87 (fun S3 H locs e3 hW3 hS => ?_)
    replace h := h S3 e3
    refine m_iinc (pc := 88) C.1 dX12_least_88 hl (by decide) (q0 := 4) rfl (fun v => [(4, .int v), (0, .ref (b + r0)), (1, .int (mI x1)), (2, .int (mI x2)), (3, .int (mI x3))]) (fun _ => rfl) (fun v4 ls ev4 ov4 hl => ?_)
    replace h := h v4 ev4
    refine m_goto (pc := 91) (tgt := 56) C.1 dX12_least_91 (by decide) ?_
    exact hko56 r0 kr0 x1 ox1 x2 ox2 x3 ox3 v4 ov4 S3 _ _ _ (lv_sub hl [1, 2, 3, 4, 0] rfl) hW3 hS h
def w_X12_least_56 (N : Nat) (Q : mSt → Int → Prop) (ko94 : Nat → Int → Int → Int → mSt → Prop) : Nat → Nat → Int → Int → Int → Int → mSt → Prop
  | 0 => fun _ _ _ _ _ _ => False
  | k + 1 => w_X12_least_56b N Q (w_X12_least_56 N Q ko94 k) ko94
theorem W_X12_least_56 (C : mC p l s m args meth c cX12_least "MoonWashModel" 7 (some FieldType.int) g) (N : Nat) {Q : mSt → Int → Prop} {ko94 : Nat → Int → Int → Int → mSt → Prop} (hko94 : ∀ (r0 : Nat) (kr0 : KM r0 = (0, 10, 0)) (x1 : Int) (ox1 : okI x1) (x2 : Int) (ox2 : okI x2) (x3 : Int) (ox3 : okI x3) (S : mSt) (H : Heap) (locs : List Loc) (ls : Array Slot), lv_has ls 7 [(0, .ref (b + r0)), (1, .int (mI x1)), (2, .int (mI x2)), (3, .int (mI x3))] → mW g b KM S H → va_S (mA b KM s.heap.size) s.heap H locs → ko94 r0 x1 x2 x3 S → W p l e { frames := 121, cells := 0, slots := 0, locals := 3187 } s m args below meth c H locs 0 0 (vx_MQ below (mQi g b KM Q (mA b KM s.heap.size)) (mEx g b KM (fun _ _ => False) (mA b KM s.heap.size)) args s 0 0 (mA b KM s.heap.size)) (F0 m 94 ls [])) : ∀ (k : Nat) (r0 : Nat) (kr0 : KM r0 = (0, 10, 0)) (x1 : Int) (ox1 : okI x1) (x2 : Int) (ox2 : okI x2) (x3 : Int) (ox3 : okI x3) (x4 : Int) (ox4 : okI x4) (S : mSt) (H : Heap) (locs : List Loc) (ls : Array Slot) (hl : lv_has ls 7 [(0, .ref (b + r0)), (1, .int (mI x1)), (2, .int (mI x2)), (3, .int (mI x3)), (4, .int (mI x4))]) (hW : mW g b KM S H) (hS : va_S (mA b KM s.heap.size) s.heap H locs) (h : w_X12_least_56 N Q ko94 k r0 x1 x2 x3 x4 S), W p l e { frames := 121, cells := 0, slots := 0, locals := 3187 } s m args below meth c H locs 0 0 (vx_MQ below (mQi g b KM Q (mA b KM s.heap.size)) (mEx g b KM (fun _ _ => False) (mA b KM s.heap.size)) args s 0 0 (mA b KM s.heap.size)) (F0 m 56 ls []) := by
  intro k
  induction k with
  | zero => intro r0 kr0 x1 ox1 x2 ox2 x3 ox3 x4 ox4 S H locs ls hl hW hS h; exact False.elim h
  | succ k ih => intro r0 kr0 x1 ox1 x2 ox2 x3 ox3 x4 ox4 S H locs ls hl hW hS h; exact W_X12_least_56b C N ih hko94 r0 kr0 x1 ox1 x2 ox2 x3 ox3 x4 ox4 S H locs ls hl hW hS h
def w_X12_least_47b (N : Nat) (Q : mSt → Int → Prop) (ko47 : Nat → Int → Int → Int → mSt → Prop) (ko100 : Nat → Int → Int → mSt → Prop) (r0 : Nat) (x1 : Int) (x2 : Int) (x3 : Int) (S : mSt) : Prop :=
  ((8 ≤ x3 → ko100 r0 x1 x2 S) ∧ (x3 < 8 → ∀ v1 : Int, v1 = 0 → w_X12_least_56 N Q (fun (r0_2 : Nat) (x1_2 : Int) (x2_2 : Int) (x3_2 : Int) (S_2 : mSt) => ∀ v3 : Int, v3 = nm (x3_2 + 1) → ko47 r0_2 x1_2 x2_2 v3 S_2) N r0 x1 x2 x3 v1 S))
theorem W_X12_least_47b (C : mC p l s m args meth c cX12_least "MoonWashModel" 7 (some FieldType.int) g) (N : Nat) {Q : mSt → Int → Prop} {ko47 : Nat → Int → Int → Int → mSt → Prop} {ko100 : Nat → Int → Int → mSt → Prop} (hko47 : ∀ (r0 : Nat) (kr0 : KM r0 = (0, 10, 0)) (x1 : Int) (ox1 : okI x1) (x2 : Int) (ox2 : okI x2) (x3 : Int) (ox3 : okI x3) (S : mSt) (H : Heap) (locs : List Loc) (ls : Array Slot), lv_has ls 7 [(0, .ref (b + r0)), (1, .int (mI x1)), (2, .int (mI x2)), (3, .int (mI x3))] → mW g b KM S H → va_S (mA b KM s.heap.size) s.heap H locs → ko47 r0 x1 x2 x3 S → W p l e { frames := 121, cells := 0, slots := 0, locals := 3187 } s m args below meth c H locs 0 0 (vx_MQ below (mQi g b KM Q (mA b KM s.heap.size)) (mEx g b KM (fun _ _ => False) (mA b KM s.heap.size)) args s 0 0 (mA b KM s.heap.size)) (F0 m 47 ls [])) (hko100 : ∀ (r0 : Nat) (kr0 : KM r0 = (0, 10, 0)) (x1 : Int) (ox1 : okI x1) (x2 : Int) (ox2 : okI x2) (S : mSt) (H : Heap) (locs : List Loc) (ls : Array Slot), lv_has ls 7 [(0, .ref (b + r0)), (1, .int (mI x1)), (2, .int (mI x2))] → mW g b KM S H → va_S (mA b KM s.heap.size) s.heap H locs → ko100 r0 x1 x2 S → W p l e { frames := 121, cells := 0, slots := 0, locals := 3187 } s m args below meth c H locs 0 0 (vx_MQ below (mQi g b KM Q (mA b KM s.heap.size)) (mEx g b KM (fun _ _ => False) (mA b KM s.heap.size)) args s 0 0 (mA b KM s.heap.size)) (F0 m 100 ls [])) (r0 : Nat) (kr0 : KM r0 = (0, 10, 0)) (x1 : Int) (ox1 : okI x1) (x2 : Int) (ox2 : okI x2) (x3 : Int) (ox3 : okI x3) (S : mSt) (H : Heap) (locs : List Loc) (ls : Array Slot) (hl : lv_has ls 7 [(0, .ref (b + r0)), (1, .int (mI x1)), (2, .int (mI x2)), (3, .int (mI x3))]) (hW : mW g b KM S H) (hS : va_S (mA b KM s.heap.size) s.heap H locs) (h : w_X12_least_47b N Q ko47 ko100 r0 x1 x2 x3 S) : W p l e { frames := 121, cells := 0, slots := 0, locals := 3187 } s m args below meth c H locs 0 0 (vx_MQ below (mQi g b KM Q (mA b KM s.heap.size)) (mEx g b KM (fun _ _ => False) (mA b KM s.heap.size)) args s 0 0 (mA b KM s.heap.size)) (F0 m 47 ls []) := by
  unfold w_X12_least_47b at h
  refine m_iload_n (pc := 47) C.1 dX12_least_47 rfl hl 3 rfl ?_
  refine m_bipush (pc := 48) C.1 dX12_least_48 rfl ?_
  refine m_icmp_ge (pc := 50) (tgt := 100) C.1 ox3 (by decide : okI 8) dX12_least_50 (by decide) (fun hc => ?_) (fun hc => ?_)
  · replace h := h.1 hc
    exact hko100 r0 kr0 x1 ox1 x2 ox2 S _ _ _ (lv_sub hl [0, 1, 2] rfl) hW hS h
  · replace h := h.2 hc
    refine m_iconst (pc := 53) C.1 dX12_least_53 ?_
    refine m_istore (pc := 54) C.1 dX12_least_54 hl (by decide) (fun v => [(4, .int v), (0, .ref (b + r0)), (1, .int (mI x1)), (2, .int (mI x2)), (3, .int (mI x3))]) (fun _ => rfl) (by decide : okI 0) (fun v1 ls ev1 ov1 hl => ?_)
    replace h := h v1 ev1
    refine W_X12_least_56 C N ?_ N r0 kr0 x1 ox1 x2 ox2 x3 ox3 v1 ov1 S _ _ _ (lv_sub hl [1, 2, 3, 4, 0] rfl) hW hS h
    · intro r0_2 kr0_2 x1_2 ox1_2 x2_2 ox2_2 x3_2 ox3_2 S_2 H locs ls hl hW_2 hS h
      refine m_iinc (pc := 94) C.1 dX12_least_94 hl (by decide) (q0 := 3) rfl (fun v => [(3, .int v), (0, .ref (b + r0_2)), (1, .int (mI x1_2)), (2, .int (mI x2_2))]) (fun _ => rfl) (fun v3 ls ev3 ov3 hl => ?_)
      replace h := h v3 ev3
      refine m_goto (pc := 97) (tgt := 47) C.1 dX12_least_97 (by decide) ?_
      exact hko47 r0_2 kr0_2 x1_2 ox1_2 x2_2 ox2_2 v3 ov3 S_2 _ _ _ (lv_sub hl [1, 2, 3, 0] rfl) hW_2 hS h
def w_X12_least_47 (N : Nat) (Q : mSt → Int → Prop) (ko100 : Nat → Int → Int → mSt → Prop) : Nat → Nat → Int → Int → Int → mSt → Prop
  | 0 => fun _ _ _ _ _ => False
  | k + 1 => w_X12_least_47b N Q (w_X12_least_47 N Q ko100 k) ko100
theorem W_X12_least_47 (C : mC p l s m args meth c cX12_least "MoonWashModel" 7 (some FieldType.int) g) (N : Nat) {Q : mSt → Int → Prop} {ko100 : Nat → Int → Int → mSt → Prop} (hko100 : ∀ (r0 : Nat) (kr0 : KM r0 = (0, 10, 0)) (x1 : Int) (ox1 : okI x1) (x2 : Int) (ox2 : okI x2) (S : mSt) (H : Heap) (locs : List Loc) (ls : Array Slot), lv_has ls 7 [(0, .ref (b + r0)), (1, .int (mI x1)), (2, .int (mI x2))] → mW g b KM S H → va_S (mA b KM s.heap.size) s.heap H locs → ko100 r0 x1 x2 S → W p l e { frames := 121, cells := 0, slots := 0, locals := 3187 } s m args below meth c H locs 0 0 (vx_MQ below (mQi g b KM Q (mA b KM s.heap.size)) (mEx g b KM (fun _ _ => False) (mA b KM s.heap.size)) args s 0 0 (mA b KM s.heap.size)) (F0 m 100 ls [])) : ∀ (k : Nat) (r0 : Nat) (kr0 : KM r0 = (0, 10, 0)) (x1 : Int) (ox1 : okI x1) (x2 : Int) (ox2 : okI x2) (x3 : Int) (ox3 : okI x3) (S : mSt) (H : Heap) (locs : List Loc) (ls : Array Slot) (hl : lv_has ls 7 [(0, .ref (b + r0)), (1, .int (mI x1)), (2, .int (mI x2)), (3, .int (mI x3))]) (hW : mW g b KM S H) (hS : va_S (mA b KM s.heap.size) s.heap H locs) (h : w_X12_least_47 N Q ko100 k r0 x1 x2 x3 S), W p l e { frames := 121, cells := 0, slots := 0, locals := 3187 } s m args below meth c H locs 0 0 (vx_MQ below (mQi g b KM Q (mA b KM s.heap.size)) (mEx g b KM (fun _ _ => False) (mA b KM s.heap.size)) args s 0 0 (mA b KM s.heap.size)) (F0 m 47 ls []) := by
  intro k
  induction k with
  | zero => intro r0 kr0 x1 ox1 x2 ox2 x3 ox3 S H locs ls hl hW hS h; exact False.elim h
  | succ k ih => intro r0 kr0 x1 ox1 x2 ox2 x3 ox3 S H locs ls hl hW hS h; exact W_X12_least_47b C N ih hko100 r0 kr0 x1 ox1 x2 ox2 x3 ox3 S H locs ls hl hW hS h
def w_X12_least_130 (N : Nat) (Q : mSt → Int → Prop) (ko102 : Nat → Int → Int → Int → mSt → Prop) (r0 : Nat) (x1 : Int) (x2 : Int) (x3 : Int) (xs0 : Int) (xs1 : Int) (rs2 : Nat) (S : mSt) : Prop :=
  (0 ≤ xs1 ∧ xs1 < 1449 ∧ ∀ S2 : mSt, S2 = mup S rs2 xs1 xs0 → ∀ v3 : Int, v3 = nm (x3 + 1) → ko102 r0 x1 x2 v3 S2)
theorem W_X12_least_130 (C : mC p l s m args meth c cX12_least "MoonWashModel" 7 (some FieldType.int) g) (N : Nat) {Q : mSt → Int → Prop} {ko102 : Nat → Int → Int → Int → mSt → Prop} (hko102 : ∀ (r0 : Nat) (kr0 : KM r0 = (0, 10, 0)) (x1 : Int) (ox1 : okI x1) (x2 : Int) (ox2 : okI x2) (x3 : Int) (ox3 : okI x3) (S : mSt) (H : Heap) (locs : List Loc) (ls : Array Slot), lv_has ls 7 [(0, .ref (b + r0)), (1, .int (mI x1)), (2, .int (mI x2)), (3, .int (mI x3))] → mW g b KM S H → va_S (mA b KM s.heap.size) s.heap H locs → ko102 r0 x1 x2 x3 S → W p l e { frames := 121, cells := 0, slots := 0, locals := 3187 } s m args below meth c H locs 0 0 (vx_MQ below (mQi g b KM Q (mA b KM s.heap.size)) (mEx g b KM (fun _ _ => False) (mA b KM s.heap.size)) args s 0 0 (mA b KM s.heap.size)) (F0 m 102 ls [])) (r0 : Nat) (kr0 : KM r0 = (0, 10, 0)) (x1 : Int) (ox1 : okI x1) (x2 : Int) (ox2 : okI x2) (x3 : Int) (ox3 : okI x3) (xs0 : Int) (oxs0 : okI xs0) (xs1 : Int) (oxs1 : okI xs1) (rs2 : Nat) (krs2 : KM rs2 = (1, 1449, 0)) (S : mSt) (H : Heap) (locs : List Loc) (ls : Array Slot) (hl : lv_has ls 7 [(0, .ref (b + r0)), (1, .int (mI x1)), (2, .int (mI x2)), (3, .int (mI x3))]) (hW : mW g b KM S H) (hS : va_S (mA b KM s.heap.size) s.heap H locs) (h : w_X12_least_130 N Q ko102 r0 x1 x2 x3 xs0 xs1 rs2 S) : W p l e { frames := 121, cells := 0, slots := 0, locals := 3187 } s m args below meth c H locs 0 0 (vx_MQ below (mQi g b KM Q (mA b KM s.heap.size)) (mEx g b KM (fun _ _ => False) (mA b KM s.heap.size)) args s 0 0 (mA b KM s.heap.size)) (F0 m 130 ls [.int (mI xs0), .int (mI xs1), .ref (b + rs2)]) := by
  unfold w_X12_least_130 at h
  obtain ⟨hb1a, hb1b, h⟩ := h
  refine m_iast (pc := 130) C.1 C.2.1 hW hS krs2 oxs1 oxs0 hb1a hb1b dX12_least_130 (fun S2 H locs e2 hW2 hS => ?_)
  replace h := h S2 e2
  refine m_iinc (pc := 131) C.1 dX12_least_131 hl (by decide) (q0 := 3) rfl (fun v => [(3, .int v), (0, .ref (b + r0)), (1, .int (mI x1)), (2, .int (mI x2))]) (fun _ => rfl) (fun v3 ls ev3 ov3 hl => ?_)
  replace h := h v3 ev3
  refine m_goto (pc := 134) (tgt := 102) C.1 dX12_least_134 (by decide) ?_
  exact hko102 r0 kr0 x1 ox1 x2 ox2 v3 ov3 S2 _ _ _ (lv_sub hl [1, 2, 3, 0] rfl) hW2 hS h
def w_X12_least_102b (N : Nat) (Q : mSt → Int → Prop) (ko102 : Nat → Int → Int → Int → mSt → Prop) (ko137 : Nat → Int → mSt → Prop) (r0 : Nat) (x1 : Int) (x2 : Int) (x3 : Int) (S : mSt) : Prop :=
  ((160 < x3 → ko137 r0 x2 S) ∧ (x3 ≤ 160 → ((x3 < x1 → w_X12_least_130 N Q ko102 r0 x1 x2 x3 2000000000 (nm (1288 + x3)) (r0 + 9) S) ∧ (x1 ≤ x3 → w_X12_least_130 N Q ko102 r0 x1 x2 x3 0 (nm (1288 + x3)) (r0 + 9) S))))
theorem W_X12_least_102b (C : mC p l s m args meth c cX12_least "MoonWashModel" 7 (some FieldType.int) g) (N : Nat) {Q : mSt → Int → Prop} {ko102 : Nat → Int → Int → Int → mSt → Prop} {ko137 : Nat → Int → mSt → Prop} (hko102 : ∀ (r0 : Nat) (kr0 : KM r0 = (0, 10, 0)) (x1 : Int) (ox1 : okI x1) (x2 : Int) (ox2 : okI x2) (x3 : Int) (ox3 : okI x3) (S : mSt) (H : Heap) (locs : List Loc) (ls : Array Slot), lv_has ls 7 [(0, .ref (b + r0)), (1, .int (mI x1)), (2, .int (mI x2)), (3, .int (mI x3))] → mW g b KM S H → va_S (mA b KM s.heap.size) s.heap H locs → ko102 r0 x1 x2 x3 S → W p l e { frames := 121, cells := 0, slots := 0, locals := 3187 } s m args below meth c H locs 0 0 (vx_MQ below (mQi g b KM Q (mA b KM s.heap.size)) (mEx g b KM (fun _ _ => False) (mA b KM s.heap.size)) args s 0 0 (mA b KM s.heap.size)) (F0 m 102 ls [])) (hko137 : ∀ (r0 : Nat) (kr0 : KM r0 = (0, 10, 0)) (x2 : Int) (ox2 : okI x2) (S : mSt) (H : Heap) (locs : List Loc) (ls : Array Slot), lv_has ls 7 [(0, .ref (b + r0)), (2, .int (mI x2))] → mW g b KM S H → va_S (mA b KM s.heap.size) s.heap H locs → ko137 r0 x2 S → W p l e { frames := 121, cells := 0, slots := 0, locals := 3187 } s m args below meth c H locs 0 0 (vx_MQ below (mQi g b KM Q (mA b KM s.heap.size)) (mEx g b KM (fun _ _ => False) (mA b KM s.heap.size)) args s 0 0 (mA b KM s.heap.size)) (F0 m 137 ls [])) (r0 : Nat) (kr0 : KM r0 = (0, 10, 0)) (x1 : Int) (ox1 : okI x1) (x2 : Int) (ox2 : okI x2) (x3 : Int) (ox3 : okI x3) (S : mSt) (H : Heap) (locs : List Loc) (ls : Array Slot) (hl : lv_has ls 7 [(0, .ref (b + r0)), (1, .int (mI x1)), (2, .int (mI x2)), (3, .int (mI x3))]) (hW : mW g b KM S H) (hS : va_S (mA b KM s.heap.size) s.heap H locs) (h : w_X12_least_102b N Q ko102 ko137 r0 x1 x2 x3 S) : W p l e { frames := 121, cells := 0, slots := 0, locals := 3187 } s m args below meth c H locs 0 0 (vx_MQ below (mQi g b KM Q (mA b KM s.heap.size)) (mEx g b KM (fun _ _ => False) (mA b KM s.heap.size)) args s 0 0 (mA b KM s.heap.size)) (F0 m 102 ls []) := by
  unfold w_X12_least_102b at h
  refine m_iload_n (pc := 102) C.1 dX12_least_102 rfl hl 3 rfl ?_
  refine m_sipush (pc := 103) C.1 dX12_least_103 rfl ?_
  refine m_icmp_gt (pc := 106) (tgt := 137) C.1 ox3 (by decide : okI 160) dX12_least_106 (by decide) (fun hc => ?_) (fun hc => ?_)
  · replace h := h.1 hc
    exact hko137 r0 kr0 x2 ox2 S _ _ _ (lv_sub hl [0, 2] rfl) hW hS h
  · replace h := h.2 hc
    refine m_aload_n (pc := 109) C.1 dX12_least_109 rfl hl 0 rfl ?_
    refine g_10_22 (pc := 110) C hW kr0 q_1405 dX12_least_110 ?_
    refine m_sipush (pc := 113) C.1 dX12_least_113 rfl ?_
    refine m_iload_n (pc := 116) C.1 dX12_least_116 rfl hl 3 rfl ?_
    refine m_iadd (pc := 117) C.1 dX12_least_117 ?_
    refine m_iload_n (pc := 118) C.1 dX12_least_118 rfl hl 3 rfl ?_
    refine m_iload_n (pc := 119) C.1 dX12_least_119 rfl hl 1 rfl ?_
    refine m_icmp_lt (pc := 120) (tgt := 127) C.1 ox3 ox1 dX12_least_120 (by decide) (fun hc => ?_) (fun hc => ?_)
    · replace h := h.1 hc
      refine m_ldcw (pc := 127) (n := 2000000000) C.1 q_1780 rfl dX12_least_127 ?_
      exact W_X12_least_130 C N hko102 r0 kr0 x1 ox1 x2 ox2 x3 ox3 2000000000 (by decide : okI 2000000000) (nm (1288 + x3)) (nm_ok _) (r0 + 9) (k_10_22 kr0) S _ _ _ (lv_sub hl [0, 1, 2, 3] rfl) hW hS h
    · replace h := h.2 hc
      refine m_iconst (pc := 123) C.1 dX12_least_123 ?_
      refine m_goto (pc := 124) (tgt := 130) C.1 dX12_least_124 (by decide) ?_
      exact W_X12_least_130 C N hko102 r0 kr0 x1 ox1 x2 ox2 x3 ox3 0 (by decide : okI 0) (nm (1288 + x3)) (nm_ok _) (r0 + 9) (k_10_22 kr0) S _ _ _ (lv_sub hl [0, 1, 2, 3] rfl) hW hS h
def w_X12_least_102 (N : Nat) (Q : mSt → Int → Prop) (ko137 : Nat → Int → mSt → Prop) : Nat → Nat → Int → Int → Int → mSt → Prop
  | 0 => fun _ _ _ _ _ => False
  | k + 1 => w_X12_least_102b N Q (w_X12_least_102 N Q ko137 k) ko137
theorem W_X12_least_102 (C : mC p l s m args meth c cX12_least "MoonWashModel" 7 (some FieldType.int) g) (N : Nat) {Q : mSt → Int → Prop} {ko137 : Nat → Int → mSt → Prop} (hko137 : ∀ (r0 : Nat) (kr0 : KM r0 = (0, 10, 0)) (x2 : Int) (ox2 : okI x2) (S : mSt) (H : Heap) (locs : List Loc) (ls : Array Slot), lv_has ls 7 [(0, .ref (b + r0)), (2, .int (mI x2))] → mW g b KM S H → va_S (mA b KM s.heap.size) s.heap H locs → ko137 r0 x2 S → W p l e { frames := 121, cells := 0, slots := 0, locals := 3187 } s m args below meth c H locs 0 0 (vx_MQ below (mQi g b KM Q (mA b KM s.heap.size)) (mEx g b KM (fun _ _ => False) (mA b KM s.heap.size)) args s 0 0 (mA b KM s.heap.size)) (F0 m 137 ls [])) : ∀ (k : Nat) (r0 : Nat) (kr0 : KM r0 = (0, 10, 0)) (x1 : Int) (ox1 : okI x1) (x2 : Int) (ox2 : okI x2) (x3 : Int) (ox3 : okI x3) (S : mSt) (H : Heap) (locs : List Loc) (ls : Array Slot) (hl : lv_has ls 7 [(0, .ref (b + r0)), (1, .int (mI x1)), (2, .int (mI x2)), (3, .int (mI x3))]) (hW : mW g b KM S H) (hS : va_S (mA b KM s.heap.size) s.heap H locs) (h : w_X12_least_102 N Q ko137 k r0 x1 x2 x3 S), W p l e { frames := 121, cells := 0, slots := 0, locals := 3187 } s m args below meth c H locs 0 0 (vx_MQ below (mQi g b KM Q (mA b KM s.heap.size)) (mEx g b KM (fun _ _ => False) (mA b KM s.heap.size)) args s 0 0 (mA b KM s.heap.size)) (F0 m 102 ls []) := by
  intro k
  induction k with
  | zero => intro r0 kr0 x1 ox1 x2 ox2 x3 ox3 S H locs ls hl hW hS h; exact False.elim h
  | succ k ih => intro r0 kr0 x1 ox1 x2 ox2 x3 ox3 S H locs ls hl hW hS h; exact W_X12_least_102b C N ih hko137 r0 kr0 x1 ox1 x2 ox2 x3 ox3 S H locs ls hl hW hS h
def w_X12_least_228 (N : Nat) (Q : mSt → Int → Prop) (ko163 : Nat → Int → Int → Int → Int → Int → mSt → Prop) (r0 : Nat) (x2 : Int) (x3 : Int) (x4 : Int) (x5 : Int) (x6 : Int) (S : mSt) : Prop :=
  ∀ v1 : Int, v1 = nm (x6 + 1) → ko163 r0 x2 x3 x4 x5 v1 S
theorem W_X12_least_228 (C : mC p l s m args meth c cX12_least "MoonWashModel" 7 (some FieldType.int) g) (N : Nat) {Q : mSt → Int → Prop} {ko163 : Nat → Int → Int → Int → Int → Int → mSt → Prop} (hko163 : ∀ (r0 : Nat) (kr0 : KM r0 = (0, 10, 0)) (x2 : Int) (ox2 : okI x2) (x3 : Int) (ox3 : okI x3) (x4 : Int) (ox4 : okI x4) (x5 : Int) (ox5 : okI x5) (x6 : Int) (ox6 : okI x6) (S : mSt) (H : Heap) (locs : List Loc) (ls : Array Slot), lv_has ls 7 [(0, .ref (b + r0)), (2, .int (mI x2)), (3, .int (mI x3)), (4, .int (mI x4)), (5, .int (mI x5)), (6, .int (mI x6))] → mW g b KM S H → va_S (mA b KM s.heap.size) s.heap H locs → ko163 r0 x2 x3 x4 x5 x6 S → W p l e { frames := 121, cells := 0, slots := 0, locals := 3187 } s m args below meth c H locs 0 0 (vx_MQ below (mQi g b KM Q (mA b KM s.heap.size)) (mEx g b KM (fun _ _ => False) (mA b KM s.heap.size)) args s 0 0 (mA b KM s.heap.size)) (F0 m 163 ls [])) (r0 : Nat) (kr0 : KM r0 = (0, 10, 0)) (x2 : Int) (ox2 : okI x2) (x3 : Int) (ox3 : okI x3) (x4 : Int) (ox4 : okI x4) (x5 : Int) (ox5 : okI x5) (x6 : Int) (ox6 : okI x6) (S : mSt) (H : Heap) (locs : List Loc) (ls : Array Slot) (hl : lv_has ls 7 [(0, .ref (b + r0)), (2, .int (mI x2)), (3, .int (mI x3)), (4, .int (mI x4)), (5, .int (mI x5)), (6, .int (mI x6))]) (hW : mW g b KM S H) (hS : va_S (mA b KM s.heap.size) s.heap H locs) (h : w_X12_least_228 N Q ko163 r0 x2 x3 x4 x5 x6 S) : W p l e { frames := 121, cells := 0, slots := 0, locals := 3187 } s m args below meth c H locs 0 0 (vx_MQ below (mQi g b KM Q (mA b KM s.heap.size)) (mEx g b KM (fun _ _ => False) (mA b KM s.heap.size)) args s 0 0 (mA b KM s.heap.size)) (F0 m 228 ls []) := by
  unfold w_X12_least_228 at h
  refine m_iinc (pc := 228) C.1 dX12_least_228 hl (by decide) (q0 := 5) rfl (fun v => [(6, .int v), (0, .ref (b + r0)), (2, .int (mI x2)), (3, .int (mI x3)), (4, .int (mI x4)), (5, .int (mI x5))]) (fun _ => rfl) (fun v1 ls ev1 ov1 hl => ?_)
  replace h := h v1 ev1
  refine m_goto (pc := 231) (tgt := 163) C.1 dX12_least_231 (by decide) ?_
  exact hko163 r0 kr0 x2 ox2 x3 ox3 x4 ox4 x5 ox5 v1 ov1 S _ _ _ (lv_sub hl [1, 2, 3, 4, 5, 0] rfl) hW hS h
def w_X12_least_163b (N : Nat) (Q : mSt → Int → Prop) (ko163 : Nat → Int → Int → Int → Int → Int → mSt → Prop) (ko234 : Nat → Int → Int → Int → Int → mSt → Prop) (r0 : Nat) (x2 : Int) (x3 : Int) (x4 : Int) (x5 : Int) (x6 : Int) (S : mSt) : Prop :=
  (((S (r0 + 1) 3) < x6 → ko234 r0 x2 x3 x4 x5 S) ∧ (x6 ≤ (S (r0 + 1) 3) → w_X12_white N r0 x3 x6 S (fun (S1 : mSt) (v1 : Int) => w_X12_from N r0 (nm (x3 + 1)) (nm (x4 + v1)) S1 (fun (S2 : mSt) (v2 : Int) => ((2000000000 ≤ v2 → w_X12_least_228 N Q ko163 r0 x2 x3 x4 x5 x6 S2) ∧ (v2 < 2000000000 → w_X12_costs N r0 x6 S2 (fun (S3 : mSt) (v3 : Int) => w_X12_white N r0 x3 x6 S3 (fun (S4 : mSt) (v4 : Int) => w_X12_from N r0 (nm (x3 + 1)) (nm (x4 + v4)) S4 (fun (S5 : mSt) (v5 : Int) => w_X12_lesser N x5 (nm (v3 + v5)) S5 (fun (S6 : mSt) (v6 : Int) => ∀ v7 : Int, v7 = v6 → w_X12_least_228 N Q ko163 r0 x2 x3 x4 v7 x6 S6))))))))))
theorem W_X12_least_163b (C : mC p l s m args meth c cX12_least "MoonWashModel" 7 (some FieldType.int) g) (N : Nat) {Q : mSt → Int → Prop} {ko163 : Nat → Int → Int → Int → Int → Int → mSt → Prop} {ko234 : Nat → Int → Int → Int → Int → mSt → Prop} (hko163 : ∀ (r0 : Nat) (kr0 : KM r0 = (0, 10, 0)) (x2 : Int) (ox2 : okI x2) (x3 : Int) (ox3 : okI x3) (x4 : Int) (ox4 : okI x4) (x5 : Int) (ox5 : okI x5) (x6 : Int) (ox6 : okI x6) (S : mSt) (H : Heap) (locs : List Loc) (ls : Array Slot), lv_has ls 7 [(0, .ref (b + r0)), (2, .int (mI x2)), (3, .int (mI x3)), (4, .int (mI x4)), (5, .int (mI x5)), (6, .int (mI x6))] → mW g b KM S H → va_S (mA b KM s.heap.size) s.heap H locs → ko163 r0 x2 x3 x4 x5 x6 S → W p l e { frames := 121, cells := 0, slots := 0, locals := 3187 } s m args below meth c H locs 0 0 (vx_MQ below (mQi g b KM Q (mA b KM s.heap.size)) (mEx g b KM (fun _ _ => False) (mA b KM s.heap.size)) args s 0 0 (mA b KM s.heap.size)) (F0 m 163 ls [])) (hko234 : ∀ (r0 : Nat) (kr0 : KM r0 = (0, 10, 0)) (x2 : Int) (ox2 : okI x2) (x3 : Int) (ox3 : okI x3) (x4 : Int) (ox4 : okI x4) (x5 : Int) (ox5 : okI x5) (S : mSt) (H : Heap) (locs : List Loc) (ls : Array Slot), lv_has ls 7 [(0, .ref (b + r0)), (2, .int (mI x2)), (3, .int (mI x3)), (4, .int (mI x4)), (5, .int (mI x5))] → mW g b KM S H → va_S (mA b KM s.heap.size) s.heap H locs → ko234 r0 x2 x3 x4 x5 S → W p l e { frames := 121, cells := 0, slots := 0, locals := 3187 } s m args below meth c H locs 0 0 (vx_MQ below (mQi g b KM Q (mA b KM s.heap.size)) (mEx g b KM (fun _ _ => False) (mA b KM s.heap.size)) args s 0 0 (mA b KM s.heap.size)) (F0 m 234 ls [])) (r0 : Nat) (kr0 : KM r0 = (0, 10, 0)) (x2 : Int) (ox2 : okI x2) (x3 : Int) (ox3 : okI x3) (x4 : Int) (ox4 : okI x4) (x5 : Int) (ox5 : okI x5) (x6 : Int) (ox6 : okI x6) (S : mSt) (H : Heap) (locs : List Loc) (ls : Array Slot) (hl : lv_has ls 7 [(0, .ref (b + r0)), (2, .int (mI x2)), (3, .int (mI x3)), (4, .int (mI x4)), (5, .int (mI x5)), (6, .int (mI x6))]) (hW : mW g b KM S H) (hS : va_S (mA b KM s.heap.size) s.heap H locs) (h : w_X12_least_163b N Q ko163 ko234 r0 x2 x3 x4 x5 x6 S) : W p l e { frames := 121, cells := 0, slots := 0, locals := 3187 } s m args below meth c H locs 0 0 (vx_MQ below (mQi g b KM Q (mA b KM s.heap.size)) (mEx g b KM (fun _ _ => False) (mA b KM s.heap.size)) args s 0 0 (mA b KM s.heap.size)) (F0 m 163 ls []) := by
  unfold w_X12_least_163b at h
  refine m_iload (pc := 163) C.1 dX12_least_163 hl 5 rfl ?_
  refine m_aload_n (pc := 165) C.1 dX12_least_165 rfl hl 0 rfl ?_
  refine g_10_1 (pc := 166) C hW kr0 q_1384 dX12_least_166 ?_
  refine m_iconst (pc := 169) C.1 dX12_least_169 ?_
  refine m_iald (pc := 170) C.1 C.2.1 hW (k_10_1 kr0) (by decide : okI 3) (by decide) (by decide) dX12_least_170 ?_
  refine m_icmp_gt (pc := 171) (tgt := 234) C.1 ox6 (hW.2.1 _ _) dX12_least_171 (by decide) (fun hc => ?_) (fun hc => ?_)
  · replace h := h.1 hc
    exact hko234 r0 kr0 x2 ox2 x3 ox3 x4 ox4 x5 ox5 S _ _ _ (lv_sub hl [0, 1, 2, 3, 4] rfl) hW hS h
  · replace h := h.2 hc
    refine m_aload_n (pc := 174) C.1 dX12_least_174 rfl hl 0 rfl ?_
    refine m_iload_n (pc := 175) C.1 dX12_least_175 rfl hl 2 rfl ?_
    refine m_iconst (pc := 176) C.1 dX12_least_176 ?_
    refine m_iadd (pc := 177) C.1 dX12_least_177 ?_
    refine m_iload (pc := 178) C.1 dX12_least_178 hl 3 rfl ?_
    refine m_aload_n (pc := 180) C.1 dX12_least_180 rfl hl 0 rfl ?_
    refine m_iload_n (pc := 181) C.1 dX12_least_181 rfl hl 2 rfl ?_
    refine m_iload (pc := 182) C.1 dX12_least_182 hl 5 rfl ?_
    refine m_callVi (pc := 184) C.1 C.2.2.1 hl.1 C.2.1 hW hS (As := [.int (mI x3), .int (mI x6)]) (rest := [.int (mI x4), .int (mI (nm (x3 + 1))), .ref (b + r0)]) (r := r0) (T_X12_white C.2.2.2.2.2.2 N r0 kr0 x3 ox3 x6 ox6 h) kr0 rfl q_1781 q_1783 q_69 q_92 q_1784 pl_X12_white (by decide) (Nat.le_of_ble_eq_true rfl) dX12_least_184 (fun v1 S1 H locs ov1 h hW1 hS => ?_)
    refine m_iadd (pc := 187) C.1 dX12_least_187 ?_
    refine m_callVi (pc := 188) C.1 C.2.2.1 hl.1 C.2.1 hW1 hS (As := [.int (mI (nm (x3 + 1))), .int (mI (nm (x4 + v1)))]) (rest := []) (r := r0) (T_X12_from C.2.2.2.2.2.2 N r0 kr0 (nm (x3 + 1)) (nm_ok _) (nm (x4 + v1)) (nm_ok _) h) kr0 rfl q_1785 q_1787 q_70 q_92 q_1788 pl_X12_from (by decide) (Nat.le_of_ble_eq_true rfl) dX12_least_188 (fun v2 S2 H locs ov2 h hW2 hS => ?_)
    refine m_ldcw (pc := 191) (n := 2000000000) C.1 q_1780 rfl dX12_least_191 ?_
    refine m_icmp_ge (pc := 194) (tgt := 228) C.1 ov2 (by decide : okI 2000000000) dX12_least_194 (by decide) (fun hc => ?_) (fun hc => ?_)
    · replace h := h.1 hc
      exact W_X12_least_228 C N hko163 r0 kr0 x2 ox2 x3 ox3 x4 ox4 x5 ox5 x6 ox6 S2 _ _ _ (lv_sub hl [0, 1, 2, 3, 4, 5] rfl) hW2 hS h
    · replace h := h.2 hc
      refine m_iload (pc := 197) C.1 dX12_least_197 hl 4 rfl ?_
      refine m_aload_n (pc := 199) C.1 dX12_least_199 rfl hl 0 rfl ?_
      refine m_iload (pc := 200) C.1 dX12_least_200 hl 5 rfl ?_
      refine m_callVi (pc := 202) C.1 C.2.2.1 hl.1 C.2.1 hW2 hS (As := [.int (mI x6)]) (rest := [.int (mI x5)]) (r := r0) (T_X12_costs C.2.2.2.2.2.2 N r0 kr0 x6 ox6 h) kr0 rfl q_1789 q_1791 q_71 q_92 q_1792 pl_X12_costs (by decide) (Nat.le_of_ble_eq_true rfl) dX12_least_202 (fun v3 S3 H locs ov3 h hW3 hS => ?_)
      refine m_aload_n (pc := 205) C.1 dX12_least_205 rfl hl 0 rfl ?_
      refine m_iload_n (pc := 206) C.1 dX12_least_206 rfl hl 2 rfl ?_
      refine m_iconst (pc := 207) C.1 dX12_least_207 ?_
      refine m_iadd (pc := 208) C.1 dX12_least_208 ?_
      refine m_iload (pc := 209) C.1 dX12_least_209 hl 3 rfl ?_
      refine m_aload_n (pc := 211) C.1 dX12_least_211 rfl hl 0 rfl ?_
      refine m_iload_n (pc := 212) C.1 dX12_least_212 rfl hl 2 rfl ?_
      refine m_iload (pc := 213) C.1 dX12_least_213 hl 5 rfl ?_
      refine m_callVi (pc := 215) C.1 C.2.2.1 hl.1 C.2.1 hW3 hS (As := [.int (mI x3), .int (mI x6)]) (rest := [.int (mI x4), .int (mI (nm (x3 + 1))), .ref (b + r0), .int (mI v3), .int (mI x5)]) (r := r0) (T_X12_white C.2.2.2.2.2.2 N r0 kr0 x3 ox3 x6 ox6 h) kr0 rfl q_1781 q_1783 q_69 q_92 q_1784 pl_X12_white (by decide) (Nat.le_of_ble_eq_true rfl) dX12_least_215 (fun v4 S4 H locs ov4 h hW4 hS => ?_)
      refine m_iadd (pc := 218) C.1 dX12_least_218 ?_
      refine m_callVi (pc := 219) C.1 C.2.2.1 hl.1 C.2.1 hW4 hS (As := [.int (mI (nm (x3 + 1))), .int (mI (nm (x4 + v4)))]) (rest := [.int (mI v3), .int (mI x5)]) (r := r0) (T_X12_from C.2.2.2.2.2.2 N r0 kr0 (nm (x3 + 1)) (nm_ok _) (nm (x4 + v4)) (nm_ok _) h) kr0 rfl q_1785 q_1787 q_70 q_92 q_1788 pl_X12_from (by decide) (Nat.le_of_ble_eq_true rfl) dX12_least_219 (fun v5 S5 H locs ov5 h hW5 hS => ?_)
      refine m_iadd (pc := 222) C.1 dX12_least_222 ?_
      refine m_callSi (pc := 223) C.1 C.2.2.1 hl.1 C.2.1 hW5 hS (As := [.int (mI x5), .int (mI (nm (v3 + v5)))]) (rest := []) (T_X12_lesser C.2.2.2.2.2.2 N x5 ox5 (nm (v3 + v5)) (nm_ok _) h) q_1649 q_1650 q_92 q_1651 pl_X12_lesser (by decide) (Nat.le_of_ble_eq_true rfl) dX12_least_223 (fun v6 S6 H locs ov6 h hW6 hS => ?_)
      refine m_istore (pc := 226) C.1 dX12_least_226 hl (by decide) (fun v => [(5, .int v), (0, .ref (b + r0)), (2, .int (mI x2)), (3, .int (mI x3)), (4, .int (mI x4)), (6, .int (mI x6))]) (fun _ => rfl) ov6 (fun v7 ls ev7 ov7 hl => ?_)
      replace h := h v7 ev7
      exact W_X12_least_228 C N hko163 r0 kr0 x2 ox2 x3 ox3 x4 ox4 v7 ov7 x6 ox6 S6 _ _ _ (lv_sub hl [1, 2, 3, 4, 0, 5] rfl) hW6 hS h
def w_X12_least_163 (N : Nat) (Q : mSt → Int → Prop) (ko234 : Nat → Int → Int → Int → Int → mSt → Prop) : Nat → Nat → Int → Int → Int → Int → Int → mSt → Prop
  | 0 => fun _ _ _ _ _ _ _ => False
  | k + 1 => w_X12_least_163b N Q (w_X12_least_163 N Q ko234 k) ko234
theorem W_X12_least_163 (C : mC p l s m args meth c cX12_least "MoonWashModel" 7 (some FieldType.int) g) (N : Nat) {Q : mSt → Int → Prop} {ko234 : Nat → Int → Int → Int → Int → mSt → Prop} (hko234 : ∀ (r0 : Nat) (kr0 : KM r0 = (0, 10, 0)) (x2 : Int) (ox2 : okI x2) (x3 : Int) (ox3 : okI x3) (x4 : Int) (ox4 : okI x4) (x5 : Int) (ox5 : okI x5) (S : mSt) (H : Heap) (locs : List Loc) (ls : Array Slot), lv_has ls 7 [(0, .ref (b + r0)), (2, .int (mI x2)), (3, .int (mI x3)), (4, .int (mI x4)), (5, .int (mI x5))] → mW g b KM S H → va_S (mA b KM s.heap.size) s.heap H locs → ko234 r0 x2 x3 x4 x5 S → W p l e { frames := 121, cells := 0, slots := 0, locals := 3187 } s m args below meth c H locs 0 0 (vx_MQ below (mQi g b KM Q (mA b KM s.heap.size)) (mEx g b KM (fun _ _ => False) (mA b KM s.heap.size)) args s 0 0 (mA b KM s.heap.size)) (F0 m 234 ls [])) : ∀ (k : Nat) (r0 : Nat) (kr0 : KM r0 = (0, 10, 0)) (x2 : Int) (ox2 : okI x2) (x3 : Int) (ox3 : okI x3) (x4 : Int) (ox4 : okI x4) (x5 : Int) (ox5 : okI x5) (x6 : Int) (ox6 : okI x6) (S : mSt) (H : Heap) (locs : List Loc) (ls : Array Slot) (hl : lv_has ls 7 [(0, .ref (b + r0)), (2, .int (mI x2)), (3, .int (mI x3)), (4, .int (mI x4)), (5, .int (mI x5)), (6, .int (mI x6))]) (hW : mW g b KM S H) (hS : va_S (mA b KM s.heap.size) s.heap H locs) (h : w_X12_least_163 N Q ko234 k r0 x2 x3 x4 x5 x6 S), W p l e { frames := 121, cells := 0, slots := 0, locals := 3187 } s m args below meth c H locs 0 0 (vx_MQ below (mQi g b KM Q (mA b KM s.heap.size)) (mEx g b KM (fun _ _ => False) (mA b KM s.heap.size)) args s 0 0 (mA b KM s.heap.size)) (F0 m 163 ls []) := by
  intro k
  induction k with
  | zero => intro r0 kr0 x2 ox2 x3 ox3 x4 ox4 x5 ox5 x6 ox6 S H locs ls hl hW hS h; exact False.elim h
  | succ k ih => intro r0 kr0 x2 ox2 x3 ox3 x4 ox4 x5 ox5 x6 ox6 S H locs ls hl hW hS h; exact W_X12_least_163b C N ih hko234 r0 kr0 x2 ox2 x3 ox3 x4 ox4 x5 ox5 x6 ox6 S H locs ls hl hW hS h
def w_X12_least_147b (N : Nat) (Q : mSt → Int → Prop) (ko147 : Nat → Int → Int → Int → mSt → Prop) (ko255 : Nat → Int → Int → mSt → Prop) (r0 : Nat) (x2 : Int) (x3 : Int) (x4 : Int) (S : mSt) : Prop :=
  ((160 < x4 → ko255 r0 x2 x3 S) ∧ (x4 ≤ 160 → ∀ v1 : Int, v1 = 2000000000 → ∀ v2 : Int, v2 = 0 → w_X12_least_163 N Q (fun (r0_3 : Nat) (x2_3 : Int) (x3_3 : Int) (x4_3 : Int) (x5_3 : Int) (S_3 : mSt) => (0 ≤ (nm ((nm (161 * x3_3)) + x4_3)) ∧ (nm ((nm (161 * x3_3)) + x4_3)) < 1449 ∧ ∀ S5 : mSt, S5 = mup S_3 (r0_3 + 9) (nm ((nm (161 * x3_3)) + x4_3)) x5_3 → ∀ v6 : Int, v6 = nm (x4_3 + 1) → ko147 r0_3 x2_3 x3_3 v6 S5)) N r0 x2 x3 x4 v1 v2 S))
theorem W_X12_least_147b (C : mC p l s m args meth c cX12_least "MoonWashModel" 7 (some FieldType.int) g) (N : Nat) {Q : mSt → Int → Prop} {ko147 : Nat → Int → Int → Int → mSt → Prop} {ko255 : Nat → Int → Int → mSt → Prop} (hko147 : ∀ (r0 : Nat) (kr0 : KM r0 = (0, 10, 0)) (x2 : Int) (ox2 : okI x2) (x3 : Int) (ox3 : okI x3) (x4 : Int) (ox4 : okI x4) (S : mSt) (H : Heap) (locs : List Loc) (ls : Array Slot), lv_has ls 7 [(0, .ref (b + r0)), (2, .int (mI x2)), (3, .int (mI x3)), (4, .int (mI x4))] → mW g b KM S H → va_S (mA b KM s.heap.size) s.heap H locs → ko147 r0 x2 x3 x4 S → W p l e { frames := 121, cells := 0, slots := 0, locals := 3187 } s m args below meth c H locs 0 0 (vx_MQ below (mQi g b KM Q (mA b KM s.heap.size)) (mEx g b KM (fun _ _ => False) (mA b KM s.heap.size)) args s 0 0 (mA b KM s.heap.size)) (F0 m 147 ls [])) (hko255 : ∀ (r0 : Nat) (kr0 : KM r0 = (0, 10, 0)) (x2 : Int) (ox2 : okI x2) (x3 : Int) (ox3 : okI x3) (S : mSt) (H : Heap) (locs : List Loc) (ls : Array Slot), lv_has ls 7 [(0, .ref (b + r0)), (2, .int (mI x2)), (3, .int (mI x3))] → mW g b KM S H → va_S (mA b KM s.heap.size) s.heap H locs → ko255 r0 x2 x3 S → W p l e { frames := 121, cells := 0, slots := 0, locals := 3187 } s m args below meth c H locs 0 0 (vx_MQ below (mQi g b KM Q (mA b KM s.heap.size)) (mEx g b KM (fun _ _ => False) (mA b KM s.heap.size)) args s 0 0 (mA b KM s.heap.size)) (F0 m 255 ls [])) (r0 : Nat) (kr0 : KM r0 = (0, 10, 0)) (x2 : Int) (ox2 : okI x2) (x3 : Int) (ox3 : okI x3) (x4 : Int) (ox4 : okI x4) (S : mSt) (H : Heap) (locs : List Loc) (ls : Array Slot) (hl : lv_has ls 7 [(0, .ref (b + r0)), (2, .int (mI x2)), (3, .int (mI x3)), (4, .int (mI x4))]) (hW : mW g b KM S H) (hS : va_S (mA b KM s.heap.size) s.heap H locs) (h : w_X12_least_147b N Q ko147 ko255 r0 x2 x3 x4 S) : W p l e { frames := 121, cells := 0, slots := 0, locals := 3187 } s m args below meth c H locs 0 0 (vx_MQ below (mQi g b KM Q (mA b KM s.heap.size)) (mEx g b KM (fun _ _ => False) (mA b KM s.heap.size)) args s 0 0 (mA b KM s.heap.size)) (F0 m 147 ls []) := by
  unfold w_X12_least_147b at h
  refine m_iload (pc := 147) C.1 dX12_least_147 hl 3 rfl ?_
  refine m_sipush (pc := 149) C.1 dX12_least_149 rfl ?_
  refine m_icmp_gt (pc := 152) (tgt := 255) C.1 ox4 (by decide : okI 160) dX12_least_152 (by decide) (fun hc => ?_) (fun hc => ?_)
  · replace h := h.1 hc
    exact hko255 r0 kr0 x2 ox2 x3 ox3 S _ _ _ (lv_sub hl [0, 1, 2] rfl) hW hS h
  · replace h := h.2 hc
    refine m_ldcw (pc := 155) (n := 2000000000) C.1 q_1780 rfl dX12_least_155 ?_
    refine m_istore (pc := 158) C.1 dX12_least_158 hl (by decide) (fun v => [(5, .int v), (0, .ref (b + r0)), (2, .int (mI x2)), (3, .int (mI x3)), (4, .int (mI x4))]) (fun _ => rfl) (by decide : okI 2000000000) (fun v1 ls ev1 ov1 hl => ?_)
    replace h := h v1 ev1
    refine m_iconst (pc := 160) C.1 dX12_least_160 ?_
    refine m_istore (pc := 161) C.1 dX12_least_161 hl (by decide) (fun v => [(6, .int v), (5, .int (mI v1)), (0, .ref (b + r0)), (2, .int (mI x2)), (3, .int (mI x3)), (4, .int (mI x4))]) (fun _ => rfl) (by decide : okI 0) (fun v2 ls ev2 ov2 hl => ?_)
    replace h := h v2 ev2
    refine W_X12_least_163 C N ?_ N r0 kr0 x2 ox2 x3 ox3 x4 ox4 v1 ov1 v2 ov2 S _ _ _ (lv_sub hl [2, 3, 4, 5, 1, 0] rfl) hW hS h
    · intro r0_3 kr0_3 x2_3 ox2_3 x3_3 ox3_3 x4_3 ox4_3 x5_3 ox5_3 S_3 H locs ls hl hW_3 hS h
      refine m_aload_n (pc := 234) C.1 dX12_least_234 rfl hl 0 rfl ?_
      refine g_10_22 (pc := 235) C hW_3 kr0_3 q_1405 dX12_least_235 ?_
      refine m_sipush (pc := 238) C.1 dX12_least_238 rfl ?_
      refine m_iload_n (pc := 241) C.1 dX12_least_241 rfl hl 2 rfl ?_
      refine m_imul (pc := 242) C.1 dX12_least_242 ?_
      refine m_iload (pc := 243) C.1 dX12_least_243 hl 3 rfl ?_
      refine m_iadd (pc := 245) C.1 dX12_least_245 ?_
      refine m_iload (pc := 246) C.1 dX12_least_246 hl 4 rfl ?_
      obtain ⟨hb4a, hb4b, h⟩ := h
      refine m_iast (pc := 248) C.1 C.2.1 hW_3 hS (k_10_22 kr0_3) (nm_ok _) ox5_3 hb4a hb4b dX12_least_248 (fun S5 H locs e5 hW5 hS => ?_)
      replace h := h S5 e5
      refine m_iinc (pc := 249) C.1 dX12_least_249 hl (by decide) (q0 := 3) rfl (fun v => [(4, .int v), (0, .ref (b + r0_3)), (2, .int (mI x2_3)), (3, .int (mI x3_3)), (5, .int (mI x5_3))]) (fun _ => rfl) (fun v6 ls ev6 ov6 hl => ?_)
      replace h := h v6 ev6
      refine m_goto (pc := 252) (tgt := 147) C.1 dX12_least_252 (by decide) ?_
      exact hko147 r0_3 kr0_3 x2_3 ox2_3 x3_3 ox3_3 v6 ov6 S5 _ _ _ (lv_sub hl [1, 2, 3, 0] rfl) hW5 hS h
def w_X12_least_147 (N : Nat) (Q : mSt → Int → Prop) (ko255 : Nat → Int → Int → mSt → Prop) : Nat → Nat → Int → Int → Int → mSt → Prop
  | 0 => fun _ _ _ _ _ => False
  | k + 1 => w_X12_least_147b N Q (w_X12_least_147 N Q ko255 k) ko255
theorem W_X12_least_147 (C : mC p l s m args meth c cX12_least "MoonWashModel" 7 (some FieldType.int) g) (N : Nat) {Q : mSt → Int → Prop} {ko255 : Nat → Int → Int → mSt → Prop} (hko255 : ∀ (r0 : Nat) (kr0 : KM r0 = (0, 10, 0)) (x2 : Int) (ox2 : okI x2) (x3 : Int) (ox3 : okI x3) (S : mSt) (H : Heap) (locs : List Loc) (ls : Array Slot), lv_has ls 7 [(0, .ref (b + r0)), (2, .int (mI x2)), (3, .int (mI x3))] → mW g b KM S H → va_S (mA b KM s.heap.size) s.heap H locs → ko255 r0 x2 x3 S → W p l e { frames := 121, cells := 0, slots := 0, locals := 3187 } s m args below meth c H locs 0 0 (vx_MQ below (mQi g b KM Q (mA b KM s.heap.size)) (mEx g b KM (fun _ _ => False) (mA b KM s.heap.size)) args s 0 0 (mA b KM s.heap.size)) (F0 m 255 ls [])) : ∀ (k : Nat) (r0 : Nat) (kr0 : KM r0 = (0, 10, 0)) (x2 : Int) (ox2 : okI x2) (x3 : Int) (ox3 : okI x3) (x4 : Int) (ox4 : okI x4) (S : mSt) (H : Heap) (locs : List Loc) (ls : Array Slot) (hl : lv_has ls 7 [(0, .ref (b + r0)), (2, .int (mI x2)), (3, .int (mI x3)), (4, .int (mI x4))]) (hW : mW g b KM S H) (hS : va_S (mA b KM s.heap.size) s.heap H locs) (h : w_X12_least_147 N Q ko255 k r0 x2 x3 x4 S), W p l e { frames := 121, cells := 0, slots := 0, locals := 3187 } s m args below meth c H locs 0 0 (vx_MQ below (mQi g b KM Q (mA b KM s.heap.size)) (mEx g b KM (fun _ _ => False) (mA b KM s.heap.size)) args s 0 0 (mA b KM s.heap.size)) (F0 m 147 ls []) := by
  intro k
  induction k with
  | zero => intro r0 kr0 x2 ox2 x3 ox3 x4 ox4 S H locs ls hl hW hS h; exact False.elim h
  | succ k ih => intro r0 kr0 x2 ox2 x3 ox3 x4 ox4 S H locs ls hl hW hS h; exact W_X12_least_147b C N ih hko255 r0 kr0 x2 ox2 x3 ox3 x4 ox4 S H locs ls hl hW hS h
def w_X12_least_140b (N : Nat) (Q : mSt → Int → Prop) (ko140 : Nat → Int → Int → mSt → Prop) (ko261 : Nat → Int → mSt → Prop) (r0 : Nat) (x2 : Int) (x3 : Int) (S : mSt) : Prop :=
  ((x3 < 0 → ko261 r0 x2 S) ∧ (0 ≤ x3 → ∀ v1 : Int, v1 = 0 → w_X12_least_147 N Q (fun (r0_2 : Nat) (x2_2 : Int) (x3_2 : Int) (S_2 : mSt) => ∀ v3 : Int, v3 = nm (x3_2 + (-1)) → ko140 r0_2 x2_2 v3 S_2) N r0 x2 x3 v1 S))
theorem W_X12_least_140b (C : mC p l s m args meth c cX12_least "MoonWashModel" 7 (some FieldType.int) g) (N : Nat) {Q : mSt → Int → Prop} {ko140 : Nat → Int → Int → mSt → Prop} {ko261 : Nat → Int → mSt → Prop} (hko140 : ∀ (r0 : Nat) (kr0 : KM r0 = (0, 10, 0)) (x2 : Int) (ox2 : okI x2) (x3 : Int) (ox3 : okI x3) (S : mSt) (H : Heap) (locs : List Loc) (ls : Array Slot), lv_has ls 7 [(0, .ref (b + r0)), (2, .int (mI x2)), (3, .int (mI x3))] → mW g b KM S H → va_S (mA b KM s.heap.size) s.heap H locs → ko140 r0 x2 x3 S → W p l e { frames := 121, cells := 0, slots := 0, locals := 3187 } s m args below meth c H locs 0 0 (vx_MQ below (mQi g b KM Q (mA b KM s.heap.size)) (mEx g b KM (fun _ _ => False) (mA b KM s.heap.size)) args s 0 0 (mA b KM s.heap.size)) (F0 m 140 ls [])) (hko261 : ∀ (r0 : Nat) (kr0 : KM r0 = (0, 10, 0)) (x2 : Int) (ox2 : okI x2) (S : mSt) (H : Heap) (locs : List Loc) (ls : Array Slot), lv_has ls 7 [(0, .ref (b + r0)), (2, .int (mI x2))] → mW g b KM S H → va_S (mA b KM s.heap.size) s.heap H locs → ko261 r0 x2 S → W p l e { frames := 121, cells := 0, slots := 0, locals := 3187 } s m args below meth c H locs 0 0 (vx_MQ below (mQi g b KM Q (mA b KM s.heap.size)) (mEx g b KM (fun _ _ => False) (mA b KM s.heap.size)) args s 0 0 (mA b KM s.heap.size)) (F0 m 261 ls [])) (r0 : Nat) (kr0 : KM r0 = (0, 10, 0)) (x2 : Int) (ox2 : okI x2) (x3 : Int) (ox3 : okI x3) (S : mSt) (H : Heap) (locs : List Loc) (ls : Array Slot) (hl : lv_has ls 7 [(0, .ref (b + r0)), (2, .int (mI x2)), (3, .int (mI x3))]) (hW : mW g b KM S H) (hS : va_S (mA b KM s.heap.size) s.heap H locs) (h : w_X12_least_140b N Q ko140 ko261 r0 x2 x3 S) : W p l e { frames := 121, cells := 0, slots := 0, locals := 3187 } s m args below meth c H locs 0 0 (vx_MQ below (mQi g b KM Q (mA b KM s.heap.size)) (mEx g b KM (fun _ _ => False) (mA b KM s.heap.size)) args s 0 0 (mA b KM s.heap.size)) (F0 m 140 ls []) := by
  unfold w_X12_least_140b at h
  refine m_iload_n (pc := 140) C.1 dX12_least_140 rfl hl 2 rfl ?_
  refine m_if_lt (pc := 141) (tgt := 261) C.1 ox3 dX12_least_141 (by decide) (fun hc => ?_) (fun hc => ?_)
  · replace h := h.1 hc
    exact hko261 r0 kr0 x2 ox2 S _ _ _ (lv_sub hl [0, 1] rfl) hW hS h
  · replace h := h.2 hc
    refine m_iconst (pc := 144) C.1 dX12_least_144 ?_
    refine m_istore (pc := 145) C.1 dX12_least_145 hl (by decide) (fun v => [(4, .int v), (0, .ref (b + r0)), (2, .int (mI x2)), (3, .int (mI x3))]) (fun _ => rfl) (by decide : okI 0) (fun v1 ls ev1 ov1 hl => ?_)
    replace h := h v1 ev1
    refine W_X12_least_147 C N ?_ N r0 kr0 x2 ox2 x3 ox3 v1 ov1 S _ _ _ (lv_sub hl [1, 2, 3, 0] rfl) hW hS h
    · intro r0_2 kr0_2 x2_2 ox2_2 x3_2 ox3_2 S_2 H locs ls hl hW_2 hS h
      refine m_iinc (pc := 255) C.1 dX12_least_255 hl (by decide) (q0 := 2) rfl (fun v => [(3, .int v), (0, .ref (b + r0_2)), (2, .int (mI x2_2))]) (fun _ => rfl) (fun v3 ls ev3 ov3 hl => ?_)
      replace h := h v3 ev3
      refine m_goto (pc := 258) (tgt := 140) C.1 dX12_least_258 (by decide) ?_
      exact hko140 r0_2 kr0_2 x2_2 ox2_2 v3 ov3 S_2 _ _ _ (lv_sub hl [1, 2, 0] rfl) hW_2 hS h
def w_X12_least_140 (N : Nat) (Q : mSt → Int → Prop) (ko261 : Nat → Int → mSt → Prop) : Nat → Nat → Int → Int → mSt → Prop
  | 0 => fun _ _ _ _ => False
  | k + 1 => w_X12_least_140b N Q (w_X12_least_140 N Q ko261 k) ko261
theorem W_X12_least_140 (C : mC p l s m args meth c cX12_least "MoonWashModel" 7 (some FieldType.int) g) (N : Nat) {Q : mSt → Int → Prop} {ko261 : Nat → Int → mSt → Prop} (hko261 : ∀ (r0 : Nat) (kr0 : KM r0 = (0, 10, 0)) (x2 : Int) (ox2 : okI x2) (S : mSt) (H : Heap) (locs : List Loc) (ls : Array Slot), lv_has ls 7 [(0, .ref (b + r0)), (2, .int (mI x2))] → mW g b KM S H → va_S (mA b KM s.heap.size) s.heap H locs → ko261 r0 x2 S → W p l e { frames := 121, cells := 0, slots := 0, locals := 3187 } s m args below meth c H locs 0 0 (vx_MQ below (mQi g b KM Q (mA b KM s.heap.size)) (mEx g b KM (fun _ _ => False) (mA b KM s.heap.size)) args s 0 0 (mA b KM s.heap.size)) (F0 m 261 ls [])) : ∀ (k : Nat) (r0 : Nat) (kr0 : KM r0 = (0, 10, 0)) (x2 : Int) (ox2 : okI x2) (x3 : Int) (ox3 : okI x3) (S : mSt) (H : Heap) (locs : List Loc) (ls : Array Slot) (hl : lv_has ls 7 [(0, .ref (b + r0)), (2, .int (mI x2)), (3, .int (mI x3))]) (hW : mW g b KM S H) (hS : va_S (mA b KM s.heap.size) s.heap H locs) (h : w_X12_least_140 N Q ko261 k r0 x2 x3 S), W p l e { frames := 121, cells := 0, slots := 0, locals := 3187 } s m args below meth c H locs 0 0 (vx_MQ below (mQi g b KM Q (mA b KM s.heap.size)) (mEx g b KM (fun _ _ => False) (mA b KM s.heap.size)) args s 0 0 (mA b KM s.heap.size)) (F0 m 140 ls []) := by
  intro k
  induction k with
  | zero => intro r0 kr0 x2 ox2 x3 ox3 S H locs ls hl hW hS h; exact False.elim h
  | succ k ih => intro r0 kr0 x2 ox2 x3 ox3 S H locs ls hl hW hS h; exact W_X12_least_140b C N ih hko261 r0 kr0 x2 ox2 x3 ox3 S H locs ls hl hW hS h
def w_X12_least_363 (N : Nat) (Q : mSt → Int → Prop) (ko304 : Nat → Int → Int → Int → Int → mSt → Prop) (r0 : Nat) (x2 : Int) (x3 : Int) (x4 : Int) (x5 : Int) (S : mSt) : Prop :=
  ∀ v1 : Int, v1 = nm (x4 + 1) → ko304 r0 x2 x3 v1 x5 S
theorem W_X12_least_363 (C : mC p l s m args meth c cX12_least "MoonWashModel" 7 (some FieldType.int) g) (N : Nat) {Q : mSt → Int → Prop} {ko304 : Nat → Int → Int → Int → Int → mSt → Prop} (hko304 : ∀ (r0 : Nat) (kr0 : KM r0 = (0, 10, 0)) (x2 : Int) (ox2 : okI x2) (x3 : Int) (ox3 : okI x3) (x4 : Int) (ox4 : okI x4) (x5 : Int) (ox5 : okI x5) (S : mSt) (H : Heap) (locs : List Loc) (ls : Array Slot), lv_has ls 7 [(0, .ref (b + r0)), (2, .int (mI x2)), (3, .int (mI x3)), (4, .int (mI x4)), (5, .int (mI x5))] → mW g b KM S H → va_S (mA b KM s.heap.size) s.heap H locs → ko304 r0 x2 x3 x4 x5 S → W p l e { frames := 121, cells := 0, slots := 0, locals := 3187 } s m args below meth c H locs 0 0 (vx_MQ below (mQi g b KM Q (mA b KM s.heap.size)) (mEx g b KM (fun _ _ => False) (mA b KM s.heap.size)) args s 0 0 (mA b KM s.heap.size)) (F0 m 304 ls [])) (r0 : Nat) (kr0 : KM r0 = (0, 10, 0)) (x2 : Int) (ox2 : okI x2) (x3 : Int) (ox3 : okI x3) (x4 : Int) (ox4 : okI x4) (x5 : Int) (ox5 : okI x5) (S : mSt) (H : Heap) (locs : List Loc) (ls : Array Slot) (hl : lv_has ls 7 [(0, .ref (b + r0)), (2, .int (mI x2)), (3, .int (mI x3)), (4, .int (mI x4)), (5, .int (mI x5))]) (hW : mW g b KM S H) (hS : va_S (mA b KM s.heap.size) s.heap H locs) (h : w_X12_least_363 N Q ko304 r0 x2 x3 x4 x5 S) : W p l e { frames := 121, cells := 0, slots := 0, locals := 3187 } s m args below meth c H locs 0 0 (vx_MQ below (mQi g b KM Q (mA b KM s.heap.size)) (mEx g b KM (fun _ _ => False) (mA b KM s.heap.size)) args s 0 0 (mA b KM s.heap.size)) (F0 m 363 ls []) := by
  unfold w_X12_least_363 at h
  refine m_iinc (pc := 363) C.1 dX12_least_363 hl (by decide) (q0 := 3) rfl (fun v => [(4, .int v), (0, .ref (b + r0)), (2, .int (mI x2)), (3, .int (mI x3)), (5, .int (mI x5))]) (fun _ => rfl) (fun v1 ls ev1 ov1 hl => ?_)
  replace h := h v1 ev1
  refine m_goto (pc := 366) (tgt := 304) C.1 dX12_least_366 (by decide) ?_
  exact hko304 r0 kr0 x2 ox2 x3 ox3 v1 ov1 x5 ox5 S _ _ _ (lv_sub hl [1, 2, 3, 0, 4] rfl) hW hS h
def w_X12_least_304b (N : Nat) (Q : mSt → Int → Prop) (ko304 : Nat → Int → Int → Int → Int → mSt → Prop) (ko369 : Nat → Int → Int → Int → Int → mSt → Prop) (r0 : Nat) (x2 : Int) (x3 : Int) (x4 : Int) (x5 : Int) (S : mSt) : Prop :=
  w_X12_white N r0 x5 x4 S (fun (S1 : mSt) (v1 : Int) => w_X12_from N r0 (nm (x5 + 1)) (nm (x3 + v1)) S1 (fun (S2 : mSt) (v2 : Int) => ((v2 = 2000000000 → w_X12_least_363 N Q ko304 r0 x2 x3 x4 x5 S2) ∧ (v2 ≠ 2000000000 → w_X12_costs N r0 x4 S2 (fun (S3 : mSt) (v3 : Int) => w_X12_white N r0 x5 x4 S3 (fun (S4 : mSt) (v4 : Int) => w_X12_from N r0 (nm (x5 + 1)) (nm (x3 + v4)) S4 (fun (S5 : mSt) (v5 : Int) => w_X12_from N r0 x5 x3 S5 (fun (S6 : mSt) (v6 : Int) => (((nm (v3 + v5)) = v6 → ko369 r0 x2 x3 x4 x5 S6) ∧ ((nm (v3 + v5)) ≠ v6 → w_X12_least_363 N Q ko304 r0 x2 x3 x4 x5 S6))))))))))
theorem W_X12_least_304b (C : mC p l s m args meth c cX12_least "MoonWashModel" 7 (some FieldType.int) g) (N : Nat) {Q : mSt → Int → Prop} {ko304 : Nat → Int → Int → Int → Int → mSt → Prop} {ko369 : Nat → Int → Int → Int → Int → mSt → Prop} (hko304 : ∀ (r0 : Nat) (kr0 : KM r0 = (0, 10, 0)) (x2 : Int) (ox2 : okI x2) (x3 : Int) (ox3 : okI x3) (x4 : Int) (ox4 : okI x4) (x5 : Int) (ox5 : okI x5) (S : mSt) (H : Heap) (locs : List Loc) (ls : Array Slot), lv_has ls 7 [(0, .ref (b + r0)), (2, .int (mI x2)), (3, .int (mI x3)), (4, .int (mI x4)), (5, .int (mI x5))] → mW g b KM S H → va_S (mA b KM s.heap.size) s.heap H locs → ko304 r0 x2 x3 x4 x5 S → W p l e { frames := 121, cells := 0, slots := 0, locals := 3187 } s m args below meth c H locs 0 0 (vx_MQ below (mQi g b KM Q (mA b KM s.heap.size)) (mEx g b KM (fun _ _ => False) (mA b KM s.heap.size)) args s 0 0 (mA b KM s.heap.size)) (F0 m 304 ls [])) (hko369 : ∀ (r0 : Nat) (kr0 : KM r0 = (0, 10, 0)) (x2 : Int) (ox2 : okI x2) (x3 : Int) (ox3 : okI x3) (x4 : Int) (ox4 : okI x4) (x5 : Int) (ox5 : okI x5) (S : mSt) (H : Heap) (locs : List Loc) (ls : Array Slot), lv_has ls 7 [(0, .ref (b + r0)), (2, .int (mI x2)), (3, .int (mI x3)), (4, .int (mI x4)), (5, .int (mI x5))] → mW g b KM S H → va_S (mA b KM s.heap.size) s.heap H locs → ko369 r0 x2 x3 x4 x5 S → W p l e { frames := 121, cells := 0, slots := 0, locals := 3187 } s m args below meth c H locs 0 0 (vx_MQ below (mQi g b KM Q (mA b KM s.heap.size)) (mEx g b KM (fun _ _ => False) (mA b KM s.heap.size)) args s 0 0 (mA b KM s.heap.size)) (F0 m 369 ls [])) (r0 : Nat) (kr0 : KM r0 = (0, 10, 0)) (x2 : Int) (ox2 : okI x2) (x3 : Int) (ox3 : okI x3) (x4 : Int) (ox4 : okI x4) (x5 : Int) (ox5 : okI x5) (S : mSt) (H : Heap) (locs : List Loc) (ls : Array Slot) (hl : lv_has ls 7 [(0, .ref (b + r0)), (2, .int (mI x2)), (3, .int (mI x3)), (4, .int (mI x4)), (5, .int (mI x5))]) (hW : mW g b KM S H) (hS : va_S (mA b KM s.heap.size) s.heap H locs) (h : w_X12_least_304b N Q ko304 ko369 r0 x2 x3 x4 x5 S) : W p l e { frames := 121, cells := 0, slots := 0, locals := 3187 } s m args below meth c H locs 0 0 (vx_MQ below (mQi g b KM Q (mA b KM s.heap.size)) (mEx g b KM (fun _ _ => False) (mA b KM s.heap.size)) args s 0 0 (mA b KM s.heap.size)) (F0 m 304 ls []) := by
  unfold w_X12_least_304b at h
  refine m_aload_n (pc := 304) C.1 dX12_least_304 rfl hl 0 rfl ?_
  refine m_iload (pc := 305) C.1 dX12_least_305 hl 4 rfl ?_
  refine m_iconst (pc := 307) C.1 dX12_least_307 ?_
  refine m_iadd (pc := 308) C.1 dX12_least_308 ?_
  refine m_iload_n (pc := 309) C.1 dX12_least_309 rfl hl 2 rfl ?_
  refine m_aload_n (pc := 310) C.1 dX12_least_310 rfl hl 0 rfl ?_
  refine m_iload (pc := 311) C.1 dX12_least_311 hl 4 rfl ?_
  refine m_iload (pc := 313) C.1 dX12_least_313 hl 3 rfl ?_
  refine m_callVi (pc := 315) C.1 C.2.2.1 hl.1 C.2.1 hW hS (As := [.int (mI x5), .int (mI x4)]) (rest := [.int (mI x3), .int (mI (nm (x5 + 1))), .ref (b + r0)]) (r := r0) (T_X12_white C.2.2.2.2.2.2 N r0 kr0 x5 ox5 x4 ox4 h) kr0 rfl q_1781 q_1783 q_69 q_92 q_1784 pl_X12_white (by decide) (Nat.le_of_ble_eq_true rfl) dX12_least_315 (fun v1 S1 H locs ov1 h hW1 hS => ?_)
  refine m_iadd (pc := 318) C.1 dX12_least_318 ?_
  refine m_callVi (pc := 319) C.1 C.2.2.1 hl.1 C.2.1 hW1 hS (As := [.int (mI (nm (x5 + 1))), .int (mI (nm (x3 + v1)))]) (rest := []) (r := r0) (T_X12_from C.2.2.2.2.2.2 N r0 kr0 (nm (x5 + 1)) (nm_ok _) (nm (x3 + v1)) (nm_ok _) h) kr0 rfl q_1785 q_1787 q_70 q_92 q_1788 pl_X12_from (by decide) (Nat.le_of_ble_eq_true rfl) dX12_least_319 (fun v2 S2 H locs ov2 h hW2 hS => ?_)
  refine m_ldcw (pc := 322) (n := 2000000000) C.1 q_1780 rfl dX12_least_322 ?_
  refine m_icmp_eq (pc := 325) (tgt := 363) C.1 ov2 (by decide : okI 2000000000) dX12_least_325 (by decide) (fun hc => ?_) (fun hc => ?_)
  · replace h := h.1 hc
    exact W_X12_least_363 C N hko304 r0 kr0 x2 ox2 x3 ox3 x4 ox4 x5 ox5 S2 _ _ _ (lv_sub hl [0, 1, 2, 3, 4] rfl) hW2 hS h
  · replace h := h.2 hc
    refine m_aload_n (pc := 328) C.1 dX12_least_328 rfl hl 0 rfl ?_
    refine m_iload (pc := 329) C.1 dX12_least_329 hl 3 rfl ?_
    refine m_callVi (pc := 331) C.1 C.2.2.1 hl.1 C.2.1 hW2 hS (As := [.int (mI x4)]) (rest := []) (r := r0) (T_X12_costs C.2.2.2.2.2.2 N r0 kr0 x4 ox4 h) kr0 rfl q_1789 q_1791 q_71 q_92 q_1792 pl_X12_costs (by decide) (Nat.le_of_ble_eq_true rfl) dX12_least_331 (fun v3 S3 H locs ov3 h hW3 hS => ?_)
    refine m_aload_n (pc := 334) C.1 dX12_least_334 rfl hl 0 rfl ?_
    refine m_iload (pc := 335) C.1 dX12_least_335 hl 4 rfl ?_
    refine m_iconst (pc := 337) C.1 dX12_least_337 ?_
    refine m_iadd (pc := 338) C.1 dX12_least_338 ?_
    refine m_iload_n (pc := 339) C.1 dX12_least_339 rfl hl 2 rfl ?_
    refine m_aload_n (pc := 340) C.1 dX12_least_340 rfl hl 0 rfl ?_
    refine m_iload (pc := 341) C.1 dX12_least_341 hl 4 rfl ?_
    refine m_iload (pc := 343) C.1 dX12_least_343 hl 3 rfl ?_
    refine m_callVi (pc := 345) C.1 C.2.2.1 hl.1 C.2.1 hW3 hS (As := [.int (mI x5), .int (mI x4)]) (rest := [.int (mI x3), .int (mI (nm (x5 + 1))), .ref (b + r0), .int (mI v3)]) (r := r0) (T_X12_white C.2.2.2.2.2.2 N r0 kr0 x5 ox5 x4 ox4 h) kr0 rfl q_1781 q_1783 q_69 q_92 q_1784 pl_X12_white (by decide) (Nat.le_of_ble_eq_true rfl) dX12_least_345 (fun v4 S4 H locs ov4 h hW4 hS => ?_)
    refine m_iadd (pc := 348) C.1 dX12_least_348 ?_
    refine m_callVi (pc := 349) C.1 C.2.2.1 hl.1 C.2.1 hW4 hS (As := [.int (mI (nm (x5 + 1))), .int (mI (nm (x3 + v4)))]) (rest := [.int (mI v3)]) (r := r0) (T_X12_from C.2.2.2.2.2.2 N r0 kr0 (nm (x5 + 1)) (nm_ok _) (nm (x3 + v4)) (nm_ok _) h) kr0 rfl q_1785 q_1787 q_70 q_92 q_1788 pl_X12_from (by decide) (Nat.le_of_ble_eq_true rfl) dX12_least_349 (fun v5 S5 H locs ov5 h hW5 hS => ?_)
    refine m_iadd (pc := 352) C.1 dX12_least_352 ?_
    refine m_aload_n (pc := 353) C.1 dX12_least_353 rfl hl 0 rfl ?_
    refine m_iload (pc := 354) C.1 dX12_least_354 hl 4 rfl ?_
    refine m_iload_n (pc := 356) C.1 dX12_least_356 rfl hl 2 rfl ?_
    refine m_callVi (pc := 357) C.1 C.2.2.1 hl.1 C.2.1 hW5 hS (As := [.int (mI x5), .int (mI x3)]) (rest := [.int (mI (nm (v3 + v5)))]) (r := r0) (T_X12_from C.2.2.2.2.2.2 N r0 kr0 x5 ox5 x3 ox3 h) kr0 rfl q_1785 q_1787 q_70 q_92 q_1788 pl_X12_from (by decide) (Nat.le_of_ble_eq_true rfl) dX12_least_357 (fun v6 S6 H locs ov6 h hW6 hS => ?_)
    refine m_icmp_eq (pc := 360) (tgt := 369) C.1 (nm_ok _) ov6 dX12_least_360 (by decide) (fun hc => ?_) (fun hc => ?_)
    · replace h := h.1 hc
      exact hko369 r0 kr0 x2 ox2 x3 ox3 x4 ox4 x5 ox5 S6 _ _ _ (lv_sub hl [0, 1, 2, 3, 4] rfl) hW6 hS h
    · replace h := h.2 hc
      exact W_X12_least_363 C N hko304 r0 kr0 x2 ox2 x3 ox3 x4 ox4 x5 ox5 S6 _ _ _ (lv_sub hl [0, 1, 2, 3, 4] rfl) hW6 hS h
def w_X12_least_304 (N : Nat) (Q : mSt → Int → Prop) (ko369 : Nat → Int → Int → Int → Int → mSt → Prop) : Nat → Nat → Int → Int → Int → Int → mSt → Prop
  | 0 => fun _ _ _ _ _ _ => False
  | k + 1 => w_X12_least_304b N Q (w_X12_least_304 N Q ko369 k) ko369
theorem W_X12_least_304 (C : mC p l s m args meth c cX12_least "MoonWashModel" 7 (some FieldType.int) g) (N : Nat) {Q : mSt → Int → Prop} {ko369 : Nat → Int → Int → Int → Int → mSt → Prop} (hko369 : ∀ (r0 : Nat) (kr0 : KM r0 = (0, 10, 0)) (x2 : Int) (ox2 : okI x2) (x3 : Int) (ox3 : okI x3) (x4 : Int) (ox4 : okI x4) (x5 : Int) (ox5 : okI x5) (S : mSt) (H : Heap) (locs : List Loc) (ls : Array Slot), lv_has ls 7 [(0, .ref (b + r0)), (2, .int (mI x2)), (3, .int (mI x3)), (4, .int (mI x4)), (5, .int (mI x5))] → mW g b KM S H → va_S (mA b KM s.heap.size) s.heap H locs → ko369 r0 x2 x3 x4 x5 S → W p l e { frames := 121, cells := 0, slots := 0, locals := 3187 } s m args below meth c H locs 0 0 (vx_MQ below (mQi g b KM Q (mA b KM s.heap.size)) (mEx g b KM (fun _ _ => False) (mA b KM s.heap.size)) args s 0 0 (mA b KM s.heap.size)) (F0 m 369 ls [])) : ∀ (k : Nat) (r0 : Nat) (kr0 : KM r0 = (0, 10, 0)) (x2 : Int) (ox2 : okI x2) (x3 : Int) (ox3 : okI x3) (x4 : Int) (ox4 : okI x4) (x5 : Int) (ox5 : okI x5) (S : mSt) (H : Heap) (locs : List Loc) (ls : Array Slot) (hl : lv_has ls 7 [(0, .ref (b + r0)), (2, .int (mI x2)), (3, .int (mI x3)), (4, .int (mI x4)), (5, .int (mI x5))]) (hW : mW g b KM S H) (hS : va_S (mA b KM s.heap.size) s.heap H locs) (h : w_X12_least_304 N Q ko369 k r0 x2 x3 x4 x5 S), W p l e { frames := 121, cells := 0, slots := 0, locals := 3187 } s m args below meth c H locs 0 0 (vx_MQ below (mQi g b KM Q (mA b KM s.heap.size)) (mEx g b KM (fun _ _ => False) (mA b KM s.heap.size)) args s 0 0 (mA b KM s.heap.size)) (F0 m 304 ls []) := by
  intro k
  induction k with
  | zero => intro r0 kr0 x2 ox2 x3 ox3 x4 ox4 x5 ox5 S H locs ls hl hW hS h; exact False.elim h
  | succ k ih => intro r0 kr0 x2 ox2 x3 ox3 x4 ox4 x5 ox5 S H locs ls hl hW hS h; exact W_X12_least_304b C N ih hko369 r0 kr0 x2 ox2 x3 ox3 x4 ox4 x5 ox5 S H locs ls hl hW hS h
def w_X12_least_295b (N : Nat) (Q : mSt → Int → Prop) (ko295 : Nat → Int → Int → Int → Int → mSt → Prop) (ko386 : Int → mSt → Prop) (r0 : Nat) (x2 : Int) (x3 : Int) (x4 : Int) (x5 : Int) (S : mSt) : Prop :=
  ((x2 < x5 → ko386 x4 S) ∧ (x5 ≤ x2 → ∀ v1 : Int, v1 = 0 → w_X12_least_304 N Q (fun (r0_2 : Nat) (x2_2 : Int) (x3_2 : Int) (x4_2 : Int) (x5_2 : Int) (S_2 : mSt) => w_X12_white N r0_2 x5_2 x4_2 S_2 (fun (S3 : mSt) (v3 : Int) => ∀ v4 : Int, v4 = (nm (x3_2 + v3)) → ∀ v5 : Int, v5 = nm (x5_2 + 1) → ko295 r0_2 x2_2 v4 x4_2 v5 S3)) N r0 x2 x3 v1 x5 S))
theorem W_X12_least_295b (C : mC p l s m args meth c cX12_least "MoonWashModel" 7 (some FieldType.int) g) (N : Nat) {Q : mSt → Int → Prop} {ko295 : Nat → Int → Int → Int → Int → mSt → Prop} {ko386 : Int → mSt → Prop} (hko295 : ∀ (r0 : Nat) (kr0 : KM r0 = (0, 10, 0)) (x2 : Int) (ox2 : okI x2) (x3 : Int) (ox3 : okI x3) (x4 : Int) (ox4 : okI x4) (x5 : Int) (ox5 : okI x5) (S : mSt) (H : Heap) (locs : List Loc) (ls : Array Slot), lv_has ls 7 [(0, .ref (b + r0)), (2, .int (mI x2)), (3, .int (mI x3)), (4, .int (mI x4)), (5, .int (mI x5))] → mW g b KM S H → va_S (mA b KM s.heap.size) s.heap H locs → ko295 r0 x2 x3 x4 x5 S → W p l e { frames := 121, cells := 0, slots := 0, locals := 3187 } s m args below meth c H locs 0 0 (vx_MQ below (mQi g b KM Q (mA b KM s.heap.size)) (mEx g b KM (fun _ _ => False) (mA b KM s.heap.size)) args s 0 0 (mA b KM s.heap.size)) (F0 m 295 ls [])) (hko386 : ∀ (x4 : Int) (ox4 : okI x4) (S : mSt) (H : Heap) (locs : List Loc) (ls : Array Slot), lv_has ls 7 [(4, .int (mI x4))] → mW g b KM S H → va_S (mA b KM s.heap.size) s.heap H locs → ko386 x4 S → W p l e { frames := 121, cells := 0, slots := 0, locals := 3187 } s m args below meth c H locs 0 0 (vx_MQ below (mQi g b KM Q (mA b KM s.heap.size)) (mEx g b KM (fun _ _ => False) (mA b KM s.heap.size)) args s 0 0 (mA b KM s.heap.size)) (F0 m 386 ls [])) (r0 : Nat) (kr0 : KM r0 = (0, 10, 0)) (x2 : Int) (ox2 : okI x2) (x3 : Int) (ox3 : okI x3) (x4 : Int) (ox4 : okI x4) (x5 : Int) (ox5 : okI x5) (S : mSt) (H : Heap) (locs : List Loc) (ls : Array Slot) (hl : lv_has ls 7 [(0, .ref (b + r0)), (2, .int (mI x2)), (3, .int (mI x3)), (4, .int (mI x4)), (5, .int (mI x5))]) (hW : mW g b KM S H) (hS : va_S (mA b KM s.heap.size) s.heap H locs) (h : w_X12_least_295b N Q ko295 ko386 r0 x2 x3 x4 x5 S) : W p l e { frames := 121, cells := 0, slots := 0, locals := 3187 } s m args below meth c H locs 0 0 (vx_MQ below (mQi g b KM Q (mA b KM s.heap.size)) (mEx g b KM (fun _ _ => False) (mA b KM s.heap.size)) args s 0 0 (mA b KM s.heap.size)) (F0 m 295 ls []) := by
  unfold w_X12_least_295b at h
  refine m_iload (pc := 295) C.1 dX12_least_295 hl 4 rfl ?_
  refine m_iload_n (pc := 297) C.1 dX12_least_297 rfl hl 1 rfl ?_
  refine m_icmp_gt (pc := 298) (tgt := 386) C.1 ox5 ox2 dX12_least_298 (by decide) (fun hc => ?_) (fun hc => ?_)
  · replace h := h.1 hc
    exact hko386 x4 ox4 S _ _ _ (lv_sub hl [3] rfl) hW hS h
  · replace h := h.2 hc
    refine m_iconst (pc := 301) C.1 dX12_least_301 ?_
    refine m_istore (pc := 302) C.1 dX12_least_302 hl (by decide) (fun v => [(4, .int v), (0, .ref (b + r0)), (2, .int (mI x2)), (3, .int (mI x3)), (5, .int (mI x5))]) (fun _ => rfl) (by decide : okI 0) (fun v1 ls ev1 ov1 hl => ?_)
    replace h := h v1 ev1
    refine W_X12_least_304 C N ?_ N r0 kr0 x2 ox2 x3 ox3 v1 ov1 x5 ox5 S _ _ _ (lv_sub hl [1, 2, 3, 0, 4] rfl) hW hS h
    · intro r0_2 kr0_2 x2_2 ox2_2 x3_2 ox3_2 x4_2 ox4_2 x5_2 ox5_2 S_2 H locs ls hl hW_2 hS h
      refine m_iload_n (pc := 369) C.1 dX12_least_369 rfl hl 2 rfl ?_
      refine m_aload_n (pc := 370) C.1 dX12_least_370 rfl hl 0 rfl ?_
      refine m_iload (pc := 371) C.1 dX12_least_371 hl 4 rfl ?_
      refine m_iload (pc := 373) C.1 dX12_least_373 hl 3 rfl ?_
      refine m_callVi (pc := 375) C.1 C.2.2.1 hl.1 C.2.1 hW_2 hS (As := [.int (mI x5_2), .int (mI x4_2)]) (rest := [.int (mI x3_2)]) (r := r0_2) (T_X12_white C.2.2.2.2.2.2 N r0_2 kr0_2 x5_2 ox5_2 x4_2 ox4_2 h) kr0_2 rfl q_1781 q_1783 q_69 q_92 q_1784 pl_X12_white (by decide) (Nat.le_of_ble_eq_true rfl) dX12_least_375 (fun v3 S3 H locs ov3 h hW3 hS => ?_)
      refine m_iadd (pc := 378) C.1 dX12_least_378 ?_
      refine m_istore_n (pc := 379) C.1 dX12_least_379 rfl hl (by decide) (fun v => [(3, .int v), (0, .ref (b + r0_2)), (2, .int (mI x2_2)), (4, .int (mI x4_2)), (5, .int (mI x5_2))]) (fun _ => rfl) (nm_ok _) (fun v4 ls ev4 ov4 hl => ?_)
      replace h := h v4 ev4
      refine m_iinc (pc := 380) C.1 dX12_least_380 hl (by decide) (q0 := 4) rfl (fun v => [(5, .int v), (3, .int (mI v4)), (0, .ref (b + r0_2)), (2, .int (mI x2_2)), (4, .int (mI x4_2))]) (fun _ => rfl) (fun v5 ls ev5 ov5 hl => ?_)
      replace h := h v5 ev5
      refine m_goto (pc := 383) (tgt := 295) C.1 dX12_least_383 (by decide) ?_
      exact hko295 r0_2 kr0_2 x2_2 ox2_2 v4 ov4 x4_2 ox4_2 v5 ov5 S3 _ _ _ (lv_sub hl [2, 3, 1, 4, 0] rfl) hW3 hS h
def w_X12_least_295 (N : Nat) (Q : mSt → Int → Prop) (ko386 : Int → mSt → Prop) : Nat → Nat → Int → Int → Int → Int → mSt → Prop
  | 0 => fun _ _ _ _ _ _ => False
  | k + 1 => w_X12_least_295b N Q (w_X12_least_295 N Q ko386 k) ko386
theorem W_X12_least_295 (C : mC p l s m args meth c cX12_least "MoonWashModel" 7 (some FieldType.int) g) (N : Nat) {Q : mSt → Int → Prop} {ko386 : Int → mSt → Prop} (hko386 : ∀ (x4 : Int) (ox4 : okI x4) (S : mSt) (H : Heap) (locs : List Loc) (ls : Array Slot), lv_has ls 7 [(4, .int (mI x4))] → mW g b KM S H → va_S (mA b KM s.heap.size) s.heap H locs → ko386 x4 S → W p l e { frames := 121, cells := 0, slots := 0, locals := 3187 } s m args below meth c H locs 0 0 (vx_MQ below (mQi g b KM Q (mA b KM s.heap.size)) (mEx g b KM (fun _ _ => False) (mA b KM s.heap.size)) args s 0 0 (mA b KM s.heap.size)) (F0 m 386 ls [])) : ∀ (k : Nat) (r0 : Nat) (kr0 : KM r0 = (0, 10, 0)) (x2 : Int) (ox2 : okI x2) (x3 : Int) (ox3 : okI x3) (x4 : Int) (ox4 : okI x4) (x5 : Int) (ox5 : okI x5) (S : mSt) (H : Heap) (locs : List Loc) (ls : Array Slot) (hl : lv_has ls 7 [(0, .ref (b + r0)), (2, .int (mI x2)), (3, .int (mI x3)), (4, .int (mI x4)), (5, .int (mI x5))]) (hW : mW g b KM S H) (hS : va_S (mA b KM s.heap.size) s.heap H locs) (h : w_X12_least_295 N Q ko386 k r0 x2 x3 x4 x5 S), W p l e { frames := 121, cells := 0, slots := 0, locals := 3187 } s m args below meth c H locs 0 0 (vx_MQ below (mQi g b KM Q (mA b KM s.heap.size)) (mEx g b KM (fun _ _ => False) (mA b KM s.heap.size)) args s 0 0 (mA b KM s.heap.size)) (F0 m 295 ls []) := by
  intro k
  induction k with
  | zero => intro r0 kr0 x2 ox2 x3 ox3 x4 ox4 x5 ox5 S H locs ls hl hW hS h; exact False.elim h
  | succ k ih => intro r0 kr0 x2 ox2 x3 ox3 x4 ox4 x5 ox5 S H locs ls hl hW hS h; exact W_X12_least_295b C N ih hko386 r0 kr0 x2 ox2 x3 ox3 x4 ox4 x5 ox5 S H locs ls hl hW hS h
def w_X12_least_33 (N : Nat) (Q : mSt → Int → Prop)  (r0 : Nat) (x1 : Int) (x2 : Int) (xs0 : Int) (rs1 : Nat) (S : mSt) : Prop :=
  ∀ S1 : mSt, S1 = mup S rs1 0 xs0 → (((S1 r0 0) ≤ 0 → ∀ v2 : Int, v2 = 0 → w_X12_least_47 N Q (fun (r0_3 : Nat) (x1_3 : Int) (x2_3 : Int) (S_3 : mSt) => ∀ v4 : Int, v4 = 0 → w_X12_least_102 N Q (fun (r0_5 : Nat) (x2_5 : Int) (S_5 : mSt) => ∀ v6 : Int, v6 = 7 → w_X12_least_140 N Q (fun (r0_7 : Nat) (x2_7 : Int) (S_7 : mSt) => w_X12_from N r0_7 0 0 S_7 (fun (S8 : mSt) (v8 : Int) => ((v8 ≠ 2000000000 → ((x2_7 ≠ (-1) → ∀ v9 : Int, v9 = 0 → ∀ v10 : Int, v10 = 0 → ∀ v11 : Int, v11 = 0 → w_X12_least_295 N Q (fun (x4_12 : Int) (S_12 : mSt) => Q S_12 (nm (x4_12 - 1))) N r0_7 x2_7 v9 v10 v11 S8) ∧ (x2_7 = (-1) → w_X12_from N r0_7 0 0 S8 (fun (S13 : mSt) (v13 : Int) => Q S13 v13)))) ∧ (v8 = 2000000000 → Q S8 (-1))))) N r0_5 x2_5 v6 S_5) N r0_3 x1_3 x2_3 v4 S_3) N r0 x1 x2 v2 S1) ∧ (0 < (S1 r0 0) → Q S1 0))
theorem W_X12_least_33 (C : mC p l s m args meth c cX12_least "MoonWashModel" 7 (some FieldType.int) g) (N : Nat) {Q : mSt → Int → Prop}   (r0 : Nat) (kr0 : KM r0 = (0, 10, 0)) (x1 : Int) (ox1 : okI x1) (x2 : Int) (ox2 : okI x2) (xs0 : Int) (oxs0 : okI xs0) (rs1 : Nat) (krs1 : KM rs1 = (0, 10, 0)) (S : mSt) (H : Heap) (locs : List Loc) (ls : Array Slot) (hl : lv_has ls 7 [(0, .ref (b + r0)), (1, .int (mI x1)), (2, .int (mI x2))]) (hW : mW g b KM S H) (hS : va_S (mA b KM s.heap.size) s.heap H locs) (h : w_X12_least_33 N Q  r0 x1 x2 xs0 rs1 S) : W p l e { frames := 121, cells := 0, slots := 0, locals := 3187 } s m args below meth c H locs 0 0 (vx_MQ below (mQi g b KM Q (mA b KM s.heap.size)) (mEx g b KM (fun _ _ => False) (mA b KM s.heap.size)) args s 0 0 (mA b KM s.heap.size)) (F0 m 33 ls [.int (mI xs0), .ref (b + rs1)]) := by
  unfold w_X12_least_33 at h
  refine p_10_0 (pc := 33) C hW hS krs1 q_1383 oxs0 dX12_least_33 (fun S1 H locs e1 hW1 hS => ?_)
  replace h := h S1 e1
  refine m_aload_n (pc := 36) C.1 dX12_least_36 rfl hl 0 rfl ?_
  refine g_10_0 (pc := 37) C hW1 kr0 q_1383 dX12_least_37 ?_
  refine m_if_le (pc := 40) (tgt := 45) C.1 (hW1.2.1 _ _) dX12_least_40 (by decide) (fun hc => ?_) (fun hc => ?_)
  · replace h := h.1 hc
    refine m_iconst (pc := 45) C.1 dX12_least_45 ?_
    refine m_istore_n (pc := 46) C.1 dX12_least_46 rfl hl (by decide) (fun v => [(3, .int v), (0, .ref (b + r0)), (1, .int (mI x1)), (2, .int (mI x2))]) (fun _ => rfl) (by decide : okI 0) (fun v2 ls ev2 ov2 hl => ?_)
    replace h := h v2 ev2
    refine W_X12_least_47 C N ?_ N r0 kr0 x1 ox1 x2 ox2 v2 ov2 S1 _ _ _ (lv_sub hl [1, 2, 3, 0] rfl) hW1 hS h
    · intro r0_3 kr0_3 x1_3 ox1_3 x2_3 ox2_3 S_3 H locs ls hl hW_3 hS h
      refine m_iconst (pc := 100) C.1 dX12_least_100 ?_
      refine m_istore_n (pc := 101) C.1 dX12_least_101 rfl hl (by decide) (fun v => [(3, .int v), (0, .ref (b + r0_3)), (1, .int (mI x1_3)), (2, .int (mI x2_3))]) (fun _ => rfl) (by decide : okI 0) (fun v4 ls ev4 ov4 hl => ?_)
      replace h := h v4 ev4
      refine W_X12_least_102 C N ?_ N r0_3 kr0_3 x1_3 ox1_3 x2_3 ox2_3 v4 ov4 S_3 _ _ _ (lv_sub hl [1, 2, 3, 0] rfl) hW_3 hS h
      · intro r0_5 kr0_5 x2_5 ox2_5 S_5 H locs ls hl hW_5 hS h
        refine m_bipush (pc := 137) C.1 dX12_least_137 rfl ?_
        refine m_istore_n (pc := 139) C.1 dX12_least_139 rfl hl (by decide) (fun v => [(3, .int v), (0, .ref (b + r0_5)), (2, .int (mI x2_5))]) (fun _ => rfl) (by decide : okI 7) (fun v6 ls ev6 ov6 hl => ?_)
        replace h := h v6 ev6
        refine W_X12_least_140 C N ?_ N r0_5 kr0_5 x2_5 ox2_5 v6 ov6 S_5 _ _ _ (lv_sub hl [1, 2, 0] rfl) hW_5 hS h
        · intro r0_7 kr0_7 x2_7 ox2_7 S_7 H locs ls hl hW_7 hS h
          refine m_aload_n (pc := 261) C.1 dX12_least_261 rfl hl 0 rfl ?_
          refine m_iconst (pc := 262) C.1 dX12_least_262 ?_
          refine m_iconst (pc := 263) C.1 dX12_least_263 ?_
          refine m_callVi (pc := 264) C.1 C.2.2.1 hl.1 C.2.1 hW_7 hS (As := [.int (mI 0), .int (mI 0)]) (rest := []) (r := r0_7) (T_X12_from C.2.2.2.2.2.2 N r0_7 kr0_7 0 (by decide : okI 0) 0 (by decide : okI 0) h) kr0_7 rfl q_1785 q_1787 q_70 q_92 q_1788 pl_X12_from (by decide) (Nat.le_of_ble_eq_true rfl) dX12_least_264 (fun v8 S8 H locs ov8 h hW8 hS => ?_)
          refine m_ldcw (pc := 267) (n := 2000000000) C.1 q_1780 rfl dX12_least_267 ?_
          refine m_icmp_ne (pc := 270) (tgt := 275) C.1 ov8 (by decide : okI 2000000000) dX12_least_270 (by decide) (fun hc => ?_) (fun hc => ?_)
          · replace h := h.1 hc
            refine m_iload_n (pc := 275) C.1 dX12_least_275 rfl hl 1 rfl ?_
            refine m_iconst (pc := 276) C.1 dX12_least_276 ?_
            refine m_icmp_ne (pc := 277) (tgt := 287) C.1 ox2_7 (by decide : okI (-1)) dX12_least_277 (by decide) (fun hc => ?_) (fun hc => ?_)
            · replace h := h.1 hc
              refine m_iconst (pc := 287) C.1 dX12_least_287 ?_
              refine m_istore_n (pc := 288) C.1 dX12_least_288 rfl hl (by decide) (fun v => [(3, .int v), (0, .ref (b + r0_7)), (2, .int (mI x2_7))]) (fun _ => rfl) (by decide : okI 0) (fun v9 ls ev9 ov9 hl => ?_)
              replace h := h v9 ev9
              refine m_iconst (pc := 289) C.1 dX12_least_289 ?_
              refine m_istore (pc := 290) C.1 dX12_least_290 hl (by decide) (fun v => [(4, .int v), (3, .int (mI v9)), (0, .ref (b + r0_7)), (2, .int (mI x2_7))]) (fun _ => rfl) (by decide : okI 0) (fun v10 ls ev10 ov10 hl => ?_)
              replace h := h v10 ev10
              refine m_iconst (pc := 292) C.1 dX12_least_292 ?_
              refine m_istore (pc := 293) C.1 dX12_least_293 hl (by decide) (fun v => [(5, .int v), (4, .int (mI v10)), (3, .int (mI v9)), (0, .ref (b + r0_7)), (2, .int (mI x2_7))]) (fun _ => rfl) (by decide : okI 0) (fun v11 ls ev11 ov11 hl => ?_)
              replace h := h v11 ev11
              refine W_X12_least_295 C N ?_ N r0_7 kr0_7 x2_7 ox2_7 v9 ov9 v10 ov10 v11 ov11 S8 _ _ _ (lv_sub hl [3, 4, 2, 1, 0] rfl) hW8 hS h
              · intro x4_12 ox4_12 S_12 H locs ls hl hW_12 hS h
                refine m_iload (pc := 386) C.1 dX12_least_386 hl 0 rfl ?_
                refine m_iconst (pc := 388) C.1 dX12_least_388 ?_
                refine m_isub (pc := 389) C.1 dX12_least_389 ?_
                exact m_iret (pc := 390) C.1 C.2.2.2.1 C.2.2.2.2.1 hW_12 hS (nm_ok _) h (by decide) (by decide) dX12_least_390
            · replace h := h.2 hc
              refine m_aload_n (pc := 280) C.1 dX12_least_280 rfl hl 0 rfl ?_
              refine m_iconst (pc := 281) C.1 dX12_least_281 ?_
              refine m_iconst (pc := 282) C.1 dX12_least_282 ?_
              refine m_callVi (pc := 283) C.1 C.2.2.1 hl.1 C.2.1 hW8 hS (As := [.int (mI 0), .int (mI 0)]) (rest := []) (r := r0_7) (T_X12_from C.2.2.2.2.2.2 N r0_7 kr0_7 0 (by decide : okI 0) 0 (by decide : okI 0) h) kr0_7 rfl q_1785 q_1787 q_70 q_92 q_1788 pl_X12_from (by decide) (Nat.le_of_ble_eq_true rfl) dX12_least_283 (fun v13 S13 H locs ov13 h hW13 hS => ?_)
              exact m_iret (pc := 286) C.1 C.2.2.2.1 C.2.2.2.2.1 hW13 hS ov13 h (by decide) (by decide) dX12_least_286
          · replace h := h.2 hc
            refine m_iconst (pc := 273) C.1 dX12_least_273 ?_
            exact m_iret (pc := 274) C.1 C.2.2.2.1 C.2.2.2.2.1 hW8 hS (by decide : okI (-1)) h (by decide) (by decide) dX12_least_274
  · replace h := h.2 hc
    refine m_iconst (pc := 43) C.1 dX12_least_43 ?_
    exact m_iret (pc := 44) C.1 C.2.2.2.1 C.2.2.2.2.1 hW1 hS (by decide : okI 0) h (by decide) (by decide) dX12_least_44
def w_X12_least_17 (N : Nat) (Q : mSt → Int → Prop)  (r0 : Nat) (x1 : Int) (x2 : Int) (rs0 : Nat) (S : mSt) : Prop :=
  w_X12_isIn N x1 0 160 S (fun (S1 : mSt) (v1 : Int) => ((v1 ≠ 0 → w_X12_least_33 N Q  r0 x1 x2 0 rs0 S1) ∧ (v1 = 0 → w_X12_least_33 N Q  r0 x1 x2 2 rs0 S1)))
theorem W_X12_least_17 (C : mC p l s m args meth c cX12_least "MoonWashModel" 7 (some FieldType.int) g) (N : Nat) {Q : mSt → Int → Prop}   (r0 : Nat) (kr0 : KM r0 = (0, 10, 0)) (x1 : Int) (ox1 : okI x1) (x2 : Int) (ox2 : okI x2) (rs0 : Nat) (krs0 : KM rs0 = (0, 10, 0)) (S : mSt) (H : Heap) (locs : List Loc) (ls : Array Slot) (hl : lv_has ls 7 [(0, .ref (b + r0)), (1, .int (mI x1)), (2, .int (mI x2))]) (hW : mW g b KM S H) (hS : va_S (mA b KM s.heap.size) s.heap H locs) (h : w_X12_least_17 N Q  r0 x1 x2 rs0 S) : W p l e { frames := 121, cells := 0, slots := 0, locals := 3187 } s m args below meth c H locs 0 0 (vx_MQ below (mQi g b KM Q (mA b KM s.heap.size)) (mEx g b KM (fun _ _ => False) (mA b KM s.heap.size)) args s 0 0 (mA b KM s.heap.size)) (F0 m 17 ls [.ref (b + rs0)]) := by
  unfold w_X12_least_17 at h
  refine m_iload_n (pc := 17) C.1 dX12_least_17 rfl hl 1 rfl ?_
  refine m_iconst (pc := 18) C.1 dX12_least_18 ?_
  refine m_sipush (pc := 19) C.1 dX12_least_19 rfl ?_
  refine m_callSi (pc := 22) C.1 C.2.2.1 hl.1 C.2.1 hW hS (As := [.int (mI x1), .int (mI 0), .int (mI 160)]) (rest := [.ref (b + rs0)]) (T_X12_isIn C.2.2.2.2.2.2 N x1 ox1 0 (by decide : okI 0) 160 (by decide : okI 160) h) q_1475 q_1476 q_92 q_1477 pl_X12_isIn (by decide) (Nat.le_of_ble_eq_true rfl) dX12_least_22 (fun v1 S1 H locs ov1 h hW1 hS => ?_)
  refine m_if_ne (pc := 25) (tgt := 32) C.1 ov1 dX12_least_25 (by decide) (fun hc => ?_) (fun hc => ?_)
  · replace h := h.1 hc
    refine m_iconst (pc := 32) C.1 dX12_least_32 ?_
    exact W_X12_least_33 C N  r0 kr0 x1 ox1 x2 ox2 0 (by decide : okI 0) rs0 krs0 S1 _ _ _ (lv_sub hl [0, 1, 2] rfl) hW1 hS h
  · replace h := h.2 hc
    refine m_iconst (pc := 28) C.1 dX12_least_28 ?_
    refine m_goto (pc := 29) (tgt := 33) C.1 dX12_least_29 (by decide) ?_
    exact W_X12_least_33 C N  r0 kr0 x1 ox1 x2 ox2 2 (by decide : okI 2) rs0 krs0 S1 _ _ _ (lv_sub hl [0, 1, 2] rfl) hW1 hS h
end
def w_X12_least (N : Nat) (r0 : Nat) (x1 : Int) (x2 : Int) (S : mSt) (Q : mSt → Int → Prop) : Prop :=
  ((x2 = (-1) → w_X12_least_17 N Q  r0 x1 x2 r0 S) ∧ (x2 ≠ (-1) → w_X12_isPart N x2 S (fun (S1 : mSt) (v1 : Int) => ((v1 ≠ 0 → w_X12_least_17 N Q  r0 x1 x2 r0 S1) ∧ (v1 = 0 → w_X12_least_33 N Q  r0 x1 x2 1 r0 S1)))))
theorem T_X12_least {l : Launch} (hl0 : l.stackTraces = false) {g : mG} {b : Nat} (N : Nat) (r0 : Nat) (kr0 : KM r0 = (0, 10, 0)) (x1 : Int) (ox1 : okI x1) (x2 : Int) (ox2 : okI x2) {S : mSt} {Q : mSt → Int → Prop} (h : w_X12_least N r0 x1 x2 S Q) (sz : Nat) : vx_Met l yX12_least (Cond.code yX12_least cX12_least 7 (some FieldType.int) :: wsG) { frames := 121, cells := 0, slots := 0, locals := 3187 } (mPc g b KM S [.ref (b + r0), .int (mI x1), .int (mI x2)] sz) (mQi g b KM Q (mA b KM sz)) (mEx g b KM (fun _ _ => False) (mA b KM sz)) 0 0 (mA b KM sz) :=
  m_of (av := [.ref (b + r0), .int (mI x1), .int (mI x2)]) (Qf := fun A => mQi g b KM Q A) (Xf := fun A => mEx g b KM (fun _ _ => False) A) (by decide) (Nat.le_of_ble_eq_true rfl) (fun p e s m args below meth c ls X hK hml hr hlk hout hnm hW hl => by
    have C : mC p l s m args meth c cX12_least "MoonWashModel" 7 (some FieldType.int) g := ⟨X, hK, hml, hr, hlk, hout, hl0⟩
    have hS : va_S (mA b KM s.heap.size) s.heap s.heap [] := va_S.rf
    have hl : lv_has ls 7 [(0, .ref (b + r0)), (1, .int (mI x1)), (2, .int (mI x2))] := hl
    unfold w_X12_least at h
    refine m_aload_n (pc := 0) C.1 dX12_least_0 rfl hl 0 rfl ?_
    refine m_iload_n (pc := 1) C.1 dX12_least_1 rfl hl 2 rfl ?_
    refine m_iconst (pc := 2) C.1 dX12_least_2 ?_
    refine m_icmp_eq (pc := 3) (tgt := 17) C.1 ox2 (by decide : okI (-1)) dX12_least_3 (by decide) (fun hc => ?_) (fun hc => ?_)
    · replace h := h.1 hc
      exact W_X12_least_17 C N  r0 kr0 x1 ox1 x2 ox2 r0 kr0 S _ _ _ (lv_sub hl [0, 1, 2] rfl) hW hS h
    · replace h := h.2 hc
      refine m_iload_n (pc := 6) C.1 dX12_least_6 rfl hl 2 rfl ?_
      refine m_callSi (pc := 7) C.1 C.2.2.1 hl.1 C.2.1 hW hS (As := [.int (mI x2)]) (rest := [.ref (b + r0)]) (T_X12_isPart C.2.2.2.2.2.2 N x2 ox2 h) q_1627 q_1628 q_92 q_1629 pl_X12_isPart (by decide) (Nat.le_of_ble_eq_true rfl) dX12_least_7 (fun v1 S1 H locs ov1 h hW1 hS => ?_)
      refine m_if_ne (pc := 10) (tgt := 17) C.1 ov1 dX12_least_10 (by decide) (fun hc => ?_) (fun hc => ?_)
      · replace h := h.1 hc
        exact W_X12_least_17 C N  r0 kr0 x1 ox1 x2 ox2 r0 kr0 S1 _ _ _ (lv_sub hl [0, 1, 2] rfl) hW1 hS h
      · replace h := h.2 hc
        refine m_iconst (pc := 13) C.1 dX12_least_13 ?_
        refine m_goto (pc := 14) (tgt := 33) C.1 dX12_least_14 (by decide) ?_
        exact W_X12_least_33 C N  r0 kr0 x1 ox1 x2 ox2 1 (by decide : okI 1) r0 kr0 S1 _ _ _ (lv_sub hl [0, 1, 2] rfl) hW1 hS h) sz
