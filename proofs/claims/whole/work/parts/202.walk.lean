set_option maxHeartbeats 4000000
set_option maxRecDepth 20000
section
variable {p : Program} {l : Launch} {e : Env} {s : State} {m : MethodId} {args : Array Value} {below : List Frame} {meth : Method} {c : Code} {g : mG} {b : Nat}
def w_X4_readLine_78 (N : Nat) (Q : mSt → Prop)  (r1 : Nat) (x2 : Int) (x3 : Int) (S : mSt) : Prop :=
  w_X3_addLine N r1 x2 x3 S (fun (S1 : mSt) => Q S1)
theorem W_X4_readLine_78 (C : mC p l s m args meth c cX4_readLine "MoonWash$LawText" 4 none g) (N : Nat) {Q : mSt → Prop}   (r1 : Nat) (kr1 : KX r1 = (0, 2, 0)) (x2 : Int) (ox2 : okI x2) (x3 : Int) (ox3 : okI x3) (S : mSt) (H : Heap) (locs : List Loc) (ls : Array Slot) (hl : lv_has ls 4 [(1, .ref (b + r1)), (2, .int (mI x2)), (3, .int (mI x3))]) (hW : mW g b KX S H) (hS : va_S (mA b KX s.heap.size) s.heap H locs) (h : w_X4_readLine_78 N Q  r1 x2 x3 S) : W p l e { frames := 38, cells := 0, slots := 0, locals := 806 } s m args below meth c H locs 0 0 (vx_MQ below (mQv g b KX Q (mA b KX s.heap.size)) (mEx g b KX (fun _ _ => False) (mA b KX s.heap.size)) args s 0 0 (mA b KX s.heap.size)) (F0 m 78 ls []) := by
  unfold w_X4_readLine_78 at h
  refine m_aload_n (pc := 78) C.1 dX4_readLine_78 rfl hl 0 rfl ?_
  refine m_iload_n (pc := 79) C.1 dX4_readLine_79 rfl hl 1 rfl ?_
  refine m_iload_n (pc := 80) C.1 dX4_readLine_80 rfl hl 2 rfl ?_
  refine m_callVv (pc := 81) C.1 C.2.2.1 hl.1 C.2.1 hW hS (As := [.int (mI x2), .int (mI x3)]) (rest := []) (r := r1) (T_X3_addLine C.2.2.2.2.2.2 N r1 kr1 x2 ox2 x3 ox3 h) kr1 rfl q_921 q_922 q_923 q_84 q_924 pl_X3_addLine (by decide) (Nat.le_of_ble_eq_true rfl) dX4_readLine_81 (fun S1 H locs h hW1 hS => ?_)
  exact m_vret (pc := 84) C.1 C.2.2.2.1 C.2.2.2.2.1 hW1 hS h (by decide) (by decide) dX4_readLine_84
def w_X4_readLine_54 (N : Nat) (Q : mSt → Prop)  (r0 : Nat) (r1 : Nat) (x2 : Int) (S : mSt) : Prop :=
  w_X10_needNumber N r0 0 20 S (fun (S1 : mSt) (v1 : Int) => ∀ v2 : Int, v2 = v1 → w_X10_takes N r0 30 S1 (fun (S3 : mSt) (v3 : Int) => ((v3 = 0 → w_X4_readLine_78 N Q  r1 x2 v2 S3) ∧ (v3 ≠ 0 → w_X4_readCondition N (w_X4_readAtom N 12) r0 r1 0 S3 (fun (S4 : mSt) => w_X4_readLine_78 N Q  r1 x2 v2 S4)))))
theorem W_X4_readLine_54 (C : mC p l s m args meth c cX4_readLine "MoonWash$LawText" 4 none g) (N : Nat) {Q : mSt → Prop}   (r0 : Nat) (kr0 : KX r0 = (0, 8, 0)) (r1 : Nat) (kr1 : KX r1 = (0, 2, 0)) (x2 : Int) (ox2 : okI x2) (S : mSt) (H : Heap) (locs : List Loc) (ls : Array Slot) (hl : lv_has ls 4 [(0, .ref (b + r0)), (1, .ref (b + r1)), (2, .int (mI x2))]) (hW : mW g b KX S H) (hS : va_S (mA b KX s.heap.size) s.heap H locs) (h : w_X4_readLine_54 N Q  r0 r1 x2 S) : W p l e { frames := 38, cells := 0, slots := 0, locals := 806 } s m args below meth c H locs 0 0 (vx_MQ below (mQv g b KX Q (mA b KX s.heap.size)) (mEx g b KX (fun _ _ => False) (mA b KX s.heap.size)) args s 0 0 (mA b KX s.heap.size)) (F0 m 54 ls []) := by
  unfold w_X4_readLine_54 at h
  refine m_aload_n (pc := 54) C.1 dX4_readLine_54 rfl hl 0 rfl ?_
  refine m_iconst (pc := 55) C.1 dX4_readLine_55 ?_
  refine m_bipush (pc := 56) C.1 dX4_readLine_56 rfl ?_
  refine m_callVi (pc := 58) C.1 C.2.2.1 hl.1 C.2.1 hW hS (As := [.int (mI 0), .int (mI 20)]) (rest := []) (r := r0) (T_X10_needNumber C.2.2.2.2.2.2 N r0 kr0 0 (by decide : okI 0) 20 (by decide : okI 20) h) kr0 rfl q_880 q_713 q_714 q_85 q_715 pl_X10_needNumber (by decide) (Nat.le_of_ble_eq_true rfl) dX4_readLine_58 (fun v1 S1 H locs ov1 h hW1 hS => ?_)
  refine m_istore_n (pc := 61) C.1 dX4_readLine_61 rfl hl (by decide) (fun v => [(3, .int v), (0, .ref (b + r0)), (1, .ref (b + r1)), (2, .int (mI x2))]) (fun _ => rfl) ov1 (fun v2 ls ev2 ov2 hl => ?_)
  replace h := h v2 ev2
  refine m_aload_n (pc := 62) C.1 dX4_readLine_62 rfl hl 1 rfl ?_
  refine m_token (pc := 63) C.1 C.2.1 hW1 hS 30 (by decide) rfl q_881 dX4_readLine_63 ?_
  refine m_callVi (pc := 66) C.1 C.2.2.1 hl.1 C.2.1 hW1 hS (As := [.ref (g.ad 30)]) (rest := []) (r := r0) (T_X10_takes C.2.2.2.2.2.2 N r0 kr0 30 (by decide : 30 < 36) h) kr0 rfl q_872 q_708 q_709 q_85 q_710 pl_X10_takes (by decide) (Nat.le_of_ble_eq_true rfl) dX4_readLine_66 (fun v3 S3 H locs ov3 h hW3 hS => ?_)
  refine m_if_eq (pc := 69) (tgt := 78) C.1 ov3 dX4_readLine_69 (by decide) (fun hc => ?_) (fun hc => ?_)
  · replace h := h.1 hc
    exact W_X4_readLine_78 C N  r1 kr1 x2 ox2 v2 ov2 S3 _ _ _ (lv_sub hl [2, 3, 0] rfl) hW3 hS h
  · replace h := h.2 hc
    refine m_aload_n (pc := 72) C.1 dX4_readLine_72 rfl hl 1 rfl ?_
    refine m_aload_n (pc := 73) C.1 dX4_readLine_73 rfl hl 2 rfl ?_
    refine m_iconst (pc := 74) C.1 dX4_readLine_74 ?_
    refine m_callSv (pc := 75) C.1 C.2.2.1 hl.1 C.2.1 hW3 hS (As := [.ref (b + r0), .ref (b + r1), .int (mI 0)]) (rest := []) (T_X4_readCondition C.2.2.2.2.2.2 N (fun r0 kr0 r1 kr1 x2 ox2 => fun hh => T_X4_readAtom C.2.2.2.2.2.2 N 12 r0 kr0 r1 kr1 x2 ox2 hh) r0 kr0 r1 kr1 0 (by decide : okI 0) h) q_883 q_884 q_105 q_885 pl_X4_readCondition (by decide) (Nat.le_of_ble_eq_true rfl) dX4_readLine_75 (fun S4 H locs h hW4 hS => ?_)
    exact W_X4_readLine_78 C N  r1 kr1 x2 ox2 v2 ov2 S4 _ _ _ (lv_sub hl [2, 3, 0] rfl) hW4 hS h
end
def w_X4_readLine (N : Nat) (r0 : Nat) (r1 : Nat) (S : mSt) (Q : mSt → Prop) : Prop :=
  ∀ v1 : Int, v1 = 0 → w_X10_takes N r0 27 S (fun (S2 : mSt) (v2 : Int) => ((v2 = 0 → w_X10_takes N r0 28 S2 (fun (S3 : mSt) (v3 : Int) => ((v3 = 0 → w_X10_takes N r0 29 S3 (fun (S4 : mSt) (v4 : Int) => ((v4 = 0 → w_X10_need N r0 26 S4 (fun (S5 : mSt) => w_X4_readLine_54 N Q  r0 r1 v1 S5)) ∧ (v4 ≠ 0 → ∀ v6 : Int, v6 = 3 → w_X4_readLine_54 N Q  r0 r1 v6 S4)))) ∧ (v3 ≠ 0 → ∀ v7 : Int, v7 = 2 → w_X4_readLine_54 N Q  r0 r1 v7 S3)))) ∧ (v2 ≠ 0 → ∀ v8 : Int, v8 = 1 → w_X4_readLine_54 N Q  r0 r1 v8 S2)))
theorem T_X4_readLine {l : Launch} (hl0 : l.stackTraces = false) {g : mG} {b : Nat} (N : Nat) (r0 : Nat) (kr0 : KX r0 = (0, 8, 0)) (r1 : Nat) (kr1 : KX r1 = (0, 2, 0)) {S : mSt} {Q : mSt → Prop} (h : w_X4_readLine N r0 r1 S Q) (sz : Nat) : vx_Met l yX4_readLine (Cond.code yX4_readLine cX4_readLine 4 none :: wsG) { frames := 38, cells := 0, slots := 0, locals := 806 } (mPc g b KX S [.ref (b + r0), .ref (b + r1)] sz) (mQv g b KX Q (mA b KX sz)) (mEx g b KX (fun _ _ => False) (mA b KX sz)) 0 0 (mA b KX sz) :=
  m_of (av := [.ref (b + r0), .ref (b + r1)]) (Qf := fun A => mQv g b KX Q A) (Xf := fun A => mEx g b KX (fun _ _ => False) A) (by decide) (Nat.le_of_ble_eq_true rfl) (fun p e s m args below meth c ls X hK hml hr hlk hout hnm hW hl => by
    have C : mC p l s m args meth c cX4_readLine "MoonWash$LawText" 4 none g := ⟨X, hK, hml, hr, hlk, hout, hl0⟩
    have hS : va_S (mA b KX s.heap.size) s.heap s.heap [] := va_S.rf
    have hl : lv_has ls 4 [(0, .ref (b + r0)), (1, .ref (b + r1))] := hl
    unfold w_X4_readLine at h
    refine m_iconst (pc := 0) C.1 dX4_readLine_0 ?_
    refine m_istore_n (pc := 1) C.1 dX4_readLine_1 rfl hl (by decide) (fun v => [(2, .int v), (0, .ref (b + r0)), (1, .ref (b + r1))]) (fun _ => rfl) (by decide : okI 0) (fun v1 ls ev1 ov1 hl => ?_)
    replace h := h v1 ev1
    refine m_aload_n (pc := 2) C.1 dX4_readLine_2 rfl hl 1 rfl ?_
    refine m_token (pc := 3) C.1 C.2.1 hW hS 27 (by decide) rfl q_870 dX4_readLine_3 ?_
    refine m_callVi (pc := 6) C.1 C.2.2.1 hl.1 C.2.1 hW hS (As := [.ref (g.ad 27)]) (rest := []) (r := r0) (T_X10_takes C.2.2.2.2.2.2 N r0 kr0 27 (by decide : 27 < 36) h) kr0 rfl q_872 q_708 q_709 q_85 q_710 pl_X10_takes (by decide) (Nat.le_of_ble_eq_true rfl) dX4_readLine_6 (fun v2 S2 H locs ov2 h hW2 hS => ?_)
    refine m_if_eq (pc := 9) (tgt := 17) C.1 ov2 dX4_readLine_9 (by decide) (fun hc => ?_) (fun hc => ?_)
    · replace h := h.1 hc
      refine m_aload_n (pc := 17) C.1 dX4_readLine_17 rfl hl 1 rfl ?_
      refine m_token (pc := 18) C.1 C.2.1 hW2 hS 28 (by decide) rfl q_873 dX4_readLine_18 ?_
      refine m_callVi (pc := 21) C.1 C.2.2.1 hl.1 C.2.1 hW2 hS (As := [.ref (g.ad 28)]) (rest := []) (r := r0) (T_X10_takes C.2.2.2.2.2.2 N r0 kr0 28 (by decide : 28 < 36) h) kr0 rfl q_872 q_708 q_709 q_85 q_710 pl_X10_takes (by decide) (Nat.le_of_ble_eq_true rfl) dX4_readLine_21 (fun v3 S3 H locs ov3 h hW3 hS => ?_)
      refine m_if_eq (pc := 24) (tgt := 32) C.1 ov3 dX4_readLine_24 (by decide) (fun hc => ?_) (fun hc => ?_)
      · replace h := h.1 hc
        refine m_aload_n (pc := 32) C.1 dX4_readLine_32 rfl hl 1 rfl ?_
        refine m_token (pc := 33) C.1 C.2.1 hW3 hS 29 (by decide) rfl q_875 dX4_readLine_33 ?_
        refine m_callVi (pc := 36) C.1 C.2.2.1 hl.1 C.2.1 hW3 hS (As := [.ref (g.ad 29)]) (rest := []) (r := r0) (T_X10_takes C.2.2.2.2.2.2 N r0 kr0 29 (by decide : 29 < 36) h) kr0 rfl q_872 q_708 q_709 q_85 q_710 pl_X10_takes (by decide) (Nat.le_of_ble_eq_true rfl) dX4_readLine_36 (fun v4 S4 H locs ov4 h hW4 hS => ?_)
        refine m_if_eq (pc := 39) (tgt := 47) C.1 ov4 dX4_readLine_39 (by decide) (fun hc => ?_) (fun hc => ?_)
        · replace h := h.1 hc
          refine m_aload_n (pc := 47) C.1 dX4_readLine_47 rfl hl 1 rfl ?_
          refine m_token (pc := 48) C.1 C.2.1 hW4 hS 26 (by decide) rfl q_877 dX4_readLine_48 ?_
          refine m_callVv (pc := 51) C.1 C.2.2.1 hl.1 C.2.1 hW4 hS (As := [.ref (g.ad 26)]) (rest := []) (r := r0) (T_X10_need C.2.2.2.2.2.2 N r0 kr0 26 (by decide : 26 < 36) h) kr0 rfl q_879 q_704 q_705 q_85 q_706 pl_X10_need (by decide) (Nat.le_of_ble_eq_true rfl) dX4_readLine_51 (fun S5 H locs h hW5 hS => ?_)
          exact W_X4_readLine_54 C N  r0 kr0 r1 kr1 v1 ov1 S5 _ _ _ (lv_sub hl [1, 2, 0] rfl) hW5 hS h
        · replace h := h.2 hc
          refine m_iconst (pc := 42) C.1 dX4_readLine_42 ?_
          refine m_istore_n (pc := 43) C.1 dX4_readLine_43 rfl hl (by decide) (fun v => [(2, .int v), (0, .ref (b + r0)), (1, .ref (b + r1))]) (fun _ => rfl) (by decide : okI 3) (fun v6 ls ev6 ov6 hl => ?_)
          replace h := h v6 ev6
          refine m_goto (pc := 44) (tgt := 54) C.1 dX4_readLine_44 (by decide) ?_
          exact W_X4_readLine_54 C N  r0 kr0 r1 kr1 v6 ov6 S4 _ _ _ (lv_sub hl [1, 2, 0] rfl) hW4 hS h
      · replace h := h.2 hc
        refine m_iconst (pc := 27) C.1 dX4_readLine_27 ?_
        refine m_istore_n (pc := 28) C.1 dX4_readLine_28 rfl hl (by decide) (fun v => [(2, .int v), (0, .ref (b + r0)), (1, .ref (b + r1))]) (fun _ => rfl) (by decide : okI 2) (fun v7 ls ev7 ov7 hl => ?_)
        replace h := h v7 ev7
        refine m_goto (pc := 29) (tgt := 54) C.1 dX4_readLine_29 (by decide) ?_
        exact W_X4_readLine_54 C N  r0 kr0 r1 kr1 v7 ov7 S3 _ _ _ (lv_sub hl [1, 2, 0] rfl) hW3 hS h
    · replace h := h.2 hc
      refine m_iconst (pc := 12) C.1 dX4_readLine_12 ?_
      refine m_istore_n (pc := 13) C.1 dX4_readLine_13 rfl hl (by decide) (fun v => [(2, .int v), (0, .ref (b + r0)), (1, .ref (b + r1))]) (fun _ => rfl) (by decide : okI 1) (fun v8 ls ev8 ov8 hl => ?_)
      replace h := h v8 ev8
      refine m_goto (pc := 14) (tgt := 54) C.1 dX4_readLine_14 (by decide) ?_
      exact W_X4_readLine_54 C N  r0 kr0 r1 kr1 v8 ov8 S2 _ _ _ (lv_sub hl [1, 2, 0] rfl) hW2 hS h) sz
section
variable {p : Program} {l : Launch} {e : Env} {s : State} {m : MethodId} {args : Array Value} {below : List Frame} {meth : Method} {c : Code} {g : mG} {b : Nat}
def w_X4_read_17b (N : Nat) (Q : mSt → Prop) (ko17 : Nat → Nat → Int → mSt → Prop) (ko49 : Nat → mSt → Prop) (r0 : Nat) (r1 : Nat) (x2 : Int) (S : mSt) : Prop :=
  ((12 ≤ x2 → ko49 r0 S) ∧ (x2 < 12 → w_X4_readLine N r0 r1 S (fun (S1 : mSt) => w_X10_takes N r0 3 S1 (fun (S2 : mSt) (v2 : Int) => ((v2 ≠ 0 → ∀ v3 : Int, v3 = nm (x2 + 1) → ko17 r0 r1 v3 S2) ∧ (v2 = 0 → w_X10_needEnd N r0 S2 (fun (S4 : mSt) => Q S4)))))))
theorem W_X4_read_17b (C : mC p l s m args meth c cX4_read "MoonWash$LawText" 3 none g) (N : Nat) {Q : mSt → Prop} {ko17 : Nat → Nat → Int → mSt → Prop} {ko49 : Nat → mSt → Prop} (hko17 : ∀ (r0 : Nat) (kr0 : KX r0 = (0, 8, 0)) (r1 : Nat) (kr1 : KX r1 = (0, 2, 0)) (x2 : Int) (ox2 : okI x2) (S : mSt) (H : Heap) (locs : List Loc) (ls : Array Slot), lv_has ls 3 [(0, .ref (b + r0)), (1, .ref (b + r1)), (2, .int (mI x2))] → mW g b KX S H → va_S (mA b KX s.heap.size) s.heap H locs → ko17 r0 r1 x2 S → W p l e { frames := 39, cells := 0, slots := 0, locals := 829 } s m args below meth c H locs 0 0 (vx_MQ below (mQv g b KX Q (mA b KX s.heap.size)) (mEx g b KX (fun _ _ => False) (mA b KX s.heap.size)) args s 0 0 (mA b KX s.heap.size)) (F0 m 17 ls [])) (hko49 : ∀ (r0 : Nat) (kr0 : KX r0 = (0, 8, 0)) (S : mSt) (H : Heap) (locs : List Loc) (ls : Array Slot), lv_has ls 3 [(0, .ref (b + r0))] → mW g b KX S H → va_S (mA b KX s.heap.size) s.heap H locs → ko49 r0 S → W p l e { frames := 39, cells := 0, slots := 0, locals := 829 } s m args below meth c H locs 0 0 (vx_MQ below (mQv g b KX Q (mA b KX s.heap.size)) (mEx g b KX (fun _ _ => False) (mA b KX s.heap.size)) args s 0 0 (mA b KX s.heap.size)) (F0 m 49 ls [])) (r0 : Nat) (kr0 : KX r0 = (0, 8, 0)) (r1 : Nat) (kr1 : KX r1 = (0, 2, 0)) (x2 : Int) (ox2 : okI x2) (S : mSt) (H : Heap) (locs : List Loc) (ls : Array Slot) (hl : lv_has ls 3 [(0, .ref (b + r0)), (1, .ref (b + r1)), (2, .int (mI x2))]) (hW : mW g b KX S H) (hS : va_S (mA b KX s.heap.size) s.heap H locs) (h : w_X4_read_17b N Q ko17 ko49 r0 r1 x2 S) : W p l e { frames := 39, cells := 0, slots := 0, locals := 829 } s m args below meth c H locs 0 0 (vx_MQ below (mQv g b KX Q (mA b KX s.heap.size)) (mEx g b KX (fun _ _ => False) (mA b KX s.heap.size)) args s 0 0 (mA b KX s.heap.size)) (F0 m 17 ls []) := by
  unfold w_X4_read_17b at h
  refine m_iload_n (pc := 17) C.1 dX4_read_17 rfl hl 2 rfl ?_
  refine m_bipush (pc := 18) C.1 dX4_read_18 rfl ?_
  refine m_icmp_ge (pc := 20) (tgt := 49) C.1 ox2 (by decide : okI 12) dX4_read_20 (by decide) (fun hc => ?_) (fun hc => ?_)
  · replace h := h.1 hc
    exact hko49 r0 kr0 S _ _ _ (lv_sub hl [0] rfl) hW hS h
  · replace h := h.2 hc
    refine m_aload_n (pc := 23) C.1 dX4_read_23 rfl hl 0 rfl ?_
    refine m_aload_n (pc := 24) C.1 dX4_read_24 rfl hl 1 rfl ?_
    refine m_callSv (pc := 25) C.1 C.2.2.1 hl.1 C.2.1 hW hS (As := [.ref (b + r0), .ref (b + r1)]) (rest := []) (T_X4_readLine C.2.2.2.2.2.2 N r0 kr0 r1 kr1 h) q_867 q_868 q_105 q_869 pl_X4_readLine (by decide) (Nat.le_of_ble_eq_true rfl) dX4_read_25 (fun S1 H locs h hW1 hS => ?_)
    refine m_aload_n (pc := 28) C.1 dX4_read_28 rfl hl 0 rfl ?_
    refine m_token (pc := 29) C.1 C.2.1 hW1 hS 3 (by decide) rfl q_925 dX4_read_29 ?_
    refine m_callVi (pc := 32) C.1 C.2.2.1 hl.1 C.2.1 hW1 hS (As := [.ref (g.ad 3)]) (rest := []) (r := r0) (T_X10_takes C.2.2.2.2.2.2 N r0 kr0 3 (by decide : 3 < 36) h) kr0 rfl q_872 q_708 q_709 q_85 q_710 pl_X10_takes (by decide) (Nat.le_of_ble_eq_true rfl) dX4_read_32 (fun v2 S2 H locs ov2 h hW2 hS => ?_)
    refine m_if_ne (pc := 35) (tgt := 43) C.1 ov2 dX4_read_35 (by decide) (fun hc => ?_) (fun hc => ?_)
    · replace h := h.1 hc
      refine m_iinc (pc := 43) C.1 dX4_read_43 hl (by decide) (q0 := 2) rfl (fun v => [(2, .int v), (0, .ref (b + r0)), (1, .ref (b + r1))]) (fun _ => rfl) (fun v3 ls ev3 ov3 hl => ?_)
      replace h := h v3 ev3
      refine m_goto (pc := 46) (tgt := 17) C.1 dX4_read_46 (by decide) ?_
      exact hko17 r0 kr0 r1 kr1 v3 ov3 S2 _ _ _ (lv_sub hl [1, 2, 0] rfl) hW2 hS h
    · replace h := h.2 hc
      refine m_aload_n (pc := 38) C.1 dX4_read_38 rfl hl 0 rfl ?_
      refine m_callVv (pc := 39) C.1 C.2.2.1 hl.1 C.2.1 hW2 hS (As := []) (rest := []) (r := r0) (T_X10_needEnd C.2.2.2.2.2.2 N r0 kr0 h) kr0 rfl q_926 q_764 q_765 q_85 q_766 pl_X10_needEnd (by decide) (Nat.le_of_ble_eq_true rfl) dX4_read_39 (fun S4 H locs h hW4 hS => ?_)
      exact m_vret (pc := 42) C.1 C.2.2.2.1 C.2.2.2.2.1 hW4 hS h (by decide) (by decide) dX4_read_42
def w_X4_read_17 (N : Nat) (Q : mSt → Prop) (ko49 : Nat → mSt → Prop) : Nat → Nat → Nat → Int → mSt → Prop
  | 0 => fun _ _ _ _ => False
  | k + 1 => w_X4_read_17b N Q (w_X4_read_17 N Q ko49 k) ko49
theorem W_X4_read_17 (C : mC p l s m args meth c cX4_read "MoonWash$LawText" 3 none g) (N : Nat) {Q : mSt → Prop} {ko49 : Nat → mSt → Prop} (hko49 : ∀ (r0 : Nat) (kr0 : KX r0 = (0, 8, 0)) (S : mSt) (H : Heap) (locs : List Loc) (ls : Array Slot), lv_has ls 3 [(0, .ref (b + r0))] → mW g b KX S H → va_S (mA b KX s.heap.size) s.heap H locs → ko49 r0 S → W p l e { frames := 39, cells := 0, slots := 0, locals := 829 } s m args below meth c H locs 0 0 (vx_MQ below (mQv g b KX Q (mA b KX s.heap.size)) (mEx g b KX (fun _ _ => False) (mA b KX s.heap.size)) args s 0 0 (mA b KX s.heap.size)) (F0 m 49 ls [])) : ∀ (k : Nat) (r0 : Nat) (kr0 : KX r0 = (0, 8, 0)) (r1 : Nat) (kr1 : KX r1 = (0, 2, 0)) (x2 : Int) (ox2 : okI x2) (S : mSt) (H : Heap) (locs : List Loc) (ls : Array Slot) (hl : lv_has ls 3 [(0, .ref (b + r0)), (1, .ref (b + r1)), (2, .int (mI x2))]) (hW : mW g b KX S H) (hS : va_S (mA b KX s.heap.size) s.heap H locs) (h : w_X4_read_17 N Q ko49 k r0 r1 x2 S), W p l e { frames := 39, cells := 0, slots := 0, locals := 829 } s m args below meth c H locs 0 0 (vx_MQ below (mQv g b KX Q (mA b KX s.heap.size)) (mEx g b KX (fun _ _ => False) (mA b KX s.heap.size)) args s 0 0 (mA b KX s.heap.size)) (F0 m 17 ls []) := by
  intro k
  induction k with
  | zero => intro r0 kr0 r1 kr1 x2 ox2 S H locs ls hl hW hS h; exact False.elim h
  | succ k ih => intro r0 kr0 r1 kr1 x2 ox2 S H locs ls hl hW hS h; exact W_X4_read_17b C N ih hko49 r0 kr0 r1 kr1 x2 ox2 S H locs ls hl hW hS h
end
def w_X4_read (N : Nat) (r0 : Nat) (r1 : Nat) (S : mSt) (Q : mSt → Prop) : Prop :=
  w_X3_clear N r1 S (fun (S1 : mSt) => w_X10_sees N r0 0 S1 (fun (S2 : mSt) (v2 : Int) => ((v2 = 0 → ∀ v3 : Int, v3 = 0 → w_X4_read_17 N Q (fun (r0_4 : Nat) (S_4 : mSt) => w_X10_refuse N r0_4 S_4 (fun (S5 : mSt) => Q S5)) N r0 r1 v3 S2) ∧ (v2 ≠ 0 → Q S2))))
theorem T_X4_read {l : Launch} (hl0 : l.stackTraces = false) {g : mG} {b : Nat} (N : Nat) (r0 : Nat) (kr0 : KX r0 = (0, 8, 0)) (r1 : Nat) (kr1 : KX r1 = (0, 2, 0)) {S : mSt} {Q : mSt → Prop} (h : w_X4_read N r0 r1 S Q) (sz : Nat) : vx_Met l yX4_read (Cond.code yX4_read cX4_read 3 none :: wsG) { frames := 39, cells := 0, slots := 0, locals := 829 } (mPc g b KX S [.ref (b + r0), .ref (b + r1)] sz) (mQv g b KX Q (mA b KX sz)) (mEx g b KX (fun _ _ => False) (mA b KX sz)) 0 0 (mA b KX sz) :=
  m_of (av := [.ref (b + r0), .ref (b + r1)]) (Qf := fun A => mQv g b KX Q A) (Xf := fun A => mEx g b KX (fun _ _ => False) A) (by decide) (Nat.le_of_ble_eq_true rfl) (fun p e s m args below meth c ls X hK hml hr hlk hout hnm hW hl => by
    have C : mC p l s m args meth c cX4_read "MoonWash$LawText" 3 none g := ⟨X, hK, hml, hr, hlk, hout, hl0⟩
    have hS : va_S (mA b KX s.heap.size) s.heap s.heap [] := va_S.rf
    have hl : lv_has ls 3 [(0, .ref (b + r0)), (1, .ref (b + r1))] := hl
    unfold w_X4_read at h
    refine m_aload_n (pc := 0) C.1 dX4_read_0 rfl hl 1 rfl ?_
    refine m_callVv (pc := 1) C.1 C.2.2.1 hl.1 C.2.1 hW hS (As := []) (rest := []) (r := r1) (T_X3_clear C.2.2.2.2.2.2 N r1 kr1 h) kr1 rfl q_861 q_862 q_863 q_84 q_864 pl_X3_clear (by decide) (Nat.le_of_ble_eq_true rfl) dX4_read_1 (fun S1 H locs h hW1 hS => ?_)
    refine m_aload_n (pc := 4) C.1 dX4_read_4 rfl hl 0 rfl ?_
    refine m_token (pc := 5) C.1 C.2.1 hW1 hS 0 (by decide) rfl q_865 dX4_read_5 ?_
    refine m_callVi (pc := 8) C.1 C.2.2.1 hl.1 C.2.1 hW1 hS (As := [.ref (g.ad 0)]) (rest := []) (r := r0) (T_X10_sees C.2.2.2.2.2.2 N r0 kr0 0 (by decide : 0 < 36) h) kr0 rfl q_866 q_688 q_689 q_85 q_690 pl_X10_sees (by decide) (Nat.le_of_ble_eq_true rfl) dX4_read_8 (fun v2 S2 H locs ov2 h hW2 hS => ?_)
    refine m_if_eq (pc := 11) (tgt := 15) C.1 ov2 dX4_read_11 (by decide) (fun hc => ?_) (fun hc => ?_)
    · replace h := h.1 hc
      refine m_iconst (pc := 15) C.1 dX4_read_15 ?_
      refine m_istore_n (pc := 16) C.1 dX4_read_16 rfl hl (by decide) (fun v => [(2, .int v), (0, .ref (b + r0)), (1, .ref (b + r1))]) (fun _ => rfl) (by decide : okI 0) (fun v3 ls ev3 ov3 hl => ?_)
      replace h := h v3 ev3
      refine W_X4_read_17 C N ?_ N r0 kr0 r1 kr1 v3 ov3 S2 _ _ _ (lv_sub hl [1, 2, 0] rfl) hW2 hS h
      · intro r0_4 kr0_4 S_4 H locs ls hl hW_4 hS h
        refine m_aload_n (pc := 49) C.1 dX4_read_49 rfl hl 0 rfl ?_
        refine m_callVv (pc := 50) C.1 C.2.2.1 hl.1 C.2.1 hW_4 hS (As := []) (rest := []) (r := r0_4) (T_X10_refuse C.2.2.2.2.2.2 N r0_4 kr0_4 h) kr0_4 rfl q_893 q_700 q_701 q_85 q_702 pl_X10_refuse (by decide) (Nat.le_of_ble_eq_true rfl) dX4_read_50 (fun S5 H locs h hW5 hS => ?_)
        exact m_vret (pc := 53) C.1 C.2.2.2.1 C.2.2.2.2.1 hW5 hS h (by decide) (by decide) dX4_read_53
    · replace h := h.2 hc
      exact m_vret (pc := 14) C.1 C.2.2.2.1 C.2.2.2.2.1 hW2 hS h (by decide) (by decide) dX4_read_14) sz
section
variable {p : Program} {l : Launch} {e : Env} {s : State} {m : MethodId} {args : Array Value} {below : List Frame} {meth : Method} {c : Code} {g : mG} {b : Nat}
def w_X5_partAt_2b (N : Nat) (Q : mSt → Int → Prop) (ko2 : Nat → Int → Int → mSt → Prop) (ko26 : mSt → Prop) (r0 : Nat) (x1 : Int) (x2 : Int) (S : mSt) : Prop :=
  ((8 ≤ x2 → ko26 S) ∧ (x2 < 8 → (0 ≤ x2 ∧ x2 < 8 ∧ (((S (r0 + 5) x2) ≠ x1 → ∀ v2 : Int, v2 = nm (x2 + 1) → ko2 r0 x1 v2 S) ∧ ((S (r0 + 5) x2) = x1 → Q S x2)))))
theorem W_X5_partAt_2b (C : mC p l s m args meth c cX5_partAt "MoonWash$Moon" 3 (some FieldType.int) g) (N : Nat) {Q : mSt → Int → Prop} {ko2 : Nat → Int → Int → mSt → Prop} {ko26 : mSt → Prop} (hko2 : ∀ (r0 : Nat) (kr0 : KX r0 = (0, 3, 0)) (x1 : Int) (ox1 : okI x1) (x2 : Int) (ox2 : okI x2) (S : mSt) (H : Heap) (locs : List Loc) (ls : Array Slot), lv_has ls 3 [(0, .ref (b + r0)), (1, .int (mI x1)), (2, .int (mI x2))] → mW g b KX S H → va_S (mA b KX s.heap.size) s.heap H locs → ko2 r0 x1 x2 S → W p l e { frames := 0, cells := 0, slots := 0, locals := 0 } s m args below meth c H locs 0 0 (vx_MQ below (mQi g b KX Q (mA b KX s.heap.size)) (mEx g b KX (fun _ _ => False) (mA b KX s.heap.size)) args s 0 0 (mA b KX s.heap.size)) (F0 m 2 ls [])) (hko26 : ∀  (S : mSt) (H : Heap) (locs : List Loc) (ls : Array Slot), lv_has ls 3 [] → mW g b KX S H → va_S (mA b KX s.heap.size) s.heap H locs → ko26 S → W p l e { frames := 0, cells := 0, slots := 0, locals := 0 } s m args below meth c H locs 0 0 (vx_MQ below (mQi g b KX Q (mA b KX s.heap.size)) (mEx g b KX (fun _ _ => False) (mA b KX s.heap.size)) args s 0 0 (mA b KX s.heap.size)) (F0 m 26 ls [])) (r0 : Nat) (kr0 : KX r0 = (0, 3, 0)) (x1 : Int) (ox1 : okI x1) (x2 : Int) (ox2 : okI x2) (S : mSt) (H : Heap) (locs : List Loc) (ls : Array Slot) (hl : lv_has ls 3 [(0, .ref (b + r0)), (1, .int (mI x1)), (2, .int (mI x2))]) (hW : mW g b KX S H) (hS : va_S (mA b KX s.heap.size) s.heap H locs) (h : w_X5_partAt_2b N Q ko2 ko26 r0 x1 x2 S) : W p l e { frames := 0, cells := 0, slots := 0, locals := 0 } s m args below meth c H locs 0 0 (vx_MQ below (mQi g b KX Q (mA b KX s.heap.size)) (mEx g b KX (fun _ _ => False) (mA b KX s.heap.size)) args s 0 0 (mA b KX s.heap.size)) (F0 m 2 ls []) := by
  unfold w_X5_partAt_2b at h
  refine m_iload_n (pc := 2) C.1 dX5_partAt_2 rfl hl 2 rfl ?_
  refine m_bipush (pc := 3) C.1 dX5_partAt_3 rfl ?_
  refine m_icmp_ge (pc := 5) (tgt := 26) C.1 ox2 (by decide : okI 8) dX5_partAt_5 (by decide) (fun hc => ?_) (fun hc => ?_)
  · replace h := h.1 hc
    exact hko26  S _ _ _ (lv_sub hl [] rfl) hW hS h
  · replace h := h.2 hc
    refine m_aload_n (pc := 8) C.1 dX5_partAt_8 rfl hl 0 rfl ?_
    refine g_3_4 (pc := 9) C hW kr0 q_147 dX5_partAt_9 ?_
    refine m_iload_n (pc := 12) C.1 dX5_partAt_12 rfl hl 2 rfl ?_
    obtain ⟨hb1a, hb1b, h⟩ := h
    refine m_iald (pc := 13) C.1 C.2.1 hW (k_3_4 kr0) ox2 hb1a hb1b dX5_partAt_13 ?_
    refine m_iload_n (pc := 14) C.1 dX5_partAt_14 rfl hl 1 rfl ?_
    refine m_icmp_ne (pc := 15) (tgt := 20) C.1 (hW.2.1 _ _) ox1 dX5_partAt_15 (by decide) (fun hc => ?_) (fun hc => ?_)
    · replace h := h.1 hc
      refine m_iinc (pc := 20) C.1 dX5_partAt_20 hl (by decide) (q0 := 2) rfl (fun v => [(2, .int v), (0, .ref (b + r0)), (1, .int (mI x1))]) (fun _ => rfl) (fun v2 ls ev2 ov2 hl => ?_)
      replace h := h v2 ev2
      refine m_goto (pc := 23) (tgt := 2) C.1 dX5_partAt_23 (by decide) ?_
      exact hko2 r0 kr0 x1 ox1 v2 ov2 S _ _ _ (lv_sub hl [1, 2, 0] rfl) hW hS h
    · replace h := h.2 hc
      refine m_iload_n (pc := 18) C.1 dX5_partAt_18 rfl hl 2 rfl ?_
      exact m_iret (pc := 19) C.1 C.2.2.2.1 C.2.2.2.2.1 hW hS ox2 h (by decide) (by decide) dX5_partAt_19
def w_X5_partAt_2 (N : Nat) (Q : mSt → Int → Prop) (ko26 : mSt → Prop) : Nat → Nat → Int → Int → mSt → Prop
  | 0 => fun _ _ _ _ => False
  | k + 1 => w_X5_partAt_2b N Q (w_X5_partAt_2 N Q ko26 k) ko26
theorem W_X5_partAt_2 (C : mC p l s m args meth c cX5_partAt "MoonWash$Moon" 3 (some FieldType.int) g) (N : Nat) {Q : mSt → Int → Prop} {ko26 : mSt → Prop} (hko26 : ∀  (S : mSt) (H : Heap) (locs : List Loc) (ls : Array Slot), lv_has ls 3 [] → mW g b KX S H → va_S (mA b KX s.heap.size) s.heap H locs → ko26 S → W p l e { frames := 0, cells := 0, slots := 0, locals := 0 } s m args below meth c H locs 0 0 (vx_MQ below (mQi g b KX Q (mA b KX s.heap.size)) (mEx g b KX (fun _ _ => False) (mA b KX s.heap.size)) args s 0 0 (mA b KX s.heap.size)) (F0 m 26 ls [])) : ∀ (k : Nat) (r0 : Nat) (kr0 : KX r0 = (0, 3, 0)) (x1 : Int) (ox1 : okI x1) (x2 : Int) (ox2 : okI x2) (S : mSt) (H : Heap) (locs : List Loc) (ls : Array Slot) (hl : lv_has ls 3 [(0, .ref (b + r0)), (1, .int (mI x1)), (2, .int (mI x2))]) (hW : mW g b KX S H) (hS : va_S (mA b KX s.heap.size) s.heap H locs) (h : w_X5_partAt_2 N Q ko26 k r0 x1 x2 S), W p l e { frames := 0, cells := 0, slots := 0, locals := 0 } s m args below meth c H locs 0 0 (vx_MQ below (mQi g b KX Q (mA b KX s.heap.size)) (mEx g b KX (fun _ _ => False) (mA b KX s.heap.size)) args s 0 0 (mA b KX s.heap.size)) (F0 m 2 ls []) := by
  intro k
  induction k with
  | zero => intro r0 kr0 x1 ox1 x2 ox2 S H locs ls hl hW hS h; exact False.elim h
  | succ k ih => intro r0 kr0 x1 ox1 x2 ox2 S H locs ls hl hW hS h; exact W_X5_partAt_2b C N ih hko26 r0 kr0 x1 ox1 x2 ox2 S H locs ls hl hW hS h
end
def w_X5_partAt (N : Nat) (r0 : Nat) (x1 : Int) (S : mSt) (Q : mSt → Int → Prop) : Prop :=
  ∀ v1 : Int, v1 = 0 → w_X5_partAt_2 N Q (fun  (S_2 : mSt) => Q S_2 0) N r0 x1 v1 S
theorem T_X5_partAt {l : Launch} (hl0 : l.stackTraces = false) {g : mG} {b : Nat} (N : Nat) (r0 : Nat) (kr0 : KX r0 = (0, 3, 0)) (x1 : Int) (ox1 : okI x1) {S : mSt} {Q : mSt → Int → Prop} (h : w_X5_partAt N r0 x1 S Q) (sz : Nat) : vx_Met l yX5_partAt (Cond.code yX5_partAt cX5_partAt 3 (some FieldType.int) :: wsG) { frames := 0, cells := 0, slots := 0, locals := 0 } (mPc g b KX S [.ref (b + r0), .int (mI x1)] sz) (mQi g b KX Q (mA b KX sz)) (mEx g b KX (fun _ _ => False) (mA b KX sz)) 0 0 (mA b KX sz) :=
  m_of (av := [.ref (b + r0), .int (mI x1)]) (Qf := fun A => mQi g b KX Q A) (Xf := fun A => mEx g b KX (fun _ _ => False) A) (by decide) (Nat.le_of_ble_eq_true rfl) (fun p e s m args below meth c ls X hK hml hr hlk hout hnm hW hl => by
    have C : mC p l s m args meth c cX5_partAt "MoonWash$Moon" 3 (some FieldType.int) g := ⟨X, hK, hml, hr, hlk, hout, hl0⟩
    have hS : va_S (mA b KX s.heap.size) s.heap s.heap [] := va_S.rf
    have hl : lv_has ls 3 [(0, .ref (b + r0)), (1, .int (mI x1))] := hl
    unfold w_X5_partAt at h
    refine m_iconst (pc := 0) C.1 dX5_partAt_0 ?_
    refine m_istore_n (pc := 1) C.1 dX5_partAt_1 rfl hl (by decide) (fun v => [(2, .int v), (0, .ref (b + r0)), (1, .int (mI x1))]) (fun _ => rfl) (by decide : okI 0) (fun v1 ls ev1 ov1 hl => ?_)
    replace h := h v1 ev1
    refine W_X5_partAt_2 C N ?_ N r0 kr0 x1 ox1 v1 ov1 S _ _ _ (lv_sub hl [1, 2, 0] rfl) hW hS h
    · intro S_2 H locs ls hl hW_2 hS h
      refine m_iconst (pc := 26) C.1 dX5_partAt_26 ?_
      exact m_iret (pc := 27) C.1 C.2.2.2.1 C.2.2.2.2.1 hW_2 hS (by decide : okI 0) h (by decide) (by decide) dX5_partAt_27) sz
section
variable {p : Program} {l : Launch} {e : Env} {s : State} {m : MethodId} {args : Array Value} {below : List Frame} {meth : Method} {c : Code} {g : mG} {b : Nat}
def w_X5_wetParts_25 (N : Nat) (Q : mSt → Int → Prop) (ko4 : Nat → Int → Int → mSt → Prop) (r0 : Nat) (x1 : Int) (x2 : Int) (S : mSt) : Prop :=
  ∀ v1 : Int, v1 = nm (x2 + 1) → ko4 r0 x1 v1 S
theorem W_X5_wetParts_25 (C : mC p l s m args meth c cX5_wetParts "MoonWash$Moon" 3 (some FieldType.int) g) (N : Nat) {Q : mSt → Int → Prop} {ko4 : Nat → Int → Int → mSt → Prop} (hko4 : ∀ (r0 : Nat) (kr0 : KX r0 = (0, 3, 0)) (x1 : Int) (ox1 : okI x1) (x2 : Int) (ox2 : okI x2) (S : mSt) (H : Heap) (locs : List Loc) (ls : Array Slot), lv_has ls 3 [(0, .ref (b + r0)), (1, .int (mI x1)), (2, .int (mI x2))] → mW g b KX S H → va_S (mA b KX s.heap.size) s.heap H locs → ko4 r0 x1 x2 S → W p l e { frames := 0, cells := 0, slots := 0, locals := 0 } s m args below meth c H locs 0 0 (vx_MQ below (mQi g b KX Q (mA b KX s.heap.size)) (mEx g b KX (fun _ _ => False) (mA b KX s.heap.size)) args s 0 0 (mA b KX s.heap.size)) (F0 m 4 ls [])) (r0 : Nat) (kr0 : KX r0 = (0, 3, 0)) (x1 : Int) (ox1 : okI x1) (x2 : Int) (ox2 : okI x2) (S : mSt) (H : Heap) (locs : List Loc) (ls : Array Slot) (hl : lv_has ls 3 [(0, .ref (b + r0)), (1, .int (mI x1)), (2, .int (mI x2))]) (hW : mW g b KX S H) (hS : va_S (mA b KX s.heap.size) s.heap H locs) (h : w_X5_wetParts_25 N Q ko4 r0 x1 x2 S) : W p l e { frames := 0, cells := 0, slots := 0, locals := 0 } s m args below meth c H locs 0 0 (vx_MQ below (mQi g b KX Q (mA b KX s.heap.size)) (mEx g b KX (fun _ _ => False) (mA b KX s.heap.size)) args s 0 0 (mA b KX s.heap.size)) (F0 m 25 ls []) := by
  unfold w_X5_wetParts_25 at h
  refine m_iinc (pc := 25) C.1 dX5_wetParts_25 hl (by decide) (q0 := 2) rfl (fun v => [(2, .int v), (0, .ref (b + r0)), (1, .int (mI x1))]) (fun _ => rfl) (fun v1 ls ev1 ov1 hl => ?_)
  replace h := h v1 ev1
  refine m_goto (pc := 28) (tgt := 4) C.1 dX5_wetParts_28 (by decide) ?_
  exact hko4 r0 kr0 x1 ox1 v1 ov1 S _ _ _ (lv_sub hl [1, 2, 0] rfl) hW hS h
def w_X5_wetParts_4b (N : Nat) (Q : mSt → Int → Prop) (ko4 : Nat → Int → Int → mSt → Prop) (ko31 : Int → mSt → Prop) (r0 : Nat) (x1 : Int) (x2 : Int) (S : mSt) : Prop :=
  ((8 ≤ x2 → ko31 x1 S) ∧ (x2 < 8 → (0 ≤ x2 ∧ x2 < 8 ∧ (((S (r0 + 3) x2) ≤ 0 → w_X5_wetParts_25 N Q ko4 r0 x1 x2 S) ∧ (0 < (S (r0 + 3) x2) → ∀ v2 : Int, v2 = (bOr x1 (bShl 1 x2)) → w_X5_wetParts_25 N Q ko4 r0 v2 x2 S)))))
theorem W_X5_wetParts_4b (C : mC p l s m args meth c cX5_wetParts "MoonWash$Moon" 3 (some FieldType.int) g) (N : Nat) {Q : mSt → Int → Prop} {ko4 : Nat → Int → Int → mSt → Prop} {ko31 : Int → mSt → Prop} (hko4 : ∀ (r0 : Nat) (kr0 : KX r0 = (0, 3, 0)) (x1 : Int) (ox1 : okI x1) (x2 : Int) (ox2 : okI x2) (S : mSt) (H : Heap) (locs : List Loc) (ls : Array Slot), lv_has ls 3 [(0, .ref (b + r0)), (1, .int (mI x1)), (2, .int (mI x2))] → mW g b KX S H → va_S (mA b KX s.heap.size) s.heap H locs → ko4 r0 x1 x2 S → W p l e { frames := 0, cells := 0, slots := 0, locals := 0 } s m args below meth c H locs 0 0 (vx_MQ below (mQi g b KX Q (mA b KX s.heap.size)) (mEx g b KX (fun _ _ => False) (mA b KX s.heap.size)) args s 0 0 (mA b KX s.heap.size)) (F0 m 4 ls [])) (hko31 : ∀ (x1 : Int) (ox1 : okI x1) (S : mSt) (H : Heap) (locs : List Loc) (ls : Array Slot), lv_has ls 3 [(1, .int (mI x1))] → mW g b KX S H → va_S (mA b KX s.heap.size) s.heap H locs → ko31 x1 S → W p l e { frames := 0, cells := 0, slots := 0, locals := 0 } s m args below meth c H locs 0 0 (vx_MQ below (mQi g b KX Q (mA b KX s.heap.size)) (mEx g b KX (fun _ _ => False) (mA b KX s.heap.size)) args s 0 0 (mA b KX s.heap.size)) (F0 m 31 ls [])) (r0 : Nat) (kr0 : KX r0 = (0, 3, 0)) (x1 : Int) (ox1 : okI x1) (x2 : Int) (ox2 : okI x2) (S : mSt) (H : Heap) (locs : List Loc) (ls : Array Slot) (hl : lv_has ls 3 [(0, .ref (b + r0)), (1, .int (mI x1)), (2, .int (mI x2))]) (hW : mW g b KX S H) (hS : va_S (mA b KX s.heap.size) s.heap H locs) (h : w_X5_wetParts_4b N Q ko4 ko31 r0 x1 x2 S) : W p l e { frames := 0, cells := 0, slots := 0, locals := 0 } s m args below meth c H locs 0 0 (vx_MQ below (mQi g b KX Q (mA b KX s.heap.size)) (mEx g b KX (fun _ _ => False) (mA b KX s.heap.size)) args s 0 0 (mA b KX s.heap.size)) (F0 m 4 ls []) := by
  unfold w_X5_wetParts_4b at h
  refine m_iload_n (pc := 4) C.1 dX5_wetParts_4 rfl hl 2 rfl ?_
  refine m_bipush (pc := 5) C.1 dX5_wetParts_5 rfl ?_
  refine m_icmp_ge (pc := 7) (tgt := 31) C.1 ox2 (by decide : okI 8) dX5_wetParts_7 (by decide) (fun hc => ?_) (fun hc => ?_)
  · replace h := h.1 hc
    exact hko31 x1 ox1 S _ _ _ (lv_sub hl [1] rfl) hW hS h
  · replace h := h.2 hc
    refine m_aload_n (pc := 10) C.1 dX5_wetParts_10 rfl hl 0 rfl ?_
    refine g_3_2 (pc := 11) C hW kr0 q_139 dX5_wetParts_11 ?_
    refine m_iload_n (pc := 14) C.1 dX5_wetParts_14 rfl hl 2 rfl ?_
    obtain ⟨hb1a, hb1b, h⟩ := h
    refine m_iald (pc := 15) C.1 C.2.1 hW (k_3_2 kr0) ox2 hb1a hb1b dX5_wetParts_15 ?_
    refine m_if_le (pc := 16) (tgt := 25) C.1 (hW.2.1 _ _) dX5_wetParts_16 (by decide) (fun hc => ?_) (fun hc => ?_)
    · replace h := h.1 hc
      exact W_X5_wetParts_25 C N hko4 r0 kr0 x1 ox1 x2 ox2 S _ _ _ (lv_sub hl [0, 1, 2] rfl) hW hS h
    · replace h := h.2 hc
      refine m_iload_n (pc := 19) C.1 dX5_wetParts_19 rfl hl 1 rfl ?_
      refine m_iconst (pc := 20) C.1 dX5_wetParts_20 ?_
      refine m_iload_n (pc := 21) C.1 dX5_wetParts_21 rfl hl 2 rfl ?_
      refine m_ishl (pc := 22) C.1 dX5_wetParts_22 ?_
      refine m_ior (pc := 23) C.1 dX5_wetParts_23 ?_
      refine m_istore_n (pc := 24) C.1 dX5_wetParts_24 rfl hl (by decide) (fun v => [(1, .int v), (0, .ref (b + r0)), (2, .int (mI x2))]) (fun _ => rfl) (bOr_ok _ _) (fun v2 ls ev2 ov2 hl => ?_)
      replace h := h v2 ev2
      exact W_X5_wetParts_25 C N hko4 r0 kr0 v2 ov2 x2 ox2 S _ _ _ (lv_sub hl [1, 0, 2] rfl) hW hS h
def w_X5_wetParts_4 (N : Nat) (Q : mSt → Int → Prop) (ko31 : Int → mSt → Prop) : Nat → Nat → Int → Int → mSt → Prop
  | 0 => fun _ _ _ _ => False
  | k + 1 => w_X5_wetParts_4b N Q (w_X5_wetParts_4 N Q ko31 k) ko31
theorem W_X5_wetParts_4 (C : mC p l s m args meth c cX5_wetParts "MoonWash$Moon" 3 (some FieldType.int) g) (N : Nat) {Q : mSt → Int → Prop} {ko31 : Int → mSt → Prop} (hko31 : ∀ (x1 : Int) (ox1 : okI x1) (S : mSt) (H : Heap) (locs : List Loc) (ls : Array Slot), lv_has ls 3 [(1, .int (mI x1))] → mW g b KX S H → va_S (mA b KX s.heap.size) s.heap H locs → ko31 x1 S → W p l e { frames := 0, cells := 0, slots := 0, locals := 0 } s m args below meth c H locs 0 0 (vx_MQ below (mQi g b KX Q (mA b KX s.heap.size)) (mEx g b KX (fun _ _ => False) (mA b KX s.heap.size)) args s 0 0 (mA b KX s.heap.size)) (F0 m 31 ls [])) : ∀ (k : Nat) (r0 : Nat) (kr0 : KX r0 = (0, 3, 0)) (x1 : Int) (ox1 : okI x1) (x2 : Int) (ox2 : okI x2) (S : mSt) (H : Heap) (locs : List Loc) (ls : Array Slot) (hl : lv_has ls 3 [(0, .ref (b + r0)), (1, .int (mI x1)), (2, .int (mI x2))]) (hW : mW g b KX S H) (hS : va_S (mA b KX s.heap.size) s.heap H locs) (h : w_X5_wetParts_4 N Q ko31 k r0 x1 x2 S), W p l e { frames := 0, cells := 0, slots := 0, locals := 0 } s m args below meth c H locs 0 0 (vx_MQ below (mQi g b KX Q (mA b KX s.heap.size)) (mEx g b KX (fun _ _ => False) (mA b KX s.heap.size)) args s 0 0 (mA b KX s.heap.size)) (F0 m 4 ls []) := by
  intro k
  induction k with
  | zero => intro r0 kr0 x1 ox1 x2 ox2 S H locs ls hl hW hS h; exact False.elim h
  | succ k ih => intro r0 kr0 x1 ox1 x2 ox2 S H locs ls hl hW hS h; exact W_X5_wetParts_4b C N ih hko31 r0 kr0 x1 ox1 x2 ox2 S H locs ls hl hW hS h
end
def w_X5_wetParts (N : Nat) (r0 : Nat) (S : mSt) (Q : mSt → Int → Prop) : Prop :=
  ∀ v1 : Int, v1 = 0 → ∀ v2 : Int, v2 = 0 → w_X5_wetParts_4 N Q (fun (x1_3 : Int) (S_3 : mSt) => Q S_3 x1_3) N r0 v1 v2 S
theorem T_X5_wetParts {l : Launch} (hl0 : l.stackTraces = false) {g : mG} {b : Nat} (N : Nat) (r0 : Nat) (kr0 : KX r0 = (0, 3, 0)) {S : mSt} {Q : mSt → Int → Prop} (h : w_X5_wetParts N r0 S Q) (sz : Nat) : vx_Met l yX5_wetParts (Cond.code yX5_wetParts cX5_wetParts 3 (some FieldType.int) :: wsG) { frames := 0, cells := 0, slots := 0, locals := 0 } (mPc g b KX S [.ref (b + r0)] sz) (mQi g b KX Q (mA b KX sz)) (mEx g b KX (fun _ _ => False) (mA b KX sz)) 0 0 (mA b KX sz) :=
  m_of (av := [.ref (b + r0)]) (Qf := fun A => mQi g b KX Q A) (Xf := fun A => mEx g b KX (fun _ _ => False) A) (by decide) (Nat.le_of_ble_eq_true rfl) (fun p e s m args below meth c ls X hK hml hr hlk hout hnm hW hl => by
    have C : mC p l s m args meth c cX5_wetParts "MoonWash$Moon" 3 (some FieldType.int) g := ⟨X, hK, hml, hr, hlk, hout, hl0⟩
    have hS : va_S (mA b KX s.heap.size) s.heap s.heap [] := va_S.rf
    have hl : lv_has ls 3 [(0, .ref (b + r0))] := hl
    unfold w_X5_wetParts at h
    refine m_iconst (pc := 0) C.1 dX5_wetParts_0 ?_
    refine m_istore_n (pc := 1) C.1 dX5_wetParts_1 rfl hl (by decide) (fun v => [(1, .int v), (0, .ref (b + r0))]) (fun _ => rfl) (by decide : okI 0) (fun v1 ls ev1 ov1 hl => ?_)
    replace h := h v1 ev1
    refine m_iconst (pc := 2) C.1 dX5_wetParts_2 ?_
    refine m_istore_n (pc := 3) C.1 dX5_wetParts_3 rfl hl (by decide) (fun v => [(2, .int v), (1, .int (mI v1)), (0, .ref (b + r0))]) (fun _ => rfl) (by decide : okI 0) (fun v2 ls ev2 ov2 hl => ?_)
    replace h := h v2 ev2
    refine W_X5_wetParts_4 C N ?_ N r0 kr0 v1 ov1 v2 ov2 S _ _ _ (lv_sub hl [2, 1, 0] rfl) hW hS h
    · intro x1_3 ox1_3 S_3 H locs ls hl hW_3 hS h
      refine m_iload_n (pc := 31) C.1 dX5_wetParts_31 rfl hl 0 rfl ?_
      exact m_iret (pc := 32) C.1 C.2.2.2.1 C.2.2.2.2.1 hW_3 hS ox1_3 h (by decide) (by decide) dX5_wetParts_32) sz
section
variable {p : Program} {l : Launch} {e : Env} {s : State} {m : MethodId} {args : Array Value} {below : List Frame} {meth : Method} {c : Code} {g : mG} {b : Nat}
def w_X5_allStains_4b (N : Nat) (Q : mSt → Int → Prop) (ko4 : Nat → Int → Int → mSt → Prop) (ko28 : Int → mSt → Prop) (r0 : Nat) (x1 : Int) (x2 : Int) (S : mSt) : Prop :=
  ((8 ≤ x2 → ko28 x1 S) ∧ (x2 < 8 → (0 ≤ x2 ∧ x2 < 8 ∧ w_J6_bitCount_0f7a4 N (S (r0 + 4) x2) S (fun (S2 : mSt) (v2 : Int) => ∀ v3 : Int, v3 = (nm (x1 + v2)) → ∀ v4 : Int, v4 = nm (x2 + 1) → ko4 r0 v3 v4 S2))))
theorem W_X5_allStains_4b (C : mC p l s m args meth c cX5_allStains "MoonWash$Moon" 3 (some FieldType.int) g) (N : Nat) {Q : mSt → Int → Prop} {ko4 : Nat → Int → Int → mSt → Prop} {ko28 : Int → mSt → Prop} (hko4 : ∀ (r0 : Nat) (kr0 : KX r0 = (0, 3, 0)) (x1 : Int) (ox1 : okI x1) (x2 : Int) (ox2 : okI x2) (S : mSt) (H : Heap) (locs : List Loc) (ls : Array Slot), lv_has ls 3 [(0, .ref (b + r0)), (1, .int (mI x1)), (2, .int (mI x2))] → mW g b KX S H → va_S (mA b KX s.heap.size) s.heap H locs → ko4 r0 x1 x2 S → W p l e { frames := 1, cells := 0, slots := 0, locals := 20 } s m args below meth c H locs 0 0 (vx_MQ below (mQi g b KX Q (mA b KX s.heap.size)) (mEx g b KX (fun _ _ => False) (mA b KX s.heap.size)) args s 0 0 (mA b KX s.heap.size)) (F0 m 4 ls [])) (hko28 : ∀ (x1 : Int) (ox1 : okI x1) (S : mSt) (H : Heap) (locs : List Loc) (ls : Array Slot), lv_has ls 3 [(1, .int (mI x1))] → mW g b KX S H → va_S (mA b KX s.heap.size) s.heap H locs → ko28 x1 S → W p l e { frames := 1, cells := 0, slots := 0, locals := 20 } s m args below meth c H locs 0 0 (vx_MQ below (mQi g b KX Q (mA b KX s.heap.size)) (mEx g b KX (fun _ _ => False) (mA b KX s.heap.size)) args s 0 0 (mA b KX s.heap.size)) (F0 m 28 ls [])) (r0 : Nat) (kr0 : KX r0 = (0, 3, 0)) (x1 : Int) (ox1 : okI x1) (x2 : Int) (ox2 : okI x2) (S : mSt) (H : Heap) (locs : List Loc) (ls : Array Slot) (hl : lv_has ls 3 [(0, .ref (b + r0)), (1, .int (mI x1)), (2, .int (mI x2))]) (hW : mW g b KX S H) (hS : va_S (mA b KX s.heap.size) s.heap H locs) (h : w_X5_allStains_4b N Q ko4 ko28 r0 x1 x2 S) : W p l e { frames := 1, cells := 0, slots := 0, locals := 20 } s m args below meth c H locs 0 0 (vx_MQ below (mQi g b KX Q (mA b KX s.heap.size)) (mEx g b KX (fun _ _ => False) (mA b KX s.heap.size)) args s 0 0 (mA b KX s.heap.size)) (F0 m 4 ls []) := by
  unfold w_X5_allStains_4b at h
  refine m_iload_n (pc := 4) C.1 dX5_allStains_4 rfl hl 2 rfl ?_
  refine m_bipush (pc := 5) C.1 dX5_allStains_5 rfl ?_
  refine m_icmp_ge (pc := 7) (tgt := 28) C.1 ox2 (by decide : okI 8) dX5_allStains_7 (by decide) (fun hc => ?_) (fun hc => ?_)
  · replace h := h.1 hc
    exact hko28 x1 ox1 S _ _ _ (lv_sub hl [1] rfl) hW hS h
  · replace h := h.2 hc
    refine m_iload_n (pc := 10) C.1 dX5_allStains_10 rfl hl 1 rfl ?_
    refine m_aload_n (pc := 11) C.1 dX5_allStains_11 rfl hl 0 rfl ?_
    refine g_3_3 (pc := 12) C hW kr0 q_142 dX5_allStains_12 ?_
    refine m_iload_n (pc := 15) C.1 dX5_allStains_15 rfl hl 2 rfl ?_
    obtain ⟨hb1a, hb1b, h⟩ := h
    refine m_iald (pc := 16) C.1 C.2.1 hW (k_3_3 kr0) ox2 hb1a hb1b dX5_allStains_16 ?_
    refine m_callSi (pc := 17) C.1 C.2.2.1 hl.1 C.2.1 hW hS (As := [.int (mI (S (r0 + 4) x2))]) (rest := [.int (mI x1)]) (T_J6_bitCount_0f7a4 C.2.2.2.2.2.2 N (S (r0 + 4) x2) (hW.2.1 _ _) h) q_1347 q_507 q_107 q_508 pl_J6_bitCount_0f7a4 (by decide) (Nat.le_of_ble_eq_true rfl) dX5_allStains_17 (fun v2 S2 H locs ov2 h hW2 hS => ?_)
    refine m_iadd (pc := 20) C.1 dX5_allStains_20 ?_
    refine m_istore_n (pc := 21) C.1 dX5_allStains_21 rfl hl (by decide) (fun v => [(1, .int v), (0, .ref (b + r0)), (2, .int (mI x2))]) (fun _ => rfl) (nm_ok _) (fun v3 ls ev3 ov3 hl => ?_)
    replace h := h v3 ev3
    refine m_iinc (pc := 22) C.1 dX5_allStains_22 hl (by decide) (q0 := 2) rfl (fun v => [(2, .int v), (1, .int (mI v3)), (0, .ref (b + r0))]) (fun _ => rfl) (fun v4 ls ev4 ov4 hl => ?_)
    replace h := h v4 ev4
    refine m_goto (pc := 25) (tgt := 4) C.1 dX5_allStains_25 (by decide) ?_
    exact hko4 r0 kr0 v3 ov3 v4 ov4 S2 _ _ _ (lv_sub hl [2, 1, 0] rfl) hW2 hS h
def w_X5_allStains_4 (N : Nat) (Q : mSt → Int → Prop) (ko28 : Int → mSt → Prop) : Nat → Nat → Int → Int → mSt → Prop
  | 0 => fun _ _ _ _ => False
  | k + 1 => w_X5_allStains_4b N Q (w_X5_allStains_4 N Q ko28 k) ko28
theorem W_X5_allStains_4 (C : mC p l s m args meth c cX5_allStains "MoonWash$Moon" 3 (some FieldType.int) g) (N : Nat) {Q : mSt → Int → Prop} {ko28 : Int → mSt → Prop} (hko28 : ∀ (x1 : Int) (ox1 : okI x1) (S : mSt) (H : Heap) (locs : List Loc) (ls : Array Slot), lv_has ls 3 [(1, .int (mI x1))] → mW g b KX S H → va_S (mA b KX s.heap.size) s.heap H locs → ko28 x1 S → W p l e { frames := 1, cells := 0, slots := 0, locals := 20 } s m args below meth c H locs 0 0 (vx_MQ below (mQi g b KX Q (mA b KX s.heap.size)) (mEx g b KX (fun _ _ => False) (mA b KX s.heap.size)) args s 0 0 (mA b KX s.heap.size)) (F0 m 28 ls [])) : ∀ (k : Nat) (r0 : Nat) (kr0 : KX r0 = (0, 3, 0)) (x1 : Int) (ox1 : okI x1) (x2 : Int) (ox2 : okI x2) (S : mSt) (H : Heap) (locs : List Loc) (ls : Array Slot) (hl : lv_has ls 3 [(0, .ref (b + r0)), (1, .int (mI x1)), (2, .int (mI x2))]) (hW : mW g b KX S H) (hS : va_S (mA b KX s.heap.size) s.heap H locs) (h : w_X5_allStains_4 N Q ko28 k r0 x1 x2 S), W p l e { frames := 1, cells := 0, slots := 0, locals := 20 } s m args below meth c H locs 0 0 (vx_MQ below (mQi g b KX Q (mA b KX s.heap.size)) (mEx g b KX (fun _ _ => False) (mA b KX s.heap.size)) args s 0 0 (mA b KX s.heap.size)) (F0 m 4 ls []) := by
  intro k
  induction k with
  | zero => intro r0 kr0 x1 ox1 x2 ox2 S H locs ls hl hW hS h; exact False.elim h
  | succ k ih => intro r0 kr0 x1 ox1 x2 ox2 S H locs ls hl hW hS h; exact W_X5_allStains_4b C N ih hko28 r0 kr0 x1 ox1 x2 ox2 S H locs ls hl hW hS h
end
def w_X5_allStains (N : Nat) (r0 : Nat) (S : mSt) (Q : mSt → Int → Prop) : Prop :=
  ∀ v1 : Int, v1 = 0 → ∀ v2 : Int, v2 = 0 → w_X5_allStains_4 N Q (fun (x1_3 : Int) (S_3 : mSt) => Q S_3 x1_3) N r0 v1 v2 S
theorem T_X5_allStains {l : Launch} (hl0 : l.stackTraces = false) {g : mG} {b : Nat} (N : Nat) (r0 : Nat) (kr0 : KX r0 = (0, 3, 0)) {S : mSt} {Q : mSt → Int → Prop} (h : w_X5_allStains N r0 S Q) (sz : Nat) : vx_Met l yX5_allStains (Cond.code yX5_allStains cX5_allStains 3 (some FieldType.int) :: wsG) { frames := 1, cells := 0, slots := 0, locals := 20 } (mPc g b KX S [.ref (b + r0)] sz) (mQi g b KX Q (mA b KX sz)) (mEx g b KX (fun _ _ => False) (mA b KX sz)) 0 0 (mA b KX sz) :=
  m_of (av := [.ref (b + r0)]) (Qf := fun A => mQi g b KX Q A) (Xf := fun A => mEx g b KX (fun _ _ => False) A) (by decide) (Nat.le_of_ble_eq_true rfl) (fun p e s m args below meth c ls X hK hml hr hlk hout hnm hW hl => by
    have C : mC p l s m args meth c cX5_allStains "MoonWash$Moon" 3 (some FieldType.int) g := ⟨X, hK, hml, hr, hlk, hout, hl0⟩
    have hS : va_S (mA b KX s.heap.size) s.heap s.heap [] := va_S.rf
    have hl : lv_has ls 3 [(0, .ref (b + r0))] := hl
    unfold w_X5_allStains at h
    refine m_iconst (pc := 0) C.1 dX5_allStains_0 ?_
    refine m_istore_n (pc := 1) C.1 dX5_allStains_1 rfl hl (by decide) (fun v => [(1, .int v), (0, .ref (b + r0))]) (fun _ => rfl) (by decide : okI 0) (fun v1 ls ev1 ov1 hl => ?_)
    replace h := h v1 ev1
    refine m_iconst (pc := 2) C.1 dX5_allStains_2 ?_
    refine m_istore_n (pc := 3) C.1 dX5_allStains_3 rfl hl (by decide) (fun v => [(2, .int v), (1, .int (mI v1)), (0, .ref (b + r0))]) (fun _ => rfl) (by decide : okI 0) (fun v2 ls ev2 ov2 hl => ?_)
    replace h := h v2 ev2
    refine W_X5_allStains_4 C N ?_ N r0 kr0 v1 ov1 v2 ov2 S _ _ _ (lv_sub hl [2, 1, 0] rfl) hW hS h
    · intro x1_3 ox1_3 S_3 H locs ls hl hW_3 hS h
      refine m_iload_n (pc := 28) C.1 dX5_allStains_28 rfl hl 0 rfl ?_
      exact m_iret (pc := 29) C.1 C.2.2.2.1 C.2.2.2.2.1 hW_3 hS ox1_3 h (by decide) (by decide) dX5_allStains_29) sz
section
variable {p : Program} {l : Launch} {e : Env} {s : State} {m : MethodId} {args : Array Value} {below : List Frame} {meth : Method} {c : Code} {g : mG} {b : Nat}
end
def w_X5_scrub (N : Nat) (r0 : Nat) (x1 : Int) (x2 : Int) (x3 : Int) (x4 : Int) (S : mSt) (Q : mSt → Int → Prop) : Prop :=
  (0 ≤ x1 ∧ x1 < 8 ∧ ∀ v2 : Int, v2 = (bAnd (S (r0 + 4) x1) x4) → (0 ≤ x1 ∧ x1 < 8 ∧ (0 ≤ x1 ∧ x1 < 8 ∧ ∀ S5 : mSt, S5 = mup S (r0 + 1) x1 (iMax 0 (nm ((S (r0 + 1) x1) - x2))) → (0 ≤ x1 ∧ x1 < 8 ∧ (0 ≤ x1 ∧ x1 < 8 ∧ ∀ S8 : mSt, S8 = mup S5 (r0 + 4) x1 (bAnd (S5 (r0 + 4) x1) (bXor x4 (-1))) → (0 ≤ x1 ∧ x1 < 8 ∧ (0 ≤ x1 ∧ x1 < 8 ∧ ∀ S11 : mSt, S11 = mup S8 (r0 + 2) x1 (iMin 9 (nm ((nm ((S8 (r0 + 2) x1) + 1)) + x3))) → (0 ≤ x1 ∧ x1 < 8 ∧ ∀ S13 : mSt, S13 = mup S11 (r0 + 3) x1 9 → w_X5_setHung N r0 x1 0 S13 (fun (S14 : mSt) => Q S14 v2)))))))))
theorem T_X5_scrub {l : Launch} (hl0 : l.stackTraces = false) {g : mG} {b : Nat} (N : Nat) (r0 : Nat) (kr0 : KX r0 = (0, 3, 0)) (x1 : Int) (ox1 : okI x1) (x2 : Int) (ox2 : okI x2) (x3 : Int) (ox3 : okI x3) (x4 : Int) (ox4 : okI x4) {S : mSt} {Q : mSt → Int → Prop} (h : w_X5_scrub N r0 x1 x2 x3 x4 S Q) (sz : Nat) : vx_Met l yX5_scrub (Cond.code yX5_scrub cX5_scrub 6 (some FieldType.int) :: wsG) { frames := 1, cells := 0, slots := 0, locals := 30 } (mPc g b KX S [.ref (b + r0), .int (mI x1), .int (mI x2), .int (mI x3), .int (mI x4)] sz) (mQi g b KX Q (mA b KX sz)) (mEx g b KX (fun _ _ => False) (mA b KX sz)) 0 0 (mA b KX sz) :=
  m_of (av := [.ref (b + r0), .int (mI x1), .int (mI x2), .int (mI x3), .int (mI x4)]) (Qf := fun A => mQi g b KX Q A) (Xf := fun A => mEx g b KX (fun _ _ => False) A) (by decide) (Nat.le_of_ble_eq_true rfl) (fun p e s m args below meth c ls X hK hml hr hlk hout hnm hW hl => by
    have C : mC p l s m args meth c cX5_scrub "MoonWash$Moon" 6 (some FieldType.int) g := ⟨X, hK, hml, hr, hlk, hout, hl0⟩
    have hS : va_S (mA b KX s.heap.size) s.heap s.heap [] := va_S.rf
    have hl : lv_has ls 6 [(0, .ref (b + r0)), (1, .int (mI x1)), (2, .int (mI x2)), (3, .int (mI x3)), (4, .int (mI x4))] := hl
    unfold w_X5_scrub at h
    refine m_aload_n (pc := 0) C.1 dX5_scrub_0 rfl hl 0 rfl ?_
    refine g_3_3 (pc := 1) C hW kr0 q_142 dX5_scrub_1 ?_
    refine m_iload_n (pc := 4) C.1 dX5_scrub_4 rfl hl 1 rfl ?_
    obtain ⟨hb1a, hb1b, h⟩ := h
    refine m_iald (pc := 5) C.1 C.2.1 hW (k_3_3 kr0) ox1 hb1a hb1b dX5_scrub_5 ?_
    refine m_iload (pc := 6) C.1 dX5_scrub_6 hl 4 rfl ?_
    refine m_iand (pc := 8) C.1 dX5_scrub_8 ?_
    refine m_istore (pc := 9) C.1 dX5_scrub_9 hl (by decide) (fun v => [(5, .int v), (0, .ref (b + r0)), (1, .int (mI x1)), (2, .int (mI x2)), (3, .int (mI x3)), (4, .int (mI x4))]) (fun _ => rfl) (bAnd_ok _ _) (fun v2 ls ev2 ov2 hl => ?_)
    replace h := h v2 ev2
    refine m_aload_n (pc := 11) C.1 dX5_scrub_11 rfl hl 1 rfl ?_
    refine g_3_0 (pc := 12) C hW kr0 q_130 dX5_scrub_12 ?_
    refine m_iload_n (pc := 15) C.1 dX5_scrub_15 rfl hl 2 rfl ?_
    refine m_iconst (pc := 16) C.1 dX5_scrub_16 ?_
    refine m_aload_n (pc := 17) C.1 dX5_scrub_17 rfl hl 1 rfl ?_
    refine g_3_0 (pc := 18) C hW kr0 q_130 dX5_scrub_18 ?_
    refine m_iload_n (pc := 21) C.1 dX5_scrub_21 rfl hl 2 rfl ?_
    obtain ⟨hb3a, hb3b, h⟩ := h
    refine m_iald (pc := 22) C.1 C.2.1 hW (k_3_0 kr0) ox1 hb3a hb3b dX5_scrub_22 ?_
    refine m_iload_n (pc := 23) C.1 dX5_scrub_23 rfl hl 3 rfl ?_
    refine m_isub (pc := 24) C.1 dX5_scrub_24 ?_
    refine m_max (pc := 25) C.1 C.2.2.1 hl.1 (by decide : okI 0) (nm_ok _) q_1072 q_523 q_93 q_524 (by refine ⟨?_, Nat.le_of_ble_eq_true rfl, ?_, ?_⟩ <;> decide) dX5_scrub_25 ?_
    obtain ⟨hb4a, hb4b, h⟩ := h
    refine m_iast (pc := 28) C.1 C.2.1 hW hS (k_3_0 kr0) ox1 (iMax_ok (by decide : okI 0) (nm_ok _)) hb4a hb4b dX5_scrub_28 (fun S5 H locs e5 hW5 hS => ?_)
    replace h := h S5 e5
    refine m_aload_n (pc := 29) C.1 dX5_scrub_29 rfl hl 1 rfl ?_
    refine g_3_3 (pc := 30) C hW5 kr0 q_142 dX5_scrub_30 ?_
    refine m_iload_n (pc := 33) C.1 dX5_scrub_33 rfl hl 2 rfl ?_
    refine lv_dup2_11 (pc := 34) C.1.1 C.1.2.1 dX5_scrub_34 rfl rfl ?_
    obtain ⟨hb6a, hb6b, h⟩ := h
    refine m_iald (pc := 35) C.1 C.2.1 hW5 (k_3_3 kr0) ox1 hb6a hb6b dX5_scrub_35 ?_
    refine m_iload (pc := 36) C.1 dX5_scrub_36 hl 5 rfl ?_
    refine m_iconst (pc := 38) C.1 dX5_scrub_38 ?_
    refine m_ixor (pc := 39) C.1 dX5_scrub_39 ?_
    refine m_iand (pc := 40) C.1 dX5_scrub_40 ?_
    obtain ⟨hb7a, hb7b, h⟩ := h
    refine m_iast (pc := 41) C.1 C.2.1 hW5 hS (k_3_3 kr0) ox1 (bAnd_ok _ _) hb7a hb7b dX5_scrub_41 (fun S8 H locs e8 hW8 hS => ?_)
    replace h := h S8 e8
    refine m_aload_n (pc := 42) C.1 dX5_scrub_42 rfl hl 1 rfl ?_
    refine g_3_1 (pc := 43) C hW8 kr0 q_135 dX5_scrub_43 ?_
    refine m_iload_n (pc := 46) C.1 dX5_scrub_46 rfl hl 2 rfl ?_
    refine m_bipush (pc := 47) C.1 dX5_scrub_47 rfl ?_
    refine m_aload_n (pc := 49) C.1 dX5_scrub_49 rfl hl 1 rfl ?_
    refine g_3_1 (pc := 50) C hW8 kr0 q_135 dX5_scrub_50 ?_
    refine m_iload_n (pc := 53) C.1 dX5_scrub_53 rfl hl 2 rfl ?_
    obtain ⟨hb9a, hb9b, h⟩ := h
    refine m_iald (pc := 54) C.1 C.2.1 hW8 (k_3_1 kr0) ox1 hb9a hb9b dX5_scrub_54 ?_
    refine m_iconst (pc := 55) C.1 dX5_scrub_55 ?_
    refine m_iadd (pc := 56) C.1 dX5_scrub_56 ?_
    refine m_iload_n (pc := 57) C.1 dX5_scrub_57 rfl hl 4 rfl ?_
    refine m_iadd (pc := 58) C.1 dX5_scrub_58 ?_
    refine m_min (pc := 59) C.1 C.2.2.1 hl.1 (by decide : okI 9) (nm_ok _) q_1073 q_520 q_93 q_521 (by refine ⟨?_, Nat.le_of_ble_eq_true rfl, ?_, ?_⟩ <;> decide) dX5_scrub_59 ?_
    obtain ⟨hb10a, hb10b, h⟩ := h
    refine m_iast (pc := 62) C.1 C.2.1 hW8 hS (k_3_1 kr0) ox1 (iMin_ok (by decide : okI 9) (nm_ok _)) hb10a hb10b dX5_scrub_62 (fun S11 H locs e11 hW11 hS => ?_)
    replace h := h S11 e11
    refine m_aload_n (pc := 63) C.1 dX5_scrub_63 rfl hl 1 rfl ?_
    refine g_3_2 (pc := 64) C hW11 kr0 q_139 dX5_scrub_64 ?_
    refine m_iload_n (pc := 67) C.1 dX5_scrub_67 rfl hl 2 rfl ?_
    refine m_bipush (pc := 68) C.1 dX5_scrub_68 rfl ?_
    obtain ⟨hb12a, hb12b, h⟩ := h
    refine m_iast (pc := 70) C.1 C.2.1 hW11 hS (k_3_2 kr0) ox1 (by decide : okI 9) hb12a hb12b dX5_scrub_70 (fun S13 H locs e13 hW13 hS => ?_)
    replace h := h S13 e13
    refine m_aload_n (pc := 71) C.1 dX5_scrub_71 rfl hl 1 rfl ?_
    refine m_iload_n (pc := 72) C.1 dX5_scrub_72 rfl hl 2 rfl ?_
    refine m_iconst (pc := 73) C.1 dX5_scrub_73 ?_
    refine m_callVv (pc := 74) C.1 C.2.2.1 hl.1 C.2.1 hW13 hS (As := [.int (mI x1), .int (mI 0)]) (rest := []) (r := r0) (T_X5_setHung C.2.2.2.2.2.2 N r0 kr0 x1 ox1 0 (by decide : okI 0) h) kr0 rfl q_1074 q_1075 q_1076 q_83 q_1077 pl_X5_setHung (by decide) (Nat.le_of_ble_eq_true rfl) dX5_scrub_74 (fun S14 H locs h hW14 hS => ?_)
    refine m_iload (pc := 77) C.1 dX5_scrub_77 hl 0 rfl ?_
    exact m_iret (pc := 79) C.1 C.2.2.2.1 C.2.2.2.2.1 hW14 hS ov2 h (by decide) (by decide) dX5_scrub_79) sz
section
variable {p : Program} {l : Launch} {e : Env} {s : State} {m : MethodId} {args : Array Value} {below : List Frame} {meth : Method} {c : Code} {g : mG} {b : Nat}
end
def w_X5_goAhead (N : Nat) (r0 : Nat) (r1 : Nat) (x2 : Int) (S : mSt) (Q : mSt → Prop) : Prop :=
  ∀ S1 : mSt, S1 = mup S r0 8 x2 → w_X5_air N r0 r1 S1 (fun (S2 : mSt) (v2 : Int) => ∀ S3 : mSt, S3 = mup S2 r0 7 (nm ((S2 r0 7) + 1)) → Q S3)
theorem T_X5_goAhead {l : Launch} (hl0 : l.stackTraces = false) {g : mG} {b : Nat} (N : Nat) (r0 : Nat) (kr0 : KX r0 = (0, 3, 0)) (r1 : Nat) (kr1 : KX r1 = (0, 2, 0)) (x2 : Int) (ox2 : okI x2) {S : mSt} {Q : mSt → Prop} (h : w_X5_goAhead N r0 r1 x2 S Q) (sz : Nat) : vx_Met l yX5_goAhead (Cond.code yX5_goAhead cX5_goAhead 3 none :: wsG) { frames := 5, cells := 0, slots := 0, locals := 119 } (mPc g b KX S [.ref (b + r0), .ref (b + r1), .int (mI x2)] sz) (mQv g b KX Q (mA b KX sz)) (mEx g b KX (fun _ _ => False) (mA b KX sz)) 0 0 (mA b KX sz) :=
  m_of (av := [.ref (b + r0), .ref (b + r1), .int (mI x2)]) (Qf := fun A => mQv g b KX Q A) (Xf := fun A => mEx g b KX (fun _ _ => False) A) (by decide) (Nat.le_of_ble_eq_true rfl) (fun p e s m args below meth c ls X hK hml hr hlk hout hnm hW hl => by
    have C : mC p l s m args meth c cX5_goAhead "MoonWash$Moon" 3 none g := ⟨X, hK, hml, hr, hlk, hout, hl0⟩
    have hS : va_S (mA b KX s.heap.size) s.heap s.heap [] := va_S.rf
    have hl : lv_has ls 3 [(0, .ref (b + r0)), (1, .ref (b + r1)), (2, .int (mI x2))] := hl
    unfold w_X5_goAhead at h
    refine m_aload_n (pc := 0) C.1 dX5_goAhead_0 rfl hl 0 rfl ?_
    refine m_iload_n (pc := 1) C.1 dX5_goAhead_1 rfl hl 2 rfl ?_
    refine p_3_8 (pc := 2) C hW hS kr0 q_160 ox2 dX5_goAhead_2 (fun S1 H locs e1 hW1 hS => ?_)
    replace h := h S1 e1
    refine m_aload_n (pc := 5) C.1 dX5_goAhead_5 rfl hl 0 rfl ?_
    refine m_aload_n (pc := 6) C.1 dX5_goAhead_6 rfl hl 1 rfl ?_
    refine m_callVi (pc := 7) C.1 C.2.2.1 hl.1 C.2.1 hW1 hS (As := [.ref (b + r1)]) (rest := []) (r := r0) (T_X5_air C.2.2.2.2.2.2 N r0 kr0 r1 kr1 h) kr0 rfl q_1278 q_1135 q_1136 q_83 q_1137 pl_X5_air (by decide) (Nat.le_of_ble_eq_true rfl) dX5_goAhead_7 (fun v2 S2 H locs ov2 h hW2 hS => ?_)
    refine lv_pop (pc := 10) C.1.1 C.1.2.1 dX5_goAhead_10 rfl ?_
    refine m_aload_n (pc := 11) C.1 dX5_goAhead_11 rfl hl 0 rfl ?_
    refine lv_dup (pc := 12) C.1.1 C.1.2.1 dX5_goAhead_12 rfl ?_
    refine g_3_7 (pc := 13) C hW2 kr0 q_156 dX5_goAhead_13 ?_
    refine m_iconst (pc := 16) C.1 dX5_goAhead_16 ?_
    refine m_iadd (pc := 17) C.1 dX5_goAhead_17 ?_
    refine p_3_7 (pc := 18) C hW2 hS kr0 q_156 (nm_ok _) dX5_goAhead_18 (fun S3 H locs e3 hW3 hS => ?_)
    replace h := h S3 e3
    exact m_vret (pc := 21) C.1 C.2.2.2.1 C.2.2.2.2.1 hW3 hS h (by decide) (by decide) dX5_goAhead_21) sz
section
variable {p : Program} {l : Launch} {e : Env} {s : State} {m : MethodId} {args : Array Value} {below : List Frame} {meth : Method} {c : Code} {g : mG} {b : Nat}
def w_X5_nightsTillDry_30b (N : Nat) (Q : mSt → Int → Prop) (ko30 : Nat → Nat → Int → Int → mSt → Prop) (ko88 : mSt → Prop) (r0 : Nat) (r1 : Nat) (x2 : Int) (x4 : Int) (S : mSt) : Prop :=
  ((40 < x4 → ko88 S) ∧ (x4 ≤ 40 → (0 ≤ x2 ∧ x2 < 8 ∧ w_X3_driesBy N r1 r0 x2 S (fun (S2 : mSt) (v2 : Int) => (0 ≤ x2 ∧ x2 < 8 ∧ ∀ S4 : mSt, S4 = mup S2 (r0 + 3) x2 (iMax 0 (nm ((S (r0 + 3) x2) - v2))) → ∀ S5 : mSt, S5 = mup S4 r0 7 (nm ((S4 r0 7) + 1)) → (0 ≤ x2 ∧ x2 < 8 ∧ (((S5 (r0 + 3) x2) ≠ 0 → ∀ v7 : Int, v7 = nm (x4 + 1) → ko30 r0 r1 x2 v7 S5) ∧ ((S5 (r0 + 3) x2) = 0 → Q S5 x4))))))))
theorem W_X5_nightsTillDry_30b (C : mC p l s m args meth c cX5_nightsTillDry "MoonWash$Moon" 5 (some FieldType.int) g) (N : Nat) {Q : mSt → Int → Prop} {ko30 : Nat → Nat → Int → Int → mSt → Prop} {ko88 : mSt → Prop} (hko30 : ∀ (r0 : Nat) (kr0 : KX r0 = (0, 3, 0)) (r1 : Nat) (kr1 : KX r1 = (0, 2, 0)) (x2 : Int) (ox2 : okI x2) (x4 : Int) (ox4 : okI x4) (S : mSt) (H : Heap) (locs : List Loc) (ls : Array Slot), lv_has ls 5 [(0, .ref (b + r0)), (1, .ref (b + r1)), (2, .int (mI x2)), (4, .int (mI x4))] → mW g b KX S H → va_S (mA b KX s.heap.size) s.heap H locs → ko30 r0 r1 x2 x4 S → W p l e { frames := 4, cells := 0, slots := 0, locals := 96 } s m args below meth c H locs 0 0 (vx_MQ below (mQi g b KX Q (mA b KX s.heap.size)) (mEx g b KX (fun _ _ => False) (mA b KX s.heap.size)) args s 0 0 (mA b KX s.heap.size)) (F0 m 30 ls [])) (hko88 : ∀  (S : mSt) (H : Heap) (locs : List Loc) (ls : Array Slot), lv_has ls 5 [] → mW g b KX S H → va_S (mA b KX s.heap.size) s.heap H locs → ko88 S → W p l e { frames := 4, cells := 0, slots := 0, locals := 96 } s m args below meth c H locs 0 0 (vx_MQ below (mQi g b KX Q (mA b KX s.heap.size)) (mEx g b KX (fun _ _ => False) (mA b KX s.heap.size)) args s 0 0 (mA b KX s.heap.size)) (F0 m 88 ls [])) (r0 : Nat) (kr0 : KX r0 = (0, 3, 0)) (r1 : Nat) (kr1 : KX r1 = (0, 2, 0)) (x2 : Int) (ox2 : okI x2) (x4 : Int) (ox4 : okI x4) (S : mSt) (H : Heap) (locs : List Loc) (ls : Array Slot) (hl : lv_has ls 5 [(0, .ref (b + r0)), (1, .ref (b + r1)), (2, .int (mI x2)), (4, .int (mI x4))]) (hW : mW g b KX S H) (hS : va_S (mA b KX s.heap.size) s.heap H locs) (h : w_X5_nightsTillDry_30b N Q ko30 ko88 r0 r1 x2 x4 S) : W p l e { frames := 4, cells := 0, slots := 0, locals := 96 } s m args below meth c H locs 0 0 (vx_MQ below (mQi g b KX Q (mA b KX s.heap.size)) (mEx g b KX (fun _ _ => False) (mA b KX s.heap.size)) args s 0 0 (mA b KX s.heap.size)) (F0 m 30 ls []) := by
  unfold w_X5_nightsTillDry_30b at h
  refine m_iload (pc := 30) C.1 dX5_nightsTillDry_30 hl 3 rfl ?_
  refine m_bipush (pc := 32) C.1 dX5_nightsTillDry_32 rfl ?_
  refine m_icmp_gt (pc := 34) (tgt := 88) C.1 ox4 (by decide : okI 40) dX5_nightsTillDry_34 (by decide) (fun hc => ?_) (fun hc => ?_)
  · replace h := h.1 hc
    exact hko88  S _ _ _ (lv_sub hl [] rfl) hW hS h
  · replace h := h.2 hc
    refine m_aload_n (pc := 37) C.1 dX5_nightsTillDry_37 rfl hl 0 rfl ?_
    refine g_3_2 (pc := 38) C hW kr0 q_139 dX5_nightsTillDry_38 ?_
    refine m_iload_n (pc := 41) C.1 dX5_nightsTillDry_41 rfl hl 2 rfl ?_
    refine m_iconst (pc := 42) C.1 dX5_nightsTillDry_42 ?_
    refine m_aload_n (pc := 43) C.1 dX5_nightsTillDry_43 rfl hl 0 rfl ?_
    refine g_3_2 (pc := 44) C hW kr0 q_139 dX5_nightsTillDry_44 ?_
    refine m_iload_n (pc := 47) C.1 dX5_nightsTillDry_47 rfl hl 2 rfl ?_
    obtain ⟨hb1a, hb1b, h⟩ := h
    refine m_iald (pc := 48) C.1 C.2.1 hW (k_3_2 kr0) ox2 hb1a hb1b dX5_nightsTillDry_48 ?_
    refine m_aload_n (pc := 49) C.1 dX5_nightsTillDry_49 rfl hl 1 rfl ?_
    refine m_aload_n (pc := 50) C.1 dX5_nightsTillDry_50 rfl hl 0 rfl ?_
    refine m_iload_n (pc := 51) C.1 dX5_nightsTillDry_51 rfl hl 2 rfl ?_
    refine m_callVi (pc := 52) C.1 C.2.2.1 hl.1 C.2.1 hW hS (As := [.ref (b + r0), .int (mI x2)]) (rest := [.int (mI (S (r0 + 3) x2)), .int (mI 0), .int (mI x2), .ref (b + (r0 + 3))]) (r := r1) (T_X3_driesBy C.2.2.2.2.2.2 N r1 kr1 r0 kr0 x2 ox2 h) kr1 rfl q_1139 q_956 q_957 q_84 q_958 pl_X3_driesBy (by decide) (Nat.le_of_ble_eq_true rfl) dX5_nightsTillDry_52 (fun v2 S2 H locs ov2 h hW2 hS => ?_)
    refine m_isub (pc := 55) C.1 dX5_nightsTillDry_55 ?_
    refine m_max (pc := 56) C.1 C.2.2.1 hl.1 (by decide : okI 0) (nm_ok _) q_1072 q_523 q_93 q_524 (by refine ⟨?_, Nat.le_of_ble_eq_true rfl, ?_, ?_⟩ <;> decide) dX5_nightsTillDry_56 ?_
    obtain ⟨hb3a, hb3b, h⟩ := h
    refine m_iast (pc := 59) C.1 C.2.1 hW2 hS (k_3_2 kr0) ox2 (iMax_ok (by decide : okI 0) (nm_ok _)) hb3a hb3b dX5_nightsTillDry_59 (fun S4 H locs e4 hW4 hS => ?_)
    replace h := h S4 e4
    refine m_aload_n (pc := 60) C.1 dX5_nightsTillDry_60 rfl hl 0 rfl ?_
    refine lv_dup (pc := 61) C.1.1 C.1.2.1 dX5_nightsTillDry_61 rfl ?_
    refine g_3_7 (pc := 62) C hW4 kr0 q_156 dX5_nightsTillDry_62 ?_
    refine m_iconst (pc := 65) C.1 dX5_nightsTillDry_65 ?_
    refine m_iadd (pc := 66) C.1 dX5_nightsTillDry_66 ?_
    refine p_3_7 (pc := 67) C hW4 hS kr0 q_156 (nm_ok _) dX5_nightsTillDry_67 (fun S5 H locs e5 hW5 hS => ?_)
    replace h := h S5 e5
    refine m_aload_n (pc := 70) C.1 dX5_nightsTillDry_70 rfl hl 0 rfl ?_
    refine g_3_2 (pc := 71) C hW5 kr0 q_139 dX5_nightsTillDry_71 ?_
    refine m_iload_n (pc := 74) C.1 dX5_nightsTillDry_74 rfl hl 2 rfl ?_
    obtain ⟨hb6a, hb6b, h⟩ := h
    refine m_iald (pc := 75) C.1 C.2.1 hW5 (k_3_2 kr0) ox2 hb6a hb6b dX5_nightsTillDry_75 ?_
    refine m_if_ne (pc := 76) (tgt := 82) C.1 (hW5.2.1 _ _) dX5_nightsTillDry_76 (by decide) (fun hc => ?_) (fun hc => ?_)
    · replace h := h.1 hc
      refine m_iinc (pc := 82) C.1 dX5_nightsTillDry_82 hl (by decide) (q0 := 3) rfl (fun v => [(4, .int v), (0, .ref (b + r0)), (1, .ref (b + r1)), (2, .int (mI x2))]) (fun _ => rfl) (fun v7 ls ev7 ov7 hl => ?_)
      replace h := h v7 ev7
      refine m_goto (pc := 85) (tgt := 30) C.1 dX5_nightsTillDry_85 (by decide) ?_
      exact hko30 r0 kr0 r1 kr1 x2 ox2 v7 ov7 S5 _ _ _ (lv_sub hl [1, 2, 3, 0] rfl) hW5 hS h
    · replace h := h.2 hc
      refine m_iload (pc := 79) C.1 dX5_nightsTillDry_79 hl 3 rfl ?_
      exact m_iret (pc := 81) C.1 C.2.2.2.1 C.2.2.2.2.1 hW5 hS ox4 h (by decide) (by decide) dX5_nightsTillDry_81
def w_X5_nightsTillDry_30 (N : Nat) (Q : mSt → Int → Prop) (ko88 : mSt → Prop) : Nat → Nat → Nat → Int → Int → mSt → Prop
  | 0 => fun _ _ _ _ _ => False
  | k + 1 => w_X5_nightsTillDry_30b N Q (w_X5_nightsTillDry_30 N Q ko88 k) ko88
theorem W_X5_nightsTillDry_30 (C : mC p l s m args meth c cX5_nightsTillDry "MoonWash$Moon" 5 (some FieldType.int) g) (N : Nat) {Q : mSt → Int → Prop} {ko88 : mSt → Prop} (hko88 : ∀  (S : mSt) (H : Heap) (locs : List Loc) (ls : Array Slot), lv_has ls 5 [] → mW g b KX S H → va_S (mA b KX s.heap.size) s.heap H locs → ko88 S → W p l e { frames := 4, cells := 0, slots := 0, locals := 96 } s m args below meth c H locs 0 0 (vx_MQ below (mQi g b KX Q (mA b KX s.heap.size)) (mEx g b KX (fun _ _ => False) (mA b KX s.heap.size)) args s 0 0 (mA b KX s.heap.size)) (F0 m 88 ls [])) : ∀ (k : Nat) (r0 : Nat) (kr0 : KX r0 = (0, 3, 0)) (r1 : Nat) (kr1 : KX r1 = (0, 2, 0)) (x2 : Int) (ox2 : okI x2) (x4 : Int) (ox4 : okI x4) (S : mSt) (H : Heap) (locs : List Loc) (ls : Array Slot) (hl : lv_has ls 5 [(0, .ref (b + r0)), (1, .ref (b + r1)), (2, .int (mI x2)), (4, .int (mI x4))]) (hW : mW g b KX S H) (hS : va_S (mA b KX s.heap.size) s.heap H locs) (h : w_X5_nightsTillDry_30 N Q ko88 k r0 r1 x2 x4 S), W p l e { frames := 4, cells := 0, slots := 0, locals := 96 } s m args below meth c H locs 0 0 (vx_MQ below (mQi g b KX Q (mA b KX s.heap.size)) (mEx g b KX (fun _ _ => False) (mA b KX s.heap.size)) args s 0 0 (mA b KX s.heap.size)) (F0 m 30 ls []) := by
  intro k
  induction k with
  | zero => intro r0 kr0 r1 kr1 x2 ox2 x4 ox4 S H locs ls hl hW hS h; exact False.elim h
  | succ k ih => intro r0 kr0 r1 kr1 x2 ox2 x4 ox4 S H locs ls hl hW hS h; exact W_X5_nightsTillDry_30b C N ih hko88 r0 kr0 r1 kr1 x2 ox2 x4 ox4 S H locs ls hl hW hS h
end
def w_X5_nightsTillDry (N : Nat) (r0 : Nat) (r1 : Nat) (x2 : Int) (x3 : Int) (S : mSt) (Q : mSt → Int → Prop) : Prop :=
  (0 ≤ x2 ∧ x2 < 8 ∧ (((S (r0 + 3) x2) ≠ 0 → w_X5_isHung N r0 x2 S (fun (S2 : mSt) (v2 : Int) => ((v2 ≠ 0 → ∀ S3 : mSt, S3 = mup S2 r0 8 x3 → ∀ v4 : Int, v4 = 1 → w_X5_nightsTillDry_30 N Q (fun  (S_5 : mSt) => Q S_5 41) N r0 r1 x2 v4 S3) ∧ (v2 = 0 → Q S2 41)))) ∧ ((S (r0 + 3) x2) = 0 → Q S 0)))
theorem T_X5_nightsTillDry {l : Launch} (hl0 : l.stackTraces = false) {g : mG} {b : Nat} (N : Nat) (r0 : Nat) (kr0 : KX r0 = (0, 3, 0)) (r1 : Nat) (kr1 : KX r1 = (0, 2, 0)) (x2 : Int) (ox2 : okI x2) (x3 : Int) (ox3 : okI x3) {S : mSt} {Q : mSt → Int → Prop} (h : w_X5_nightsTillDry N r0 r1 x2 x3 S Q) (sz : Nat) : vx_Met l yX5_nightsTillDry (Cond.code yX5_nightsTillDry cX5_nightsTillDry 5 (some FieldType.int) :: wsG) { frames := 4, cells := 0, slots := 0, locals := 96 } (mPc g b KX S [.ref (b + r0), .ref (b + r1), .int (mI x2), .int (mI x3)] sz) (mQi g b KX Q (mA b KX sz)) (mEx g b KX (fun _ _ => False) (mA b KX sz)) 0 0 (mA b KX sz) :=
  m_of (av := [.ref (b + r0), .ref (b + r1), .int (mI x2), .int (mI x3)]) (Qf := fun A => mQi g b KX Q A) (Xf := fun A => mEx g b KX (fun _ _ => False) A) (by decide) (Nat.le_of_ble_eq_true rfl) (fun p e s m args below meth c ls X hK hml hr hlk hout hnm hW hl => by
    have C : mC p l s m args meth c cX5_nightsTillDry "MoonWash$Moon" 5 (some FieldType.int) g := ⟨X, hK, hml, hr, hlk, hout, hl0⟩
    have hS : va_S (mA b KX s.heap.size) s.heap s.heap [] := va_S.rf
    have hl : lv_has ls 5 [(0, .ref (b + r0)), (1, .ref (b + r1)), (2, .int (mI x2)), (3, .int (mI x3))] := hl
    unfold w_X5_nightsTillDry at h
    refine m_aload_n (pc := 0) C.1 dX5_nightsTillDry_0 rfl hl 0 rfl ?_
    refine g_3_2 (pc := 1) C hW kr0 q_139 dX5_nightsTillDry_1 ?_
    refine m_iload_n (pc := 4) C.1 dX5_nightsTillDry_4 rfl hl 2 rfl ?_
    obtain ⟨hb1a, hb1b, h⟩ := h
    refine m_iald (pc := 5) C.1 C.2.1 hW (k_3_2 kr0) ox2 hb1a hb1b dX5_nightsTillDry_5 ?_
    refine m_if_ne (pc := 6) (tgt := 11) C.1 (hW.2.1 _ _) dX5_nightsTillDry_6 (by decide) (fun hc => ?_) (fun hc => ?_)
    · replace h := h.1 hc
      refine m_aload_n (pc := 11) C.1 dX5_nightsTillDry_11 rfl hl 0 rfl ?_
      refine m_iload_n (pc := 12) C.1 dX5_nightsTillDry_12 rfl hl 2 rfl ?_
      refine m_callVi (pc := 13) C.1 C.2.2.1 hl.1 C.2.1 hW hS (As := [.int (mI x2)]) (rest := []) (r := r0) (T_X5_isHung C.2.2.2.2.2.2 N r0 kr0 x2 ox2 h) kr0 rfl q_1138 q_491 q_492 q_83 q_493 pl_X5_isHung (by decide) (Nat.le_of_ble_eq_true rfl) dX5_nightsTillDry_13 (fun v2 S2 H locs ov2 h hW2 hS => ?_)
      refine m_if_ne (pc := 16) (tgt := 22) C.1 ov2 dX5_nightsTillDry_16 (by decide) (fun hc => ?_) (fun hc => ?_)
      · replace h := h.1 hc
        refine m_aload_n (pc := 22) C.1 dX5_nightsTillDry_22 rfl hl 0 rfl ?_
        refine m_iload_n (pc := 23) C.1 dX5_nightsTillDry_23 rfl hl 3 rfl ?_
        refine p_3_8 (pc := 24) C hW2 hS kr0 q_160 ox3 dX5_nightsTillDry_24 (fun S3 H locs e3 hW3 hS => ?_)
        replace h := h S3 e3
        refine m_iconst (pc := 27) C.1 dX5_nightsTillDry_27 ?_
        refine m_istore (pc := 28) C.1 dX5_nightsTillDry_28 hl (by decide) (fun v => [(4, .int v), (0, .ref (b + r0)), (1, .ref (b + r1)), (2, .int (mI x2)), (3, .int (mI x3))]) (fun _ => rfl) (by decide : okI 1) (fun v4 ls ev4 ov4 hl => ?_)
        replace h := h v4 ev4
        refine W_X5_nightsTillDry_30 C N ?_ N r0 kr0 r1 kr1 x2 ox2 v4 ov4 S3 _ _ _ (lv_sub hl [1, 2, 3, 0] rfl) hW3 hS h
        · intro S_5 H locs ls hl hW_5 hS h
          refine m_bipush (pc := 88) C.1 dX5_nightsTillDry_88 rfl ?_
          exact m_iret (pc := 90) C.1 C.2.2.2.1 C.2.2.2.2.1 hW_5 hS (by decide : okI 41) h (by decide) (by decide) dX5_nightsTillDry_90
      · replace h := h.2 hc
        refine m_bipush (pc := 19) C.1 dX5_nightsTillDry_19 rfl ?_
        exact m_iret (pc := 21) C.1 C.2.2.2.1 C.2.2.2.2.1 hW2 hS (by decide : okI 41) h (by decide) (by decide) dX5_nightsTillDry_21
    · replace h := h.2 hc
      refine m_iconst (pc := 9) C.1 dX5_nightsTillDry_9 ?_
      exact m_iret (pc := 10) C.1 C.2.2.2.1 C.2.2.2.2.1 hW hS (by decide : okI 0) h (by decide) (by decide) dX5_nightsTillDry_10) sz
section
variable {p : Program} {l : Launch} {e : Env} {s : State} {m : MethodId} {args : Array Value} {below : List Frame} {meth : Method} {c : Code} {g : mG} {b : Nat}
end
def w_X6_keep (N : Nat) (r0 : Nat) (r1 : Nat) (S : mSt) (Q : mSt → Prop) : Prop :=
  (0 ≤ (S r0 1) ∧ (S r0 1) < 12 ∧ w_X2_become N ((r0 + 1) + 1 + 11 * (S r0 1).toNat) r1 S (fun (S2 : mSt) => ∀ S3 : mSt, S3 = mup S2 r0 1 (iRem (nm ((S2 r0 1) + 1)) 12) → ∀ S4 : mSt, S4 = mup S3 r0 2 (iMin 12 (nm ((S3 r0 2) + 1))) → Q S4))
theorem T_X6_keep {l : Launch} (hl0 : l.stackTraces = false) {g : mG} {b : Nat} (N : Nat) (r0 : Nat) (kr0 : KX r0 = (0, 4, 0)) (r1 : Nat) (kr1 : KX r1 = (0, 1, 0)) {S : mSt} {Q : mSt → Prop} (h : w_X6_keep N r0 r1 S Q) (sz : Nat) : vx_Met l yX6_keep (Cond.code yX6_keep cX6_keep 2 none :: wsG) { frames := 3, cells := 0, slots := 0, locals := 162 } (mPc g b KX S [.ref (b + r0), .ref (b + r1)] sz) (mQv g b KX Q (mA b KX sz)) (mEx g b KX (fun _ _ => False) (mA b KX sz)) 0 0 (mA b KX sz) :=
  m_of (av := [.ref (b + r0), .ref (b + r1)]) (Qf := fun A => mQv g b KX Q A) (Xf := fun A => mEx g b KX (fun _ _ => False) A) (by decide) (Nat.le_of_ble_eq_true rfl) (fun p e s m args below meth c ls X hK hml hr hlk hout hnm hW hl => by
    have C : mC p l s m args meth c cX6_keep "MoonWash$Past" 2 none g := ⟨X, hK, hml, hr, hlk, hout, hl0⟩
    have hS : va_S (mA b KX s.heap.size) s.heap s.heap [] := va_S.rf
    have hl : lv_has ls 2 [(0, .ref (b + r0)), (1, .ref (b + r1))] := hl
    unfold w_X6_keep at h
    refine m_aload_n (pc := 0) C.1 dX6_keep_0 rfl hl 0 rfl ?_
    refine g_4_0 (pc := 1) C hW kr0 q_316 dX6_keep_1 ?_
    refine m_aload_n (pc := 4) C.1 dX6_keep_4 rfl hl 0 rfl ?_
    refine g_4_1 (pc := 5) C hW kr0 q_317 dX6_keep_5 ?_
    obtain ⟨hb1a, hb1b, h⟩ := h
    refine m_aald3 (pc := 8) C.1 C.2.1 hW (k_4_0 kr0) (hW.2.1 _ _) hb1a hb1b dX6_keep_8 ?_
    refine m_aload_n (pc := 9) C.1 dX6_keep_9 rfl hl 1 rfl ?_
    refine m_callVv (pc := 10) C.1 C.2.2.1 hl.1 C.2.1 hW hS (As := [.ref (b + r1)]) (rest := []) (r := ((r0 + 1) + 1 + 11 * (S r0 1).toNat)) (T_X2_become C.2.2.2.2.2.2 N ((r0 + 1) + 1 + 11 * (S r0 1).toNat) (k_rows (k_4_0 kr0) hb1a hb1b) r1 kr1 h) (k_rows (k_4_0 kr0) hb1a hb1b) rfl q_460 q_461 q_462 q_82 q_463 pl_X2_become (by decide) (Nat.le_of_ble_eq_true rfl) dX6_keep_10 (fun S2 H locs h hW2 hS => ?_)
    refine m_aload_n (pc := 13) C.1 dX6_keep_13 rfl hl 0 rfl ?_
    refine m_aload_n (pc := 14) C.1 dX6_keep_14 rfl hl 0 rfl ?_
    refine g_4_1 (pc := 15) C hW2 kr0 q_317 dX6_keep_15 ?_
    refine m_iconst (pc := 18) C.1 dX6_keep_18 ?_
    refine m_iadd (pc := 19) C.1 dX6_keep_19 ?_
    refine m_bipush (pc := 20) C.1 dX6_keep_20 rfl ?_
    refine m_irem (pc := 22) C.1 (by decide : okI 12) (by decide) dX6_keep_22 ?_
    refine p_4_1 (pc := 23) C hW2 hS kr0 q_317 (iRem_ok _ _) dX6_keep_23 (fun S3 H locs e3 hW3 hS => ?_)
    replace h := h S3 e3
    refine m_aload_n (pc := 26) C.1 dX6_keep_26 rfl hl 0 rfl ?_
    refine m_bipush (pc := 27) C.1 dX6_keep_27 rfl ?_
    refine m_aload_n (pc := 29) C.1 dX6_keep_29 rfl hl 0 rfl ?_
    refine g_4_2 (pc := 30) C hW3 kr0 q_318 dX6_keep_30 ?_
    refine m_iconst (pc := 33) C.1 dX6_keep_33 ?_
    refine m_iadd (pc := 34) C.1 dX6_keep_34 ?_
    refine m_min (pc := 35) C.1 C.2.2.1 hl.1 (by decide : okI 12) (nm_ok _) q_1067 q_520 q_93 q_521 (by refine ⟨?_, Nat.le_of_ble_eq_true rfl, ?_, ?_⟩ <;> decide) dX6_keep_35 ?_
    refine p_4_2 (pc := 38) C hW3 hS kr0 q_318 (iMin_ok (by decide : okI 12) (nm_ok _)) dX6_keep_38 (fun S4 H locs e4 hW4 hS => ?_)
    replace h := h S4 e4
    exact m_vret (pc := 41) C.1 C.2.2.2.1 C.2.2.2.2.1 hW4 hS h (by decide) (by decide) dX6_keep_41) sz
section
variable {p : Program} {l : Launch} {e : Env} {s : State} {m : MethodId} {args : Array Value} {below : List Frame} {meth : Method} {c : Code} {g : mG} {b : Nat}
end
def w_X6_giveBack (N : Nat) (r0 : Nat) (r1 : Nat) (S : mSt) (Q : mSt → Int → Prop) : Prop :=
  (((S r0 2) ≠ 0 → ∀ S1 : mSt, S1 = mup S r0 2 (nm ((S r0 2) - 1)) → ∀ S2 : mSt, S2 = mup S1 r0 1 (iRem (nm ((nm ((S1 r0 1) + 12)) - 1)) 12) → (0 ≤ (S2 r0 1) ∧ (S2 r0 1) < 12 ∧ w_X2_become N r1 ((r0 + 1) + 1 + 11 * (S2 r0 1).toNat) S2 (fun (S4 : mSt) => Q S4 1))) ∧ ((S r0 2) = 0 → Q S 0))
theorem T_X6_giveBack {l : Launch} (hl0 : l.stackTraces = false) {g : mG} {b : Nat} (N : Nat) (r0 : Nat) (kr0 : KX r0 = (0, 4, 0)) (r1 : Nat) (kr1 : KX r1 = (0, 1, 0)) {S : mSt} {Q : mSt → Int → Prop} (h : w_X6_giveBack N r0 r1 S Q) (sz : Nat) : vx_Met l yX6_giveBack (Cond.code yX6_giveBack cX6_giveBack 2 (some FieldType.boolean) :: wsG) { frames := 3, cells := 0, slots := 0, locals := 162 } (mPc g b KX S [.ref (b + r0), .ref (b + r1)] sz) (mQi g b KX Q (mA b KX sz)) (mEx g b KX (fun _ _ => False) (mA b KX sz)) 0 0 (mA b KX sz) :=
  m_of (av := [.ref (b + r0), .ref (b + r1)]) (Qf := fun A => mQi g b KX Q A) (Xf := fun A => mEx g b KX (fun _ _ => False) A) (by decide) (Nat.le_of_ble_eq_true rfl) (fun p e s m args below meth c ls X hK hml hr hlk hout hnm hW hl => by
    have C : mC p l s m args meth c cX6_giveBack "MoonWash$Past" 2 (some FieldType.boolean) g := ⟨X, hK, hml, hr, hlk, hout, hl0⟩
    have hS : va_S (mA b KX s.heap.size) s.heap s.heap [] := va_S.rf
    have hl : lv_has ls 2 [(0, .ref (b + r0)), (1, .ref (b + r1))] := hl
    unfold w_X6_giveBack at h
    refine m_aload_n (pc := 0) C.1 dX6_giveBack_0 rfl hl 0 rfl ?_
    refine g_4_2 (pc := 1) C hW kr0 q_318 dX6_giveBack_1 ?_
    refine m_if_ne (pc := 4) (tgt := 9) C.1 (hW.2.1 _ _) dX6_giveBack_4 (by decide) (fun hc => ?_) (fun hc => ?_)
    · replace h := h.1 hc
      refine m_aload_n (pc := 9) C.1 dX6_giveBack_9 rfl hl 0 rfl ?_
      refine lv_dup (pc := 10) C.1.1 C.1.2.1 dX6_giveBack_10 rfl ?_
      refine g_4_2 (pc := 11) C hW kr0 q_318 dX6_giveBack_11 ?_
      refine m_iconst (pc := 14) C.1 dX6_giveBack_14 ?_
      refine m_isub (pc := 15) C.1 dX6_giveBack_15 ?_
      refine p_4_2 (pc := 16) C hW hS kr0 q_318 (nm_ok _) dX6_giveBack_16 (fun S1 H locs e1 hW1 hS => ?_)
      replace h := h S1 e1
      refine m_aload_n (pc := 19) C.1 dX6_giveBack_19 rfl hl 0 rfl ?_
      refine m_aload_n (pc := 20) C.1 dX6_giveBack_20 rfl hl 0 rfl ?_
      refine g_4_1 (pc := 21) C hW1 kr0 q_317 dX6_giveBack_21 ?_
      refine m_bipush (pc := 24) C.1 dX6_giveBack_24 rfl ?_
      refine m_iadd (pc := 26) C.1 dX6_giveBack_26 ?_
      refine m_iconst (pc := 27) C.1 dX6_giveBack_27 ?_
      refine m_isub (pc := 28) C.1 dX6_giveBack_28 ?_
      refine m_bipush (pc := 29) C.1 dX6_giveBack_29 rfl ?_
      refine m_irem (pc := 31) C.1 (by decide : okI 12) (by decide) dX6_giveBack_31 ?_
      refine p_4_1 (pc := 32) C hW1 hS kr0 q_317 (iRem_ok _ _) dX6_giveBack_32 (fun S2 H locs e2 hW2 hS => ?_)
      replace h := h S2 e2
      refine m_aload_n (pc := 35) C.1 dX6_giveBack_35 rfl hl 1 rfl ?_
      refine m_aload_n (pc := 36) C.1 dX6_giveBack_36 rfl hl 0 rfl ?_
      refine g_4_0 (pc := 37) C hW2 kr0 q_316 dX6_giveBack_37 ?_
      refine m_aload_n (pc := 40) C.1 dX6_giveBack_40 rfl hl 0 rfl ?_
      refine g_4_1 (pc := 41) C hW2 kr0 q_317 dX6_giveBack_41 ?_
      obtain ⟨hb3a, hb3b, h⟩ := h
      refine m_aald3 (pc := 44) C.1 C.2.1 hW2 (k_4_0 kr0) (hW2.2.1 _ _) hb3a hb3b dX6_giveBack_44 ?_
      refine m_callVv (pc := 45) C.1 C.2.2.1 hl.1 C.2.1 hW2 hS (As := [.ref (b + ((r0 + 1) + 1 + 11 * (S2 r0 1).toNat))]) (rest := []) (r := r1) (T_X2_become C.2.2.2.2.2.2 N r1 kr1 ((r0 + 1) + 1 + 11 * (S2 r0 1).toNat) (k_rows (k_4_0 kr0) hb3a hb3b) h) kr1 rfl q_460 q_461 q_462 q_82 q_463 pl_X2_become (by decide) (Nat.le_of_ble_eq_true rfl) dX6_giveBack_45 (fun S4 H locs h hW4 hS => ?_)
      refine m_iconst (pc := 48) C.1 dX6_giveBack_48 ?_
      exact m_zret (pc := 49) C.1 C.2.2.2.1 C.2.2.2.2.1 hW4 hS (by decide) h (by decide) (by decide) dX6_giveBack_49
    · replace h := h.2 hc
      refine m_iconst (pc := 7) C.1 dX6_giveBack_7 ?_
      exact m_zret (pc := 8) C.1 C.2.2.2.1 C.2.2.2.2.1 hW hS (by decide) h (by decide) (by decide) dX6_giveBack_8) sz
section
variable {p : Program} {l : Launch} {e : Env} {s : State} {m : MethodId} {args : Array Value} {below : List Frame} {meth : Method} {c : Code} {g : mG} {b : Nat}
end
def w_X6_forget (N : Nat) (r0 : Nat) (S : mSt) (Q : mSt → Prop) : Prop :=
  ∀ S1 : mSt, S1 = mup S r0 2 0 → Q S1
theorem T_X6_forget {l : Launch} (hl0 : l.stackTraces = false) {g : mG} {b : Nat} (N : Nat) (r0 : Nat) (kr0 : KX r0 = (0, 4, 0)) {S : mSt} {Q : mSt → Prop} (h : w_X6_forget N r0 S Q) (sz : Nat) : vx_Met l yX6_forget (Cond.code yX6_forget cX6_forget 1 none :: wsG) { frames := 0, cells := 0, slots := 0, locals := 0 } (mPc g b KX S [.ref (b + r0)] sz) (mQv g b KX Q (mA b KX sz)) (mEx g b KX (fun _ _ => False) (mA b KX sz)) 0 0 (mA b KX sz) :=
  m_of (av := [.ref (b + r0)]) (Qf := fun A => mQv g b KX Q A) (Xf := fun A => mEx g b KX (fun _ _ => False) A) (by decide) (Nat.le_of_ble_eq_true rfl) (fun p e s m args below meth c ls X hK hml hr hlk hout hnm hW hl => by
    have C : mC p l s m args meth c cX6_forget "MoonWash$Past" 1 none g := ⟨X, hK, hml, hr, hlk, hout, hl0⟩
    have hS : va_S (mA b KX s.heap.size) s.heap s.heap [] := va_S.rf
    have hl : lv_has ls 1 [(0, .ref (b + r0))] := hl
    unfold w_X6_forget at h
    refine m_aload_n (pc := 0) C.1 dX6_forget_0 rfl hl 0 rfl ?_
    refine m_iconst (pc := 1) C.1 dX6_forget_1 ?_
    refine p_4_2 (pc := 2) C hW hS kr0 q_318 (by decide : okI 0) dX6_forget_2 (fun S1 H locs e1 hW1 hS => ?_)
    replace h := h S1 e1
    exact m_vret (pc := 5) C.1 C.2.2.2.1 C.2.2.2.2.1 hW1 hS h (by decide) (by decide) dX6_forget_5) sz
section
variable {p : Program} {l : Launch} {e : Env} {s : State} {m : MethodId} {args : Array Value} {below : List Frame} {meth : Method} {c : Code} {g : mG} {b : Nat}
end
def w_X7_tell (N : Nat) (r0 : Nat) (x1 : Int) (x2 : Int) (x3 : Int) (S : mSt) (Q : mSt → Prop) : Prop :=
  (0 ≤ x1 ∧ x1 < 8 ∧ (0 ≤ x2 ∧ x2 < 8 ∧ ∀ S3 : mSt, S3 = mup S ((r0 + 1) + 1 + x1.toNat) x2 x3 → Q S3))
theorem T_X7_tell {l : Launch} (hl0 : l.stackTraces = false) {g : mG} {b : Nat} (N : Nat) (r0 : Nat) (kr0 : KX r0 = (0, 5, 0)) (x1 : Int) (ox1 : okI x1) (x2 : Int) (ox2 : okI x2) (x3 : Int) (ox3 : okI x3) {S : mSt} {Q : mSt → Prop} (h : w_X7_tell N r0 x1 x2 x3 S Q) (sz : Nat) : vx_Met l yX7_tell (Cond.code yX7_tell cX7_tell 4 none :: wsG) { frames := 0, cells := 0, slots := 0, locals := 0 } (mPc g b KX S [.ref (b + r0), .int (mI x1), .int (mI x2), .int (mI x3)] sz) (mQv g b KX Q (mA b KX sz)) (mEx g b KX (fun _ _ => False) (mA b KX sz)) 0 0 (mA b KX sz) :=
  m_of (av := [.ref (b + r0), .int (mI x1), .int (mI x2), .int (mI x3)]) (Qf := fun A => mQv g b KX Q A) (Xf := fun A => mEx g b KX (fun _ _ => False) A) (by decide) (Nat.le_of_ble_eq_true rfl) (fun p e s m args below meth c ls X hK hml hr hlk hout hnm hW hl => by
    have C : mC p l s m args meth c cX7_tell "MoonWash$PegPlan" 4 none g := ⟨X, hK, hml, hr, hlk, hout, hl0⟩
    have hS : va_S (mA b KX s.heap.size) s.heap s.heap [] := va_S.rf
    have hl : lv_has ls 4 [(0, .ref (b + r0)), (1, .int (mI x1)), (2, .int (mI x2)), (3, .int (mI x3))] := hl
    unfold w_X7_tell at h
    refine m_aload_n (pc := 0) C.1 dX7_tell_0 rfl hl 0 rfl ?_
    refine g_5_0 (pc := 1) C hW kr0 q_384 dX7_tell_1 ?_
    refine m_iload_n (pc := 4) C.1 dX7_tell_4 rfl hl 1 rfl ?_
    obtain ⟨hb1a, hb1b, h⟩ := h
    refine m_aald4 (pc := 5) C.1 C.2.1 hW (k_5_0 kr0) ox1 hb1a hb1b dX7_tell_5 ?_
    refine m_iload_n (pc := 6) C.1 dX7_tell_6 rfl hl 2 rfl ?_
    refine m_iload_n (pc := 7) C.1 dX7_tell_7 rfl hl 3 rfl ?_
    obtain ⟨hb2a, hb2b, h⟩ := h
    refine m_iast (pc := 8) C.1 C.2.1 hW hS (k_grid (k_5_0 kr0) hb1a hb1b) ox2 ox3 hb2a hb2b dX7_tell_8 (fun S3 H locs e3 hW3 hS => ?_)
    replace h := h S3 e3
    exact m_vret (pc := 9) C.1 C.2.2.2.1 C.2.2.2.2.1 hW3 hS h (by decide) (by decide) dX7_tell_9) sz
section
variable {p : Program} {l : Launch} {e : Env} {s : State} {m : MethodId} {args : Array Value} {below : List Frame} {meth : Method} {c : Code} {g : mG} {b : Nat}
end
def w_X7_nightsWith (N : Nat) (r0 : Nat) (x1 : Int) (x2 : Int) (x3 : Int) (S : mSt) (Q : mSt → Int → Prop) : Prop :=
  (0 ≤ x1 ∧ x1 < 8 ∧ (0 ≤ x2 ∧ x2 < 8 ∧ (0 ≤ (bOr x3 (bShl 1 x2)) ∧ (bOr x3 (bShl 1 x2)) < 256 ∧ Q S (iMax (S ((r0 + 1) + 1 + x1.toNat) x2) (S (r0 + 10) (bOr x3 (bShl 1 x2)))))))
theorem T_X7_nightsWith {l : Launch} (hl0 : l.stackTraces = false) {g : mG} {b : Nat} (N : Nat) (r0 : Nat) (kr0 : KX r0 = (0, 5, 0)) (x1 : Int) (ox1 : okI x1) (x2 : Int) (ox2 : okI x2) (x3 : Int) (ox3 : okI x3) {S : mSt} {Q : mSt → Int → Prop} (h : w_X7_nightsWith N r0 x1 x2 x3 S Q) (sz : Nat) : vx_Met l yX7_nightsWith (Cond.code yX7_nightsWith cX7_nightsWith 4 (some FieldType.int) :: wsG) { frames := 1, cells := 0, slots := 0, locals := 30 } (mPc g b KX S [.ref (b + r0), .int (mI x1), .int (mI x2), .int (mI x3)] sz) (mQi g b KX Q (mA b KX sz)) (mEx g b KX (fun _ _ => False) (mA b KX sz)) 0 0 (mA b KX sz) :=
  m_of (av := [.ref (b + r0), .int (mI x1), .int (mI x2), .int (mI x3)]) (Qf := fun A => mQi g b KX Q A) (Xf := fun A => mEx g b KX (fun _ _ => False) A) (by decide) (Nat.le_of_ble_eq_true rfl) (fun p e s m args below meth c ls X hK hml hr hlk hout hnm hW hl => by
    have C : mC p l s m args meth c cX7_nightsWith "MoonWash$PegPlan" 4 (some FieldType.int) g := ⟨X, hK, hml, hr, hlk, hout, hl0⟩
    have hS : va_S (mA b KX s.heap.size) s.heap s.heap [] := va_S.rf
    have hl : lv_has ls 4 [(0, .ref (b + r0)), (1, .int (mI x1)), (2, .int (mI x2)), (3, .int (mI x3))] := hl
    unfold w_X7_nightsWith at h
    refine m_aload_n (pc := 0) C.1 dX7_nightsWith_0 rfl hl 0 rfl ?_
    refine g_5_0 (pc := 1) C hW kr0 q_384 dX7_nightsWith_1 ?_
    refine m_iload_n (pc := 4) C.1 dX7_nightsWith_4 rfl hl 1 rfl ?_
    obtain ⟨hb1a, hb1b, h⟩ := h
    refine m_aald4 (pc := 5) C.1 C.2.1 hW (k_5_0 kr0) ox1 hb1a hb1b dX7_nightsWith_5 ?_
    refine m_iload_n (pc := 6) C.1 dX7_nightsWith_6 rfl hl 2 rfl ?_
    obtain ⟨hb2a, hb2b, h⟩ := h
    refine m_iald (pc := 7) C.1 C.2.1 hW (k_grid (k_5_0 kr0) hb1a hb1b) ox2 hb2a hb2b dX7_nightsWith_7 ?_
    refine m_aload_n (pc := 8) C.1 dX7_nightsWith_8 rfl hl 0 rfl ?_
    refine g_5_1 (pc := 9) C hW kr0 q_386 dX7_nightsWith_9 ?_
    refine m_iload_n (pc := 12) C.1 dX7_nightsWith_12 rfl hl 3 rfl ?_
    refine m_iconst (pc := 13) C.1 dX7_nightsWith_13 ?_
    refine m_iload_n (pc := 14) C.1 dX7_nightsWith_14 rfl hl 2 rfl ?_
    refine m_ishl (pc := 15) C.1 dX7_nightsWith_15 ?_
    refine m_ior (pc := 16) C.1 dX7_nightsWith_16 ?_
    obtain ⟨hb3a, hb3b, h⟩ := h
    refine m_iald (pc := 17) C.1 C.2.1 hW (k_5_1 kr0) (bOr_ok _ _) hb3a hb3b dX7_nightsWith_17 ?_
    refine m_max (pc := 18) C.1 C.2.2.1 hl.1 (hW.2.1 _ _) (hW.2.1 _ _) q_1246 q_523 q_93 q_524 (by refine ⟨?_, Nat.le_of_ble_eq_true rfl, ?_, ?_⟩ <;> decide) dX7_nightsWith_18 ?_
    exact m_iret (pc := 21) C.1 C.2.2.2.1 C.2.2.2.2.1 hW hS (iMax_ok (hW.2.1 _ _) (hW.2.1 _ _)) h (by decide) (by decide) dX7_nightsWith_21) sz
section
variable {p : Program} {l : Launch} {e : Env} {s : State} {m : MethodId} {args : Array Value} {below : List Frame} {meth : Method} {c : Code} {g : mG} {b : Nat}
def w_X7_fill_57 (N : Nat) (Q : mSt → Prop) (ko28 : Nat → Int → Int → Int → Int → mSt → Prop) (r0 : Nat) (x1 : Int) (x2 : Int) (x3 : Int) (x4 : Int) (S : mSt) : Prop :=
  ∀ v1 : Int, v1 = nm (x4 + 1) → ko28 r0 x1 x2 x3 v1 S
theorem W_X7_fill_57 (C : mC p l s m args meth c cX7_fill "MoonWash$PegPlan" 5 none g) (N : Nat) {Q : mSt → Prop} {ko28 : Nat → Int → Int → Int → Int → mSt → Prop} (hko28 : ∀ (r0 : Nat) (kr0 : KX r0 = (0, 5, 0)) (x1 : Int) (ox1 : okI x1) (x2 : Int) (ox2 : okI x2) (x3 : Int) (ox3 : okI x3) (x4 : Int) (ox4 : okI x4) (S : mSt) (H : Heap) (locs : List Loc) (ls : Array Slot), lv_has ls 5 [(0, .ref (b + r0)), (1, .int (mI x1)), (2, .int (mI x2)), (3, .int (mI x3)), (4, .int (mI x4))] → mW g b KX S H → va_S (mA b KX s.heap.size) s.heap H locs → ko28 r0 x1 x2 x3 x4 S → W p l e { frames := 2, cells := 0, slots := 0, locals := 53 } s m args below meth c H locs 0 0 (vx_MQ below (mQv g b KX Q (mA b KX s.heap.size)) (mEx g b KX (fun _ _ => False) (mA b KX s.heap.size)) args s 0 0 (mA b KX s.heap.size)) (F0 m 28 ls [])) (r0 : Nat) (kr0 : KX r0 = (0, 5, 0)) (x1 : Int) (ox1 : okI x1) (x2 : Int) (ox2 : okI x2) (x3 : Int) (ox3 : okI x3) (x4 : Int) (ox4 : okI x4) (S : mSt) (H : Heap) (locs : List Loc) (ls : Array Slot) (hl : lv_has ls 5 [(0, .ref (b + r0)), (1, .int (mI x1)), (2, .int (mI x2)), (3, .int (mI x3)), (4, .int (mI x4))]) (hW : mW g b KX S H) (hS : va_S (mA b KX s.heap.size) s.heap H locs) (h : w_X7_fill_57 N Q ko28 r0 x1 x2 x3 x4 S) : W p l e { frames := 2, cells := 0, slots := 0, locals := 53 } s m args below meth c H locs 0 0 (vx_MQ below (mQv g b KX Q (mA b KX s.heap.size)) (mEx g b KX (fun _ _ => False) (mA b KX s.heap.size)) args s 0 0 (mA b KX s.heap.size)) (F0 m 57 ls []) := by
  unfold w_X7_fill_57 at h
  refine m_iinc (pc := 57) C.1 dX7_fill_57 hl (by decide) (q0 := 4) rfl (fun v => [(4, .int v), (0, .ref (b + r0)), (1, .int (mI x1)), (2, .int (mI x2)), (3, .int (mI x3))]) (fun _ => rfl) (fun v1 ls ev1 ov1 hl => ?_)
  replace h := h v1 ev1
  refine m_goto (pc := 60) (tgt := 28) C.1 dX7_fill_60 (by decide) ?_
  exact hko28 r0 kr0 x1 ox1 x2 ox2 x3 ox3 v1 ov1 S _ _ _ (lv_sub hl [1, 2, 3, 4, 0] rfl) hW hS h
def w_X7_fill_28b (N : Nat) (Q : mSt → Prop) (ko28 : Nat → Int → Int → Int → Int → mSt → Prop) (ko63 : Nat → Int → Int → mSt → Prop) (r0 : Nat) (x1 : Int) (x2 : Int) (x3 : Int) (x4 : Int) (S : mSt) : Prop :=
  ((8 ≤ x4 → ko63 r0 x1 x3 S) ∧ (x4 < 8 → (((bAnd (bShr x1 x4) 1) ≠ 0 → w_X7_fill_57 N Q ko28 r0 x1 x2 x3 x4 S) ∧ ((bAnd (bShr x1 x4) 1) = 0 → w_X7_nightsWith N r0 x2 x4 x1 S (fun (S1 : mSt) (v1 : Int) => ∀ v2 : Int, v2 = (iMin x3 v1) → w_X7_fill_57 N Q ko28 r0 x1 x2 v2 x4 S1)))))
theorem W_X7_fill_28b (C : mC p l s m args meth c cX7_fill "MoonWash$PegPlan" 5 none g) (N : Nat) {Q : mSt → Prop} {ko28 : Nat → Int → Int → Int → Int → mSt → Prop} {ko63 : Nat → Int → Int → mSt → Prop} (hko28 : ∀ (r0 : Nat) (kr0 : KX r0 = (0, 5, 0)) (x1 : Int) (ox1 : okI x1) (x2 : Int) (ox2 : okI x2) (x3 : Int) (ox3 : okI x3) (x4 : Int) (ox4 : okI x4) (S : mSt) (H : Heap) (locs : List Loc) (ls : Array Slot), lv_has ls 5 [(0, .ref (b + r0)), (1, .int (mI x1)), (2, .int (mI x2)), (3, .int (mI x3)), (4, .int (mI x4))] → mW g b KX S H → va_S (mA b KX s.heap.size) s.heap H locs → ko28 r0 x1 x2 x3 x4 S → W p l e { frames := 2, cells := 0, slots := 0, locals := 53 } s m args below meth c H locs 0 0 (vx_MQ below (mQv g b KX Q (mA b KX s.heap.size)) (mEx g b KX (fun _ _ => False) (mA b KX s.heap.size)) args s 0 0 (mA b KX s.heap.size)) (F0 m 28 ls [])) (hko63 : ∀ (r0 : Nat) (kr0 : KX r0 = (0, 5, 0)) (x1 : Int) (ox1 : okI x1) (x3 : Int) (ox3 : okI x3) (S : mSt) (H : Heap) (locs : List Loc) (ls : Array Slot), lv_has ls 5 [(0, .ref (b + r0)), (1, .int (mI x1)), (3, .int (mI x3))] → mW g b KX S H → va_S (mA b KX s.heap.size) s.heap H locs → ko63 r0 x1 x3 S → W p l e { frames := 2, cells := 0, slots := 0, locals := 53 } s m args below meth c H locs 0 0 (vx_MQ below (mQv g b KX Q (mA b KX s.heap.size)) (mEx g b KX (fun _ _ => False) (mA b KX s.heap.size)) args s 0 0 (mA b KX s.heap.size)) (F0 m 63 ls [])) (r0 : Nat) (kr0 : KX r0 = (0, 5, 0)) (x1 : Int) (ox1 : okI x1) (x2 : Int) (ox2 : okI x2) (x3 : Int) (ox3 : okI x3) (x4 : Int) (ox4 : okI x4) (S : mSt) (H : Heap) (locs : List Loc) (ls : Array Slot) (hl : lv_has ls 5 [(0, .ref (b + r0)), (1, .int (mI x1)), (2, .int (mI x2)), (3, .int (mI x3)), (4, .int (mI x4))]) (hW : mW g b KX S H) (hS : va_S (mA b KX s.heap.size) s.heap H locs) (h : w_X7_fill_28b N Q ko28 ko63 r0 x1 x2 x3 x4 S) : W p l e { frames := 2, cells := 0, slots := 0, locals := 53 } s m args below meth c H locs 0 0 (vx_MQ below (mQv g b KX Q (mA b KX s.heap.size)) (mEx g b KX (fun _ _ => False) (mA b KX s.heap.size)) args s 0 0 (mA b KX s.heap.size)) (F0 m 28 ls []) := by
  unfold w_X7_fill_28b at h
  refine m_iload (pc := 28) C.1 dX7_fill_28 hl 4 rfl ?_
  refine m_bipush (pc := 30) C.1 dX7_fill_30 rfl ?_
  refine m_icmp_ge (pc := 32) (tgt := 63) C.1 ox4 (by decide : okI 8) dX7_fill_32 (by decide) (fun hc => ?_) (fun hc => ?_)
  · replace h := h.1 hc
    exact hko63 r0 kr0 x1 ox1 x3 ox3 S _ _ _ (lv_sub hl [0, 1, 3] rfl) hW hS h
  · replace h := h.2 hc
    refine m_iload_n (pc := 35) C.1 dX7_fill_35 rfl hl 1 rfl ?_
    refine m_iload (pc := 36) C.1 dX7_fill_36 hl 4 rfl ?_
    refine m_ishr (pc := 38) C.1 dX7_fill_38 ?_
    refine m_iconst (pc := 39) C.1 dX7_fill_39 ?_
    refine m_iand (pc := 40) C.1 dX7_fill_40 ?_
    refine m_if_ne (pc := 41) (tgt := 57) C.1 (bAnd_ok _ _) dX7_fill_41 (by decide) (fun hc => ?_) (fun hc => ?_)
    · replace h := h.1 hc
      exact W_X7_fill_57 C N hko28 r0 kr0 x1 ox1 x2 ox2 x3 ox3 x4 ox4 S _ _ _ (lv_sub hl [0, 1, 2, 3, 4] rfl) hW hS h
    · replace h := h.2 hc
      refine m_iload_n (pc := 44) C.1 dX7_fill_44 rfl hl 3 rfl ?_
      refine m_aload_n (pc := 45) C.1 dX7_fill_45 rfl hl 0 rfl ?_
      refine m_iload_n (pc := 46) C.1 dX7_fill_46 rfl hl 2 rfl ?_
      refine m_iload (pc := 47) C.1 dX7_fill_47 hl 4 rfl ?_
      refine m_iload_n (pc := 49) C.1 dX7_fill_49 rfl hl 1 rfl ?_
      refine m_callVi (pc := 50) C.1 C.2.2.1 hl.1 C.2.1 hW hS (As := [.int (mI x2), .int (mI x4), .int (mI x1)]) (rest := [.int (mI x3)]) (r := r0) (T_X7_nightsWith C.2.2.2.2.2.2 N r0 kr0 x2 ox2 x4 ox4 x1 ox1 h) kr0 rfl q_1242 q_1244 q_17 q_91 q_1245 pl_X7_nightsWith (by decide) (Nat.le_of_ble_eq_true rfl) dX7_fill_50 (fun v1 S1 H locs ov1 h hW1 hS => ?_)
      refine m_min (pc := 53) C.1 C.2.2.1 hl.1 ox3 ov1 q_1247 q_520 q_93 q_521 (by refine ⟨?_, Nat.le_of_ble_eq_true rfl, ?_, ?_⟩ <;> decide) dX7_fill_53 ?_
      refine m_istore_n (pc := 56) C.1 dX7_fill_56 rfl hl (by decide) (fun v => [(3, .int v), (0, .ref (b + r0)), (1, .int (mI x1)), (2, .int (mI x2)), (4, .int (mI x4))]) (fun _ => rfl) (iMin_ok ox3 ov1) (fun v2 ls ev2 ov2 hl => ?_)
      replace h := h v2 ev2
      exact W_X7_fill_57 C N hko28 r0 kr0 x1 ox1 x2 ox2 v2 ov2 x4 ox4 S1 _ _ _ (lv_sub hl [1, 2, 3, 0, 4] rfl) hW1 hS h
def w_X7_fill_28 (N : Nat) (Q : mSt → Prop) (ko63 : Nat → Int → Int → mSt → Prop) : Nat → Nat → Int → Int → Int → Int → mSt → Prop
  | 0 => fun _ _ _ _ _ _ => False
  | k + 1 => w_X7_fill_28b N Q (w_X7_fill_28 N Q ko63 k) ko63
theorem W_X7_fill_28 (C : mC p l s m args meth c cX7_fill "MoonWash$PegPlan" 5 none g) (N : Nat) {Q : mSt → Prop} {ko63 : Nat → Int → Int → mSt → Prop} (hko63 : ∀ (r0 : Nat) (kr0 : KX r0 = (0, 5, 0)) (x1 : Int) (ox1 : okI x1) (x3 : Int) (ox3 : okI x3) (S : mSt) (H : Heap) (locs : List Loc) (ls : Array Slot), lv_has ls 5 [(0, .ref (b + r0)), (1, .int (mI x1)), (3, .int (mI x3))] → mW g b KX S H → va_S (mA b KX s.heap.size) s.heap H locs → ko63 r0 x1 x3 S → W p l e { frames := 2, cells := 0, slots := 0, locals := 53 } s m args below meth c H locs 0 0 (vx_MQ below (mQv g b KX Q (mA b KX s.heap.size)) (mEx g b KX (fun _ _ => False) (mA b KX s.heap.size)) args s 0 0 (mA b KX s.heap.size)) (F0 m 63 ls [])) : ∀ (k : Nat) (r0 : Nat) (kr0 : KX r0 = (0, 5, 0)) (x1 : Int) (ox1 : okI x1) (x2 : Int) (ox2 : okI x2) (x3 : Int) (ox3 : okI x3) (x4 : Int) (ox4 : okI x4) (S : mSt) (H : Heap) (locs : List Loc) (ls : Array Slot) (hl : lv_has ls 5 [(0, .ref (b + r0)), (1, .int (mI x1)), (2, .int (mI x2)), (3, .int (mI x3)), (4, .int (mI x4))]) (hW : mW g b KX S H) (hS : va_S (mA b KX s.heap.size) s.heap H locs) (h : w_X7_fill_28 N Q ko63 k r0 x1 x2 x3 x4 S), W p l e { frames := 2, cells := 0, slots := 0, locals := 53 } s m args below meth c H locs 0 0 (vx_MQ below (mQv g b KX Q (mA b KX s.heap.size)) (mEx g b KX (fun _ _ => False) (mA b KX s.heap.size)) args s 0 0 (mA b KX s.heap.size)) (F0 m 28 ls []) := by
  intro k
  induction k with
  | zero => intro r0 kr0 x1 ox1 x2 ox2 x3 ox3 x4 ox4 S H locs ls hl hW hS h; exact False.elim h
  | succ k ih => intro r0 kr0 x1 ox1 x2 ox2 x3 ox3 x4 ox4 S H locs ls hl hW hS h; exact W_X7_fill_28b C N ih hko63 r0 kr0 x1 ox1 x2 ox2 x3 ox3 x4 ox4 S H locs ls hl hW hS h
def w_X7_fill_13b (N : Nat) (Q : mSt → Prop) (ko13 : Nat → Int → mSt → Prop) (ko76 : mSt → Prop) (r0 : Nat) (x1 : Int) (S : mSt) : Prop :=
  ((x1 < 0 → ko76 S) ∧ (0 ≤ x1 → w_J6_bitCount_0f7a4 N x1 S (fun (S1 : mSt) (v1 : Int) => ∀ v2 : Int, v2 = v1 → ∀ v3 : Int, v3 = 41 → ∀ v4 : Int, v4 = 0 → w_X7_fill_28 N Q (fun (r0_5 : Nat) (x1_5 : Int) (x3_5 : Int) (S_5 : mSt) => (0 ≤ x1_5 ∧ x1_5 < 256 ∧ ∀ S7 : mSt, S7 = mup S_5 (r0_5 + 10) x1_5 x3_5 → ∀ v8 : Int, v8 = nm (x1_5 + (-1)) → ko13 r0_5 v8 S7)) N r0 x1 v2 v3 v4 S1)))
theorem W_X7_fill_13b (C : mC p l s m args meth c cX7_fill "MoonWash$PegPlan" 5 none g) (N : Nat) {Q : mSt → Prop} {ko13 : Nat → Int → mSt → Prop} {ko76 : mSt → Prop} (hko13 : ∀ (r0 : Nat) (kr0 : KX r0 = (0, 5, 0)) (x1 : Int) (ox1 : okI x1) (S : mSt) (H : Heap) (locs : List Loc) (ls : Array Slot), lv_has ls 5 [(0, .ref (b + r0)), (1, .int (mI x1))] → mW g b KX S H → va_S (mA b KX s.heap.size) s.heap H locs → ko13 r0 x1 S → W p l e { frames := 2, cells := 0, slots := 0, locals := 53 } s m args below meth c H locs 0 0 (vx_MQ below (mQv g b KX Q (mA b KX s.heap.size)) (mEx g b KX (fun _ _ => False) (mA b KX s.heap.size)) args s 0 0 (mA b KX s.heap.size)) (F0 m 13 ls [])) (hko76 : ∀  (S : mSt) (H : Heap) (locs : List Loc) (ls : Array Slot), lv_has ls 5 [] → mW g b KX S H → va_S (mA b KX s.heap.size) s.heap H locs → ko76 S → W p l e { frames := 2, cells := 0, slots := 0, locals := 53 } s m args below meth c H locs 0 0 (vx_MQ below (mQv g b KX Q (mA b KX s.heap.size)) (mEx g b KX (fun _ _ => False) (mA b KX s.heap.size)) args s 0 0 (mA b KX s.heap.size)) (F0 m 76 ls [])) (r0 : Nat) (kr0 : KX r0 = (0, 5, 0)) (x1 : Int) (ox1 : okI x1) (S : mSt) (H : Heap) (locs : List Loc) (ls : Array Slot) (hl : lv_has ls 5 [(0, .ref (b + r0)), (1, .int (mI x1))]) (hW : mW g b KX S H) (hS : va_S (mA b KX s.heap.size) s.heap H locs) (h : w_X7_fill_13b N Q ko13 ko76 r0 x1 S) : W p l e { frames := 2, cells := 0, slots := 0, locals := 53 } s m args below meth c H locs 0 0 (vx_MQ below (mQv g b KX Q (mA b KX s.heap.size)) (mEx g b KX (fun _ _ => False) (mA b KX s.heap.size)) args s 0 0 (mA b KX s.heap.size)) (F0 m 13 ls []) := by
  unfold w_X7_fill_13b at h
  refine m_iload_n (pc := 13) C.1 dX7_fill_13 rfl hl 1 rfl ?_
  refine m_if_lt (pc := 14) (tgt := 76) C.1 ox1 dX7_fill_14 (by decide) (fun hc => ?_) (fun hc => ?_)
  · replace h := h.1 hc
    exact hko76  S _ _ _ (lv_sub hl [] rfl) hW hS h
  · replace h := h.2 hc
    refine m_iload_n (pc := 17) C.1 dX7_fill_17 rfl hl 1 rfl ?_
    refine m_callSi (pc := 18) C.1 C.2.2.1 hl.1 C.2.1 hW hS (As := [.int (mI x1)]) (rest := []) (T_J6_bitCount_0f7a4 C.2.2.2.2.2.2 N x1 ox1 h) q_1241 q_507 q_107 q_508 pl_J6_bitCount_0f7a4 (by decide) (Nat.le_of_ble_eq_true rfl) dX7_fill_18 (fun v1 S1 H locs ov1 h hW1 hS => ?_)
    refine m_istore_n (pc := 21) C.1 dX7_fill_21 rfl hl (by decide) (fun v => [(2, .int v), (0, .ref (b + r0)), (1, .int (mI x1))]) (fun _ => rfl) ov1 (fun v2 ls ev2 ov2 hl => ?_)
    replace h := h v2 ev2
    refine m_bipush (pc := 22) C.1 dX7_fill_22 rfl ?_
    refine m_istore_n (pc := 24) C.1 dX7_fill_24 rfl hl (by decide) (fun v => [(3, .int v), (2, .int (mI v2)), (0, .ref (b + r0)), (1, .int (mI x1))]) (fun _ => rfl) (by decide : okI 41) (fun v3 ls ev3 ov3 hl => ?_)
    replace h := h v3 ev3
    refine m_iconst (pc := 25) C.1 dX7_fill_25 ?_
    refine m_istore (pc := 26) C.1 dX7_fill_26 hl (by decide) (fun v => [(4, .int v), (3, .int (mI v3)), (2, .int (mI v2)), (0, .ref (b + r0)), (1, .int (mI x1))]) (fun _ => rfl) (by decide : okI 0) (fun v4 ls ev4 ov4 hl => ?_)
    replace h := h v4 ev4
    refine W_X7_fill_28 C N ?_ N r0 kr0 x1 ox1 v2 ov2 v3 ov3 v4 ov4 S1 _ _ _ (lv_sub hl [3, 4, 2, 1, 0] rfl) hW1 hS h
    · intro r0_5 kr0_5 x1_5 ox1_5 x3_5 ox3_5 S_5 H locs ls hl hW_5 hS h
      refine m_aload_n (pc := 63) C.1 dX7_fill_63 rfl hl 0 rfl ?_
      refine g_5_1 (pc := 64) C hW_5 kr0_5 q_386 dX7_fill_64 ?_
      refine m_iload_n (pc := 67) C.1 dX7_fill_67 rfl hl 1 rfl ?_
      refine m_iload_n (pc := 68) C.1 dX7_fill_68 rfl hl 2 rfl ?_
      obtain ⟨hb6a, hb6b, h⟩ := h
      refine m_iast (pc := 69) C.1 C.2.1 hW_5 hS (k_5_1 kr0_5) ox1_5 ox3_5 hb6a hb6b dX7_fill_69 (fun S7 H locs e7 hW7 hS => ?_)
      replace h := h S7 e7
      refine m_iinc (pc := 70) C.1 dX7_fill_70 hl (by decide) (q0 := 1) rfl (fun v => [(1, .int v), (0, .ref (b + r0_5)), (3, .int (mI x3_5))]) (fun _ => rfl) (fun v8 ls ev8 ov8 hl => ?_)
      replace h := h v8 ev8
      refine m_goto (pc := 73) (tgt := 13) C.1 dX7_fill_73 (by decide) ?_
      exact hko13 r0_5 kr0_5 v8 ov8 S7 _ _ _ (lv_sub hl [1, 0] rfl) hW7 hS h
def w_X7_fill_13 (N : Nat) (Q : mSt → Prop) (ko76 : mSt → Prop) : Nat → Nat → Int → mSt → Prop
  | 0 => fun _ _ _ => False
  | k + 1 => w_X7_fill_13b N Q (w_X7_fill_13 N Q ko76 k) ko76
theorem W_X7_fill_13 (C : mC p l s m args meth c cX7_fill "MoonWash$PegPlan" 5 none g) (N : Nat) {Q : mSt → Prop} {ko76 : mSt → Prop} (hko76 : ∀  (S : mSt) (H : Heap) (locs : List Loc) (ls : Array Slot), lv_has ls 5 [] → mW g b KX S H → va_S (mA b KX s.heap.size) s.heap H locs → ko76 S → W p l e { frames := 2, cells := 0, slots := 0, locals := 53 } s m args below meth c H locs 0 0 (vx_MQ below (mQv g b KX Q (mA b KX s.heap.size)) (mEx g b KX (fun _ _ => False) (mA b KX s.heap.size)) args s 0 0 (mA b KX s.heap.size)) (F0 m 76 ls [])) : ∀ (k : Nat) (r0 : Nat) (kr0 : KX r0 = (0, 5, 0)) (x1 : Int) (ox1 : okI x1) (S : mSt) (H : Heap) (locs : List Loc) (ls : Array Slot) (hl : lv_has ls 5 [(0, .ref (b + r0)), (1, .int (mI x1))]) (hW : mW g b KX S H) (hS : va_S (mA b KX s.heap.size) s.heap H locs) (h : w_X7_fill_13 N Q ko76 k r0 x1 S), W p l e { frames := 2, cells := 0, slots := 0, locals := 53 } s m args below meth c H locs 0 0 (vx_MQ below (mQv g b KX Q (mA b KX s.heap.size)) (mEx g b KX (fun _ _ => False) (mA b KX s.heap.size)) args s 0 0 (mA b KX s.heap.size)) (F0 m 13 ls []) := by
  intro k
  induction k with
  | zero => intro r0 kr0 x1 ox1 S H locs ls hl hW hS h; exact False.elim h
  | succ k ih => intro r0 kr0 x1 ox1 S H locs ls hl hW hS h; exact W_X7_fill_13b C N ih hko76 r0 kr0 x1 ox1 S H locs ls hl hW hS h
end
def w_X7_fill (N : Nat) (r0 : Nat) (S : mSt) (Q : mSt → Prop) : Prop :=
  ∀ S1 : mSt, S1 = mup S (r0 + 10) 255 0 → ∀ v2 : Int, v2 = 254 → w_X7_fill_13 N Q (fun  (S_3 : mSt) => Q S_3) N r0 v2 S1
theorem T_X7_fill {l : Launch} (hl0 : l.stackTraces = false) {g : mG} {b : Nat} (N : Nat) (r0 : Nat) (kr0 : KX r0 = (0, 5, 0)) {S : mSt} {Q : mSt → Prop} (h : w_X7_fill N r0 S Q) (sz : Nat) : vx_Met l yX7_fill (Cond.code yX7_fill cX7_fill 5 none :: wsG) { frames := 2, cells := 0, slots := 0, locals := 53 } (mPc g b KX S [.ref (b + r0)] sz) (mQv g b KX Q (mA b KX sz)) (mEx g b KX (fun _ _ => False) (mA b KX sz)) 0 0 (mA b KX sz) :=
  m_of (av := [.ref (b + r0)]) (Qf := fun A => mQv g b KX Q A) (Xf := fun A => mEx g b KX (fun _ _ => False) A) (by decide) (Nat.le_of_ble_eq_true rfl) (fun p e s m args below meth c ls X hK hml hr hlk hout hnm hW hl => by
    have C : mC p l s m args meth c cX7_fill "MoonWash$PegPlan" 5 none g := ⟨X, hK, hml, hr, hlk, hout, hl0⟩
    have hS : va_S (mA b KX s.heap.size) s.heap s.heap [] := va_S.rf
    have hl : lv_has ls 5 [(0, .ref (b + r0))] := hl
    unfold w_X7_fill at h
    refine m_aload_n (pc := 0) C.1 dX7_fill_0 rfl hl 0 rfl ?_
    refine g_5_1 (pc := 1) C hW kr0 q_386 dX7_fill_1 ?_
    refine m_sipush (pc := 4) C.1 dX7_fill_4 rfl ?_
    refine m_iconst (pc := 7) C.1 dX7_fill_7 ?_
    refine m_iast (pc := 8) C.1 C.2.1 hW hS (k_5_1 kr0) (by decide : okI 255) (by decide : okI 0) (by decide) (by decide) dX7_fill_8 (fun S1 H locs e1 hW1 hS => ?_)
    replace h := h S1 e1
    refine m_sipush (pc := 9) C.1 dX7_fill_9 rfl ?_
    refine m_istore_n (pc := 12) C.1 dX7_fill_12 rfl hl (by decide) (fun v => [(1, .int v), (0, .ref (b + r0))]) (fun _ => rfl) (by decide : okI 254) (fun v2 ls ev2 ov2 hl => ?_)
    replace h := h v2 ev2
    refine W_X7_fill_13 C N ?_ N r0 kr0 v2 ov2 S1 _ _ _ (lv_sub hl [1, 0] rfl) hW1 hS h
    · intro S_3 H locs ls hl hW_3 hS h
      exact m_vret (pc := 76) C.1 C.2.2.2.1 C.2.2.2.2.1 hW_3 hS h (by decide) (by decide) dX7_fill_76) sz
section
variable {p : Program} {l : Launch} {e : Env} {s : State} {m : MethodId} {args : Array Value} {below : List Frame} {meth : Method} {c : Code} {g : mG} {b : Nat}
end
def w_X7_leastNights (N : Nat) (r0 : Nat) (S : mSt) (Q : mSt → Int → Prop) : Prop :=
  (((S (r0 + 10) 0) ≤ 40 → Q S (S (r0 + 10) 0)) ∧ (40 < (S (r0 + 10) 0) → Q S (-1)))
theorem T_X7_leastNights {l : Launch} (hl0 : l.stackTraces = false) {g : mG} {b : Nat} (N : Nat) (r0 : Nat) (kr0 : KX r0 = (0, 5, 0)) {S : mSt} {Q : mSt → Int → Prop} (h : w_X7_leastNights N r0 S Q) (sz : Nat) : vx_Met l yX7_leastNights (Cond.code yX7_leastNights cX7_leastNights 1 (some FieldType.int) :: wsG) { frames := 0, cells := 0, slots := 0, locals := 0 } (mPc g b KX S [.ref (b + r0)] sz) (mQi g b KX Q (mA b KX sz)) (mEx g b KX (fun _ _ => False) (mA b KX sz)) 0 0 (mA b KX sz) :=
  m_of (av := [.ref (b + r0)]) (Qf := fun A => mQi g b KX Q A) (Xf := fun A => mEx g b KX (fun _ _ => False) A) (by decide) (Nat.le_of_ble_eq_true rfl) (fun p e s m args below meth c ls X hK hml hr hlk hout hnm hW hl => by
    have C : mC p l s m args meth c cX7_leastNights "MoonWash$PegPlan" 1 (some FieldType.int) g := ⟨X, hK, hml, hr, hlk, hout, hl0⟩
    have hS : va_S (mA b KX s.heap.size) s.heap s.heap [] := va_S.rf
    have hl : lv_has ls 1 [(0, .ref (b + r0))] := hl
    unfold w_X7_leastNights at h
    refine m_aload_n (pc := 0) C.1 dX7_leastNights_0 rfl hl 0 rfl ?_
    refine g_5_1 (pc := 1) C hW kr0 q_386 dX7_leastNights_1 ?_
    refine m_iconst (pc := 4) C.1 dX7_leastNights_4 ?_
    refine m_iald (pc := 5) C.1 C.2.1 hW (k_5_1 kr0) (by decide : okI 0) (by decide) (by decide) dX7_leastNights_5 ?_
    refine m_bipush (pc := 6) C.1 dX7_leastNights_6 rfl ?_
    refine m_icmp_le (pc := 8) (tgt := 15) C.1 (hW.2.1 _ _) (by decide : okI 40) dX7_leastNights_8 (by decide) (fun hc => ?_) (fun hc => ?_)
    · replace h := h.1 hc
      refine m_aload_n (pc := 15) C.1 dX7_leastNights_15 rfl hl 0 rfl ?_
      refine g_5_1 (pc := 16) C hW kr0 q_386 dX7_leastNights_16 ?_
      refine m_iconst (pc := 19) C.1 dX7_leastNights_19 ?_
      refine m_iald (pc := 20) C.1 C.2.1 hW (k_5_1 kr0) (by decide : okI 0) (by decide) (by decide) dX7_leastNights_20 ?_
      exact m_iret (pc := 21) C.1 C.2.2.2.1 C.2.2.2.2.1 hW hS (hW.2.1 _ _) h (by decide) (by decide) dX7_leastNights_21
    · replace h := h.2 hc
      refine m_iconst (pc := 11) C.1 dX7_leastNights_11 ?_
      refine m_goto (pc := 12) (tgt := 21) C.1 dX7_leastNights_12 (by decide) ?_
      exact m_iret (pc := 21) C.1 C.2.2.2.1 C.2.2.2.2.1 hW hS (by decide : okI (-1)) h (by decide) (by decide) dX7_leastNights_21) sz
section
variable {p : Program} {l : Launch} {e : Env} {s : State} {m : MethodId} {args : Array Value} {below : List Frame} {meth : Method} {c : Code} {g : mG} {b : Nat}
def w_X7_firstPeg_34 (N : Nat) (Q : mSt → Int → Prop) (ko2 : Nat → Int → Int → Int → mSt → Prop) (r0 : Nat) (x1 : Int) (x2 : Int) (x3 : Int) (S : mSt) : Prop :=
  ∀ v1 : Int, v1 = nm (x3 + 1) → ko2 r0 x1 x2 v1 S
theorem W_X7_firstPeg_34 (C : mC p l s m args meth c cX7_firstPeg "MoonWash$PegPlan" 4 (some FieldType.int) g) (N : Nat) {Q : mSt → Int → Prop} {ko2 : Nat → Int → Int → Int → mSt → Prop} (hko2 : ∀ (r0 : Nat) (kr0 : KX r0 = (0, 5, 0)) (x1 : Int) (ox1 : okI x1) (x2 : Int) (ox2 : okI x2) (x3 : Int) (ox3 : okI x3) (S : mSt) (H : Heap) (locs : List Loc) (ls : Array Slot), lv_has ls 4 [(0, .ref (b + r0)), (1, .int (mI x1)), (2, .int (mI x2)), (3, .int (mI x3))] → mW g b KX S H → va_S (mA b KX s.heap.size) s.heap H locs → ko2 r0 x1 x2 x3 S → W p l e { frames := 2, cells := 0, slots := 0, locals := 53 } s m args below meth c H locs 0 0 (vx_MQ below (mQi g b KX Q (mA b KX s.heap.size)) (mEx g b KX (fun _ _ => False) (mA b KX s.heap.size)) args s 0 0 (mA b KX s.heap.size)) (F0 m 2 ls [])) (r0 : Nat) (kr0 : KX r0 = (0, 5, 0)) (x1 : Int) (ox1 : okI x1) (x2 : Int) (ox2 : okI x2) (x3 : Int) (ox3 : okI x3) (S : mSt) (H : Heap) (locs : List Loc) (ls : Array Slot) (hl : lv_has ls 4 [(0, .ref (b + r0)), (1, .int (mI x1)), (2, .int (mI x2)), (3, .int (mI x3))]) (hW : mW g b KX S H) (hS : va_S (mA b KX s.heap.size) s.heap H locs) (h : w_X7_firstPeg_34 N Q ko2 r0 x1 x2 x3 S) : W p l e { frames := 2, cells := 0, slots := 0, locals := 53 } s m args below meth c H locs 0 0 (vx_MQ below (mQi g b KX Q (mA b KX s.heap.size)) (mEx g b KX (fun _ _ => False) (mA b KX s.heap.size)) args s 0 0 (mA b KX s.heap.size)) (F0 m 34 ls []) := by
  unfold w_X7_firstPeg_34 at h
  refine m_iinc (pc := 34) C.1 dX7_firstPeg_34 hl (by decide) (q0 := 3) rfl (fun v => [(3, .int v), (0, .ref (b + r0)), (1, .int (mI x1)), (2, .int (mI x2))]) (fun _ => rfl) (fun v1 ls ev1 ov1 hl => ?_)
  replace h := h v1 ev1
  refine m_goto (pc := 37) (tgt := 2) C.1 dX7_firstPeg_37 (by decide) ?_
  exact hko2 r0 kr0 x1 ox1 x2 ox2 v1 ov1 S _ _ _ (lv_sub hl [1, 2, 3, 0] rfl) hW hS h
def w_X7_firstPeg_2b (N : Nat) (Q : mSt → Int → Prop) (ko2 : Nat → Int → Int → Int → mSt → Prop) (ko40 : mSt → Prop) (r0 : Nat) (x1 : Int) (x2 : Int) (x3 : Int) (S : mSt) : Prop :=
  ((8 ≤ x3 → ko40 S) ∧ (x3 < 8 → (((bAnd (bShr x2 x3) 1) ≠ 0 → w_X7_firstPeg_34 N Q ko2 r0 x1 x2 x3 S) ∧ ((bAnd (bShr x2 x3) 1) = 0 → w_X7_nightsWith N r0 x1 x3 x2 S (fun (S1 : mSt) (v1 : Int) => (((S1 (r0 + 10) 0) < v1 → w_X7_firstPeg_34 N Q ko2 r0 x1 x2 x3 S1) ∧ (v1 ≤ (S1 (r0 + 10) 0) → Q S1 x3)))))))
theorem W_X7_firstPeg_2b (C : mC p l s m args meth c cX7_firstPeg "MoonWash$PegPlan" 4 (some FieldType.int) g) (N : Nat) {Q : mSt → Int → Prop} {ko2 : Nat → Int → Int → Int → mSt → Prop} {ko40 : mSt → Prop} (hko2 : ∀ (r0 : Nat) (kr0 : KX r0 = (0, 5, 0)) (x1 : Int) (ox1 : okI x1) (x2 : Int) (ox2 : okI x2) (x3 : Int) (ox3 : okI x3) (S : mSt) (H : Heap) (locs : List Loc) (ls : Array Slot), lv_has ls 4 [(0, .ref (b + r0)), (1, .int (mI x1)), (2, .int (mI x2)), (3, .int (mI x3))] → mW g b KX S H → va_S (mA b KX s.heap.size) s.heap H locs → ko2 r0 x1 x2 x3 S → W p l e { frames := 2, cells := 0, slots := 0, locals := 53 } s m args below meth c H locs 0 0 (vx_MQ below (mQi g b KX Q (mA b KX s.heap.size)) (mEx g b KX (fun _ _ => False) (mA b KX s.heap.size)) args s 0 0 (mA b KX s.heap.size)) (F0 m 2 ls [])) (hko40 : ∀  (S : mSt) (H : Heap) (locs : List Loc) (ls : Array Slot), lv_has ls 4 [] → mW g b KX S H → va_S (mA b KX s.heap.size) s.heap H locs → ko40 S → W p l e { frames := 2, cells := 0, slots := 0, locals := 53 } s m args below meth c H locs 0 0 (vx_MQ below (mQi g b KX Q (mA b KX s.heap.size)) (mEx g b KX (fun _ _ => False) (mA b KX s.heap.size)) args s 0 0 (mA b KX s.heap.size)) (F0 m 40 ls [])) (r0 : Nat) (kr0 : KX r0 = (0, 5, 0)) (x1 : Int) (ox1 : okI x1) (x2 : Int) (ox2 : okI x2) (x3 : Int) (ox3 : okI x3) (S : mSt) (H : Heap) (locs : List Loc) (ls : Array Slot) (hl : lv_has ls 4 [(0, .ref (b + r0)), (1, .int (mI x1)), (2, .int (mI x2)), (3, .int (mI x3))]) (hW : mW g b KX S H) (hS : va_S (mA b KX s.heap.size) s.heap H locs) (h : w_X7_firstPeg_2b N Q ko2 ko40 r0 x1 x2 x3 S) : W p l e { frames := 2, cells := 0, slots := 0, locals := 53 } s m args below meth c H locs 0 0 (vx_MQ below (mQi g b KX Q (mA b KX s.heap.size)) (mEx g b KX (fun _ _ => False) (mA b KX s.heap.size)) args s 0 0 (mA b KX s.heap.size)) (F0 m 2 ls []) := by
  unfold w_X7_firstPeg_2b at h
  refine m_iload_n (pc := 2) C.1 dX7_firstPeg_2 rfl hl 3 rfl ?_
  refine m_bipush (pc := 3) C.1 dX7_firstPeg_3 rfl ?_
  refine m_icmp_ge (pc := 5) (tgt := 40) C.1 ox3 (by decide : okI 8) dX7_firstPeg_5 (by decide) (fun hc => ?_) (fun hc => ?_)
  · replace h := h.1 hc
    exact hko40  S _ _ _ (lv_sub hl [] rfl) hW hS h
  · replace h := h.2 hc
    refine m_iload_n (pc := 8) C.1 dX7_firstPeg_8 rfl hl 2 rfl ?_
    refine m_iload_n (pc := 9) C.1 dX7_firstPeg_9 rfl hl 3 rfl ?_
    refine m_ishr (pc := 10) C.1 dX7_firstPeg_10 ?_
    refine m_iconst (pc := 11) C.1 dX7_firstPeg_11 ?_
    refine m_iand (pc := 12) C.1 dX7_firstPeg_12 ?_
    refine m_if_ne (pc := 13) (tgt := 34) C.1 (bAnd_ok _ _) dX7_firstPeg_13 (by decide) (fun hc => ?_) (fun hc => ?_)
    · replace h := h.1 hc
      exact W_X7_firstPeg_34 C N hko2 r0 kr0 x1 ox1 x2 ox2 x3 ox3 S _ _ _ (lv_sub hl [0, 1, 2, 3] rfl) hW hS h
    · replace h := h.2 hc
      refine m_aload_n (pc := 16) C.1 dX7_firstPeg_16 rfl hl 0 rfl ?_
      refine m_iload_n (pc := 17) C.1 dX7_firstPeg_17 rfl hl 1 rfl ?_
      refine m_iload_n (pc := 18) C.1 dX7_firstPeg_18 rfl hl 3 rfl ?_
      refine m_iload_n (pc := 19) C.1 dX7_firstPeg_19 rfl hl 2 rfl ?_
      refine m_callVi (pc := 20) C.1 C.2.2.1 hl.1 C.2.1 hW hS (As := [.int (mI x1), .int (mI x3), .int (mI x2)]) (rest := []) (r := r0) (T_X7_nightsWith C.2.2.2.2.2.2 N r0 kr0 x1 ox1 x3 ox3 x2 ox2 h) kr0 rfl q_1242 q_1244 q_17 q_91 q_1245 pl_X7_nightsWith (by decide) (Nat.le_of_ble_eq_true rfl) dX7_firstPeg_20 (fun v1 S1 H locs ov1 h hW1 hS => ?_)
      refine m_aload_n (pc := 23) C.1 dX7_firstPeg_23 rfl hl 0 rfl ?_
      refine g_5_1 (pc := 24) C hW1 kr0 q_386 dX7_firstPeg_24 ?_
      refine m_iconst (pc := 27) C.1 dX7_firstPeg_27 ?_
      refine m_iald (pc := 28) C.1 C.2.1 hW1 (k_5_1 kr0) (by decide : okI 0) (by decide) (by decide) dX7_firstPeg_28 ?_
      refine m_icmp_gt (pc := 29) (tgt := 34) C.1 ov1 (hW1.2.1 _ _) dX7_firstPeg_29 (by decide) (fun hc => ?_) (fun hc => ?_)
      · replace h := h.1 hc
        exact W_X7_firstPeg_34 C N hko2 r0 kr0 x1 ox1 x2 ox2 x3 ox3 S1 _ _ _ (lv_sub hl [0, 1, 2, 3] rfl) hW1 hS h
      · replace h := h.2 hc
        refine m_iload_n (pc := 32) C.1 dX7_firstPeg_32 rfl hl 3 rfl ?_
        exact m_iret (pc := 33) C.1 C.2.2.2.1 C.2.2.2.2.1 hW1 hS ox3 h (by decide) (by decide) dX7_firstPeg_33
def w_X7_firstPeg_2 (N : Nat) (Q : mSt → Int → Prop) (ko40 : mSt → Prop) : Nat → Nat → Int → Int → Int → mSt → Prop
  | 0 => fun _ _ _ _ _ => False
  | k + 1 => w_X7_firstPeg_2b N Q (w_X7_firstPeg_2 N Q ko40 k) ko40
theorem W_X7_firstPeg_2 (C : mC p l s m args meth c cX7_firstPeg "MoonWash$PegPlan" 4 (some FieldType.int) g) (N : Nat) {Q : mSt → Int → Prop} {ko40 : mSt → Prop} (hko40 : ∀  (S : mSt) (H : Heap) (locs : List Loc) (ls : Array Slot), lv_has ls 4 [] → mW g b KX S H → va_S (mA b KX s.heap.size) s.heap H locs → ko40 S → W p l e { frames := 2, cells := 0, slots := 0, locals := 53 } s m args below meth c H locs 0 0 (vx_MQ below (mQi g b KX Q (mA b KX s.heap.size)) (mEx g b KX (fun _ _ => False) (mA b KX s.heap.size)) args s 0 0 (mA b KX s.heap.size)) (F0 m 40 ls [])) : ∀ (k : Nat) (r0 : Nat) (kr0 : KX r0 = (0, 5, 0)) (x1 : Int) (ox1 : okI x1) (x2 : Int) (ox2 : okI x2) (x3 : Int) (ox3 : okI x3) (S : mSt) (H : Heap) (locs : List Loc) (ls : Array Slot) (hl : lv_has ls 4 [(0, .ref (b + r0)), (1, .int (mI x1)), (2, .int (mI x2)), (3, .int (mI x3))]) (hW : mW g b KX S H) (hS : va_S (mA b KX s.heap.size) s.heap H locs) (h : w_X7_firstPeg_2 N Q ko40 k r0 x1 x2 x3 S), W p l e { frames := 2, cells := 0, slots := 0, locals := 53 } s m args below meth c H locs 0 0 (vx_MQ below (mQi g b KX Q (mA b KX s.heap.size)) (mEx g b KX (fun _ _ => False) (mA b KX s.heap.size)) args s 0 0 (mA b KX s.heap.size)) (F0 m 2 ls []) := by
  intro k
  induction k with
  | zero => intro r0 kr0 x1 ox1 x2 ox2 x3 ox3 S H locs ls hl hW hS h; exact False.elim h
  | succ k ih => intro r0 kr0 x1 ox1 x2 ox2 x3 ox3 S H locs ls hl hW hS h; exact W_X7_firstPeg_2b C N ih hko40 r0 kr0 x1 ox1 x2 ox2 x3 ox3 S H locs ls hl hW hS h
end
def w_X7_firstPeg (N : Nat) (r0 : Nat) (x1 : Int) (x2 : Int) (S : mSt) (Q : mSt → Int → Prop) : Prop :=
  ∀ v1 : Int, v1 = 0 → w_X7_firstPeg_2 N Q (fun  (S_2 : mSt) => Q S_2 0) N r0 x1 x2 v1 S
theorem T_X7_firstPeg {l : Launch} (hl0 : l.stackTraces = false) {g : mG} {b : Nat} (N : Nat) (r0 : Nat) (kr0 : KX r0 = (0, 5, 0)) (x1 : Int) (ox1 : okI x1) (x2 : Int) (ox2 : okI x2) {S : mSt} {Q : mSt → Int → Prop} (h : w_X7_firstPeg N r0 x1 x2 S Q) (sz : Nat) : vx_Met l yX7_firstPeg (Cond.code yX7_firstPeg cX7_firstPeg 4 (some FieldType.int) :: wsG) { frames := 2, cells := 0, slots := 0, locals := 53 } (mPc g b KX S [.ref (b + r0), .int (mI x1), .int (mI x2)] sz) (mQi g b KX Q (mA b KX sz)) (mEx g b KX (fun _ _ => False) (mA b KX sz)) 0 0 (mA b KX sz) :=
  m_of (av := [.ref (b + r0), .int (mI x1), .int (mI x2)]) (Qf := fun A => mQi g b KX Q A) (Xf := fun A => mEx g b KX (fun _ _ => False) A) (by decide) (Nat.le_of_ble_eq_true rfl) (fun p e s m args below meth c ls X hK hml hr hlk hout hnm hW hl => by
    have C : mC p l s m args meth c cX7_firstPeg "MoonWash$PegPlan" 4 (some FieldType.int) g := ⟨X, hK, hml, hr, hlk, hout, hl0⟩
    have hS : va_S (mA b KX s.heap.size) s.heap s.heap [] := va_S.rf
    have hl : lv_has ls 4 [(0, .ref (b + r0)), (1, .int (mI x1)), (2, .int (mI x2))] := hl
    unfold w_X7_firstPeg at h
    refine m_iconst (pc := 0) C.1 dX7_firstPeg_0 ?_
    refine m_istore_n (pc := 1) C.1 dX7_firstPeg_1 rfl hl (by decide) (fun v => [(3, .int v), (0, .ref (b + r0)), (1, .int (mI x1)), (2, .int (mI x2))]) (fun _ => rfl) (by decide : okI 0) (fun v1 ls ev1 ov1 hl => ?_)
    replace h := h v1 ev1
    refine W_X7_firstPeg_2 C N ?_ N r0 kr0 x1 ox1 x2 ox2 v1 ov1 S _ _ _ (lv_sub hl [1, 2, 3, 0] rfl) hW hS h
    · intro S_2 H locs ls hl hW_2 hS h
      refine m_iconst (pc := 40) C.1 dX7_firstPeg_40 ?_
      exact m_iret (pc := 41) C.1 C.2.2.2.1 C.2.2.2.2.1 hW_2 hS (by decide : okI 0) h (by decide) (by decide) dX7_firstPeg_41) sz
section
variable {p : Program} {l : Launch} {e : Env} {s : State} {m : MethodId} {args : Array Value} {below : List Frame} {meth : Method} {c : Code} {g : mG} {b : Nat}
def w_X7_pegOfPart_20b (N : Nat) (Q : mSt → Int → Prop) (ko20 : Nat → Int → Int → Int → Int → mSt → Prop) (ko46 : Int → mSt → Prop) (r0 : Nat) (x1 : Int) (x2 : Int) (x3 : Int) (x4 : Int) (S : mSt) : Prop :=
  ((x1 < x4 → ko46 x3 S) ∧ (x4 ≤ x1 → w_X7_firstPeg N r0 x4 x2 S (fun (S1 : mSt) (v1 : Int) => ∀ v2 : Int, v2 = v1 → ∀ v3 : Int, v3 = (bOr x2 (bShl 1 v2)) → ∀ v4 : Int, v4 = nm (x4 + 1) → ko20 r0 x1 v3 v2 v4 S1)))
theorem W_X7_pegOfPart_20b (C : mC p l s m args meth c cX7_pegOfPart "MoonWash$PegPlan" 5 (some FieldType.int) g) (N : Nat) {Q : mSt → Int → Prop} {ko20 : Nat → Int → Int → Int → Int → mSt → Prop} {ko46 : Int → mSt → Prop} (hko20 : ∀ (r0 : Nat) (kr0 : KX r0 = (0, 5, 0)) (x1 : Int) (ox1 : okI x1) (x2 : Int) (ox2 : okI x2) (x3 : Int) (ox3 : okI x3) (x4 : Int) (ox4 : okI x4) (S : mSt) (H : Heap) (locs : List Loc) (ls : Array Slot), lv_has ls 5 [(0, .ref (b + r0)), (1, .int (mI x1)), (2, .int (mI x2)), (3, .int (mI x3)), (4, .int (mI x4))] → mW g b KX S H → va_S (mA b KX s.heap.size) s.heap H locs → ko20 r0 x1 x2 x3 x4 S → W p l e { frames := 3, cells := 0, slots := 0, locals := 76 } s m args below meth c H locs 0 0 (vx_MQ below (mQi g b KX Q (mA b KX s.heap.size)) (mEx g b KX (fun _ _ => False) (mA b KX s.heap.size)) args s 0 0 (mA b KX s.heap.size)) (F0 m 20 ls [])) (hko46 : ∀ (x3 : Int) (ox3 : okI x3) (S : mSt) (H : Heap) (locs : List Loc) (ls : Array Slot), lv_has ls 5 [(3, .int (mI x3))] → mW g b KX S H → va_S (mA b KX s.heap.size) s.heap H locs → ko46 x3 S → W p l e { frames := 3, cells := 0, slots := 0, locals := 76 } s m args below meth c H locs 0 0 (vx_MQ below (mQi g b KX Q (mA b KX s.heap.size)) (mEx g b KX (fun _ _ => False) (mA b KX s.heap.size)) args s 0 0 (mA b KX s.heap.size)) (F0 m 46 ls [])) (r0 : Nat) (kr0 : KX r0 = (0, 5, 0)) (x1 : Int) (ox1 : okI x1) (x2 : Int) (ox2 : okI x2) (x3 : Int) (ox3 : okI x3) (x4 : Int) (ox4 : okI x4) (S : mSt) (H : Heap) (locs : List Loc) (ls : Array Slot) (hl : lv_has ls 5 [(0, .ref (b + r0)), (1, .int (mI x1)), (2, .int (mI x2)), (3, .int (mI x3)), (4, .int (mI x4))]) (hW : mW g b KX S H) (hS : va_S (mA b KX s.heap.size) s.heap H locs) (h : w_X7_pegOfPart_20b N Q ko20 ko46 r0 x1 x2 x3 x4 S) : W p l e { frames := 3, cells := 0, slots := 0, locals := 76 } s m args below meth c H locs 0 0 (vx_MQ below (mQi g b KX Q (mA b KX s.heap.size)) (mEx g b KX (fun _ _ => False) (mA b KX s.heap.size)) args s 0 0 (mA b KX s.heap.size)) (F0 m 20 ls []) := by
  unfold w_X7_pegOfPart_20b at h
  refine m_iload (pc := 20) C.1 dX7_pegOfPart_20 hl 4 rfl ?_
  refine m_iload_n (pc := 22) C.1 dX7_pegOfPart_22 rfl hl 1 rfl ?_
  refine m_icmp_gt (pc := 23) (tgt := 46) C.1 ox4 ox1 dX7_pegOfPart_23 (by decide) (fun hc => ?_) (fun hc => ?_)
  · replace h := h.1 hc
    exact hko46 x3 ox3 S _ _ _ (lv_sub hl [3] rfl) hW hS h
  · replace h := h.2 hc
    refine m_aload_n (pc := 26) C.1 dX7_pegOfPart_26 rfl hl 0 rfl ?_
    refine m_iload (pc := 27) C.1 dX7_pegOfPart_27 hl 4 rfl ?_
    refine m_iload_n (pc := 29) C.1 dX7_pegOfPart_29 rfl hl 2 rfl ?_
    refine m_callVi (pc := 30) C.1 C.2.2.1 hl.1 C.2.1 hW hS (As := [.int (mI x4), .int (mI x2)]) (rest := []) (r := r0) (T_X7_firstPeg C.2.2.2.2.2.2 N r0 kr0 x4 ox4 x2 ox2 h) kr0 rfl q_1256 q_1258 q_18 q_91 q_1259 pl_X7_firstPeg (by decide) (Nat.le_of_ble_eq_true rfl) dX7_pegOfPart_30 (fun v1 S1 H locs ov1 h hW1 hS => ?_)
    refine m_istore_n (pc := 33) C.1 dX7_pegOfPart_33 rfl hl (by decide) (fun v => [(3, .int v), (0, .ref (b + r0)), (1, .int (mI x1)), (2, .int (mI x2)), (4, .int (mI x4))]) (fun _ => rfl) ov1 (fun v2 ls ev2 ov2 hl => ?_)
    replace h := h v2 ev2
    refine m_iload_n (pc := 34) C.1 dX7_pegOfPart_34 rfl hl 3 rfl ?_
    refine m_iconst (pc := 35) C.1 dX7_pegOfPart_35 ?_
    refine m_iload_n (pc := 36) C.1 dX7_pegOfPart_36 rfl hl 0 rfl ?_
    refine m_ishl (pc := 37) C.1 dX7_pegOfPart_37 ?_
    refine m_ior (pc := 38) C.1 dX7_pegOfPart_38 ?_
    refine m_istore_n (pc := 39) C.1 dX7_pegOfPart_39 rfl hl (by decide) (fun v => [(2, .int v), (3, .int (mI v2)), (0, .ref (b + r0)), (1, .int (mI x1)), (4, .int (mI x4))]) (fun _ => rfl) (bOr_ok _ _) (fun v3 ls ev3 ov3 hl => ?_)
    replace h := h v3 ev3
    refine m_iinc (pc := 40) C.1 dX7_pegOfPart_40 hl (by decide) (q0 := 4) rfl (fun v => [(4, .int v), (2, .int (mI v3)), (3, .int (mI v2)), (0, .ref (b + r0)), (1, .int (mI x1))]) (fun _ => rfl) (fun v4 ls ev4 ov4 hl => ?_)
    replace h := h v4 ev4
    refine m_goto (pc := 43) (tgt := 20) C.1 dX7_pegOfPart_43 (by decide) ?_
    exact hko20 r0 kr0 x1 ox1 v3 ov3 v2 ov2 v4 ov4 S1 _ _ _ (lv_sub hl [3, 4, 1, 2, 0] rfl) hW1 hS h
def w_X7_pegOfPart_20 (N : Nat) (Q : mSt → Int → Prop) (ko46 : Int → mSt → Prop) : Nat → Nat → Int → Int → Int → Int → mSt → Prop
  | 0 => fun _ _ _ _ _ _ => False
  | k + 1 => w_X7_pegOfPart_20b N Q (w_X7_pegOfPart_20 N Q ko46 k) ko46
theorem W_X7_pegOfPart_20 (C : mC p l s m args meth c cX7_pegOfPart "MoonWash$PegPlan" 5 (some FieldType.int) g) (N : Nat) {Q : mSt → Int → Prop} {ko46 : Int → mSt → Prop} (hko46 : ∀ (x3 : Int) (ox3 : okI x3) (S : mSt) (H : Heap) (locs : List Loc) (ls : Array Slot), lv_has ls 5 [(3, .int (mI x3))] → mW g b KX S H → va_S (mA b KX s.heap.size) s.heap H locs → ko46 x3 S → W p l e { frames := 3, cells := 0, slots := 0, locals := 76 } s m args below meth c H locs 0 0 (vx_MQ below (mQi g b KX Q (mA b KX s.heap.size)) (mEx g b KX (fun _ _ => False) (mA b KX s.heap.size)) args s 0 0 (mA b KX s.heap.size)) (F0 m 46 ls [])) : ∀ (k : Nat) (r0 : Nat) (kr0 : KX r0 = (0, 5, 0)) (x1 : Int) (ox1 : okI x1) (x2 : Int) (ox2 : okI x2) (x3 : Int) (ox3 : okI x3) (x4 : Int) (ox4 : okI x4) (S : mSt) (H : Heap) (locs : List Loc) (ls : Array Slot) (hl : lv_has ls 5 [(0, .ref (b + r0)), (1, .int (mI x1)), (2, .int (mI x2)), (3, .int (mI x3)), (4, .int (mI x4))]) (hW : mW g b KX S H) (hS : va_S (mA b KX s.heap.size) s.heap H locs) (h : w_X7_pegOfPart_20 N Q ko46 k r0 x1 x2 x3 x4 S), W p l e { frames := 3, cells := 0, slots := 0, locals := 76 } s m args below meth c H locs 0 0 (vx_MQ below (mQi g b KX Q (mA b KX s.heap.size)) (mEx g b KX (fun _ _ => False) (mA b KX s.heap.size)) args s 0 0 (mA b KX s.heap.size)) (F0 m 20 ls []) := by
  intro k
  induction k with
  | zero => intro r0 kr0 x1 ox1 x2 ox2 x3 ox3 x4 ox4 S H locs ls hl hW hS h; exact False.elim h
  | succ k ih => intro r0 kr0 x1 ox1 x2 ox2 x3 ox3 x4 ox4 S H locs ls hl hW hS h; exact W_X7_pegOfPart_20b C N ih hko46 r0 kr0 x1 ox1 x2 ox2 x3 ox3 x4 ox4 S H locs ls hl hW hS h
end
def w_X7_pegOfPart (N : Nat) (r0 : Nat) (x1 : Int) (S : mSt) (Q : mSt → Int → Prop) : Prop :=
  (((S (r0 + 10) 0) ≤ 40 → ∀ v1 : Int, v1 = 0 → ∀ v2 : Int, v2 = 0 → ∀ v3 : Int, v3 = 0 → w_X7_pegOfPart_20 N Q (fun (x3_4 : Int) (S_4 : mSt) => Q S_4 x3_4) N r0 x1 v1 v2 v3 S) ∧ (40 < (S (r0 + 10) 0) → Q S (-1)))
theorem T_X7_pegOfPart {l : Launch} (hl0 : l.stackTraces = false) {g : mG} {b : Nat} (N : Nat) (r0 : Nat) (kr0 : KX r0 = (0, 5, 0)) (x1 : Int) (ox1 : okI x1) {S : mSt} {Q : mSt → Int → Prop} (h : w_X7_pegOfPart N r0 x1 S Q) (sz : Nat) : vx_Met l yX7_pegOfPart (Cond.code yX7_pegOfPart cX7_pegOfPart 5 (some FieldType.int) :: wsG) { frames := 3, cells := 0, slots := 0, locals := 76 } (mPc g b KX S [.ref (b + r0), .int (mI x1)] sz) (mQi g b KX Q (mA b KX sz)) (mEx g b KX (fun _ _ => False) (mA b KX sz)) 0 0 (mA b KX sz) :=
  m_of (av := [.ref (b + r0), .int (mI x1)]) (Qf := fun A => mQi g b KX Q A) (Xf := fun A => mEx g b KX (fun _ _ => False) A) (by decide) (Nat.le_of_ble_eq_true rfl) (fun p e s m args below meth c ls X hK hml hr hlk hout hnm hW hl => by
    have C : mC p l s m args meth c cX7_pegOfPart "MoonWash$PegPlan" 5 (some FieldType.int) g := ⟨X, hK, hml, hr, hlk, hout, hl0⟩
    have hS : va_S (mA b KX s.heap.size) s.heap s.heap [] := va_S.rf
    have hl : lv_has ls 5 [(0, .ref (b + r0)), (1, .int (mI x1))] := hl
    unfold w_X7_pegOfPart at h
    refine m_aload_n (pc := 0) C.1 dX7_pegOfPart_0 rfl hl 0 rfl ?_
    refine g_5_1 (pc := 1) C hW kr0 q_386 dX7_pegOfPart_1 ?_
    refine m_iconst (pc := 4) C.1 dX7_pegOfPart_4 ?_
    refine m_iald (pc := 5) C.1 C.2.1 hW (k_5_1 kr0) (by decide : okI 0) (by decide) (by decide) dX7_pegOfPart_5 ?_
    refine m_bipush (pc := 6) C.1 dX7_pegOfPart_6 rfl ?_
    refine m_icmp_le (pc := 8) (tgt := 13) C.1 (hW.2.1 _ _) (by decide : okI 40) dX7_pegOfPart_8 (by decide) (fun hc => ?_) (fun hc => ?_)
    · replace h := h.1 hc
      refine m_iconst (pc := 13) C.1 dX7_pegOfPart_13 ?_
      refine m_istore_n (pc := 14) C.1 dX7_pegOfPart_14 rfl hl (by decide) (fun v => [(2, .int v), (0, .ref (b + r0)), (1, .int (mI x1))]) (fun _ => rfl) (by decide : okI 0) (fun v1 ls ev1 ov1 hl => ?_)
      replace h := h v1 ev1
      refine m_iconst (pc := 15) C.1 dX7_pegOfPart_15 ?_
      refine m_istore_n (pc := 16) C.1 dX7_pegOfPart_16 rfl hl (by decide) (fun v => [(3, .int v), (2, .int (mI v1)), (0, .ref (b + r0)), (1, .int (mI x1))]) (fun _ => rfl) (by decide : okI 0) (fun v2 ls ev2 ov2 hl => ?_)
      replace h := h v2 ev2
      refine m_iconst (pc := 17) C.1 dX7_pegOfPart_17 ?_
      refine m_istore (pc := 18) C.1 dX7_pegOfPart_18 hl (by decide) (fun v => [(4, .int v), (3, .int (mI v2)), (2, .int (mI v1)), (0, .ref (b + r0)), (1, .int (mI x1))]) (fun _ => rfl) (by decide : okI 0) (fun v3 ls ev3 ov3 hl => ?_)
      replace h := h v3 ev3
      refine W_X7_pegOfPart_20 C N ?_ N r0 kr0 x1 ox1 v1 ov1 v2 ov2 v3 ov3 S _ _ _ (lv_sub hl [3, 4, 2, 1, 0] rfl) hW hS h
      · intro x3_4 ox3_4 S_4 H locs ls hl hW_4 hS h
        refine m_iload_n (pc := 46) C.1 dX7_pegOfPart_46 rfl hl 0 rfl ?_
        exact m_iret (pc := 47) C.1 C.2.2.2.1 C.2.2.2.2.1 hW_4 hS ox3_4 h (by decide) (by decide) dX7_pegOfPart_47
    · replace h := h.2 hc
      refine m_iconst (pc := 11) C.1 dX7_pegOfPart_11 ?_
      exact m_iret (pc := 12) C.1 C.2.2.2.1 C.2.2.2.2.1 hW hS (by decide : okI (-1)) h (by decide) (by decide) dX7_pegOfPart_12) sz
section
variable {p : Program} {l : Launch} {e : Env} {s : State} {m : MethodId} {args : Array Value} {below : List Frame} {meth : Method} {c : Code} {g : mG} {b : Nat}
def w_X8_isAt_24b (N : Nat) (Q : mSt → Int → Prop) (ko24 : Nat → Nat → Int → Int → Int → mSt → Prop) (ko56 : mSt → Prop) (t0 : Nat) (r1 : Nat) (x2 : Int) (x3 : Int) (x4 : Int) (S : mSt) : Prop :=
  ((x3 ≤ x4 → ko56 S) ∧ (x4 < x3 → (0 ≤ (nm (x2 + x4)) ∧ (nm (x2 + x4)) < 400 ∧ (0 ≤ x4 ∧ x4 < sLen (tkS.getD t0 0) ∧ (((S r1 (nm (x2 + x4))) = (sCh (tkS.getD t0 0) x4) → ∀ v4 : Int, v4 = nm (x4 + 1) → ko24 t0 r1 x2 x3 v4 S) ∧ ((S r1 (nm (x2 + x4))) ≠ (sCh (tkS.getD t0 0) x4) → Q S 0))))))
theorem W_X8_isAt_24b (C : mC p l s m args meth c cX8_isAt "MoonWash$Token" 5 (some FieldType.boolean) g) (N : Nat) {Q : mSt → Int → Prop} {ko24 : Nat → Nat → Int → Int → Int → mSt → Prop} {ko56 : mSt → Prop} (hko24 : ∀ (t0 : Nat) (ht0 : t0 < 36) (r1 : Nat) (kr1 : KX r1 = (1, 400, 0)) (x2 : Int) (ox2 : okI x2) (x3 : Int) (ox3 : okI x3) (x4 : Int) (ox4 : okI x4) (S : mSt) (H : Heap) (locs : List Loc) (ls : Array Slot), lv_has ls 5 [(0, .ref (g.ad t0)), (1, .ref (b + r1)), (2, .int (mI x2)), (3, .int (mI x3)), (4, .int (mI x4))] → mW g b KX S H → va_S (mA b KX s.heap.size) s.heap H locs → ko24 t0 r1 x2 x3 x4 S → W p l e { frames := 5, cells := 0, slots := 0, locals := 150 } s m args below meth c H locs 0 0 (vx_MQ below (mQi g b KX Q (mA b KX s.heap.size)) (mEx g b KX (fun _ _ => False) (mA b KX s.heap.size)) args s 0 0 (mA b KX s.heap.size)) (F0 m 24 ls [])) (hko56 : ∀  (S : mSt) (H : Heap) (locs : List Loc) (ls : Array Slot), lv_has ls 5 [] → mW g b KX S H → va_S (mA b KX s.heap.size) s.heap H locs → ko56 S → W p l e { frames := 5, cells := 0, slots := 0, locals := 150 } s m args below meth c H locs 0 0 (vx_MQ below (mQi g b KX Q (mA b KX s.heap.size)) (mEx g b KX (fun _ _ => False) (mA b KX s.heap.size)) args s 0 0 (mA b KX s.heap.size)) (F0 m 56 ls [])) (t0 : Nat) (ht0 : t0 < 36) (r1 : Nat) (kr1 : KX r1 = (1, 400, 0)) (x2 : Int) (ox2 : okI x2) (x3 : Int) (ox3 : okI x3) (x4 : Int) (ox4 : okI x4) (S : mSt) (H : Heap) (locs : List Loc) (ls : Array Slot) (hl : lv_has ls 5 [(0, .ref (g.ad t0)), (1, .ref (b + r1)), (2, .int (mI x2)), (3, .int (mI x3)), (4, .int (mI x4))]) (hW : mW g b KX S H) (hS : va_S (mA b KX s.heap.size) s.heap H locs) (h : w_X8_isAt_24b N Q ko24 ko56 t0 r1 x2 x3 x4 S) : W p l e { frames := 5, cells := 0, slots := 0, locals := 150 } s m args below meth c H locs 0 0 (vx_MQ below (mQi g b KX Q (mA b KX s.heap.size)) (mEx g b KX (fun _ _ => False) (mA b KX s.heap.size)) args s 0 0 (mA b KX s.heap.size)) (F0 m 24 ls []) := by
  unfold w_X8_isAt_24b at h
  refine m_iload (pc := 24) C.1 dX8_isAt_24 hl 4 rfl ?_
  refine m_iload_n (pc := 26) C.1 dX8_isAt_26 rfl hl 3 rfl ?_
  refine m_icmp_ge (pc := 27) (tgt := 56) C.1 ox4 ox3 dX8_isAt_27 (by decide) (fun hc => ?_) (fun hc => ?_)
  · replace h := h.1 hc
    exact hko56  S _ _ _ (lv_sub hl [] rfl) hW hS h
  · replace h := h.2 hc
    refine m_aload_n (pc := 30) C.1 dX8_isAt_30 rfl hl 1 rfl ?_
    refine m_iload_n (pc := 31) C.1 dX8_isAt_31 rfl hl 2 rfl ?_
    refine m_iload (pc := 32) C.1 dX8_isAt_32 hl 4 rfl ?_
    refine m_iadd (pc := 34) C.1 dX8_isAt_34 ?_
    obtain ⟨hb1a, hb1b, h⟩ := h
    refine m_iald (pc := 35) C.1 C.2.1 hW kr1 (nm_ok _) hb1a hb1b dX8_isAt_35 ?_
    refine m_aload_n (pc := 36) C.1 dX8_isAt_36 rfl hl 0 rfl ?_
    refine m_ttext (pc := 37) C.1 C.2.1 hW hS ht0 q_1948 dX8_isAt_37 ?_
    refine m_iload (pc := 40) C.1 dX8_isAt_40 hl 4 rfl ?_
    obtain ⟨hb2a, hb2b, h⟩ := h
    refine m_schar (pc := 42) C hl.1 hW hS (tkS_lt ht0) ox4 hb2a hb2b q_643 (by decide) (Nat.le_of_ble_eq_true rfl) dX8_isAt_42 (fun H locs hW3 hS => ?_)
    refine m_icmp_eq (pc := 45) (tgt := 50) C.1 (hW.2.1 _ _) (sCh_ok _ _) dX8_isAt_45 (by decide) (fun hc => ?_) (fun hc => ?_)
    · replace h := h.1 hc
      refine m_iinc (pc := 50) C.1 dX8_isAt_50 hl (by decide) (q0 := 4) rfl (fun v => [(4, .int v), (0, .ref (g.ad t0)), (1, .ref (b + r1)), (2, .int (mI x2)), (3, .int (mI x3))]) (fun _ => rfl) (fun v4 ls ev4 ov4 hl => ?_)
      replace h := h v4 ev4
      refine m_goto (pc := 53) (tgt := 24) C.1 dX8_isAt_53 (by decide) ?_
      exact hko24 t0 ht0 r1 kr1 x2 ox2 x3 ox3 v4 ov4 S _ _ _ (lv_sub hl [1, 2, 3, 4, 0] rfl) hW3 hS h
    · replace h := h.2 hc
      refine m_iconst (pc := 48) C.1 dX8_isAt_48 ?_
      exact m_zret (pc := 49) C.1 C.2.2.2.1 C.2.2.2.2.1 hW3 hS (by decide) h (by decide) (by decide) dX8_isAt_49
def w_X8_isAt_24 (N : Nat) (Q : mSt → Int → Prop) (ko56 : mSt → Prop) : Nat → Nat → Nat → Int → Int → Int → mSt → Prop
  | 0 => fun _ _ _ _ _ _ => False
  | k + 1 => w_X8_isAt_24b N Q (w_X8_isAt_24 N Q ko56 k) ko56
theorem W_X8_isAt_24 (C : mC p l s m args meth c cX8_isAt "MoonWash$Token" 5 (some FieldType.boolean) g) (N : Nat) {Q : mSt → Int → Prop} {ko56 : mSt → Prop} (hko56 : ∀  (S : mSt) (H : Heap) (locs : List Loc) (ls : Array Slot), lv_has ls 5 [] → mW g b KX S H → va_S (mA b KX s.heap.size) s.heap H locs → ko56 S → W p l e { frames := 5, cells := 0, slots := 0, locals := 150 } s m args below meth c H locs 0 0 (vx_MQ below (mQi g b KX Q (mA b KX s.heap.size)) (mEx g b KX (fun _ _ => False) (mA b KX s.heap.size)) args s 0 0 (mA b KX s.heap.size)) (F0 m 56 ls [])) : ∀ (k : Nat) (t0 : Nat) (ht0 : t0 < 36) (r1 : Nat) (kr1 : KX r1 = (1, 400, 0)) (x2 : Int) (ox2 : okI x2) (x3 : Int) (ox3 : okI x3) (x4 : Int) (ox4 : okI x4) (S : mSt) (H : Heap) (locs : List Loc) (ls : Array Slot) (hl : lv_has ls 5 [(0, .ref (g.ad t0)), (1, .ref (b + r1)), (2, .int (mI x2)), (3, .int (mI x3)), (4, .int (mI x4))]) (hW : mW g b KX S H) (hS : va_S (mA b KX s.heap.size) s.heap H locs) (h : w_X8_isAt_24 N Q ko56 k t0 r1 x2 x3 x4 S), W p l e { frames := 5, cells := 0, slots := 0, locals := 150 } s m args below meth c H locs 0 0 (vx_MQ below (mQi g b KX Q (mA b KX s.heap.size)) (mEx g b KX (fun _ _ => False) (mA b KX s.heap.size)) args s 0 0 (mA b KX s.heap.size)) (F0 m 24 ls []) := by
  intro k
  induction k with
  | zero => intro t0 ht0 r1 kr1 x2 ox2 x3 ox3 x4 ox4 S H locs ls hl hW hS h; exact False.elim h
  | succ k ih => intro t0 ht0 r1 kr1 x2 ox2 x3 ox3 x4 ox4 S H locs ls hl hW hS h; exact W_X8_isAt_24b C N ih hko56 t0 ht0 r1 kr1 x2 ox2 x3 ox3 x4 ox4 S H locs ls hl hW hS h
end
def w_X8_isAt (N : Nat) (t0 : Nat) (r1 : Nat) (x2 : Int) (x3 : Int) (S : mSt) (Q : mSt → Int → Prop) : Prop :=
  ((x3 ≠ (sLen (tkS.getD t0 0)) → Q S 0) ∧ (x3 = (sLen (tkS.getD t0 0)) → (((nm (x2 + x3)) ≤ 400 → ∀ v2 : Int, v2 = 0 → w_X8_isAt_24 N Q (fun  (S_3 : mSt) => Q S_3 1) N t0 r1 x2 x3 v2 S) ∧ (400 < (nm (x2 + x3)) → Q S 0))))
theorem T_X8_isAt {l : Launch} (hl0 : l.stackTraces = false) {g : mG} {b : Nat} (N : Nat) (t0 : Nat) (ht0 : t0 < 36) (r1 : Nat) (kr1 : KX r1 = (1, 400, 0)) (x2 : Int) (ox2 : okI x2) (x3 : Int) (ox3 : okI x3) {S : mSt} {Q : mSt → Int → Prop} (h : w_X8_isAt N t0 r1 x2 x3 S Q) (sz : Nat) : vx_Met l yX8_isAt (Cond.code yX8_isAt cX8_isAt 5 (some FieldType.boolean) :: wsG) { frames := 5, cells := 0, slots := 0, locals := 150 } (mPc g b KX S [.ref (g.ad t0), .ref (b + r1), .int (mI x2), .int (mI x3)] sz) (mQi g b KX Q (mA b KX sz)) (mEx g b KX (fun _ _ => False) (mA b KX sz)) 0 0 (mA b KX sz) :=
  m_of (av := [.ref (g.ad t0), .ref (b + r1), .int (mI x2), .int (mI x3)]) (Qf := fun A => mQi g b KX Q A) (Xf := fun A => mEx g b KX (fun _ _ => False) A) (by decide) (Nat.le_of_ble_eq_true rfl) (fun p e s m args below meth c ls X hK hml hr hlk hout hnm hW hl => by
    have C : mC p l s m args meth c cX8_isAt "MoonWash$Token" 5 (some FieldType.boolean) g := ⟨X, hK, hml, hr, hlk, hout, hl0⟩
    have hS : va_S (mA b KX s.heap.size) s.heap s.heap [] := va_S.rf
    have hl : lv_has ls 5 [(0, .ref (g.ad t0)), (1, .ref (b + r1)), (2, .int (mI x2)), (3, .int (mI x3))] := hl
    unfold w_X8_isAt at h
    refine m_iload_n (pc := 0) C.1 dX8_isAt_0 rfl hl 3 rfl ?_
    refine m_aload_n (pc := 1) C.1 dX8_isAt_1 rfl hl 0 rfl ?_
    refine m_ttext (pc := 2) C.1 C.2.1 hW hS ht0 q_1948 dX8_isAt_2 ?_
    refine m_slen (pc := 5) C hl.1 hW hS (tkS_lt ht0) q_633 (by decide) (Nat.le_of_ble_eq_true rfl) dX8_isAt_5 (fun H locs hW1 hS => ?_)
    refine m_icmp_ne (pc := 8) (tgt := 19) C.1 ox3 (sLen_ok (tkS_lt ht0)) dX8_isAt_8 (by decide) (fun hc => ?_) (fun hc => ?_)
    · replace h := h.1 hc
      refine m_iconst (pc := 19) C.1 dX8_isAt_19 ?_
      exact m_zret (pc := 20) C.1 C.2.2.2.1 C.2.2.2.2.1 hW1 hS (by decide) h (by decide) (by decide) dX8_isAt_20
    · replace h := h.2 hc
      refine m_iload_n (pc := 11) C.1 dX8_isAt_11 rfl hl 2 rfl ?_
      refine m_iload_n (pc := 12) C.1 dX8_isAt_12 rfl hl 3 rfl ?_
      refine m_iadd (pc := 13) C.1 dX8_isAt_13 ?_
      refine m_aload_n (pc := 14) C.1 dX8_isAt_14 rfl hl 1 rfl ?_
      refine m_alen (pc := 15) C.1 C.2.1 hW1 kr1 (Or.inl rfl) dX8_isAt_15 ?_
      refine m_icmp_le (pc := 16) (tgt := 21) C.1 (nm_ok _) (by decide : okI 400) dX8_isAt_16 (by decide) (fun hc => ?_) (fun hc => ?_)
      · replace h := h.1 hc
        refine m_iconst (pc := 21) C.1 dX8_isAt_21 ?_
        refine m_istore (pc := 22) C.1 dX8_isAt_22 hl (by decide) (fun v => [(4, .int v), (0, .ref (g.ad t0)), (1, .ref (b + r1)), (2, .int (mI x2)), (3, .int (mI x3))]) (fun _ => rfl) (by decide : okI 0) (fun v2 ls ev2 ov2 hl => ?_)
        replace h := h v2 ev2
        refine W_X8_isAt_24 C N ?_ N t0 ht0 r1 kr1 x2 ox2 x3 ox3 v2 ov2 S _ _ _ (lv_sub hl [1, 2, 3, 4, 0] rfl) hW1 hS h
        · intro S_3 H locs ls hl hW_3 hS h
          refine m_iconst (pc := 56) C.1 dX8_isAt_56 ?_
          exact m_zret (pc := 57) C.1 C.2.2.2.1 C.2.2.2.2.1 hW_3 hS (by decide) h (by decide) (by decide) dX8_isAt_57
      · replace h := h.2 hc
        refine m_iconst (pc := 19) C.1 dX8_isAt_19 ?_
        exact m_zret (pc := 20) C.1 C.2.2.2.1 C.2.2.2.2.1 hW1 hS (by decide) h (by decide) (by decide) dX8_isAt_20) sz
section
variable {p : Program} {l : Launch} {e : Env} {s : State} {m : MethodId} {args : Array Value} {below : List Frame} {meth : Method} {c : Code} {g : mG} {b : Nat}
def w_X8_written_34 (N : Nat) (Q : mSt → Nat → Prop) (ko2 : Nat → Int → Int → Int → mSt → Prop) (r0 : Nat) (x1 : Int) (x2 : Int) (x3 : Int) (S : mSt) : Prop :=
  ∀ v1 : Int, v1 = nm (x3 + 1) → ko2 r0 x1 x2 v1 S
theorem W_X8_written_34 (C : mC p l s m args meth c cX8_written "MoonWash$Token" 4 (some (FieldType.object "MoonWash$Token")) g) (N : Nat) {Q : mSt → Nat → Prop} {ko2 : Nat → Int → Int → Int → mSt → Prop} (hko2 : ∀ (r0 : Nat) (kr0 : KX r0 = (1, 400, 0)) (x1 : Int) (ox1 : okI x1) (x2 : Int) (ox2 : okI x2) (x3 : Int) (ox3 : okI x3) (S : mSt) (H : Heap) (locs : List Loc) (ls : Array Slot), lv_has ls 4 [(0, .ref (b + r0)), (1, .int (mI x1)), (2, .int (mI x2)), (3, .int (mI x3))] → mW g b KX S H → va_S (mA b KX s.heap.size) s.heap H locs → ko2 r0 x1 x2 x3 S → W p l e { frames := 6, cells := 0, slots := 0, locals := 174 } s m args below meth c H locs 0 0 (vx_MQ below (mQt g b KX Q (mA b KX s.heap.size)) (mEx g b KX (fun _ _ => False) (mA b KX s.heap.size)) args s 0 0 (mA b KX s.heap.size)) (F0 m 2 ls [])) (r0 : Nat) (kr0 : KX r0 = (1, 400, 0)) (x1 : Int) (ox1 : okI x1) (x2 : Int) (ox2 : okI x2) (x3 : Int) (ox3 : okI x3) (S : mSt) (H : Heap) (locs : List Loc) (ls : Array Slot) (hl : lv_has ls 4 [(0, .ref (b + r0)), (1, .int (mI x1)), (2, .int (mI x2)), (3, .int (mI x3))]) (hW : mW g b KX S H) (hS : va_S (mA b KX s.heap.size) s.heap H locs) (h : w_X8_written_34 N Q ko2 r0 x1 x2 x3 S) : W p l e { frames := 6, cells := 0, slots := 0, locals := 174 } s m args below meth c H locs 0 0 (vx_MQ below (mQt g b KX Q (mA b KX s.heap.size)) (mEx g b KX (fun _ _ => False) (mA b KX s.heap.size)) args s 0 0 (mA b KX s.heap.size)) (F0 m 34 ls []) := by
  unfold w_X8_written_34 at h
  refine m_iinc (pc := 34) C.1 dX8_written_34 hl (by decide) (q0 := 3) rfl (fun v => [(3, .int v), (0, .ref (b + r0)), (1, .int (mI x1)), (2, .int (mI x2))]) (fun _ => rfl) (fun v1 ls ev1 ov1 hl => ?_)
  replace h := h v1 ev1
  refine m_goto (pc := 37) (tgt := 2) C.1 dX8_written_37 (by decide) ?_
  exact hko2 r0 kr0 x1 ox1 x2 ox2 v1 ov1 S _ _ _ (lv_sub hl [1, 2, 3, 0] rfl) hW hS h
def w_X8_written_2b (N : Nat) (Q : mSt → Nat → Prop) (ko2 : Nat → Int → Int → Int → mSt → Prop) (ko40 : mSt → Prop) (r0 : Nat) (x1 : Int) (x2 : Int) (x3 : Int) (S : mSt) : Prop :=
  ((36 ≤ x3 → ko40 S) ∧ (x3 < 36 → ((x2 ≤ 0 → w_X8_written_34 N Q ko2 r0 x1 x2 x3 S) ∧ (0 < x2 → (0 ≤ x3 ∧ x3 < 36 ∧ ∀ t2 : Nat, (t2 : Int) = x3 → w_X8_isAt N t2 r0 x1 x2 S (fun (S3 : mSt) (v3 : Int) => ((v3 = 0 → w_X8_written_34 N Q ko2 r0 x1 x2 x3 S3) ∧ (v3 ≠ 0 → (0 ≤ x3 ∧ x3 < 36 ∧ ∀ t5 : Nat, (t5 : Int) = x3 → Q S3 t5)))))))))
theorem W_X8_written_2b (C : mC p l s m args meth c cX8_written "MoonWash$Token" 4 (some (FieldType.object "MoonWash$Token")) g) (N : Nat) {Q : mSt → Nat → Prop} {ko2 : Nat → Int → Int → Int → mSt → Prop} {ko40 : mSt → Prop} (hko2 : ∀ (r0 : Nat) (kr0 : KX r0 = (1, 400, 0)) (x1 : Int) (ox1 : okI x1) (x2 : Int) (ox2 : okI x2) (x3 : Int) (ox3 : okI x3) (S : mSt) (H : Heap) (locs : List Loc) (ls : Array Slot), lv_has ls 4 [(0, .ref (b + r0)), (1, .int (mI x1)), (2, .int (mI x2)), (3, .int (mI x3))] → mW g b KX S H → va_S (mA b KX s.heap.size) s.heap H locs → ko2 r0 x1 x2 x3 S → W p l e { frames := 6, cells := 0, slots := 0, locals := 174 } s m args below meth c H locs 0 0 (vx_MQ below (mQt g b KX Q (mA b KX s.heap.size)) (mEx g b KX (fun _ _ => False) (mA b KX s.heap.size)) args s 0 0 (mA b KX s.heap.size)) (F0 m 2 ls [])) (hko40 : ∀  (S : mSt) (H : Heap) (locs : List Loc) (ls : Array Slot), lv_has ls 4 [] → mW g b KX S H → va_S (mA b KX s.heap.size) s.heap H locs → ko40 S → W p l e { frames := 6, cells := 0, slots := 0, locals := 174 } s m args below meth c H locs 0 0 (vx_MQ below (mQt g b KX Q (mA b KX s.heap.size)) (mEx g b KX (fun _ _ => False) (mA b KX s.heap.size)) args s 0 0 (mA b KX s.heap.size)) (F0 m 40 ls [])) (r0 : Nat) (kr0 : KX r0 = (1, 400, 0)) (x1 : Int) (ox1 : okI x1) (x2 : Int) (ox2 : okI x2) (x3 : Int) (ox3 : okI x3) (S : mSt) (H : Heap) (locs : List Loc) (ls : Array Slot) (hl : lv_has ls 4 [(0, .ref (b + r0)), (1, .int (mI x1)), (2, .int (mI x2)), (3, .int (mI x3))]) (hW : mW g b KX S H) (hS : va_S (mA b KX s.heap.size) s.heap H locs) (h : w_X8_written_2b N Q ko2 ko40 r0 x1 x2 x3 S) : W p l e { frames := 6, cells := 0, slots := 0, locals := 174 } s m args below meth c H locs 0 0 (vx_MQ below (mQt g b KX Q (mA b KX s.heap.size)) (mEx g b KX (fun _ _ => False) (mA b KX s.heap.size)) args s 0 0 (mA b KX s.heap.size)) (F0 m 2 ls []) := by
  unfold w_X8_written_2b at h
  refine m_iload_n (pc := 2) C.1 dX8_written_2 rfl hl 3 rfl ?_
  refine m_tokens (pc := 3) C.1 C.2.1 hW hS q_626 dX8_written_3 ?_
  refine m_alenT (pc := 6) C.1 C.2.1 hW hS dX8_written_6 ?_
  refine m_icmp_ge (pc := 7) (tgt := 40) C.1 ox3 (by decide : okI 36) dX8_written_7 (by decide) (fun hc => ?_) (fun hc => ?_)
  · replace h := h.1 hc
    exact hko40  S _ _ _ (lv_sub hl [] rfl) hW hS h
  · replace h := h.2 hc
    refine m_iload_n (pc := 10) C.1 dX8_written_10 rfl hl 2 rfl ?_
    refine m_if_le (pc := 11) (tgt := 34) C.1 ox2 dX8_written_11 (by decide) (fun hc => ?_) (fun hc => ?_)
    · replace h := h.1 hc
      exact W_X8_written_34 C N hko2 r0 kr0 x1 ox1 x2 ox2 x3 ox3 S _ _ _ (lv_sub hl [0, 1, 2, 3] rfl) hW hS h
    · replace h := h.2 hc
      refine m_tokens (pc := 14) C.1 C.2.1 hW hS q_626 dX8_written_14 ?_
      refine m_iload_n (pc := 17) C.1 dX8_written_17 rfl hl 3 rfl ?_
      obtain ⟨hb1a, hb1b, h⟩ := h
      refine m_aaldT (pc := 18) C.1 C.2.1 hW hS ox3 hb1a hb1b dX8_written_18 (fun t2 et2 ht2 => ?_)
      replace h := h t2 et2
      refine m_aload_n (pc := 19) C.1 dX8_written_19 rfl hl 0 rfl ?_
      refine m_iload_n (pc := 20) C.1 dX8_written_20 rfl hl 1 rfl ?_
      refine m_iload_n (pc := 21) C.1 dX8_written_21 rfl hl 2 rfl ?_
      refine m_callTi (pc := 22) C.1 C.2.2.1 hl.1 C.2.1 hW hS (As := [.ref (b + r0), .int (mI x1), .int (mI x2)]) (rest := []) (t0 := t2) (T_X8_isAt C.2.2.2.2.2.2 N t2 ht2 r0 kr0 x1 ox1 x2 ox2 h) ht2 rfl q_628 q_630 q_7 q_87 q_632 pl_X8_isAt (by decide) (Nat.le_of_ble_eq_true rfl) dX8_written_22 (fun v3 S3 H locs ov3 h hW3 hS => ?_)
      refine m_if_eq (pc := 25) (tgt := 34) C.1 ov3 dX8_written_25 (by decide) (fun hc => ?_) (fun hc => ?_)
      · replace h := h.1 hc
        exact W_X8_written_34 C N hko2 r0 kr0 x1 ox1 x2 ox2 x3 ox3 S3 _ _ _ (lv_sub hl [0, 1, 2, 3] rfl) hW3 hS h
      · replace h := h.2 hc
        refine m_tokens (pc := 28) C.1 C.2.1 hW3 hS q_626 dX8_written_28 ?_
        refine m_iload_n (pc := 31) C.1 dX8_written_31 rfl hl 3 rfl ?_
        obtain ⟨hb4a, hb4b, h⟩ := h
        refine m_aaldT (pc := 32) C.1 C.2.1 hW3 hS ox3 hb4a hb4b dX8_written_32 (fun t5 et5 ht5 => ?_)
        replace h := h t5 et5
        exact m_aret (pc := 33) C.1 C.2.2.2.1 ⟨_, rfl⟩ C.2.2.2.2.1 hW3 hS ht5 h (by decide) (by decide) dX8_written_33
def w_X8_written_2 (N : Nat) (Q : mSt → Nat → Prop) (ko40 : mSt → Prop) : Nat → Nat → Int → Int → Int → mSt → Prop
  | 0 => fun _ _ _ _ _ => False
  | k + 1 => w_X8_written_2b N Q (w_X8_written_2 N Q ko40 k) ko40
theorem W_X8_written_2 (C : mC p l s m args meth c cX8_written "MoonWash$Token" 4 (some (FieldType.object "MoonWash$Token")) g) (N : Nat) {Q : mSt → Nat → Prop} {ko40 : mSt → Prop} (hko40 : ∀  (S : mSt) (H : Heap) (locs : List Loc) (ls : Array Slot), lv_has ls 4 [] → mW g b KX S H → va_S (mA b KX s.heap.size) s.heap H locs → ko40 S → W p l e { frames := 6, cells := 0, slots := 0, locals := 174 } s m args below meth c H locs 0 0 (vx_MQ below (mQt g b KX Q (mA b KX s.heap.size)) (mEx g b KX (fun _ _ => False) (mA b KX s.heap.size)) args s 0 0 (mA b KX s.heap.size)) (F0 m 40 ls [])) : ∀ (k : Nat) (r0 : Nat) (kr0 : KX r0 = (1, 400, 0)) (x1 : Int) (ox1 : okI x1) (x2 : Int) (ox2 : okI x2) (x3 : Int) (ox3 : okI x3) (S : mSt) (H : Heap) (locs : List Loc) (ls : Array Slot) (hl : lv_has ls 4 [(0, .ref (b + r0)), (1, .int (mI x1)), (2, .int (mI x2)), (3, .int (mI x3))]) (hW : mW g b KX S H) (hS : va_S (mA b KX s.heap.size) s.heap H locs) (h : w_X8_written_2 N Q ko40 k r0 x1 x2 x3 S), W p l e { frames := 6, cells := 0, slots := 0, locals := 174 } s m args below meth c H locs 0 0 (vx_MQ below (mQt g b KX Q (mA b KX s.heap.size)) (mEx g b KX (fun _ _ => False) (mA b KX s.heap.size)) args s 0 0 (mA b KX s.heap.size)) (F0 m 2 ls []) := by
  intro k
  induction k with
  | zero => intro r0 kr0 x1 ox1 x2 ox2 x3 ox3 S H locs ls hl hW hS h; exact False.elim h
  | succ k ih => intro r0 kr0 x1 ox1 x2 ox2 x3 ox3 S H locs ls hl hW hS h; exact W_X8_written_2b C N ih hko40 r0 kr0 x1 ox1 x2 ox2 x3 ox3 S H locs ls hl hW hS h
end
def w_X8_written (N : Nat) (r0 : Nat) (x1 : Int) (x2 : Int) (S : mSt) (Q : mSt → Nat → Prop) : Prop :=
  ∀ v1 : Int, v1 = 0 → w_X8_written_2 N Q (fun  (S_2 : mSt) => Q S_2 2) N r0 x1 x2 v1 S
theorem T_X8_written {l : Launch} (hl0 : l.stackTraces = false) {g : mG} {b : Nat} (N : Nat) (r0 : Nat) (kr0 : KX r0 = (1, 400, 0)) (x1 : Int) (ox1 : okI x1) (x2 : Int) (ox2 : okI x2) {S : mSt} {Q : mSt → Nat → Prop} (h : w_X8_written N r0 x1 x2 S Q) (sz : Nat) : vx_Met l yX8_written (Cond.code yX8_written cX8_written 4 (some (FieldType.object "MoonWash$Token")) :: wsG) { frames := 6, cells := 0, slots := 0, locals := 174 } (mPc g b KX S [.ref (b + r0), .int (mI x1), .int (mI x2)] sz) (mQt g b KX Q (mA b KX sz)) (mEx g b KX (fun _ _ => False) (mA b KX sz)) 0 0 (mA b KX sz) :=
  m_of (av := [.ref (b + r0), .int (mI x1), .int (mI x2)]) (Qf := fun A => mQt g b KX Q A) (Xf := fun A => mEx g b KX (fun _ _ => False) A) (by decide) (Nat.le_of_ble_eq_true rfl) (fun p e s m args below meth c ls X hK hml hr hlk hout hnm hW hl => by
    have C : mC p l s m args meth c cX8_written "MoonWash$Token" 4 (some (FieldType.object "MoonWash$Token")) g := ⟨X, hK, hml, hr, hlk, hout, hl0⟩
    have hS : va_S (mA b KX s.heap.size) s.heap s.heap [] := va_S.rf
    have hl : lv_has ls 4 [(0, .ref (b + r0)), (1, .int (mI x1)), (2, .int (mI x2))] := hl
    unfold w_X8_written at h
    refine m_iconst (pc := 0) C.1 dX8_written_0 ?_
    refine m_istore_n (pc := 1) C.1 dX8_written_1 rfl hl (by decide) (fun v => [(3, .int v), (0, .ref (b + r0)), (1, .int (mI x1)), (2, .int (mI x2))]) (fun _ => rfl) (by decide : okI 0) (fun v1 ls ev1 ov1 hl => ?_)
    replace h := h v1 ev1
    refine W_X8_written_2 C N ?_ N r0 kr0 x1 ox1 x2 ox2 v1 ov1 S _ _ _ (lv_sub hl [1, 2, 3, 0] rfl) hW hS h
    · intro S_2 H locs ls hl hW_2 hS h
      refine m_token (pc := 40) C.1 C.2.1 hW_2 hS 2 (by decide) rfl q_681 dX8_written_40 ?_
      exact m_aret (pc := 43) C.1 C.2.2.2.1 ⟨_, rfl⟩ C.2.2.2.2.1 hW_2 hS (by decide : 2 < 36) h (by decide) (by decide) dX8_written_43) sz
section
variable {p : Program} {l : Launch} {e : Env} {s : State} {m : MethodId} {args : Array Value} {below : List Frame} {meth : Method} {c : Code} {g : mG} {b : Nat}
def w_X9_begin_12b (N : Nat) (Q : mSt → Prop) (ko12 : Nat → Nat → Int → mSt → Prop) (ko39 : mSt → Prop) (r0 : Nat) (r1 : Nat) (x2 : Int) (S : mSt) : Prop :=
  (((S r0 2) ≤ x2 → ko39 S) ∧ (x2 < (S r0 2) → w_X2_price N r1 (nm (x2 - 1)) S (fun (S1 : mSt) (v1 : Int) => (0 ≤ x2 ∧ x2 < 7 ∧ ∀ S3 : mSt, S3 = mup S1 (r0 + 10) x2 v1 → ∀ v4 : Int, v4 = nm (x2 + 1) → ko12 r0 r1 v4 S3))))
theorem W_X9_begin_12b (C : mC p l s m args meth c cX9_begin "MoonWash$WaterPlan" 3 none g) (N : Nat) {Q : mSt → Prop} {ko12 : Nat → Nat → Int → mSt → Prop} {ko39 : mSt → Prop} (hko12 : ∀ (r0 : Nat) (kr0 : KX r0 = (0, 7, 0)) (r1 : Nat) (kr1 : KX r1 = (0, 1, 0)) (x2 : Int) (ox2 : okI x2) (S : mSt) (H : Heap) (locs : List Loc) (ls : Array Slot), lv_has ls 3 [(0, .ref (b + r0)), (1, .ref (b + r1)), (2, .int (mI x2))] → mW g b KX S H → va_S (mA b KX s.heap.size) s.heap H locs → ko12 r0 r1 x2 S → W p l e { frames := 1, cells := 0, slots := 0, locals := 21 } s m args below meth c H locs 0 0 (vx_MQ below (mQv g b KX Q (mA b KX s.heap.size)) (mEx g b KX (fun _ _ => False) (mA b KX s.heap.size)) args s 0 0 (mA b KX s.heap.size)) (F0 m 12 ls [])) (hko39 : ∀  (S : mSt) (H : Heap) (locs : List Loc) (ls : Array Slot), lv_has ls 3 [] → mW g b KX S H → va_S (mA b KX s.heap.size) s.heap H locs → ko39 S → W p l e { frames := 1, cells := 0, slots := 0, locals := 21 } s m args below meth c H locs 0 0 (vx_MQ below (mQv g b KX Q (mA b KX s.heap.size)) (mEx g b KX (fun _ _ => False) (mA b KX s.heap.size)) args s 0 0 (mA b KX s.heap.size)) (F0 m 39 ls [])) (r0 : Nat) (kr0 : KX r0 = (0, 7, 0)) (r1 : Nat) (kr1 : KX r1 = (0, 1, 0)) (x2 : Int) (ox2 : okI x2) (S : mSt) (H : Heap) (locs : List Loc) (ls : Array Slot) (hl : lv_has ls 3 [(0, .ref (b + r0)), (1, .ref (b + r1)), (2, .int (mI x2))]) (hW : mW g b KX S H) (hS : va_S (mA b KX s.heap.size) s.heap H locs) (h : w_X9_begin_12b N Q ko12 ko39 r0 r1 x2 S) : W p l e { frames := 1, cells := 0, slots := 0, locals := 21 } s m args below meth c H locs 0 0 (vx_MQ below (mQv g b KX Q (mA b KX s.heap.size)) (mEx g b KX (fun _ _ => False) (mA b KX s.heap.size)) args s 0 0 (mA b KX s.heap.size)) (F0 m 12 ls []) := by
  unfold w_X9_begin_12b at h
  refine m_iload_n (pc := 12) C.1 dX9_begin_12 rfl hl 2 rfl ?_
  refine m_aload_n (pc := 13) C.1 dX9_begin_13 rfl hl 0 rfl ?_
  refine g_7_2 (pc := 14) C hW kr0 q_366 dX9_begin_14 ?_
  refine m_icmp_ge (pc := 17) (tgt := 39) C.1 ox2 (hW.2.1 _ _) dX9_begin_17 (by decide) (fun hc => ?_) (fun hc => ?_)
  · replace h := h.1 hc
    exact hko39  S _ _ _ (lv_sub hl [] rfl) hW hS h
  · replace h := h.2 hc
    refine m_aload_n (pc := 20) C.1 dX9_begin_20 rfl hl 0 rfl ?_
    refine g_7_1 (pc := 21) C hW kr0 q_365 dX9_begin_21 ?_
    refine m_iload_n (pc := 24) C.1 dX9_begin_24 rfl hl 2 rfl ?_
    refine m_aload_n (pc := 25) C.1 dX9_begin_25 rfl hl 1 rfl ?_
    refine m_iload_n (pc := 26) C.1 dX9_begin_26 rfl hl 2 rfl ?_
    refine m_iconst (pc := 27) C.1 dX9_begin_27 ?_
    refine m_isub (pc := 28) C.1 dX9_begin_28 ?_
    refine m_callVi (pc := 29) C.1 C.2.2.1 hl.1 C.2.1 hW hS (As := [.int (mI (nm (x2 - 1)))]) (rest := [.int (mI x2), .ref (b + (r0 + 10))]) (r := r1) (T_X2_price C.2.2.2.2.2.2 N r1 kr1 (nm (x2 - 1)) (nm_ok _) h) kr1 rfl q_1176 q_1006 q_1007 q_82 q_1008 pl_X2_price (by decide) (Nat.le_of_ble_eq_true rfl) dX9_begin_29 (fun v1 S1 H locs ov1 h hW1 hS => ?_)
    obtain ⟨hb2a, hb2b, h⟩ := h
    refine m_iast (pc := 32) C.1 C.2.1 hW1 hS (k_7_1 kr0) ox2 ov1 hb2a hb2b dX9_begin_32 (fun S3 H locs e3 hW3 hS => ?_)
    replace h := h S3 e3
    refine m_iinc (pc := 33) C.1 dX9_begin_33 hl (by decide) (q0 := 2) rfl (fun v => [(2, .int v), (0, .ref (b + r0)), (1, .ref (b + r1))]) (fun _ => rfl) (fun v4 ls ev4 ov4 hl => ?_)
    replace h := h v4 ev4
    refine m_goto (pc := 36) (tgt := 12) C.1 dX9_begin_36 (by decide) ?_
    exact hko12 r0 kr0 r1 kr1 v4 ov4 S3 _ _ _ (lv_sub hl [1, 2, 0] rfl) hW3 hS h
def w_X9_begin_12 (N : Nat) (Q : mSt → Prop) (ko39 : mSt → Prop) : Nat → Nat → Nat → Int → mSt → Prop
  | 0 => fun _ _ _ _ => False
  | k + 1 => w_X9_begin_12b N Q (w_X9_begin_12 N Q ko39 k) ko39
theorem W_X9_begin_12 (C : mC p l s m args meth c cX9_begin "MoonWash$WaterPlan" 3 none g) (N : Nat) {Q : mSt → Prop} {ko39 : mSt → Prop} (hko39 : ∀  (S : mSt) (H : Heap) (locs : List Loc) (ls : Array Slot), lv_has ls 3 [] → mW g b KX S H → va_S (mA b KX s.heap.size) s.heap H locs → ko39 S → W p l e { frames := 1, cells := 0, slots := 0, locals := 21 } s m args below meth c H locs 0 0 (vx_MQ below (mQv g b KX Q (mA b KX s.heap.size)) (mEx g b KX (fun _ _ => False) (mA b KX s.heap.size)) args s 0 0 (mA b KX s.heap.size)) (F0 m 39 ls [])) : ∀ (k : Nat) (r0 : Nat) (kr0 : KX r0 = (0, 7, 0)) (r1 : Nat) (kr1 : KX r1 = (0, 1, 0)) (x2 : Int) (ox2 : okI x2) (S : mSt) (H : Heap) (locs : List Loc) (ls : Array Slot) (hl : lv_has ls 3 [(0, .ref (b + r0)), (1, .ref (b + r1)), (2, .int (mI x2))]) (hW : mW g b KX S H) (hS : va_S (mA b KX s.heap.size) s.heap H locs) (h : w_X9_begin_12 N Q ko39 k r0 r1 x2 S), W p l e { frames := 1, cells := 0, slots := 0, locals := 21 } s m args below meth c H locs 0 0 (vx_MQ below (mQv g b KX Q (mA b KX s.heap.size)) (mEx g b KX (fun _ _ => False) (mA b KX s.heap.size)) args s 0 0 (mA b KX s.heap.size)) (F0 m 12 ls []) := by
  intro k
  induction k with
  | zero => intro r0 kr0 r1 kr1 x2 ox2 S H locs ls hl hW hS h; exact False.elim h
  | succ k ih => intro r0 kr0 r1 kr1 x2 ox2 S H locs ls hl hW hS h; exact W_X9_begin_12b C N ih hko39 r0 kr0 r1 kr1 x2 ox2 S H locs ls hl hW hS h
end
def w_X9_begin (N : Nat) (r0 : Nat) (r1 : Nat) (S : mSt) (Q : mSt → Prop) : Prop :=
  ∀ S1 : mSt, S1 = mup S r0 2 (nm ((S r1 2) + 1)) → ∀ v2 : Int, v2 = 1 → w_X9_begin_12 N Q (fun  (S_3 : mSt) => Q S_3) N r0 r1 v2 S1
theorem T_X9_begin {l : Launch} (hl0 : l.stackTraces = false) {g : mG} {b : Nat} (N : Nat) (r0 : Nat) (kr0 : KX r0 = (0, 7, 0)) (r1 : Nat) (kr1 : KX r1 = (0, 1, 0)) {S : mSt} {Q : mSt → Prop} (h : w_X9_begin N r0 r1 S Q) (sz : Nat) : vx_Met l yX9_begin (Cond.code yX9_begin cX9_begin 3 none :: wsG) { frames := 1, cells := 0, slots := 0, locals := 21 } (mPc g b KX S [.ref (b + r0), .ref (b + r1)] sz) (mQv g b KX Q (mA b KX sz)) (mEx g b KX (fun _ _ => False) (mA b KX sz)) 0 0 (mA b KX sz) :=
  m_of (av := [.ref (b + r0), .ref (b + r1)]) (Qf := fun A => mQv g b KX Q A) (Xf := fun A => mEx g b KX (fun _ _ => False) A) (by decide) (Nat.le_of_ble_eq_true rfl) (fun p e s m args below meth c ls X hK hml hr hlk hout hnm hW hl => by
    have C : mC p l s m args meth c cX9_begin "MoonWash$WaterPlan" 3 none g := ⟨X, hK, hml, hr, hlk, hout, hl0⟩
    have hS : va_S (mA b KX s.heap.size) s.heap s.heap [] := va_S.rf
    have hl : lv_has ls 3 [(0, .ref (b + r0)), (1, .ref (b + r1))] := hl
    unfold w_X9_begin at h
    refine m_aload_n (pc := 0) C.1 dX9_begin_0 rfl hl 0 rfl ?_
    refine m_aload_n (pc := 1) C.1 dX9_begin_1 rfl hl 1 rfl ?_
    refine g_1_2 (pc := 2) C hW kr1 q_189 dX9_begin_2 ?_
    refine m_iconst (pc := 5) C.1 dX9_begin_5 ?_
    refine m_iadd (pc := 6) C.1 dX9_begin_6 ?_
    refine p_7_2 (pc := 7) C hW hS kr0 q_366 (nm_ok _) dX9_begin_7 (fun S1 H locs e1 hW1 hS => ?_)
    replace h := h S1 e1
    refine m_iconst (pc := 10) C.1 dX9_begin_10 ?_
    refine m_istore_n (pc := 11) C.1 dX9_begin_11 rfl hl (by decide) (fun v => [(2, .int v), (0, .ref (b + r0)), (1, .ref (b + r1))]) (fun _ => rfl) (by decide : okI 1) (fun v2 ls ev2 ov2 hl => ?_)
    replace h := h v2 ev2
    refine W_X9_begin_12 C N ?_ N r0 kr0 r1 kr1 v2 ov2 S1 _ _ _ (lv_sub hl [1, 2, 0] rfl) hW1 hS h
    · intro S_3 H locs ls hl hW_3 hS h
      exact m_vret (pc := 39) C.1 C.2.2.2.1 C.2.2.2.2.1 hW_3 hS h (by decide) (by decide) dX9_begin_39) sz
section
variable {p : Program} {l : Launch} {e : Env} {s : State} {m : MethodId} {args : Array Value} {below : List Frame} {meth : Method} {c : Code} {g : mG} {b : Nat}
end
def w_X9_tell (N : Nat) (r0 : Nat) (x1 : Int) (x2 : Int) (x3 : Int) (S : mSt) (Q : mSt → Prop) : Prop :=
  (0 ≤ x1 ∧ x1 < 8 ∧ (0 ≤ (nm (x2 + 1)) ∧ (nm (x2 + 1)) < 7 ∧ ∀ S3 : mSt, S3 = mup S ((r0 + 1) + 1 + x1.toNat) (nm (x2 + 1)) x3 → Q S3))
theorem T_X9_tell {l : Launch} (hl0 : l.stackTraces = false) {g : mG} {b : Nat} (N : Nat) (r0 : Nat) (kr0 : KX r0 = (0, 7, 0)) (x1 : Int) (ox1 : okI x1) (x2 : Int) (ox2 : okI x2) (x3 : Int) (ox3 : okI x3) {S : mSt} {Q : mSt → Prop} (h : w_X9_tell N r0 x1 x2 x3 S Q) (sz : Nat) : vx_Met l yX9_tell (Cond.code yX9_tell cX9_tell 4 none :: wsG) { frames := 0, cells := 0, slots := 0, locals := 0 } (mPc g b KX S [.ref (b + r0), .int (mI x1), .int (mI x2), .int (mI x3)] sz) (mQv g b KX Q (mA b KX sz)) (mEx g b KX (fun _ _ => False) (mA b KX sz)) 0 0 (mA b KX sz) :=
  m_of (av := [.ref (b + r0), .int (mI x1), .int (mI x2), .int (mI x3)]) (Qf := fun A => mQv g b KX Q A) (Xf := fun A => mEx g b KX (fun _ _ => False) A) (by decide) (Nat.le_of_ble_eq_true rfl) (fun p e s m args below meth c ls X hK hml hr hlk hout hnm hW hl => by
    have C : mC p l s m args meth c cX9_tell "MoonWash$WaterPlan" 4 none g := ⟨X, hK, hml, hr, hlk, hout, hl0⟩
    have hS : va_S (mA b KX s.heap.size) s.heap s.heap [] := va_S.rf
    have hl : lv_has ls 4 [(0, .ref (b + r0)), (1, .int (mI x1)), (2, .int (mI x2)), (3, .int (mI x3))] := hl
    unfold w_X9_tell at h
    refine m_aload_n (pc := 0) C.1 dX9_tell_0 rfl hl 0 rfl ?_
    refine g_7_0 (pc := 1) C hW kr0 q_364 dX9_tell_1 ?_
    refine m_iload_n (pc := 4) C.1 dX9_tell_4 rfl hl 1 rfl ?_
    obtain ⟨hb1a, hb1b, h⟩ := h
    refine m_aald4 (pc := 5) C.1 C.2.1 hW (k_7_0 kr0) ox1 hb1a hb1b dX9_tell_5 ?_
    refine m_iload_n (pc := 6) C.1 dX9_tell_6 rfl hl 2 rfl ?_
    refine m_iconst (pc := 7) C.1 dX9_tell_7 ?_
    refine m_iadd (pc := 8) C.1 dX9_tell_8 ?_
    refine m_iload_n (pc := 9) C.1 dX9_tell_9 rfl hl 3 rfl ?_
    obtain ⟨hb2a, hb2b, h⟩ := h
    refine m_iast (pc := 10) C.1 C.2.1 hW hS (k_grid (k_7_0 kr0) hb1a hb1b) (nm_ok _) ox3 hb2a hb2b dX9_tell_10 (fun S3 H locs e3 hW3 hS => ?_)
    replace h := h S3 e3
    exact m_vret (pc := 11) C.1 C.2.2.2.1 C.2.2.2.2.1 hW3 hS h (by decide) (by decide) dX9_tell_11) sz
section
variable {p : Program} {l : Launch} {e : Env} {s : State} {m : MethodId} {args : Array Value} {below : List Frame} {meth : Method} {c : Code} {g : mG} {b : Nat}
end
def w_X9_waterWith (N : Nat) (r0 : Nat) (x1 : Int) (x2 : Int) (x3 : Int) (S : mSt) (Q : mSt → Int → Prop) : Prop :=
  (0 ≤ x2 ∧ x2 < 7 ∧ (0 ≤ (nm (x1 + 1)) ∧ (nm (x1 + 1)) < 9 ∧ (0 ≤ x1 ∧ x1 < 8 ∧ (0 ≤ x2 ∧ x2 < 7 ∧ (0 ≤ (iMax 0 (nm (x3 - (S ((r0 + 1) + 1 + x1.toNat) x2)))) ∧ (iMax 0 (nm (x3 - (S ((r0 + 1) + 1 + x1.toNat) x2)))) < 161 ∧ Q S (nm ((S (r0 + 10) x2) + (S ((r0 + 11) + 1 + (nm (x1 + 1)).toNat) (iMax 0 (nm (x3 - (S ((r0 + 1) + 1 + x1.toNat) x2))))))))))))
theorem T_X9_waterWith {l : Launch} (hl0 : l.stackTraces = false) {g : mG} {b : Nat} (N : Nat) (r0 : Nat) (kr0 : KX r0 = (0, 7, 0)) (x1 : Int) (ox1 : okI x1) (x2 : Int) (ox2 : okI x2) (x3 : Int) (ox3 : okI x3) {S : mSt} {Q : mSt → Int → Prop} (h : w_X9_waterWith N r0 x1 x2 x3 S Q) (sz : Nat) : vx_Met l yX9_waterWith (Cond.code yX9_waterWith cX9_waterWith 4 (some FieldType.int) :: wsG) { frames := 1, cells := 0, slots := 0, locals := 30 } (mPc g b KX S [.ref (b + r0), .int (mI x1), .int (mI x2), .int (mI x3)] sz) (mQi g b KX Q (mA b KX sz)) (mEx g b KX (fun _ _ => False) (mA b KX sz)) 0 0 (mA b KX sz) :=
  m_of (av := [.ref (b + r0), .int (mI x1), .int (mI x2), .int (mI x3)]) (Qf := fun A => mQi g b KX Q A) (Xf := fun A => mEx g b KX (fun _ _ => False) A) (by decide) (Nat.le_of_ble_eq_true rfl) (fun p e s m args below meth c ls X hK hml hr hlk hout hnm hW hl => by
    have C : mC p l s m args meth c cX9_waterWith "MoonWash$WaterPlan" 4 (some FieldType.int) g := ⟨X, hK, hml, hr, hlk, hout, hl0⟩
    have hS : va_S (mA b KX s.heap.size) s.heap s.heap [] := va_S.rf
    have hl : lv_has ls 4 [(0, .ref (b + r0)), (1, .int (mI x1)), (2, .int (mI x2)), (3, .int (mI x3))] := hl
    unfold w_X9_waterWith at h
    refine m_aload_n (pc := 0) C.1 dX9_waterWith_0 rfl hl 0 rfl ?_
    refine g_7_1 (pc := 1) C hW kr0 q_365 dX9_waterWith_1 ?_
    refine m_iload_n (pc := 4) C.1 dX9_waterWith_4 rfl hl 2 rfl ?_
    obtain ⟨hb1a, hb1b, h⟩ := h
    refine m_iald (pc := 5) C.1 C.2.1 hW (k_7_1 kr0) ox2 hb1a hb1b dX9_waterWith_5 ?_
    refine m_aload_n (pc := 6) C.1 dX9_waterWith_6 rfl hl 0 rfl ?_
    refine g_7_3 (pc := 7) C hW kr0 q_367 dX9_waterWith_7 ?_
    refine m_iload_n (pc := 10) C.1 dX9_waterWith_10 rfl hl 1 rfl ?_
    refine m_iconst (pc := 11) C.1 dX9_waterWith_11 ?_
    refine m_iadd (pc := 12) C.1 dX9_waterWith_12 ?_
    obtain ⟨hb2a, hb2b, h⟩ := h
    refine m_aald4 (pc := 13) C.1 C.2.1 hW (k_7_3 kr0) (nm_ok _) hb2a hb2b dX9_waterWith_13 ?_
    refine m_iconst (pc := 14) C.1 dX9_waterWith_14 ?_
    refine m_iload_n (pc := 15) C.1 dX9_waterWith_15 rfl hl 3 rfl ?_
    refine m_aload_n (pc := 16) C.1 dX9_waterWith_16 rfl hl 0 rfl ?_
    refine g_7_0 (pc := 17) C hW kr0 q_364 dX9_waterWith_17 ?_
    refine m_iload_n (pc := 20) C.1 dX9_waterWith_20 rfl hl 1 rfl ?_
    obtain ⟨hb3a, hb3b, h⟩ := h
    refine m_aald4 (pc := 21) C.1 C.2.1 hW (k_7_0 kr0) ox1 hb3a hb3b dX9_waterWith_21 ?_
    refine m_iload_n (pc := 22) C.1 dX9_waterWith_22 rfl hl 2 rfl ?_
    obtain ⟨hb4a, hb4b, h⟩ := h
    refine m_iald (pc := 23) C.1 C.2.1 hW (k_grid (k_7_0 kr0) hb3a hb3b) ox2 hb4a hb4b dX9_waterWith_23 ?_
    refine m_isub (pc := 24) C.1 dX9_waterWith_24 ?_
    refine m_max (pc := 25) C.1 C.2.2.1 hl.1 (by decide : okI 0) (nm_ok _) q_1189 q_523 q_93 q_524 (by refine ⟨?_, Nat.le_of_ble_eq_true rfl, ?_, ?_⟩ <;> decide) dX9_waterWith_25 ?_
    obtain ⟨hb5a, hb5b, h⟩ := h
    refine m_iald (pc := 28) C.1 C.2.1 hW (k_grid (k_7_3 kr0) hb2a hb2b) (iMax_ok (by decide : okI 0) (nm_ok _)) hb5a hb5b dX9_waterWith_28 ?_
    refine m_iadd (pc := 29) C.1 dX9_waterWith_29 ?_
    exact m_iret (pc := 30) C.1 C.2.2.2.1 C.2.2.2.2.1 hW hS (nm_ok _) h (by decide) (by decide) dX9_waterWith_30) sz
section
variable {p : Program} {l : Launch} {e : Env} {s : State} {m : MethodId} {args : Array Value} {below : List Frame} {meth : Method} {c : Code} {g : mG} {b : Nat}
def w_X9_fill_26 (N : Nat) (Q : mSt → Prop) (ko2 : Nat → Int → Int → mSt → Prop) (r0 : Nat) (x1 : Int) (x2 : Int) (xs0 : Int) (xs1 : Int) (rs2 : Nat) (S : mSt) : Prop :=
  (0 ≤ xs1 ∧ xs1 < 161 ∧ ∀ S2 : mSt, S2 = mup S rs2 xs1 xs0 → ∀ v3 : Int, v3 = nm (x2 + 1) → ko2 r0 x1 v3 S2)
theorem W_X9_fill_26 (C : mC p l s m args meth c cX9_fill "MoonWash$WaterPlan" 6 none g) (N : Nat) {Q : mSt → Prop} {ko2 : Nat → Int → Int → mSt → Prop} (hko2 : ∀ (r0 : Nat) (kr0 : KX r0 = (0, 7, 0)) (x1 : Int) (ox1 : okI x1) (x2 : Int) (ox2 : okI x2) (S : mSt) (H : Heap) (locs : List Loc) (ls : Array Slot), lv_has ls 6 [(0, .ref (b + r0)), (1, .int (mI x1)), (2, .int (mI x2))] → mW g b KX S H → va_S (mA b KX s.heap.size) s.heap H locs → ko2 r0 x1 x2 S → W p l e { frames := 2, cells := 0, slots := 0, locals := 53 } s m args below meth c H locs 0 0 (vx_MQ below (mQv g b KX Q (mA b KX s.heap.size)) (mEx g b KX (fun _ _ => False) (mA b KX s.heap.size)) args s 0 0 (mA b KX s.heap.size)) (F0 m 2 ls [])) (r0 : Nat) (kr0 : KX r0 = (0, 7, 0)) (x1 : Int) (ox1 : okI x1) (x2 : Int) (ox2 : okI x2) (xs0 : Int) (oxs0 : okI xs0) (xs1 : Int) (oxs1 : okI xs1) (rs2 : Nat) (krs2 : KX rs2 = (1, 161, 0)) (S : mSt) (H : Heap) (locs : List Loc) (ls : Array Slot) (hl : lv_has ls 6 [(0, .ref (b + r0)), (1, .int (mI x1)), (2, .int (mI x2))]) (hW : mW g b KX S H) (hS : va_S (mA b KX s.heap.size) s.heap H locs) (h : w_X9_fill_26 N Q ko2 r0 x1 x2 xs0 xs1 rs2 S) : W p l e { frames := 2, cells := 0, slots := 0, locals := 53 } s m args below meth c H locs 0 0 (vx_MQ below (mQv g b KX Q (mA b KX s.heap.size)) (mEx g b KX (fun _ _ => False) (mA b KX s.heap.size)) args s 0 0 (mA b KX s.heap.size)) (F0 m 26 ls [.int (mI xs0), .int (mI xs1), .ref (b + rs2)]) := by
  unfold w_X9_fill_26 at h
  obtain ⟨hb1a, hb1b, h⟩ := h
  refine m_iast (pc := 26) C.1 C.2.1 hW hS krs2 oxs1 oxs0 hb1a hb1b dX9_fill_26 (fun S2 H locs e2 hW2 hS => ?_)
  replace h := h S2 e2
  refine m_iinc (pc := 27) C.1 dX9_fill_27 hl (by decide) (q0 := 2) rfl (fun v => [(2, .int v), (0, .ref (b + r0)), (1, .int (mI x1))]) (fun _ => rfl) (fun v3 ls ev3 ov3 hl => ?_)
  replace h := h v3 ev3
  refine m_goto (pc := 30) (tgt := 2) C.1 dX9_fill_30 (by decide) ?_
  exact hko2 r0 kr0 x1 ox1 v3 ov3 S2 _ _ _ (lv_sub hl [1, 2, 0] rfl) hW2 hS h
def w_X9_fill_2b (N : Nat) (Q : mSt → Prop) (ko2 : Nat → Int → Int → mSt → Prop) (ko33 : Nat → Int → mSt → Prop) (r0 : Nat) (x1 : Int) (x2 : Int) (S : mSt) : Prop :=
  ((x1 < x2 → ko33 r0 x1 S) ∧ (x2 ≤ x1 → ((x2 ≠ 0 → w_X9_fill_26 N Q ko2 r0 x1 x2 1000 x2 ((r0 + 11) + 1 + (8 : Int).toNat) S) ∧ (x2 = 0 → w_X9_fill_26 N Q ko2 r0 x1 x2 0 x2 ((r0 + 11) + 1 + (8 : Int).toNat) S))))
theorem W_X9_fill_2b (C : mC p l s m args meth c cX9_fill "MoonWash$WaterPlan" 6 none g) (N : Nat) {Q : mSt → Prop} {ko2 : Nat → Int → Int → mSt → Prop} {ko33 : Nat → Int → mSt → Prop} (hko2 : ∀ (r0 : Nat) (kr0 : KX r0 = (0, 7, 0)) (x1 : Int) (ox1 : okI x1) (x2 : Int) (ox2 : okI x2) (S : mSt) (H : Heap) (locs : List Loc) (ls : Array Slot), lv_has ls 6 [(0, .ref (b + r0)), (1, .int (mI x1)), (2, .int (mI x2))] → mW g b KX S H → va_S (mA b KX s.heap.size) s.heap H locs → ko2 r0 x1 x2 S → W p l e { frames := 2, cells := 0, slots := 0, locals := 53 } s m args below meth c H locs 0 0 (vx_MQ below (mQv g b KX Q (mA b KX s.heap.size)) (mEx g b KX (fun _ _ => False) (mA b KX s.heap.size)) args s 0 0 (mA b KX s.heap.size)) (F0 m 2 ls [])) (hko33 : ∀ (r0 : Nat) (kr0 : KX r0 = (0, 7, 0)) (x1 : Int) (ox1 : okI x1) (S : mSt) (H : Heap) (locs : List Loc) (ls : Array Slot), lv_has ls 6 [(0, .ref (b + r0)), (1, .int (mI x1))] → mW g b KX S H → va_S (mA b KX s.heap.size) s.heap H locs → ko33 r0 x1 S → W p l e { frames := 2, cells := 0, slots := 0, locals := 53 } s m args below meth c H locs 0 0 (vx_MQ below (mQv g b KX Q (mA b KX s.heap.size)) (mEx g b KX (fun _ _ => False) (mA b KX s.heap.size)) args s 0 0 (mA b KX s.heap.size)) (F0 m 33 ls [])) (r0 : Nat) (kr0 : KX r0 = (0, 7, 0)) (x1 : Int) (ox1 : okI x1) (x2 : Int) (ox2 : okI x2) (S : mSt) (H : Heap) (locs : List Loc) (ls : Array Slot) (hl : lv_has ls 6 [(0, .ref (b + r0)), (1, .int (mI x1)), (2, .int (mI x2))]) (hW : mW g b KX S H) (hS : va_S (mA b KX s.heap.size) s.heap H locs) (h : w_X9_fill_2b N Q ko2 ko33 r0 x1 x2 S) : W p l e { frames := 2, cells := 0, slots := 0, locals := 53 } s m args below meth c H locs 0 0 (vx_MQ below (mQv g b KX Q (mA b KX s.heap.size)) (mEx g b KX (fun _ _ => False) (mA b KX s.heap.size)) args s 0 0 (mA b KX s.heap.size)) (F0 m 2 ls []) := by
  unfold w_X9_fill_2b at h
  refine m_iload_n (pc := 2) C.1 dX9_fill_2 rfl hl 2 rfl ?_
  refine m_iload_n (pc := 3) C.1 dX9_fill_3 rfl hl 1 rfl ?_
  refine m_icmp_gt (pc := 4) (tgt := 33) C.1 ox2 ox1 dX9_fill_4 (by decide) (fun hc => ?_) (fun hc => ?_)
  · replace h := h.1 hc
    exact hko33 r0 kr0 x1 ox1 S _ _ _ (lv_sub hl [0, 1] rfl) hW hS h
  · replace h := h.2 hc
    refine m_aload_n (pc := 7) C.1 dX9_fill_7 rfl hl 0 rfl ?_
    refine g_7_3 (pc := 8) C hW kr0 q_367 dX9_fill_8 ?_
    refine m_bipush (pc := 11) C.1 dX9_fill_11 rfl ?_
    refine m_aald4 (pc := 13) C.1 C.2.1 hW (k_7_3 kr0) (by decide : okI 8) (by decide) (by decide) dX9_fill_13 ?_
    refine m_iload_n (pc := 14) C.1 dX9_fill_14 rfl hl 2 rfl ?_
    refine m_iload_n (pc := 15) C.1 dX9_fill_15 rfl hl 2 rfl ?_
    refine m_if_ne (pc := 16) (tgt := 23) C.1 ox2 dX9_fill_16 (by decide) (fun hc => ?_) (fun hc => ?_)
    · replace h := h.1 hc
      refine m_sipush (pc := 23) C.1 dX9_fill_23 rfl ?_
      exact W_X9_fill_26 C N hko2 r0 kr0 x1 ox1 x2 ox2 1000 (by decide : okI 1000) x2 ox2 ((r0 + 11) + 1 + (8 : Int).toNat) (k_grid (k_7_3 kr0) (by decide) (by decide)) S _ _ _ (lv_sub hl [0, 1, 2] rfl) hW hS h
    · replace h := h.2 hc
      refine m_iconst (pc := 19) C.1 dX9_fill_19 ?_
      refine m_goto (pc := 20) (tgt := 26) C.1 dX9_fill_20 (by decide) ?_
      exact W_X9_fill_26 C N hko2 r0 kr0 x1 ox1 x2 ox2 0 (by decide : okI 0) x2 ox2 ((r0 + 11) + 1 + (8 : Int).toNat) (k_grid (k_7_3 kr0) (by decide) (by decide)) S _ _ _ (lv_sub hl [0, 1, 2] rfl) hW hS h
def w_X9_fill_2 (N : Nat) (Q : mSt → Prop) (ko33 : Nat → Int → mSt → Prop) : Nat → Nat → Int → Int → mSt → Prop
  | 0 => fun _ _ _ _ => False
  | k + 1 => w_X9_fill_2b N Q (w_X9_fill_2 N Q ko33 k) ko33
theorem W_X9_fill_2 (C : mC p l s m args meth c cX9_fill "MoonWash$WaterPlan" 6 none g) (N : Nat) {Q : mSt → Prop} {ko33 : Nat → Int → mSt → Prop} (hko33 : ∀ (r0 : Nat) (kr0 : KX r0 = (0, 7, 0)) (x1 : Int) (ox1 : okI x1) (S : mSt) (H : Heap) (locs : List Loc) (ls : Array Slot), lv_has ls 6 [(0, .ref (b + r0)), (1, .int (mI x1))] → mW g b KX S H → va_S (mA b KX s.heap.size) s.heap H locs → ko33 r0 x1 S → W p l e { frames := 2, cells := 0, slots := 0, locals := 53 } s m args below meth c H locs 0 0 (vx_MQ below (mQv g b KX Q (mA b KX s.heap.size)) (mEx g b KX (fun _ _ => False) (mA b KX s.heap.size)) args s 0 0 (mA b KX s.heap.size)) (F0 m 33 ls [])) : ∀ (k : Nat) (r0 : Nat) (kr0 : KX r0 = (0, 7, 0)) (x1 : Int) (ox1 : okI x1) (x2 : Int) (ox2 : okI x2) (S : mSt) (H : Heap) (locs : List Loc) (ls : Array Slot) (hl : lv_has ls 6 [(0, .ref (b + r0)), (1, .int (mI x1)), (2, .int (mI x2))]) (hW : mW g b KX S H) (hS : va_S (mA b KX s.heap.size) s.heap H locs) (h : w_X9_fill_2 N Q ko33 k r0 x1 x2 S), W p l e { frames := 2, cells := 0, slots := 0, locals := 53 } s m args below meth c H locs 0 0 (vx_MQ below (mQv g b KX Q (mA b KX s.heap.size)) (mEx g b KX (fun _ _ => False) (mA b KX s.heap.size)) args s 0 0 (mA b KX s.heap.size)) (F0 m 2 ls []) := by
  intro k
  induction k with
  | zero => intro r0 kr0 x1 ox1 x2 ox2 S H locs ls hl hW hS h; exact False.elim h
  | succ k ih => intro r0 kr0 x1 ox1 x2 ox2 S H locs ls hl hW hS h; exact W_X9_fill_2b C N ih hko33 r0 kr0 x1 ox1 x2 ox2 S H locs ls hl hW hS h
def w_X9_fill_55b (N : Nat) (Q : mSt → Prop) (ko55 : Nat → Int → Int → Int → Int → Int → mSt → Prop) (ko85 : Nat → Int → Int → Int → Int → mSt → Prop) (r0 : Nat) (x1 : Int) (x2 : Int) (x3 : Int) (x4 : Int) (x5 : Int) (S : mSt) : Prop :=
  (((S r0 2) ≤ x5 → ko85 r0 x1 x2 x3 x4 S) ∧ (x5 < (S r0 2) → w_X9_waterWith N r0 x2 x5 x3 S (fun (S1 : mSt) (v1 : Int) => ∀ v2 : Int, v2 = (iMin x4 v1) → ∀ v3 : Int, v3 = nm (x5 + 1) → ko55 r0 x1 x2 x3 v2 v3 S1)))
theorem W_X9_fill_55b (C : mC p l s m args meth c cX9_fill "MoonWash$WaterPlan" 6 none g) (N : Nat) {Q : mSt → Prop} {ko55 : Nat → Int → Int → Int → Int → Int → mSt → Prop} {ko85 : Nat → Int → Int → Int → Int → mSt → Prop} (hko55 : ∀ (r0 : Nat) (kr0 : KX r0 = (0, 7, 0)) (x1 : Int) (ox1 : okI x1) (x2 : Int) (ox2 : okI x2) (x3 : Int) (ox3 : okI x3) (x4 : Int) (ox4 : okI x4) (x5 : Int) (ox5 : okI x5) (S : mSt) (H : Heap) (locs : List Loc) (ls : Array Slot), lv_has ls 6 [(0, .ref (b + r0)), (1, .int (mI x1)), (2, .int (mI x2)), (3, .int (mI x3)), (4, .int (mI x4)), (5, .int (mI x5))] → mW g b KX S H → va_S (mA b KX s.heap.size) s.heap H locs → ko55 r0 x1 x2 x3 x4 x5 S → W p l e { frames := 2, cells := 0, slots := 0, locals := 53 } s m args below meth c H locs 0 0 (vx_MQ below (mQv g b KX Q (mA b KX s.heap.size)) (mEx g b KX (fun _ _ => False) (mA b KX s.heap.size)) args s 0 0 (mA b KX s.heap.size)) (F0 m 55 ls [])) (hko85 : ∀ (r0 : Nat) (kr0 : KX r0 = (0, 7, 0)) (x1 : Int) (ox1 : okI x1) (x2 : Int) (ox2 : okI x2) (x3 : Int) (ox3 : okI x3) (x4 : Int) (ox4 : okI x4) (S : mSt) (H : Heap) (locs : List Loc) (ls : Array Slot), lv_has ls 6 [(0, .ref (b + r0)), (1, .int (mI x1)), (2, .int (mI x2)), (3, .int (mI x3)), (4, .int (mI x4))] → mW g b KX S H → va_S (mA b KX s.heap.size) s.heap H locs → ko85 r0 x1 x2 x3 x4 S → W p l e { frames := 2, cells := 0, slots := 0, locals := 53 } s m args below meth c H locs 0 0 (vx_MQ below (mQv g b KX Q (mA b KX s.heap.size)) (mEx g b KX (fun _ _ => False) (mA b KX s.heap.size)) args s 0 0 (mA b KX s.heap.size)) (F0 m 85 ls [])) (r0 : Nat) (kr0 : KX r0 = (0, 7, 0)) (x1 : Int) (ox1 : okI x1) (x2 : Int) (ox2 : okI x2) (x3 : Int) (ox3 : okI x3) (x4 : Int) (ox4 : okI x4) (x5 : Int) (ox5 : okI x5) (S : mSt) (H : Heap) (locs : List Loc) (ls : Array Slot) (hl : lv_has ls 6 [(0, .ref (b + r0)), (1, .int (mI x1)), (2, .int (mI x2)), (3, .int (mI x3)), (4, .int (mI x4)), (5, .int (mI x5))]) (hW : mW g b KX S H) (hS : va_S (mA b KX s.heap.size) s.heap H locs) (h : w_X9_fill_55b N Q ko55 ko85 r0 x1 x2 x3 x4 x5 S) : W p l e { frames := 2, cells := 0, slots := 0, locals := 53 } s m args below meth c H locs 0 0 (vx_MQ below (mQv g b KX Q (mA b KX s.heap.size)) (mEx g b KX (fun _ _ => False) (mA b KX s.heap.size)) args s 0 0 (mA b KX s.heap.size)) (F0 m 55 ls []) := by
  unfold w_X9_fill_55b at h
  refine m_iload (pc := 55) C.1 dX9_fill_55 hl 5 rfl ?_
  refine m_aload_n (pc := 57) C.1 dX9_fill_57 rfl hl 0 rfl ?_
  refine g_7_2 (pc := 58) C hW kr0 q_366 dX9_fill_58 ?_
  refine m_icmp_ge (pc := 61) (tgt := 85) C.1 ox5 (hW.2.1 _ _) dX9_fill_61 (by decide) (fun hc => ?_) (fun hc => ?_)
  · replace h := h.1 hc
    exact hko85 r0 kr0 x1 ox1 x2 ox2 x3 ox3 x4 ox4 S _ _ _ (lv_sub hl [0, 1, 2, 3, 4] rfl) hW hS h
  · replace h := h.2 hc
    refine m_iload (pc := 64) C.1 dX9_fill_64 hl 4 rfl ?_
    refine m_aload_n (pc := 66) C.1 dX9_fill_66 rfl hl 0 rfl ?_
    refine m_iload_n (pc := 67) C.1 dX9_fill_67 rfl hl 2 rfl ?_
    refine m_iload (pc := 68) C.1 dX9_fill_68 hl 5 rfl ?_
    refine m_iload_n (pc := 70) C.1 dX9_fill_70 rfl hl 3 rfl ?_
    refine m_callVi (pc := 71) C.1 C.2.2.1 hl.1 C.2.1 hW hS (As := [.int (mI x2), .int (mI x5), .int (mI x3)]) (rest := [.int (mI x4)]) (r := r0) (T_X9_waterWith C.2.2.2.2.2.2 N r0 kr0 x2 ox2 x5 ox5 x3 ox3 h) kr0 rfl q_1185 q_1187 q_14 q_90 q_1188 pl_X9_waterWith (by decide) (Nat.le_of_ble_eq_true rfl) dX9_fill_71 (fun v1 S1 H locs ov1 h hW1 hS => ?_)
    refine m_min (pc := 74) C.1 C.2.2.1 hl.1 ox4 ov1 q_1190 q_520 q_93 q_521 (by refine ⟨?_, Nat.le_of_ble_eq_true rfl, ?_, ?_⟩ <;> decide) dX9_fill_74 ?_
    refine m_istore (pc := 77) C.1 dX9_fill_77 hl (by decide) (fun v => [(4, .int v), (0, .ref (b + r0)), (1, .int (mI x1)), (2, .int (mI x2)), (3, .int (mI x3)), (5, .int (mI x5))]) (fun _ => rfl) (iMin_ok ox4 ov1) (fun v2 ls ev2 ov2 hl => ?_)
    replace h := h v2 ev2
    refine m_iinc (pc := 79) C.1 dX9_fill_79 hl (by decide) (q0 := 5) rfl (fun v => [(5, .int v), (4, .int (mI v2)), (0, .ref (b + r0)), (1, .int (mI x1)), (2, .int (mI x2)), (3, .int (mI x3))]) (fun _ => rfl) (fun v3 ls ev3 ov3 hl => ?_)
    replace h := h v3 ev3
    refine m_goto (pc := 82) (tgt := 55) C.1 dX9_fill_82 (by decide) ?_
    exact hko55 r0 kr0 x1 ox1 x2 ox2 x3 ox3 v2 ov2 v3 ov3 S1 _ _ _ (lv_sub hl [2, 3, 4, 5, 1, 0] rfl) hW1 hS h
def w_X9_fill_55 (N : Nat) (Q : mSt → Prop) (ko85 : Nat → Int → Int → Int → Int → mSt → Prop) : Nat → Nat → Int → Int → Int → Int → Int → mSt → Prop
  | 0 => fun _ _ _ _ _ _ _ => False
  | k + 1 => w_X9_fill_55b N Q (w_X9_fill_55 N Q ko85 k) ko85
theorem W_X9_fill_55 (C : mC p l s m args meth c cX9_fill "MoonWash$WaterPlan" 6 none g) (N : Nat) {Q : mSt → Prop} {ko85 : Nat → Int → Int → Int → Int → mSt → Prop} (hko85 : ∀ (r0 : Nat) (kr0 : KX r0 = (0, 7, 0)) (x1 : Int) (ox1 : okI x1) (x2 : Int) (ox2 : okI x2) (x3 : Int) (ox3 : okI x3) (x4 : Int) (ox4 : okI x4) (S : mSt) (H : Heap) (locs : List Loc) (ls : Array Slot), lv_has ls 6 [(0, .ref (b + r0)), (1, .int (mI x1)), (2, .int (mI x2)), (3, .int (mI x3)), (4, .int (mI x4))] → mW g b KX S H → va_S (mA b KX s.heap.size) s.heap H locs → ko85 r0 x1 x2 x3 x4 S → W p l e { frames := 2, cells := 0, slots := 0, locals := 53 } s m args below meth c H locs 0 0 (vx_MQ below (mQv g b KX Q (mA b KX s.heap.size)) (mEx g b KX (fun _ _ => False) (mA b KX s.heap.size)) args s 0 0 (mA b KX s.heap.size)) (F0 m 85 ls [])) : ∀ (k : Nat) (r0 : Nat) (kr0 : KX r0 = (0, 7, 0)) (x1 : Int) (ox1 : okI x1) (x2 : Int) (ox2 : okI x2) (x3 : Int) (ox3 : okI x3) (x4 : Int) (ox4 : okI x4) (x5 : Int) (ox5 : okI x5) (S : mSt) (H : Heap) (locs : List Loc) (ls : Array Slot) (hl : lv_has ls 6 [(0, .ref (b + r0)), (1, .int (mI x1)), (2, .int (mI x2)), (3, .int (mI x3)), (4, .int (mI x4)), (5, .int (mI x5))]) (hW : mW g b KX S H) (hS : va_S (mA b KX s.heap.size) s.heap H locs) (h : w_X9_fill_55 N Q ko85 k r0 x1 x2 x3 x4 x5 S), W p l e { frames := 2, cells := 0, slots := 0, locals := 53 } s m args below meth c H locs 0 0 (vx_MQ below (mQv g b KX Q (mA b KX s.heap.size)) (mEx g b KX (fun _ _ => False) (mA b KX s.heap.size)) args s 0 0 (mA b KX s.heap.size)) (F0 m 55 ls []) := by
  intro k
  induction k with
  | zero => intro r0 kr0 x1 ox1 x2 ox2 x3 ox3 x4 ox4 x5 ox5 S H locs ls hl hW hS h; exact False.elim h
  | succ k ih => intro r0 kr0 x1 ox1 x2 ox2 x3 ox3 x4 ox4 x5 ox5 S H locs ls hl hW hS h; exact W_X9_fill_55b C N ih hko85 r0 kr0 x1 ox1 x2 ox2 x3 ox3 x4 ox4 x5 ox5 S H locs ls hl hW hS h
def w_X9_fill_42b (N : Nat) (Q : mSt → Prop) (ko42 : Nat → Int → Int → Int → mSt → Prop) (ko101 : Nat → Int → Int → mSt → Prop) (r0 : Nat) (x1 : Int) (x2 : Int) (x3 : Int) (S : mSt) : Prop :=
  ((x1 < x3 → ko101 r0 x1 x2 S) ∧ (x3 ≤ x1 → ∀ v1 : Int, v1 = 1000 → ∀ v2 : Int, v2 = 0 → w_X9_fill_55 N Q (fun (r0_3 : Nat) (x1_3 : Int) (x2_3 : Int) (x3_3 : Int) (x4_3 : Int) (S_3 : mSt) => (0 ≤ x2_3 ∧ x2_3 < 9 ∧ (0 ≤ x3_3 ∧ x3_3 < 161 ∧ ∀ S6 : mSt, S6 = mup S_3 ((r0_3 + 11) + 1 + x2_3.toNat) x3_3 x4_3 → ∀ v7 : Int, v7 = nm (x3_3 + 1) → ko42 r0_3 x1_3 x2_3 v7 S6))) N r0 x1 x2 x3 v1 v2 S))
theorem W_X9_fill_42b (C : mC p l s m args meth c cX9_fill "MoonWash$WaterPlan" 6 none g) (N : Nat) {Q : mSt → Prop} {ko42 : Nat → Int → Int → Int → mSt → Prop} {ko101 : Nat → Int → Int → mSt → Prop} (hko42 : ∀ (r0 : Nat) (kr0 : KX r0 = (0, 7, 0)) (x1 : Int) (ox1 : okI x1) (x2 : Int) (ox2 : okI x2) (x3 : Int) (ox3 : okI x3) (S : mSt) (H : Heap) (locs : List Loc) (ls : Array Slot), lv_has ls 6 [(0, .ref (b + r0)), (1, .int (mI x1)), (2, .int (mI x2)), (3, .int (mI x3))] → mW g b KX S H → va_S (mA b KX s.heap.size) s.heap H locs → ko42 r0 x1 x2 x3 S → W p l e { frames := 2, cells := 0, slots := 0, locals := 53 } s m args below meth c H locs 0 0 (vx_MQ below (mQv g b KX Q (mA b KX s.heap.size)) (mEx g b KX (fun _ _ => False) (mA b KX s.heap.size)) args s 0 0 (mA b KX s.heap.size)) (F0 m 42 ls [])) (hko101 : ∀ (r0 : Nat) (kr0 : KX r0 = (0, 7, 0)) (x1 : Int) (ox1 : okI x1) (x2 : Int) (ox2 : okI x2) (S : mSt) (H : Heap) (locs : List Loc) (ls : Array Slot), lv_has ls 6 [(0, .ref (b + r0)), (1, .int (mI x1)), (2, .int (mI x2))] → mW g b KX S H → va_S (mA b KX s.heap.size) s.heap H locs → ko101 r0 x1 x2 S → W p l e { frames := 2, cells := 0, slots := 0, locals := 53 } s m args below meth c H locs 0 0 (vx_MQ below (mQv g b KX Q (mA b KX s.heap.size)) (mEx g b KX (fun _ _ => False) (mA b KX s.heap.size)) args s 0 0 (mA b KX s.heap.size)) (F0 m 101 ls [])) (r0 : Nat) (kr0 : KX r0 = (0, 7, 0)) (x1 : Int) (ox1 : okI x1) (x2 : Int) (ox2 : okI x2) (x3 : Int) (ox3 : okI x3) (S : mSt) (H : Heap) (locs : List Loc) (ls : Array Slot) (hl : lv_has ls 6 [(0, .ref (b + r0)), (1, .int (mI x1)), (2, .int (mI x2)), (3, .int (mI x3))]) (hW : mW g b KX S H) (hS : va_S (mA b KX s.heap.size) s.heap H locs) (h : w_X9_fill_42b N Q ko42 ko101 r0 x1 x2 x3 S) : W p l e { frames := 2, cells := 0, slots := 0, locals := 53 } s m args below meth c H locs 0 0 (vx_MQ below (mQv g b KX Q (mA b KX s.heap.size)) (mEx g b KX (fun _ _ => False) (mA b KX s.heap.size)) args s 0 0 (mA b KX s.heap.size)) (F0 m 42 ls []) := by
  unfold w_X9_fill_42b at h
  refine m_iload_n (pc := 42) C.1 dX9_fill_42 rfl hl 3 rfl ?_
  refine m_iload_n (pc := 43) C.1 dX9_fill_43 rfl hl 1 rfl ?_
  refine m_icmp_gt (pc := 44) (tgt := 101) C.1 ox3 ox1 dX9_fill_44 (by decide) (fun hc => ?_) (fun hc => ?_)
  · replace h := h.1 hc
    exact hko101 r0 kr0 x1 ox1 x2 ox2 S _ _ _ (lv_sub hl [0, 1, 2] rfl) hW hS h
  · replace h := h.2 hc
    refine m_sipush (pc := 47) C.1 dX9_fill_47 rfl ?_
    refine m_istore (pc := 50) C.1 dX9_fill_50 hl (by decide) (fun v => [(4, .int v), (0, .ref (b + r0)), (1, .int (mI x1)), (2, .int (mI x2)), (3, .int (mI x3))]) (fun _ => rfl) (by decide : okI 1000) (fun v1 ls ev1 ov1 hl => ?_)
    replace h := h v1 ev1
    refine m_iconst (pc := 52) C.1 dX9_fill_52 ?_
    refine m_istore (pc := 53) C.1 dX9_fill_53 hl (by decide) (fun v => [(5, .int v), (4, .int (mI v1)), (0, .ref (b + r0)), (1, .int (mI x1)), (2, .int (mI x2)), (3, .int (mI x3))]) (fun _ => rfl) (by decide : okI 0) (fun v2 ls ev2 ov2 hl => ?_)
    replace h := h v2 ev2
    refine W_X9_fill_55 C N ?_ N r0 kr0 x1 ox1 x2 ox2 x3 ox3 v1 ov1 v2 ov2 S _ _ _ (lv_sub hl [2, 3, 4, 5, 1, 0] rfl) hW hS h
    · intro r0_3 kr0_3 x1_3 ox1_3 x2_3 ox2_3 x3_3 ox3_3 x4_3 ox4_3 S_3 H locs ls hl hW_3 hS h
      refine m_aload_n (pc := 85) C.1 dX9_fill_85 rfl hl 0 rfl ?_
      refine g_7_3 (pc := 86) C hW_3 kr0_3 q_367 dX9_fill_86 ?_
      refine m_iload_n (pc := 89) C.1 dX9_fill_89 rfl hl 2 rfl ?_
      obtain ⟨hb4a, hb4b, h⟩ := h
      refine m_aald4 (pc := 90) C.1 C.2.1 hW_3 (k_7_3 kr0_3) ox2_3 hb4a hb4b dX9_fill_90 ?_
      refine m_iload_n (pc := 91) C.1 dX9_fill_91 rfl hl 3 rfl ?_
      refine m_iload (pc := 92) C.1 dX9_fill_92 hl 4 rfl ?_
      obtain ⟨hb5a, hb5b, h⟩ := h
      refine m_iast (pc := 94) C.1 C.2.1 hW_3 hS (k_grid (k_7_3 kr0_3) hb4a hb4b) ox3_3 ox4_3 hb5a hb5b dX9_fill_94 (fun S6 H locs e6 hW6 hS => ?_)
      replace h := h S6 e6
      refine m_iinc (pc := 95) C.1 dX9_fill_95 hl (by decide) (q0 := 3) rfl (fun v => [(3, .int v), (0, .ref (b + r0_3)), (1, .int (mI x1_3)), (2, .int (mI x2_3)), (4, .int (mI x4_3))]) (fun _ => rfl) (fun v7 ls ev7 ov7 hl => ?_)
      replace h := h v7 ev7
      refine m_goto (pc := 98) (tgt := 42) C.1 dX9_fill_98 (by decide) ?_
      exact hko42 r0_3 kr0_3 x1_3 ox1_3 x2_3 ox2_3 v7 ov7 S6 _ _ _ (lv_sub hl [1, 2, 3, 0] rfl) hW6 hS h
def w_X9_fill_42 (N : Nat) (Q : mSt → Prop) (ko101 : Nat → Int → Int → mSt → Prop) : Nat → Nat → Int → Int → Int → mSt → Prop
  | 0 => fun _ _ _ _ _ => False
  | k + 1 => w_X9_fill_42b N Q (w_X9_fill_42 N Q ko101 k) ko101
theorem W_X9_fill_42 (C : mC p l s m args meth c cX9_fill "MoonWash$WaterPlan" 6 none g) (N : Nat) {Q : mSt → Prop} {ko101 : Nat → Int → Int → mSt → Prop} (hko101 : ∀ (r0 : Nat) (kr0 : KX r0 = (0, 7, 0)) (x1 : Int) (ox1 : okI x1) (x2 : Int) (ox2 : okI x2) (S : mSt) (H : Heap) (locs : List Loc) (ls : Array Slot), lv_has ls 6 [(0, .ref (b + r0)), (1, .int (mI x1)), (2, .int (mI x2))] → mW g b KX S H → va_S (mA b KX s.heap.size) s.heap H locs → ko101 r0 x1 x2 S → W p l e { frames := 2, cells := 0, slots := 0, locals := 53 } s m args below meth c H locs 0 0 (vx_MQ below (mQv g b KX Q (mA b KX s.heap.size)) (mEx g b KX (fun _ _ => False) (mA b KX s.heap.size)) args s 0 0 (mA b KX s.heap.size)) (F0 m 101 ls [])) : ∀ (k : Nat) (r0 : Nat) (kr0 : KX r0 = (0, 7, 0)) (x1 : Int) (ox1 : okI x1) (x2 : Int) (ox2 : okI x2) (x3 : Int) (ox3 : okI x3) (S : mSt) (H : Heap) (locs : List Loc) (ls : Array Slot) (hl : lv_has ls 6 [(0, .ref (b + r0)), (1, .int (mI x1)), (2, .int (mI x2)), (3, .int (mI x3))]) (hW : mW g b KX S H) (hS : va_S (mA b KX s.heap.size) s.heap H locs) (h : w_X9_fill_42 N Q ko101 k r0 x1 x2 x3 S), W p l e { frames := 2, cells := 0, slots := 0, locals := 53 } s m args below meth c H locs 0 0 (vx_MQ below (mQv g b KX Q (mA b KX s.heap.size)) (mEx g b KX (fun _ _ => False) (mA b KX s.heap.size)) args s 0 0 (mA b KX s.heap.size)) (F0 m 42 ls []) := by
  intro k
  induction k with
  | zero => intro r0 kr0 x1 ox1 x2 ox2 x3 ox3 S H locs ls hl hW hS h; exact False.elim h
  | succ k ih => intro r0 kr0 x1 ox1 x2 ox2 x3 ox3 S H locs ls hl hW hS h; exact W_X9_fill_42b C N ih hko101 r0 kr0 x1 ox1 x2 ox2 x3 ox3 S H locs ls hl hW hS h
def w_X9_fill_36b (N : Nat) (Q : mSt → Prop) (ko36 : Nat → Int → Int → mSt → Prop) (ko107 : mSt → Prop) (r0 : Nat) (x1 : Int) (x2 : Int) (S : mSt) : Prop :=
  ((x2 < 0 → ko107 S) ∧ (0 ≤ x2 → ∀ v1 : Int, v1 = 0 → w_X9_fill_42 N Q (fun (r0_2 : Nat) (x1_2 : Int) (x2_2 : Int) (S_2 : mSt) => ∀ v3 : Int, v3 = nm (x2_2 + (-1)) → ko36 r0_2 x1_2 v3 S_2) N r0 x1 x2 v1 S))
theorem W_X9_fill_36b (C : mC p l s m args meth c cX9_fill "MoonWash$WaterPlan" 6 none g) (N : Nat) {Q : mSt → Prop} {ko36 : Nat → Int → Int → mSt → Prop} {ko107 : mSt → Prop} (hko36 : ∀ (r0 : Nat) (kr0 : KX r0 = (0, 7, 0)) (x1 : Int) (ox1 : okI x1) (x2 : Int) (ox2 : okI x2) (S : mSt) (H : Heap) (locs : List Loc) (ls : Array Slot), lv_has ls 6 [(0, .ref (b + r0)), (1, .int (mI x1)), (2, .int (mI x2))] → mW g b KX S H → va_S (mA b KX s.heap.size) s.heap H locs → ko36 r0 x1 x2 S → W p l e { frames := 2, cells := 0, slots := 0, locals := 53 } s m args below meth c H locs 0 0 (vx_MQ below (mQv g b KX Q (mA b KX s.heap.size)) (mEx g b KX (fun _ _ => False) (mA b KX s.heap.size)) args s 0 0 (mA b KX s.heap.size)) (F0 m 36 ls [])) (hko107 : ∀  (S : mSt) (H : Heap) (locs : List Loc) (ls : Array Slot), lv_has ls 6 [] → mW g b KX S H → va_S (mA b KX s.heap.size) s.heap H locs → ko107 S → W p l e { frames := 2, cells := 0, slots := 0, locals := 53 } s m args below meth c H locs 0 0 (vx_MQ below (mQv g b KX Q (mA b KX s.heap.size)) (mEx g b KX (fun _ _ => False) (mA b KX s.heap.size)) args s 0 0 (mA b KX s.heap.size)) (F0 m 107 ls [])) (r0 : Nat) (kr0 : KX r0 = (0, 7, 0)) (x1 : Int) (ox1 : okI x1) (x2 : Int) (ox2 : okI x2) (S : mSt) (H : Heap) (locs : List Loc) (ls : Array Slot) (hl : lv_has ls 6 [(0, .ref (b + r0)), (1, .int (mI x1)), (2, .int (mI x2))]) (hW : mW g b KX S H) (hS : va_S (mA b KX s.heap.size) s.heap H locs) (h : w_X9_fill_36b N Q ko36 ko107 r0 x1 x2 S) : W p l e { frames := 2, cells := 0, slots := 0, locals := 53 } s m args below meth c H locs 0 0 (vx_MQ below (mQv g b KX Q (mA b KX s.heap.size)) (mEx g b KX (fun _ _ => False) (mA b KX s.heap.size)) args s 0 0 (mA b KX s.heap.size)) (F0 m 36 ls []) := by
  unfold w_X9_fill_36b at h
  refine m_iload_n (pc := 36) C.1 dX9_fill_36 rfl hl 2 rfl ?_
  refine m_if_lt (pc := 37) (tgt := 107) C.1 ox2 dX9_fill_37 (by decide) (fun hc => ?_) (fun hc => ?_)
  · replace h := h.1 hc
    exact hko107  S _ _ _ (lv_sub hl [] rfl) hW hS h
  · replace h := h.2 hc
    refine m_iconst (pc := 40) C.1 dX9_fill_40 ?_
    refine m_istore_n (pc := 41) C.1 dX9_fill_41 rfl hl (by decide) (fun v => [(3, .int v), (0, .ref (b + r0)), (1, .int (mI x1)), (2, .int (mI x2))]) (fun _ => rfl) (by decide : okI 0) (fun v1 ls ev1 ov1 hl => ?_)
    replace h := h v1 ev1
    refine W_X9_fill_42 C N ?_ N r0 kr0 x1 ox1 x2 ox2 v1 ov1 S _ _ _ (lv_sub hl [1, 2, 3, 0] rfl) hW hS h
    · intro r0_2 kr0_2 x1_2 ox1_2 x2_2 ox2_2 S_2 H locs ls hl hW_2 hS h
      refine m_iinc (pc := 101) C.1 dX9_fill_101 hl (by decide) (q0 := 2) rfl (fun v => [(2, .int v), (0, .ref (b + r0_2)), (1, .int (mI x1_2))]) (fun _ => rfl) (fun v3 ls ev3 ov3 hl => ?_)
      replace h := h v3 ev3
      refine m_goto (pc := 104) (tgt := 36) C.1 dX9_fill_104 (by decide) ?_
      exact hko36 r0_2 kr0_2 x1_2 ox1_2 v3 ov3 S_2 _ _ _ (lv_sub hl [1, 2, 0] rfl) hW_2 hS h
def w_X9_fill_36 (N : Nat) (Q : mSt → Prop) (ko107 : mSt → Prop) : Nat → Nat → Int → Int → mSt → Prop
  | 0 => fun _ _ _ _ => False
  | k + 1 => w_X9_fill_36b N Q (w_X9_fill_36 N Q ko107 k) ko107
theorem W_X9_fill_36 (C : mC p l s m args meth c cX9_fill "MoonWash$WaterPlan" 6 none g) (N : Nat) {Q : mSt → Prop} {ko107 : mSt → Prop} (hko107 : ∀  (S : mSt) (H : Heap) (locs : List Loc) (ls : Array Slot), lv_has ls 6 [] → mW g b KX S H → va_S (mA b KX s.heap.size) s.heap H locs → ko107 S → W p l e { frames := 2, cells := 0, slots := 0, locals := 53 } s m args below meth c H locs 0 0 (vx_MQ below (mQv g b KX Q (mA b KX s.heap.size)) (mEx g b KX (fun _ _ => False) (mA b KX s.heap.size)) args s 0 0 (mA b KX s.heap.size)) (F0 m 107 ls [])) : ∀ (k : Nat) (r0 : Nat) (kr0 : KX r0 = (0, 7, 0)) (x1 : Int) (ox1 : okI x1) (x2 : Int) (ox2 : okI x2) (S : mSt) (H : Heap) (locs : List Loc) (ls : Array Slot) (hl : lv_has ls 6 [(0, .ref (b + r0)), (1, .int (mI x1)), (2, .int (mI x2))]) (hW : mW g b KX S H) (hS : va_S (mA b KX s.heap.size) s.heap H locs) (h : w_X9_fill_36 N Q ko107 k r0 x1 x2 S), W p l e { frames := 2, cells := 0, slots := 0, locals := 53 } s m args below meth c H locs 0 0 (vx_MQ below (mQv g b KX Q (mA b KX s.heap.size)) (mEx g b KX (fun _ _ => False) (mA b KX s.heap.size)) args s 0 0 (mA b KX s.heap.size)) (F0 m 36 ls []) := by
  intro k
  induction k with
  | zero => intro r0 kr0 x1 ox1 x2 ox2 S H locs ls hl hW hS h; exact False.elim h
  | succ k ih => intro r0 kr0 x1 ox1 x2 ox2 S H locs ls hl hW hS h; exact W_X9_fill_36b C N ih hko107 r0 kr0 x1 ox1 x2 ox2 S H locs ls hl hW hS h
end
def w_X9_fill (N : Nat) (r0 : Nat) (x1 : Int) (S : mSt) (Q : mSt → Prop) : Prop :=
  ∀ v1 : Int, v1 = 0 → w_X9_fill_2 N Q (fun (r0_2 : Nat) (x1_2 : Int) (S_2 : mSt) => ∀ v3 : Int, v3 = 7 → w_X9_fill_36 N Q (fun  (S_4 : mSt) => Q S_4) N r0_2 x1_2 v3 S_2) N r0 x1 v1 S
theorem T_X9_fill {l : Launch} (hl0 : l.stackTraces = false) {g : mG} {b : Nat} (N : Nat) (r0 : Nat) (kr0 : KX r0 = (0, 7, 0)) (x1 : Int) (ox1 : okI x1) {S : mSt} {Q : mSt → Prop} (h : w_X9_fill N r0 x1 S Q) (sz : Nat) : vx_Met l yX9_fill (Cond.code yX9_fill cX9_fill 6 none :: wsG) { frames := 2, cells := 0, slots := 0, locals := 53 } (mPc g b KX S [.ref (b + r0), .int (mI x1)] sz) (mQv g b KX Q (mA b KX sz)) (mEx g b KX (fun _ _ => False) (mA b KX sz)) 0 0 (mA b KX sz) :=
  m_of (av := [.ref (b + r0), .int (mI x1)]) (Qf := fun A => mQv g b KX Q A) (Xf := fun A => mEx g b KX (fun _ _ => False) A) (by decide) (Nat.le_of_ble_eq_true rfl) (fun p e s m args below meth c ls X hK hml hr hlk hout hnm hW hl => by
    have C : mC p l s m args meth c cX9_fill "MoonWash$WaterPlan" 6 none g := ⟨X, hK, hml, hr, hlk, hout, hl0⟩
    have hS : va_S (mA b KX s.heap.size) s.heap s.heap [] := va_S.rf
    have hl : lv_has ls 6 [(0, .ref (b + r0)), (1, .int (mI x1))] := hl
    unfold w_X9_fill at h
    refine m_iconst (pc := 0) C.1 dX9_fill_0 ?_
    refine m_istore_n (pc := 1) C.1 dX9_fill_1 rfl hl (by decide) (fun v => [(2, .int v), (0, .ref (b + r0)), (1, .int (mI x1))]) (fun _ => rfl) (by decide : okI 0) (fun v1 ls ev1 ov1 hl => ?_)
    replace h := h v1 ev1
    refine W_X9_fill_2 C N ?_ N r0 kr0 x1 ox1 v1 ov1 S _ _ _ (lv_sub hl [1, 2, 0] rfl) hW hS h
    · intro r0_2 kr0_2 x1_2 ox1_2 S_2 H locs ls hl hW_2 hS h
      refine m_bipush (pc := 33) C.1 dX9_fill_33 rfl ?_
      refine m_istore_n (pc := 35) C.1 dX9_fill_35 rfl hl (by decide) (fun v => [(2, .int v), (0, .ref (b + r0_2)), (1, .int (mI x1_2))]) (fun _ => rfl) (by decide : okI 7) (fun v3 ls ev3 ov3 hl => ?_)
      replace h := h v3 ev3
      refine W_X9_fill_36 C N ?_ N r0_2 kr0_2 x1_2 ox1_2 v3 ov3 S_2 _ _ _ (lv_sub hl [1, 2, 0] rfl) hW_2 hS h
      · intro S_4 H locs ls hl hW_4 hS h
        exact m_vret (pc := 107) C.1 C.2.2.2.1 C.2.2.2.2.1 hW_4 hS h (by decide) (by decide) dX9_fill_107) sz
section
variable {p : Program} {l : Launch} {e : Env} {s : State} {m : MethodId} {args : Array Value} {below : List Frame} {meth : Method} {c : Code} {g : mG} {b : Nat}
end
def w_X9_leastWater (N : Nat) (r0 : Nat) (x1 : Int) (S : mSt) (Q : mSt → Int → Prop) : Prop :=
  (0 ≤ x1 ∧ x1 < 161 ∧ (((S ((r0 + 11) + 1 + (0 : Int).toNat) x1) < 1000 → (0 ≤ x1 ∧ x1 < 161 ∧ Q S (S ((r0 + 11) + 1 + (0 : Int).toNat) x1))) ∧ (1000 ≤ (S ((r0 + 11) + 1 + (0 : Int).toNat) x1) → Q S (-1))))
theorem T_X9_leastWater {l : Launch} (hl0 : l.stackTraces = false) {g : mG} {b : Nat} (N : Nat) (r0 : Nat) (kr0 : KX r0 = (0, 7, 0)) (x1 : Int) (ox1 : okI x1) {S : mSt} {Q : mSt → Int → Prop} (h : w_X9_leastWater N r0 x1 S Q) (sz : Nat) : vx_Met l yX9_leastWater (Cond.code yX9_leastWater cX9_leastWater 2 (some FieldType.int) :: wsG) { frames := 0, cells := 0, slots := 0, locals := 0 } (mPc g b KX S [.ref (b + r0), .int (mI x1)] sz) (mQi g b KX Q (mA b KX sz)) (mEx g b KX (fun _ _ => False) (mA b KX sz)) 0 0 (mA b KX sz) :=
  m_of (av := [.ref (b + r0), .int (mI x1)]) (Qf := fun A => mQi g b KX Q A) (Xf := fun A => mEx g b KX (fun _ _ => False) A) (by decide) (Nat.le_of_ble_eq_true rfl) (fun p e s m args below meth c ls X hK hml hr hlk hout hnm hW hl => by
    have C : mC p l s m args meth c cX9_leastWater "MoonWash$WaterPlan" 2 (some FieldType.int) g := ⟨X, hK, hml, hr, hlk, hout, hl0⟩
    have hS : va_S (mA b KX s.heap.size) s.heap s.heap [] := va_S.rf
    have hl : lv_has ls 2 [(0, .ref (b + r0)), (1, .int (mI x1))] := hl
    unfold w_X9_leastWater at h
    refine m_aload_n (pc := 0) C.1 dX9_leastWater_0 rfl hl 0 rfl ?_
    refine g_7_3 (pc := 1) C hW kr0 q_367 dX9_leastWater_1 ?_
    refine m_iconst (pc := 4) C.1 dX9_leastWater_4 ?_
    refine m_aald4 (pc := 5) C.1 C.2.1 hW (k_7_3 kr0) (by decide : okI 0) (by decide) (by decide) dX9_leastWater_5 ?_
    refine m_iload_n (pc := 6) C.1 dX9_leastWater_6 rfl hl 1 rfl ?_
    obtain ⟨hb1a, hb1b, h⟩ := h
    refine m_iald (pc := 7) C.1 C.2.1 hW (k_grid (k_7_3 kr0) (by decide) (by decide)) ox1 hb1a hb1b dX9_leastWater_7 ?_
    refine m_sipush (pc := 8) C.1 dX9_leastWater_8 rfl ?_
    refine m_icmp_lt (pc := 11) (tgt := 18) C.1 (hW.2.1 _ _) (by decide : okI 1000) dX9_leastWater_11 (by decide) (fun hc => ?_) (fun hc => ?_)
    · replace h := h.1 hc
      refine m_aload_n (pc := 18) C.1 dX9_leastWater_18 rfl hl 0 rfl ?_
      refine g_7_3 (pc := 19) C hW kr0 q_367 dX9_leastWater_19 ?_
      refine m_iconst (pc := 22) C.1 dX9_leastWater_22 ?_
      refine m_aald4 (pc := 23) C.1 C.2.1 hW (k_7_3 kr0) (by decide : okI 0) (by decide) (by decide) dX9_leastWater_23 ?_
      refine m_iload_n (pc := 24) C.1 dX9_leastWater_24 rfl hl 1 rfl ?_
      obtain ⟨hb2a, hb2b, h⟩ := h
      refine m_iald (pc := 25) C.1 C.2.1 hW (k_grid (k_7_3 kr0) (by decide) (by decide)) ox1 hb2a hb2b dX9_leastWater_25 ?_
      exact m_iret (pc := 26) C.1 C.2.2.2.1 C.2.2.2.2.1 hW hS (hW.2.1 _ _) h (by decide) (by decide) dX9_leastWater_26
    · replace h := h.2 hc
      refine m_iconst (pc := 14) C.1 dX9_leastWater_14 ?_
      refine m_goto (pc := 15) (tgt := 26) C.1 dX9_leastWater_15 (by decide) ?_
      exact m_iret (pc := 26) C.1 C.2.2.2.1 C.2.2.2.2.1 hW hS (by decide : okI (-1)) h (by decide) (by decide) dX9_leastWater_26) sz
section
variable {p : Program} {l : Launch} {e : Env} {s : State} {m : MethodId} {args : Array Value} {below : List Frame} {meth : Method} {c : Code} {g : mG} {b : Nat}
def w_X9_firstChoice_2b (N : Nat) (Q : mSt → Int → Prop) (ko2 : Nat → Int → Int → Int → mSt → Prop) (ko36 : mSt → Prop) (r0 : Nat) (x1 : Int) (x2 : Int) (x3 : Int) (S : mSt) : Prop :=
  (((S r0 2) ≤ x3 → ko36 S) ∧ (x3 < (S r0 2) → w_X9_waterWith N r0 x1 x3 x2 S (fun (S1 : mSt) (v1 : Int) => (0 ≤ x1 ∧ x1 < 9 ∧ (0 ≤ x2 ∧ x2 < 161 ∧ ((v1 ≠ (S1 ((r0 + 11) + 1 + x1.toNat) x2) → ∀ v4 : Int, v4 = nm (x3 + 1) → ko2 r0 x1 x2 v4 S1) ∧ (v1 = (S1 ((r0 + 11) + 1 + x1.toNat) x2) → Q S1 x3)))))))
theorem W_X9_firstChoice_2b (C : mC p l s m args meth c cX9_firstChoice "MoonWash$WaterPlan" 4 (some FieldType.int) g) (N : Nat) {Q : mSt → Int → Prop} {ko2 : Nat → Int → Int → Int → mSt → Prop} {ko36 : mSt → Prop} (hko2 : ∀ (r0 : Nat) (kr0 : KX r0 = (0, 7, 0)) (x1 : Int) (ox1 : okI x1) (x2 : Int) (ox2 : okI x2) (x3 : Int) (ox3 : okI x3) (S : mSt) (H : Heap) (locs : List Loc) (ls : Array Slot), lv_has ls 4 [(0, .ref (b + r0)), (1, .int (mI x1)), (2, .int (mI x2)), (3, .int (mI x3))] → mW g b KX S H → va_S (mA b KX s.heap.size) s.heap H locs → ko2 r0 x1 x2 x3 S → W p l e { frames := 2, cells := 0, slots := 0, locals := 53 } s m args below meth c H locs 0 0 (vx_MQ below (mQi g b KX Q (mA b KX s.heap.size)) (mEx g b KX (fun _ _ => False) (mA b KX s.heap.size)) args s 0 0 (mA b KX s.heap.size)) (F0 m 2 ls [])) (hko36 : ∀  (S : mSt) (H : Heap) (locs : List Loc) (ls : Array Slot), lv_has ls 4 [] → mW g b KX S H → va_S (mA b KX s.heap.size) s.heap H locs → ko36 S → W p l e { frames := 2, cells := 0, slots := 0, locals := 53 } s m args below meth c H locs 0 0 (vx_MQ below (mQi g b KX Q (mA b KX s.heap.size)) (mEx g b KX (fun _ _ => False) (mA b KX s.heap.size)) args s 0 0 (mA b KX s.heap.size)) (F0 m 36 ls [])) (r0 : Nat) (kr0 : KX r0 = (0, 7, 0)) (x1 : Int) (ox1 : okI x1) (x2 : Int) (ox2 : okI x2) (x3 : Int) (ox3 : okI x3) (S : mSt) (H : Heap) (locs : List Loc) (ls : Array Slot) (hl : lv_has ls 4 [(0, .ref (b + r0)), (1, .int (mI x1)), (2, .int (mI x2)), (3, .int (mI x3))]) (hW : mW g b KX S H) (hS : va_S (mA b KX s.heap.size) s.heap H locs) (h : w_X9_firstChoice_2b N Q ko2 ko36 r0 x1 x2 x3 S) : W p l e { frames := 2, cells := 0, slots := 0, locals := 53 } s m args below meth c H locs 0 0 (vx_MQ below (mQi g b KX Q (mA b KX s.heap.size)) (mEx g b KX (fun _ _ => False) (mA b KX s.heap.size)) args s 0 0 (mA b KX s.heap.size)) (F0 m 2 ls []) := by
  unfold w_X9_firstChoice_2b at h
  refine m_iload_n (pc := 2) C.1 dX9_firstChoice_2 rfl hl 3 rfl ?_
  refine m_aload_n (pc := 3) C.1 dX9_firstChoice_3 rfl hl 0 rfl ?_
  refine g_7_2 (pc := 4) C hW kr0 q_366 dX9_firstChoice_4 ?_
  refine m_icmp_ge (pc := 7) (tgt := 36) C.1 ox3 (hW.2.1 _ _) dX9_firstChoice_7 (by decide) (fun hc => ?_) (fun hc => ?_)
  · replace h := h.1 hc
    exact hko36  S _ _ _ (lv_sub hl [] rfl) hW hS h
  · replace h := h.2 hc
    refine m_aload_n (pc := 10) C.1 dX9_firstChoice_10 rfl hl 0 rfl ?_
    refine m_iload_n (pc := 11) C.1 dX9_firstChoice_11 rfl hl 1 rfl ?_
    refine m_iload_n (pc := 12) C.1 dX9_firstChoice_12 rfl hl 3 rfl ?_
    refine m_iload_n (pc := 13) C.1 dX9_firstChoice_13 rfl hl 2 rfl ?_
    refine m_callVi (pc := 14) C.1 C.2.2.1 hl.1 C.2.1 hW hS (As := [.int (mI x1), .int (mI x3), .int (mI x2)]) (rest := []) (r := r0) (T_X9_waterWith C.2.2.2.2.2.2 N r0 kr0 x1 ox1 x3 ox3 x2 ox2 h) kr0 rfl q_1185 q_1187 q_14 q_90 q_1188 pl_X9_waterWith (by decide) (Nat.le_of_ble_eq_true rfl) dX9_firstChoice_14 (fun v1 S1 H locs ov1 h hW1 hS => ?_)
    refine m_aload_n (pc := 17) C.1 dX9_firstChoice_17 rfl hl 0 rfl ?_
    refine g_7_3 (pc := 18) C hW1 kr0 q_367 dX9_firstChoice_18 ?_
    refine m_iload_n (pc := 21) C.1 dX9_firstChoice_21 rfl hl 1 rfl ?_
    obtain ⟨hb2a, hb2b, h⟩ := h
    refine m_aald4 (pc := 22) C.1 C.2.1 hW1 (k_7_3 kr0) ox1 hb2a hb2b dX9_firstChoice_22 ?_
    refine m_iload_n (pc := 23) C.1 dX9_firstChoice_23 rfl hl 2 rfl ?_
    obtain ⟨hb3a, hb3b, h⟩ := h
    refine m_iald (pc := 24) C.1 C.2.1 hW1 (k_grid (k_7_3 kr0) hb2a hb2b) ox2 hb3a hb3b dX9_firstChoice_24 ?_
    refine m_icmp_ne (pc := 25) (tgt := 30) C.1 ov1 (hW1.2.1 _ _) dX9_firstChoice_25 (by decide) (fun hc => ?_) (fun hc => ?_)
    · replace h := h.1 hc
      refine m_iinc (pc := 30) C.1 dX9_firstChoice_30 hl (by decide) (q0 := 3) rfl (fun v => [(3, .int v), (0, .ref (b + r0)), (1, .int (mI x1)), (2, .int (mI x2))]) (fun _ => rfl) (fun v4 ls ev4 ov4 hl => ?_)
      replace h := h v4 ev4
      refine m_goto (pc := 33) (tgt := 2) C.1 dX9_firstChoice_33 (by decide) ?_
      exact hko2 r0 kr0 x1 ox1 x2 ox2 v4 ov4 S1 _ _ _ (lv_sub hl [1, 2, 3, 0] rfl) hW1 hS h
    · replace h := h.2 hc
      refine m_iload_n (pc := 28) C.1 dX9_firstChoice_28 rfl hl 3 rfl ?_
      exact m_iret (pc := 29) C.1 C.2.2.2.1 C.2.2.2.2.1 hW1 hS ox3 h (by decide) (by decide) dX9_firstChoice_29
def w_X9_firstChoice_2 (N : Nat) (Q : mSt → Int → Prop) (ko36 : mSt → Prop) : Nat → Nat → Int → Int → Int → mSt → Prop
  | 0 => fun _ _ _ _ _ => False
  | k + 1 => w_X9_firstChoice_2b N Q (w_X9_firstChoice_2 N Q ko36 k) ko36
theorem W_X9_firstChoice_2 (C : mC p l s m args meth c cX9_firstChoice "MoonWash$WaterPlan" 4 (some FieldType.int) g) (N : Nat) {Q : mSt → Int → Prop} {ko36 : mSt → Prop} (hko36 : ∀  (S : mSt) (H : Heap) (locs : List Loc) (ls : Array Slot), lv_has ls 4 [] → mW g b KX S H → va_S (mA b KX s.heap.size) s.heap H locs → ko36 S → W p l e { frames := 2, cells := 0, slots := 0, locals := 53 } s m args below meth c H locs 0 0 (vx_MQ below (mQi g b KX Q (mA b KX s.heap.size)) (mEx g b KX (fun _ _ => False) (mA b KX s.heap.size)) args s 0 0 (mA b KX s.heap.size)) (F0 m 36 ls [])) : ∀ (k : Nat) (r0 : Nat) (kr0 : KX r0 = (0, 7, 0)) (x1 : Int) (ox1 : okI x1) (x2 : Int) (ox2 : okI x2) (x3 : Int) (ox3 : okI x3) (S : mSt) (H : Heap) (locs : List Loc) (ls : Array Slot) (hl : lv_has ls 4 [(0, .ref (b + r0)), (1, .int (mI x1)), (2, .int (mI x2)), (3, .int (mI x3))]) (hW : mW g b KX S H) (hS : va_S (mA b KX s.heap.size) s.heap H locs) (h : w_X9_firstChoice_2 N Q ko36 k r0 x1 x2 x3 S), W p l e { frames := 2, cells := 0, slots := 0, locals := 53 } s m args below meth c H locs 0 0 (vx_MQ below (mQi g b KX Q (mA b KX s.heap.size)) (mEx g b KX (fun _ _ => False) (mA b KX s.heap.size)) args s 0 0 (mA b KX s.heap.size)) (F0 m 2 ls []) := by
  intro k
  induction k with
  | zero => intro r0 kr0 x1 ox1 x2 ox2 x3 ox3 S H locs ls hl hW hS h; exact False.elim h
  | succ k ih => intro r0 kr0 x1 ox1 x2 ox2 x3 ox3 S H locs ls hl hW hS h; exact W_X9_firstChoice_2b C N ih hko36 r0 kr0 x1 ox1 x2 ox2 x3 ox3 S H locs ls hl hW hS h
end
def w_X9_firstChoice (N : Nat) (r0 : Nat) (x1 : Int) (x2 : Int) (S : mSt) (Q : mSt → Int → Prop) : Prop :=
  ∀ v1 : Int, v1 = 0 → w_X9_firstChoice_2 N Q (fun  (S_2 : mSt) => Q S_2 0) N r0 x1 x2 v1 S
theorem T_X9_firstChoice {l : Launch} (hl0 : l.stackTraces = false) {g : mG} {b : Nat} (N : Nat) (r0 : Nat) (kr0 : KX r0 = (0, 7, 0)) (x1 : Int) (ox1 : okI x1) (x2 : Int) (ox2 : okI x2) {S : mSt} {Q : mSt → Int → Prop} (h : w_X9_firstChoice N r0 x1 x2 S Q) (sz : Nat) : vx_Met l yX9_firstChoice (Cond.code yX9_firstChoice cX9_firstChoice 4 (some FieldType.int) :: wsG) { frames := 2, cells := 0, slots := 0, locals := 53 } (mPc g b KX S [.ref (b + r0), .int (mI x1), .int (mI x2)] sz) (mQi g b KX Q (mA b KX sz)) (mEx g b KX (fun _ _ => False) (mA b KX sz)) 0 0 (mA b KX sz) :=
  m_of (av := [.ref (b + r0), .int (mI x1), .int (mI x2)]) (Qf := fun A => mQi g b KX Q A) (Xf := fun A => mEx g b KX (fun _ _ => False) A) (by decide) (Nat.le_of_ble_eq_true rfl) (fun p e s m args below meth c ls X hK hml hr hlk hout hnm hW hl => by
    have C : mC p l s m args meth c cX9_firstChoice "MoonWash$WaterPlan" 4 (some FieldType.int) g := ⟨X, hK, hml, hr, hlk, hout, hl0⟩
    have hS : va_S (mA b KX s.heap.size) s.heap s.heap [] := va_S.rf
    have hl : lv_has ls 4 [(0, .ref (b + r0)), (1, .int (mI x1)), (2, .int (mI x2))] := hl
    unfold w_X9_firstChoice at h
    refine m_iconst (pc := 0) C.1 dX9_firstChoice_0 ?_
    refine m_istore_n (pc := 1) C.1 dX9_firstChoice_1 rfl hl (by decide) (fun v => [(3, .int v), (0, .ref (b + r0)), (1, .int (mI x1)), (2, .int (mI x2))]) (fun _ => rfl) (by decide : okI 0) (fun v1 ls ev1 ov1 hl => ?_)
    replace h := h v1 ev1
    refine W_X9_firstChoice_2 C N ?_ N r0 kr0 x1 ox1 x2 ox2 v1 ov1 S _ _ _ (lv_sub hl [1, 2, 3, 0] rfl) hW hS h
    · intro S_2 H locs ls hl hW_2 hS h
      refine m_iconst (pc := 36) C.1 dX9_firstChoice_36 ?_
      exact m_iret (pc := 37) C.1 C.2.2.2.1 C.2.2.2.2.1 hW_2 hS (by decide : okI 0) h (by decide) (by decide) dX9_firstChoice_37) sz
section
variable {p : Program} {l : Launch} {e : Env} {s : State} {m : MethodId} {args : Array Value} {below : List Frame} {meth : Method} {c : Code} {g : mG} {b : Nat}
def w_X9_soapOf_24b (N : Nat) (Q : mSt → Int → Prop) (ko24 : Nat → Int → Int → Int → Int → mSt → Prop) (ko62 : Int → mSt → Prop) (r0 : Nat) (x1 : Int) (x3 : Int) (x4 : Int) (x5 : Int) (S : mSt) : Prop :=
  ((x1 < x5 → ko62 x4 S) ∧ (x5 ≤ x1 → w_X9_firstChoice N r0 x5 x3 S (fun (S1 : mSt) (v1 : Int) => ∀ v2 : Int, v2 = v1 → (0 ≤ x5 ∧ x5 < 8 ∧ (0 ≤ v2 ∧ v2 < 7 ∧ ∀ v5 : Int, v5 = (iMax 0 (nm (x3 - (S1 ((r0 + 1) + 1 + x5.toNat) v2)))) → ∀ v6 : Int, v6 = nm (x5 + 1) → ko24 r0 x1 v5 v2 v6 S1)))))
theorem W_X9_soapOf_24b (C : mC p l s m args meth c cX9_soapOf "MoonWash$WaterPlan" 6 (some FieldType.int) g) (N : Nat) {Q : mSt → Int → Prop} {ko24 : Nat → Int → Int → Int → Int → mSt → Prop} {ko62 : Int → mSt → Prop} (hko24 : ∀ (r0 : Nat) (kr0 : KX r0 = (0, 7, 0)) (x1 : Int) (ox1 : okI x1) (x3 : Int) (ox3 : okI x3) (x4 : Int) (ox4 : okI x4) (x5 : Int) (ox5 : okI x5) (S : mSt) (H : Heap) (locs : List Loc) (ls : Array Slot), lv_has ls 6 [(0, .ref (b + r0)), (1, .int (mI x1)), (3, .int (mI x3)), (4, .int (mI x4)), (5, .int (mI x5))] → mW g b KX S H → va_S (mA b KX s.heap.size) s.heap H locs → ko24 r0 x1 x3 x4 x5 S → W p l e { frames := 3, cells := 0, slots := 0, locals := 76 } s m args below meth c H locs 0 0 (vx_MQ below (mQi g b KX Q (mA b KX s.heap.size)) (mEx g b KX (fun _ _ => False) (mA b KX s.heap.size)) args s 0 0 (mA b KX s.heap.size)) (F0 m 24 ls [])) (hko62 : ∀ (x4 : Int) (ox4 : okI x4) (S : mSt) (H : Heap) (locs : List Loc) (ls : Array Slot), lv_has ls 6 [(4, .int (mI x4))] → mW g b KX S H → va_S (mA b KX s.heap.size) s.heap H locs → ko62 x4 S → W p l e { frames := 3, cells := 0, slots := 0, locals := 76 } s m args below meth c H locs 0 0 (vx_MQ below (mQi g b KX Q (mA b KX s.heap.size)) (mEx g b KX (fun _ _ => False) (mA b KX s.heap.size)) args s 0 0 (mA b KX s.heap.size)) (F0 m 62 ls [])) (r0 : Nat) (kr0 : KX r0 = (0, 7, 0)) (x1 : Int) (ox1 : okI x1) (x3 : Int) (ox3 : okI x3) (x4 : Int) (ox4 : okI x4) (x5 : Int) (ox5 : okI x5) (S : mSt) (H : Heap) (locs : List Loc) (ls : Array Slot) (hl : lv_has ls 6 [(0, .ref (b + r0)), (1, .int (mI x1)), (3, .int (mI x3)), (4, .int (mI x4)), (5, .int (mI x5))]) (hW : mW g b KX S H) (hS : va_S (mA b KX s.heap.size) s.heap H locs) (h : w_X9_soapOf_24b N Q ko24 ko62 r0 x1 x3 x4 x5 S) : W p l e { frames := 3, cells := 0, slots := 0, locals := 76 } s m args below meth c H locs 0 0 (vx_MQ below (mQi g b KX Q (mA b KX s.heap.size)) (mEx g b KX (fun _ _ => False) (mA b KX s.heap.size)) args s 0 0 (mA b KX s.heap.size)) (F0 m 24 ls []) := by
  unfold w_X9_soapOf_24b at h
  refine m_iload (pc := 24) C.1 dX9_soapOf_24 hl 4 rfl ?_
  refine m_iload_n (pc := 26) C.1 dX9_soapOf_26 rfl hl 1 rfl ?_
  refine m_icmp_gt (pc := 27) (tgt := 62) C.1 ox5 ox1 dX9_soapOf_27 (by decide) (fun hc => ?_) (fun hc => ?_)
  · replace h := h.1 hc
    exact hko62 x4 ox4 S _ _ _ (lv_sub hl [3] rfl) hW hS h
  · replace h := h.2 hc
    refine m_aload_n (pc := 30) C.1 dX9_soapOf_30 rfl hl 0 rfl ?_
    refine m_iload (pc := 31) C.1 dX9_soapOf_31 hl 4 rfl ?_
    refine m_iload_n (pc := 33) C.1 dX9_soapOf_33 rfl hl 2 rfl ?_
    refine m_callVi (pc := 34) C.1 C.2.2.1 hl.1 C.2.1 hW hS (As := [.int (mI x5), .int (mI x3)]) (rest := []) (r := r0) (T_X9_firstChoice C.2.2.2.2.2.2 N r0 kr0 x5 ox5 x3 ox3 h) kr0 rfl q_1199 q_1201 q_15 q_90 q_1202 pl_X9_firstChoice (by decide) (Nat.le_of_ble_eq_true rfl) dX9_soapOf_34 (fun v1 S1 H locs ov1 h hW1 hS => ?_)
    refine m_istore (pc := 37) C.1 dX9_soapOf_37 hl (by decide) (fun v => [(4, .int v), (0, .ref (b + r0)), (1, .int (mI x1)), (3, .int (mI x3)), (5, .int (mI x5))]) (fun _ => rfl) ov1 (fun v2 ls ev2 ov2 hl => ?_)
    replace h := h v2 ev2
    refine m_iconst (pc := 39) C.1 dX9_soapOf_39 ?_
    refine m_iload_n (pc := 40) C.1 dX9_soapOf_40 rfl hl 3 rfl ?_
    refine m_aload_n (pc := 41) C.1 dX9_soapOf_41 rfl hl 1 rfl ?_
    refine g_7_0 (pc := 42) C hW1 kr0 q_364 dX9_soapOf_42 ?_
    refine m_iload (pc := 45) C.1 dX9_soapOf_45 hl 4 rfl ?_
    obtain ⟨hb3a, hb3b, h⟩ := h
    refine m_aald4 (pc := 47) C.1 C.2.1 hW1 (k_7_0 kr0) ox5 hb3a hb3b dX9_soapOf_47 ?_
    refine m_iload (pc := 48) C.1 dX9_soapOf_48 hl 0 rfl ?_
    obtain ⟨hb4a, hb4b, h⟩ := h
    refine m_iald (pc := 50) C.1 C.2.1 hW1 (k_grid (k_7_0 kr0) hb3a hb3b) ov2 hb4a hb4b dX9_soapOf_50 ?_
    refine m_isub (pc := 51) C.1 dX9_soapOf_51 ?_
    refine m_max (pc := 52) C.1 C.2.2.1 hl.1 (by decide : okI 0) (nm_ok _) q_1189 q_523 q_93 q_524 (by refine ⟨?_, Nat.le_of_ble_eq_true rfl, ?_, ?_⟩ <;> decide) dX9_soapOf_52 ?_
    refine m_istore_n (pc := 55) C.1 dX9_soapOf_55 rfl hl (by decide) (fun v => [(3, .int v), (4, .int (mI v2)), (0, .ref (b + r0)), (1, .int (mI x1)), (5, .int (mI x5))]) (fun _ => rfl) (iMax_ok (by decide : okI 0) (nm_ok _)) (fun v5 ls ev5 ov5 hl => ?_)
    replace h := h v5 ev5
    refine m_iinc (pc := 56) C.1 dX9_soapOf_56 hl (by decide) (q0 := 4) rfl (fun v => [(5, .int v), (3, .int (mI v5)), (4, .int (mI v2)), (0, .ref (b + r0)), (1, .int (mI x1))]) (fun _ => rfl) (fun v6 ls ev6 ov6 hl => ?_)
    replace h := h v6 ev6
    refine m_goto (pc := 59) (tgt := 24) C.1 dX9_soapOf_59 (by decide) ?_
    exact hko24 r0 kr0 x1 ox1 v5 ov5 v2 ov2 v6 ov6 S1 _ _ _ (lv_sub hl [3, 4, 1, 2, 0] rfl) hW1 hS h
def w_X9_soapOf_24 (N : Nat) (Q : mSt → Int → Prop) (ko62 : Int → mSt → Prop) : Nat → Nat → Int → Int → Int → Int → mSt → Prop
  | 0 => fun _ _ _ _ _ _ => False
  | k + 1 => w_X9_soapOf_24b N Q (w_X9_soapOf_24 N Q ko62 k) ko62
theorem W_X9_soapOf_24 (C : mC p l s m args meth c cX9_soapOf "MoonWash$WaterPlan" 6 (some FieldType.int) g) (N : Nat) {Q : mSt → Int → Prop} {ko62 : Int → mSt → Prop} (hko62 : ∀ (x4 : Int) (ox4 : okI x4) (S : mSt) (H : Heap) (locs : List Loc) (ls : Array Slot), lv_has ls 6 [(4, .int (mI x4))] → mW g b KX S H → va_S (mA b KX s.heap.size) s.heap H locs → ko62 x4 S → W p l e { frames := 3, cells := 0, slots := 0, locals := 76 } s m args below meth c H locs 0 0 (vx_MQ below (mQi g b KX Q (mA b KX s.heap.size)) (mEx g b KX (fun _ _ => False) (mA b KX s.heap.size)) args s 0 0 (mA b KX s.heap.size)) (F0 m 62 ls [])) : ∀ (k : Nat) (r0 : Nat) (kr0 : KX r0 = (0, 7, 0)) (x1 : Int) (ox1 : okI x1) (x3 : Int) (ox3 : okI x3) (x4 : Int) (ox4 : okI x4) (x5 : Int) (ox5 : okI x5) (S : mSt) (H : Heap) (locs : List Loc) (ls : Array Slot) (hl : lv_has ls 6 [(0, .ref (b + r0)), (1, .int (mI x1)), (3, .int (mI x3)), (4, .int (mI x4)), (5, .int (mI x5))]) (hW : mW g b KX S H) (hS : va_S (mA b KX s.heap.size) s.heap H locs) (h : w_X9_soapOf_24 N Q ko62 k r0 x1 x3 x4 x5 S), W p l e { frames := 3, cells := 0, slots := 0, locals := 76 } s m args below meth c H locs 0 0 (vx_MQ below (mQi g b KX Q (mA b KX s.heap.size)) (mEx g b KX (fun _ _ => False) (mA b KX s.heap.size)) args s 0 0 (mA b KX s.heap.size)) (F0 m 24 ls []) := by
  intro k
  induction k with
  | zero => intro r0 kr0 x1 ox1 x3 ox3 x4 ox4 x5 ox5 S H locs ls hl hW hS h; exact False.elim h
  | succ k ih => intro r0 kr0 x1 ox1 x3 ox3 x4 ox4 x5 ox5 S H locs ls hl hW hS h; exact W_X9_soapOf_24b C N ih hko62 r0 kr0 x1 ox1 x3 ox3 x4 ox4 x5 ox5 S H locs ls hl hW hS h
end
def w_X9_soapOf (N : Nat) (r0 : Nat) (x1 : Int) (x2 : Int) (S : mSt) (Q : mSt → Int → Prop) : Prop :=
  (0 ≤ x2 ∧ x2 < 161 ∧ (((S ((r0 + 11) + 1 + (0 : Int).toNat) x2) < 1000 → ∀ v2 : Int, v2 = x2 → ∀ v3 : Int, v3 = 0 → ∀ v4 : Int, v4 = 0 → w_X9_soapOf_24 N Q (fun (x4_5 : Int) (S_5 : mSt) => Q S_5 (nm (x4_5 - 1))) N r0 x1 v2 v3 v4 S) ∧ (1000 ≤ (S ((r0 + 11) + 1 + (0 : Int).toNat) x2) → Q S (-1))))
theorem T_X9_soapOf {l : Launch} (hl0 : l.stackTraces = false) {g : mG} {b : Nat} (N : Nat) (r0 : Nat) (kr0 : KX r0 = (0, 7, 0)) (x1 : Int) (ox1 : okI x1) (x2 : Int) (ox2 : okI x2) {S : mSt} {Q : mSt → Int → Prop} (h : w_X9_soapOf N r0 x1 x2 S Q) (sz : Nat) : vx_Met l yX9_soapOf (Cond.code yX9_soapOf cX9_soapOf 6 (some FieldType.int) :: wsG) { frames := 3, cells := 0, slots := 0, locals := 76 } (mPc g b KX S [.ref (b + r0), .int (mI x1), .int (mI x2)] sz) (mQi g b KX Q (mA b KX sz)) (mEx g b KX (fun _ _ => False) (mA b KX sz)) 0 0 (mA b KX sz) :=
  m_of (av := [.ref (b + r0), .int (mI x1), .int (mI x2)]) (Qf := fun A => mQi g b KX Q A) (Xf := fun A => mEx g b KX (fun _ _ => False) A) (by decide) (Nat.le_of_ble_eq_true rfl) (fun p e s m args below meth c ls X hK hml hr hlk hout hnm hW hl => by
    have C : mC p l s m args meth c cX9_soapOf "MoonWash$WaterPlan" 6 (some FieldType.int) g := ⟨X, hK, hml, hr, hlk, hout, hl0⟩
    have hS : va_S (mA b KX s.heap.size) s.heap s.heap [] := va_S.rf
    have hl : lv_has ls 6 [(0, .ref (b + r0)), (1, .int (mI x1)), (2, .int (mI x2))] := hl
    unfold w_X9_soapOf at h
    refine m_aload_n (pc := 0) C.1 dX9_soapOf_0 rfl hl 0 rfl ?_
    refine g_7_3 (pc := 1) C hW kr0 q_367 dX9_soapOf_1 ?_
    refine m_iconst (pc := 4) C.1 dX9_soapOf_4 ?_
    refine m_aald4 (pc := 5) C.1 C.2.1 hW (k_7_3 kr0) (by decide : okI 0) (by decide) (by decide) dX9_soapOf_5 ?_
    refine m_iload_n (pc := 6) C.1 dX9_soapOf_6 rfl hl 2 rfl ?_
    obtain ⟨hb1a, hb1b, h⟩ := h
    refine m_iald (pc := 7) C.1 C.2.1 hW (k_grid (k_7_3 kr0) (by decide) (by decide)) ox2 hb1a hb1b dX9_soapOf_7 ?_
    refine m_sipush (pc := 8) C.1 dX9_soapOf_8 rfl ?_
    refine m_icmp_lt (pc := 11) (tgt := 16) C.1 (hW.2.1 _ _) (by decide : okI 1000) dX9_soapOf_11 (by decide) (fun hc => ?_) (fun hc => ?_)
    · replace h := h.1 hc
      refine m_iload_n (pc := 16) C.1 dX9_soapOf_16 rfl hl 2 rfl ?_
      refine m_istore_n (pc := 17) C.1 dX9_soapOf_17 rfl hl (by decide) (fun v => [(3, .int v), (0, .ref (b + r0)), (1, .int (mI x1)), (2, .int (mI x2))]) (fun _ => rfl) ox2 (fun v2 ls ev2 ov2 hl => ?_)
      replace h := h v2 ev2
      refine m_iconst (pc := 18) C.1 dX9_soapOf_18 ?_
      refine m_istore (pc := 19) C.1 dX9_soapOf_19 hl (by decide) (fun v => [(4, .int v), (3, .int (mI v2)), (0, .ref (b + r0)), (1, .int (mI x1)), (2, .int (mI x2))]) (fun _ => rfl) (by decide : okI 0) (fun v3 ls ev3 ov3 hl => ?_)
      replace h := h v3 ev3
      refine m_iconst (pc := 21) C.1 dX9_soapOf_21 ?_
      refine m_istore (pc := 22) C.1 dX9_soapOf_22 hl (by decide) (fun v => [(5, .int v), (4, .int (mI v3)), (3, .int (mI v2)), (0, .ref (b + r0)), (1, .int (mI x1)), (2, .int (mI x2))]) (fun _ => rfl) (by decide : okI 0) (fun v4 ls ev4 ov4 hl => ?_)
      replace h := h v4 ev4
      refine W_X9_soapOf_24 C N ?_ N r0 kr0 x1 ox1 v2 ov2 v3 ov3 v4 ov4 S _ _ _ (lv_sub hl [3, 4, 2, 1, 0] rfl) hW hS h
      · intro x4_5 ox4_5 S_5 H locs ls hl hW_5 hS h
        refine m_iload (pc := 62) C.1 dX9_soapOf_62 hl 0 rfl ?_
        refine m_iconst (pc := 64) C.1 dX9_soapOf_64 ?_
        refine m_isub (pc := 65) C.1 dX9_soapOf_65 ?_
        exact m_iret (pc := 66) C.1 C.2.2.2.1 C.2.2.2.2.1 hW_5 hS (nm_ok _) h (by decide) (by decide) dX9_soapOf_66
    · replace h := h.2 hc
      refine m_iconst (pc := 14) C.1 dX9_soapOf_14 ?_
      exact m_iret (pc := 15) C.1 C.2.2.2.1 C.2.2.2.2.1 hW hS (by decide : okI (-1)) h (by decide) (by decide) dX9_soapOf_15) sz
