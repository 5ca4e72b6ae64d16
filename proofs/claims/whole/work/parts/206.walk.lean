set_option maxHeartbeats 4000000
set_option maxRecDepth 20000
section
variable {p : Program} {l : Launch} {e : Env} {s : State} {m : MethodId} {args : Array Value} {below : List Frame} {meth : Method} {c : Code} {g : mG} {b : Nat}
def w_X12_skip_0b (N : Nat) (Q : mSt → Prop) (ko0 : Nat → mSt → Prop) (ko37 : mSt → Prop) (r0 : Nat) (S : mSt) : Prop :=
  (((S r0 11) ≤ (S r0 12) → ko37 S) ∧ ((S r0 12) < (S r0 11) → w_X12_letter N r0 (S r0 12) S (fun (S1 : mSt) (v1 : Int) => ((v1 ≠ 32 → ko37 S1) ∧ (v1 = 32 → ∀ S2 : mSt, S2 = mup S1 r0 12 (nm ((S1 r0 12) + 1)) → ko0 r0 S2)))))
theorem W_X12_skip_0b (C : mC p l s m args meth c cX12_skip "MoonWashModel" 1 none g) (N : Nat) {Q : mSt → Prop} {ko0 : Nat → mSt → Prop} {ko37 : mSt → Prop} (hko0 : ∀ (r0 : Nat) (kr0 : KM r0 = (0, 10, 0)) (S : mSt) (H : Heap) (locs : List Loc) (ls : Array Slot), lv_has ls 1 [(0, .ref (b + r0))] → mW g b KM S H → va_S (mA b KM s.heap.size) s.heap H locs → ko0 r0 S → W p l e { frames := 1, cells := 0, slots := 0, locals := 21 } s m args below meth c H locs 0 0 (vx_MQ below (mQv g b KM Q (mA b KM s.heap.size)) (mEx g b KM (fun _ _ => False) (mA b KM s.heap.size)) args s 0 0 (mA b KM s.heap.size)) (F0 m 0 ls [])) (hko37 : ∀  (S : mSt) (H : Heap) (locs : List Loc) (ls : Array Slot), lv_has ls 1 [] → mW g b KM S H → va_S (mA b KM s.heap.size) s.heap H locs → ko37 S → W p l e { frames := 1, cells := 0, slots := 0, locals := 21 } s m args below meth c H locs 0 0 (vx_MQ below (mQv g b KM Q (mA b KM s.heap.size)) (mEx g b KM (fun _ _ => False) (mA b KM s.heap.size)) args s 0 0 (mA b KM s.heap.size)) (F0 m 37 ls [])) (r0 : Nat) (kr0 : KM r0 = (0, 10, 0)) (S : mSt) (H : Heap) (locs : List Loc) (ls : Array Slot) (hl : lv_has ls 1 [(0, .ref (b + r0))]) (hW : mW g b KM S H) (hS : va_S (mA b KM s.heap.size) s.heap H locs) (h : w_X12_skip_0b N Q ko0 ko37 r0 S) : W p l e { frames := 1, cells := 0, slots := 0, locals := 21 } s m args below meth c H locs 0 0 (vx_MQ below (mQv g b KM Q (mA b KM s.heap.size)) (mEx g b KM (fun _ _ => False) (mA b KM s.heap.size)) args s 0 0 (mA b KM s.heap.size)) (F0 m 0 ls []) := by
  unfold w_X12_skip_0b at h
  refine m_aload_n (pc := 0) C.1 dX12_skip_0 rfl hl 0 rfl ?_
  refine g_10_12 (pc := 1) C hW kr0 q_1395 dX12_skip_1 ?_
  refine m_aload_n (pc := 4) C.1 dX12_skip_4 rfl hl 0 rfl ?_
  refine g_10_11 (pc := 5) C hW kr0 q_1394 dX12_skip_5 ?_
  refine m_icmp_ge (pc := 8) (tgt := 37) C.1 (hW.2.1 _ _) (hW.2.1 _ _) dX12_skip_8 (by decide) (fun hc => ?_) (fun hc => ?_)
  · replace h := h.1 hc
    exact hko37  S _ _ _ (lv_sub hl [] rfl) hW hS h
  · replace h := h.2 hc
    refine m_aload_n (pc := 11) C.1 dX12_skip_11 rfl hl 0 rfl ?_
    refine m_aload_n (pc := 12) C.1 dX12_skip_12 rfl hl 0 rfl ?_
    refine g_10_12 (pc := 13) C hW kr0 q_1395 dX12_skip_13 ?_
    refine m_callVi (pc := 16) C.1 C.2.2.1 hl.1 C.2.1 hW hS (As := [.int (mI (S r0 12))]) (rest := []) (r := r0) (T_X12_letter C.2.2.2.2.2.2 N r0 kr0 (S r0 12) (hW.2.1 _ _) h) kr0 rfl q_1498 q_1500 q_27 q_92 q_1501 pl_X12_letter (by decide) (Nat.le_of_ble_eq_true rfl) dX12_skip_16 (fun v1 S1 H locs ov1 h hW1 hS => ?_)
    refine m_bipush (pc := 19) C.1 dX12_skip_19 rfl ?_
    refine m_icmp_ne (pc := 21) (tgt := 37) C.1 ov1 (by decide : okI 32) dX12_skip_21 (by decide) (fun hc => ?_) (fun hc => ?_)
    · replace h := h.1 hc
      exact hko37  S1 _ _ _ (lv_sub hl [] rfl) hW1 hS h
    · replace h := h.2 hc
      refine m_aload_n (pc := 24) C.1 dX12_skip_24 rfl hl 0 rfl ?_
      refine lv_dup (pc := 25) C.1.1 C.1.2.1 dX12_skip_25 rfl ?_
      refine g_10_12 (pc := 26) C hW1 kr0 q_1395 dX12_skip_26 ?_
      refine m_iconst (pc := 29) C.1 dX12_skip_29 ?_
      refine m_iadd (pc := 30) C.1 dX12_skip_30 ?_
      refine p_10_12 (pc := 31) C hW1 hS kr0 q_1395 (nm_ok _) dX12_skip_31 (fun S2 H locs e2 hW2 hS => ?_)
      replace h := h S2 e2
      refine m_goto (pc := 34) (tgt := 0) C.1 dX12_skip_34 (by decide) ?_
      exact hko0 r0 kr0 S2 _ _ _ (lv_sub hl [0] rfl) hW2 hS h
def w_X12_skip_0 (N : Nat) (Q : mSt → Prop) (ko37 : mSt → Prop) : Nat → Nat → mSt → Prop
  | 0 => fun _ _ => False
  | k + 1 => w_X12_skip_0b N Q (w_X12_skip_0 N Q ko37 k) ko37
theorem W_X12_skip_0 (C : mC p l s m args meth c cX12_skip "MoonWashModel" 1 none g) (N : Nat) {Q : mSt → Prop} {ko37 : mSt → Prop} (hko37 : ∀  (S : mSt) (H : Heap) (locs : List Loc) (ls : Array Slot), lv_has ls 1 [] → mW g b KM S H → va_S (mA b KM s.heap.size) s.heap H locs → ko37 S → W p l e { frames := 1, cells := 0, slots := 0, locals := 21 } s m args below meth c H locs 0 0 (vx_MQ below (mQv g b KM Q (mA b KM s.heap.size)) (mEx g b KM (fun _ _ => False) (mA b KM s.heap.size)) args s 0 0 (mA b KM s.heap.size)) (F0 m 37 ls [])) : ∀ (k : Nat) (r0 : Nat) (kr0 : KM r0 = (0, 10, 0)) (S : mSt) (H : Heap) (locs : List Loc) (ls : Array Slot) (hl : lv_has ls 1 [(0, .ref (b + r0))]) (hW : mW g b KM S H) (hS : va_S (mA b KM s.heap.size) s.heap H locs) (h : w_X12_skip_0 N Q ko37 k r0 S), W p l e { frames := 1, cells := 0, slots := 0, locals := 21 } s m args below meth c H locs 0 0 (vx_MQ below (mQv g b KM Q (mA b KM s.heap.size)) (mEx g b KM (fun _ _ => False) (mA b KM s.heap.size)) args s 0 0 (mA b KM s.heap.size)) (F0 m 0 ls []) := by
  intro k
  induction k with
  | zero => intro r0 kr0 S H locs ls hl hW hS h; exact False.elim h
  | succ k ih => intro r0 kr0 S H locs ls hl hW hS h; exact W_X12_skip_0b C N ih hko37 r0 kr0 S H locs ls hl hW hS h
end
def w_X12_skip (N : Nat) (r0 : Nat) (S : mSt) (Q : mSt → Prop) : Prop :=
  w_X12_skip_0 N Q (fun  (S_1 : mSt) => Q S_1) N r0 S
theorem T_X12_skip {l : Launch} (hl0 : l.stackTraces = false) {g : mG} {b : Nat} (N : Nat) (r0 : Nat) (kr0 : KM r0 = (0, 10, 0)) {S : mSt} {Q : mSt → Prop} (h : w_X12_skip N r0 S Q) (sz : Nat) : vx_Met l yX12_skip (Cond.code yX12_skip cX12_skip 1 none :: wsG) { frames := 1, cells := 0, slots := 0, locals := 21 } (mPc g b KM S [.ref (b + r0)] sz) (mQv g b KM Q (mA b KM sz)) (mEx g b KM (fun _ _ => False) (mA b KM sz)) 0 0 (mA b KM sz) :=
  m_of (av := [.ref (b + r0)]) (Qf := fun A => mQv g b KM Q A) (Xf := fun A => mEx g b KM (fun _ _ => False) A) (by decide) (Nat.le_of_ble_eq_true rfl) (fun p e s m args below meth c ls X hK hml hr hlk hout hnm hW hl => by
    have C : mC p l s m args meth c cX12_skip "MoonWashModel" 1 none g := ⟨X, hK, hml, hr, hlk, hout, hl0⟩
    have hS : va_S (mA b KM s.heap.size) s.heap s.heap [] := va_S.rf
    have hl : lv_has ls 1 [(0, .ref (b + r0))] := hl
    unfold w_X12_skip at h
    refine W_X12_skip_0 C N ?_ N r0 kr0 S _ _ _ (lv_sub hl [0] rfl) hW hS h
    · intro S_1 H locs ls hl hW_1 hS h
      exact m_vret (pc := 37) C.1 C.2.2.2.1 C.2.2.2.2.1 hW_1 hS h (by decide) (by decide) dX12_skip_37) sz
section
variable {p : Program} {l : Launch} {e : Env} {s : State} {m : MethodId} {args : Array Value} {below : List Frame} {meth : Method} {c : Code} {g : mG} {b : Nat}
end
def w_X12_isSign (N : Nat) (r0 : Nat) (x1 : Int) (S : mSt) (Q : mSt → Int → Prop) : Prop :=
  w_X12_skip N r0 S (fun (S1 : mSt) => (((S1 r0 11) ≤ (S1 r0 12) → Q S1 0) ∧ ((S1 r0 12) < (S1 r0 11) → w_X12_letter N r0 (S1 r0 12) S1 (fun (S2 : mSt) (v2 : Int) => ((v2 ≠ x1 → Q S2 0) ∧ (v2 = x1 → Q S2 1))))))
theorem T_X12_isSign {l : Launch} (hl0 : l.stackTraces = false) {g : mG} {b : Nat} (N : Nat) (r0 : Nat) (kr0 : KM r0 = (0, 10, 0)) (x1 : Int) (ox1 : okI x1) {S : mSt} {Q : mSt → Int → Prop} (h : w_X12_isSign N r0 x1 S Q) (sz : Nat) : vx_Met l yX12_isSign (Cond.code yX12_isSign cX12_isSign 2 (some FieldType.boolean) :: wsG) { frames := 2, cells := 0, slots := 0, locals := 41 } (mPc g b KM S [.ref (b + r0), .int (mI x1)] sz) (mQi g b KM Q (mA b KM sz)) (mEx g b KM (fun _ _ => False) (mA b KM sz)) 0 0 (mA b KM sz) :=
  m_of (av := [.ref (b + r0), .int (mI x1)]) (Qf := fun A => mQi g b KM Q A) (Xf := fun A => mEx g b KM (fun _ _ => False) A) (by decide) (Nat.le_of_ble_eq_true rfl) (fun p e s m args below meth c ls X hK hml hr hlk hout hnm hW hl => by
    have C : mC p l s m args meth c cX12_isSign "MoonWashModel" 2 (some FieldType.boolean) g := ⟨X, hK, hml, hr, hlk, hout, hl0⟩
    have hS : va_S (mA b KM s.heap.size) s.heap s.heap [] := va_S.rf
    have hl : lv_has ls 2 [(0, .ref (b + r0)), (1, .int (mI x1))] := hl
    unfold w_X12_isSign at h
    refine m_aload_n (pc := 0) C.1 dX12_isSign_0 rfl hl 0 rfl ?_
    refine m_callVv (pc := 1) C.1 C.2.2.1 hl.1 C.2.1 hW hS (As := []) (rest := []) (r := r0) (T_X12_skip C.2.2.2.2.2.2 N r0 kr0 h) kr0 rfl q_1494 q_1496 q_26 q_92 q_1497 pl_X12_skip (by decide) (Nat.le_of_ble_eq_true rfl) dX12_isSign_1 (fun S1 H locs h hW1 hS => ?_)
    refine m_aload_n (pc := 4) C.1 dX12_isSign_4 rfl hl 0 rfl ?_
    refine g_10_12 (pc := 5) C hW1 kr0 q_1395 dX12_isSign_5 ?_
    refine m_aload_n (pc := 8) C.1 dX12_isSign_8 rfl hl 0 rfl ?_
    refine g_10_11 (pc := 9) C hW1 kr0 q_1394 dX12_isSign_9 ?_
    refine m_icmp_ge (pc := 12) (tgt := 31) C.1 (hW1.2.1 _ _) (hW1.2.1 _ _) dX12_isSign_12 (by decide) (fun hc => ?_) (fun hc => ?_)
    · replace h := h.1 hc
      refine m_iconst (pc := 31) C.1 dX12_isSign_31 ?_
      exact m_zret (pc := 32) C.1 C.2.2.2.1 C.2.2.2.2.1 hW1 hS (by decide) h (by decide) (by decide) dX12_isSign_32
    · replace h := h.2 hc
      refine m_aload_n (pc := 15) C.1 dX12_isSign_15 rfl hl 0 rfl ?_
      refine m_aload_n (pc := 16) C.1 dX12_isSign_16 rfl hl 0 rfl ?_
      refine g_10_12 (pc := 17) C hW1 kr0 q_1395 dX12_isSign_17 ?_
      refine m_callVi (pc := 20) C.1 C.2.2.1 hl.1 C.2.1 hW1 hS (As := [.int (mI (S1 r0 12))]) (rest := []) (r := r0) (T_X12_letter C.2.2.2.2.2.2 N r0 kr0 (S1 r0 12) (hW1.2.1 _ _) h) kr0 rfl q_1498 q_1500 q_27 q_92 q_1501 pl_X12_letter (by decide) (Nat.le_of_ble_eq_true rfl) dX12_isSign_20 (fun v2 S2 H locs ov2 h hW2 hS => ?_)
      refine m_iload_n (pc := 23) C.1 dX12_isSign_23 rfl hl 1 rfl ?_
      refine m_icmp_ne (pc := 24) (tgt := 31) C.1 ov2 ox1 dX12_isSign_24 (by decide) (fun hc => ?_) (fun hc => ?_)
      · replace h := h.1 hc
        refine m_iconst (pc := 31) C.1 dX12_isSign_31 ?_
        exact m_zret (pc := 32) C.1 C.2.2.2.1 C.2.2.2.2.1 hW2 hS (by decide) h (by decide) (by decide) dX12_isSign_32
      · replace h := h.2 hc
        refine m_iconst (pc := 27) C.1 dX12_isSign_27 ?_
        refine m_goto (pc := 28) (tgt := 32) C.1 dX12_isSign_28 (by decide) ?_
        exact m_zret (pc := 32) C.1 C.2.2.2.1 C.2.2.2.2.1 hW2 hS (by decide) h (by decide) (by decide) dX12_isSign_32) sz
section
variable {p : Program} {l : Launch} {e : Env} {s : State} {m : MethodId} {args : Array Value} {below : List Frame} {meth : Method} {c : Code} {g : mG} {b : Nat}
def w_X12_has__9b (N : Nat) (Q : mSt → Int → Prop) (ko9 : Nat → Nat → Int → mSt → Prop) (ko38 : Nat → Nat → Int → mSt → Prop) (r0 : Nat) (j1 : Nat) (x2 : Int) (S : mSt) : Prop :=
  (((S r0 11) ≤ x2 → ko38 r0 j1 x2 S) ∧ (x2 < (S r0 11) → w_X12_letter N r0 x2 S (fun (S1 : mSt) (v1 : Int) => w_X12_isIn N v1 97 122 S1 (fun (S2 : mSt) (v2 : Int) => ((v2 = 0 → ko38 r0 j1 x2 S2) ∧ (v2 ≠ 0 → ∀ v3 : Int, v3 = nm (x2 + 1) → ko9 r0 j1 v3 S2))))))
theorem W_X12_has__9b (C : mC p l s m args meth c cX12_has_ "MoonWashModel" 4 (some FieldType.boolean) g) (N : Nat) {Q : mSt → Int → Prop} {ko9 : Nat → Nat → Int → mSt → Prop} {ko38 : Nat → Nat → Int → mSt → Prop} (hko9 : ∀ (r0 : Nat) (kr0 : KM r0 = (0, 10, 0)) (j1 : Nat) (hj1 : j1 < nJS) (x2 : Int) (ox2 : okI x2) (S : mSt) (H : Heap) (locs : List Loc) (ls : Array Slot), lv_has ls 4 [(0, .ref (b + r0)), (1, .ref (g.sa j1)), (2, .int (mI x2))] → mW g b KM S H → va_S (mA b KM s.heap.size) s.heap H locs → ko9 r0 j1 x2 S → W p l e { frames := 5, cells := 0, slots := 0, locals := 150 } s m args below meth c H locs 0 0 (vx_MQ below (mQi g b KM Q (mA b KM s.heap.size)) (mEx g b KM (fun _ _ => False) (mA b KM s.heap.size)) args s 0 0 (mA b KM s.heap.size)) (F0 m 9 ls [])) (hko38 : ∀ (r0 : Nat) (kr0 : KM r0 = (0, 10, 0)) (j1 : Nat) (hj1 : j1 < nJS) (x2 : Int) (ox2 : okI x2) (S : mSt) (H : Heap) (locs : List Loc) (ls : Array Slot), lv_has ls 4 [(0, .ref (b + r0)), (1, .ref (g.sa j1)), (2, .int (mI x2))] → mW g b KM S H → va_S (mA b KM s.heap.size) s.heap H locs → ko38 r0 j1 x2 S → W p l e { frames := 5, cells := 0, slots := 0, locals := 150 } s m args below meth c H locs 0 0 (vx_MQ below (mQi g b KM Q (mA b KM s.heap.size)) (mEx g b KM (fun _ _ => False) (mA b KM s.heap.size)) args s 0 0 (mA b KM s.heap.size)) (F0 m 38 ls [])) (r0 : Nat) (kr0 : KM r0 = (0, 10, 0)) (j1 : Nat) (hj1 : j1 < nJS) (x2 : Int) (ox2 : okI x2) (S : mSt) (H : Heap) (locs : List Loc) (ls : Array Slot) (hl : lv_has ls 4 [(0, .ref (b + r0)), (1, .ref (g.sa j1)), (2, .int (mI x2))]) (hW : mW g b KM S H) (hS : va_S (mA b KM s.heap.size) s.heap H locs) (h : w_X12_has__9b N Q ko9 ko38 r0 j1 x2 S) : W p l e { frames := 5, cells := 0, slots := 0, locals := 150 } s m args below meth c H locs 0 0 (vx_MQ below (mQi g b KM Q (mA b KM s.heap.size)) (mEx g b KM (fun _ _ => False) (mA b KM s.heap.size)) args s 0 0 (mA b KM s.heap.size)) (F0 m 9 ls []) := by
  unfold w_X12_has__9b at h
  refine m_iload_n (pc := 9) C.1 dX12_has__9 rfl hl 2 rfl ?_
  refine m_aload_n (pc := 10) C.1 dX12_has__10 rfl hl 0 rfl ?_
  refine g_10_11 (pc := 11) C hW kr0 q_1394 dX12_has__11 ?_
  refine m_icmp_ge (pc := 14) (tgt := 38) C.1 ox2 (hW.2.1 _ _) dX12_has__14 (by decide) (fun hc => ?_) (fun hc => ?_)
  · replace h := h.1 hc
    exact hko38 r0 kr0 j1 hj1 x2 ox2 S _ _ _ (lv_sub hl [0, 1, 2] rfl) hW hS h
  · replace h := h.2 hc
    refine m_aload_n (pc := 17) C.1 dX12_has__17 rfl hl 0 rfl ?_
    refine m_iload_n (pc := 18) C.1 dX12_has__18 rfl hl 2 rfl ?_
    refine m_callVi (pc := 19) C.1 C.2.2.1 hl.1 C.2.1 hW hS (As := [.int (mI x2)]) (rest := []) (r := r0) (T_X12_letter C.2.2.2.2.2.2 N r0 kr0 x2 ox2 h) kr0 rfl q_1498 q_1500 q_27 q_92 q_1501 pl_X12_letter (by decide) (Nat.le_of_ble_eq_true rfl) dX12_has__19 (fun v1 S1 H locs ov1 h hW1 hS => ?_)
    refine m_bipush (pc := 22) C.1 dX12_has__22 rfl ?_
    refine m_bipush (pc := 24) C.1 dX12_has__24 rfl ?_
    refine m_callSi (pc := 26) C.1 C.2.2.1 hl.1 C.2.1 hW1 hS (As := [.int (mI v1), .int (mI 97), .int (mI 122)]) (rest := []) (T_X12_isIn C.2.2.2.2.2.2 N v1 ov1 97 (by decide : okI 97) 122 (by decide : okI 122) h) q_1475 q_1476 q_92 q_1477 pl_X12_isIn (by decide) (Nat.le_of_ble_eq_true rfl) dX12_has__26 (fun v2 S2 H locs ov2 h hW2 hS => ?_)
    refine m_if_eq (pc := 29) (tgt := 38) C.1 ov2 dX12_has__29 (by decide) (fun hc => ?_) (fun hc => ?_)
    · replace h := h.1 hc
      exact hko38 r0 kr0 j1 hj1 x2 ox2 S2 _ _ _ (lv_sub hl [0, 1, 2] rfl) hW2 hS h
    · replace h := h.2 hc
      refine m_iinc (pc := 32) C.1 dX12_has__32 hl (by decide) (q0 := 2) rfl (fun v => [(2, .int v), (0, .ref (b + r0)), (1, .ref (g.sa j1))]) (fun _ => rfl) (fun v3 ls ev3 ov3 hl => ?_)
      replace h := h v3 ev3
      refine m_goto (pc := 35) (tgt := 9) C.1 dX12_has__35 (by decide) ?_
      exact hko9 r0 kr0 j1 hj1 v3 ov3 S2 _ _ _ (lv_sub hl [1, 2, 0] rfl) hW2 hS h
def w_X12_has__9 (N : Nat) (Q : mSt → Int → Prop) (ko38 : Nat → Nat → Int → mSt → Prop) : Nat → Nat → Nat → Int → mSt → Prop
  | 0 => fun _ _ _ _ => False
  | k + 1 => w_X12_has__9b N Q (w_X12_has__9 N Q ko38 k) ko38
theorem W_X12_has__9 (C : mC p l s m args meth c cX12_has_ "MoonWashModel" 4 (some FieldType.boolean) g) (N : Nat) {Q : mSt → Int → Prop} {ko38 : Nat → Nat → Int → mSt → Prop} (hko38 : ∀ (r0 : Nat) (kr0 : KM r0 = (0, 10, 0)) (j1 : Nat) (hj1 : j1 < nJS) (x2 : Int) (ox2 : okI x2) (S : mSt) (H : Heap) (locs : List Loc) (ls : Array Slot), lv_has ls 4 [(0, .ref (b + r0)), (1, .ref (g.sa j1)), (2, .int (mI x2))] → mW g b KM S H → va_S (mA b KM s.heap.size) s.heap H locs → ko38 r0 j1 x2 S → W p l e { frames := 5, cells := 0, slots := 0, locals := 150 } s m args below meth c H locs 0 0 (vx_MQ below (mQi g b KM Q (mA b KM s.heap.size)) (mEx g b KM (fun _ _ => False) (mA b KM s.heap.size)) args s 0 0 (mA b KM s.heap.size)) (F0 m 38 ls [])) : ∀ (k : Nat) (r0 : Nat) (kr0 : KM r0 = (0, 10, 0)) (j1 : Nat) (hj1 : j1 < nJS) (x2 : Int) (ox2 : okI x2) (S : mSt) (H : Heap) (locs : List Loc) (ls : Array Slot) (hl : lv_has ls 4 [(0, .ref (b + r0)), (1, .ref (g.sa j1)), (2, .int (mI x2))]) (hW : mW g b KM S H) (hS : va_S (mA b KM s.heap.size) s.heap H locs) (h : w_X12_has__9 N Q ko38 k r0 j1 x2 S), W p l e { frames := 5, cells := 0, slots := 0, locals := 150 } s m args below meth c H locs 0 0 (vx_MQ below (mQi g b KM Q (mA b KM s.heap.size)) (mEx g b KM (fun _ _ => False) (mA b KM s.heap.size)) args s 0 0 (mA b KM s.heap.size)) (F0 m 9 ls []) := by
  intro k
  induction k with
  | zero => intro r0 kr0 j1 hj1 x2 ox2 S H locs ls hl hW hS h; exact False.elim h
  | succ k ih => intro r0 kr0 j1 hj1 x2 ox2 S H locs ls hl hW hS h; exact W_X12_has__9b C N ih hko38 r0 kr0 j1 hj1 x2 ox2 S H locs ls hl hW hS h
def w_X12_has__55b (N : Nat) (Q : mSt → Int → Prop) (ko55 : Nat → Nat → Int → Int → mSt → Prop) (ko89 : Nat → Int → mSt → Prop) (r0 : Nat) (j1 : Nat) (x2 : Int) (x3 : Int) (S : mSt) : Prop :=
  (((sLen j1) ≤ x3 → ko89 r0 x2 S) ∧ (x3 < (sLen j1) → w_X12_letter N r0 (nm ((S r0 12) + x3)) S (fun (S2 : mSt) (v2 : Int) => (0 ≤ x3 ∧ x3 < sLen j1 ∧ ((v2 = (sCh j1 x3) → ∀ v5 : Int, v5 = nm (x3 + 1) → ko55 r0 j1 x2 v5 S2) ∧ (v2 ≠ (sCh j1 x3) → Q S2 0))))))
theorem W_X12_has__55b (C : mC p l s m args meth c cX12_has_ "MoonWashModel" 4 (some FieldType.boolean) g) (N : Nat) {Q : mSt → Int → Prop} {ko55 : Nat → Nat → Int → Int → mSt → Prop} {ko89 : Nat → Int → mSt → Prop} (hko55 : ∀ (r0 : Nat) (kr0 : KM r0 = (0, 10, 0)) (j1 : Nat) (hj1 : j1 < nJS) (x2 : Int) (ox2 : okI x2) (x3 : Int) (ox3 : okI x3) (S : mSt) (H : Heap) (locs : List Loc) (ls : Array Slot), lv_has ls 4 [(0, .ref (b + r0)), (1, .ref (g.sa j1)), (2, .int (mI x2)), (3, .int (mI x3))] → mW g b KM S H → va_S (mA b KM s.heap.size) s.heap H locs → ko55 r0 j1 x2 x3 S → W p l e { frames := 5, cells := 0, slots := 0, locals := 150 } s m args below meth c H locs 0 0 (vx_MQ below (mQi g b KM Q (mA b KM s.heap.size)) (mEx g b KM (fun _ _ => False) (mA b KM s.heap.size)) args s 0 0 (mA b KM s.heap.size)) (F0 m 55 ls [])) (hko89 : ∀ (r0 : Nat) (kr0 : KM r0 = (0, 10, 0)) (x2 : Int) (ox2 : okI x2) (S : mSt) (H : Heap) (locs : List Loc) (ls : Array Slot), lv_has ls 4 [(0, .ref (b + r0)), (2, .int (mI x2))] → mW g b KM S H → va_S (mA b KM s.heap.size) s.heap H locs → ko89 r0 x2 S → W p l e { frames := 5, cells := 0, slots := 0, locals := 150 } s m args below meth c H locs 0 0 (vx_MQ below (mQi g b KM Q (mA b KM s.heap.size)) (mEx g b KM (fun _ _ => False) (mA b KM s.heap.size)) args s 0 0 (mA b KM s.heap.size)) (F0 m 89 ls [])) (r0 : Nat) (kr0 : KM r0 = (0, 10, 0)) (j1 : Nat) (hj1 : j1 < nJS) (x2 : Int) (ox2 : okI x2) (x3 : Int) (ox3 : okI x3) (S : mSt) (H : Heap) (locs : List Loc) (ls : Array Slot) (hl : lv_has ls 4 [(0, .ref (b + r0)), (1, .ref (g.sa j1)), (2, .int (mI x2)), (3, .int (mI x3))]) (hW : mW g b KM S H) (hS : va_S (mA b KM s.heap.size) s.heap H locs) (h : w_X12_has__55b N Q ko55 ko89 r0 j1 x2 x3 S) : W p l e { frames := 5, cells := 0, slots := 0, locals := 150 } s m args below meth c H locs 0 0 (vx_MQ below (mQi g b KM Q (mA b KM s.heap.size)) (mEx g b KM (fun _ _ => False) (mA b KM s.heap.size)) args s 0 0 (mA b KM s.heap.size)) (F0 m 55 ls []) := by
  unfold w_X12_has__55b at h
  refine m_iload_n (pc := 55) C.1 dX12_has__55 rfl hl 3 rfl ?_
  refine m_aload_n (pc := 56) C.1 dX12_has__56 rfl hl 1 rfl ?_
  refine m_slen (pc := 57) C hl.1 hW hS hj1 q_1515 (by decide) (Nat.le_of_ble_eq_true rfl) dX12_has__57 (fun H locs hW1 hS => ?_)
  refine m_icmp_ge (pc := 60) (tgt := 89) C.1 ox3 (sLen_ok hj1) dX12_has__60 (by decide) (fun hc => ?_) (fun hc => ?_)
  · replace h := h.1 hc
    exact hko89 r0 kr0 x2 ox2 S _ _ _ (lv_sub hl [0, 2] rfl) hW1 hS h
  · replace h := h.2 hc
    refine m_aload_n (pc := 63) C.1 dX12_has__63 rfl hl 0 rfl ?_
    refine m_aload_n (pc := 64) C.1 dX12_has__64 rfl hl 0 rfl ?_
    refine g_10_12 (pc := 65) C hW1 kr0 q_1395 dX12_has__65 ?_
    refine m_iload_n (pc := 68) C.1 dX12_has__68 rfl hl 3 rfl ?_
    refine m_iadd (pc := 69) C.1 dX12_has__69 ?_
    refine m_callVi (pc := 70) C.1 C.2.2.1 hl.1 C.2.1 hW1 hS (As := [.int (mI (nm ((S r0 12) + x3)))]) (rest := []) (r := r0) (T_X12_letter C.2.2.2.2.2.2 N r0 kr0 (nm ((S r0 12) + x3)) (nm_ok _) h) kr0 rfl q_1498 q_1500 q_27 q_92 q_1501 pl_X12_letter (by decide) (Nat.le_of_ble_eq_true rfl) dX12_has__70 (fun v2 S2 H locs ov2 h hW2 hS => ?_)
    refine m_aload_n (pc := 73) C.1 dX12_has__73 rfl hl 1 rfl ?_
    refine m_iload_n (pc := 74) C.1 dX12_has__74 rfl hl 3 rfl ?_
    obtain ⟨hb3a, hb3b, h⟩ := h
    refine m_schar (pc := 75) C hl.1 hW2 hS hj1 ox3 hb3a hb3b q_1516 (by decide) (Nat.le_of_ble_eq_true rfl) dX12_has__75 (fun H locs hW4 hS => ?_)
    refine m_icmp_eq (pc := 78) (tgt := 83) C.1 ov2 (sCh_ok _ _) dX12_has__78 (by decide) (fun hc => ?_) (fun hc => ?_)
    · replace h := h.1 hc
      refine m_iinc (pc := 83) C.1 dX12_has__83 hl (by decide) (q0 := 3) rfl (fun v => [(3, .int v), (0, .ref (b + r0)), (1, .ref (g.sa j1)), (2, .int (mI x2))]) (fun _ => rfl) (fun v5 ls ev5 ov5 hl => ?_)
      replace h := h v5 ev5
      refine m_goto (pc := 86) (tgt := 55) C.1 dX12_has__86 (by decide) ?_
      exact hko55 r0 kr0 j1 hj1 x2 ox2 v5 ov5 S2 _ _ _ (lv_sub hl [1, 2, 3, 0] rfl) hW4 hS h
    · replace h := h.2 hc
      refine m_iconst (pc := 81) C.1 dX12_has__81 ?_
      exact m_zret (pc := 82) C.1 C.2.2.2.1 C.2.2.2.2.1 hW4 hS (by decide) h (by decide) (by decide) dX12_has__82
def w_X12_has__55 (N : Nat) (Q : mSt → Int → Prop) (ko89 : Nat → Int → mSt → Prop) : Nat → Nat → Nat → Int → Int → mSt → Prop
  | 0 => fun _ _ _ _ _ => False
  | k + 1 => w_X12_has__55b N Q (w_X12_has__55 N Q ko89 k) ko89
theorem W_X12_has__55 (C : mC p l s m args meth c cX12_has_ "MoonWashModel" 4 (some FieldType.boolean) g) (N : Nat) {Q : mSt → Int → Prop} {ko89 : Nat → Int → mSt → Prop} (hko89 : ∀ (r0 : Nat) (kr0 : KM r0 = (0, 10, 0)) (x2 : Int) (ox2 : okI x2) (S : mSt) (H : Heap) (locs : List Loc) (ls : Array Slot), lv_has ls 4 [(0, .ref (b + r0)), (2, .int (mI x2))] → mW g b KM S H → va_S (mA b KM s.heap.size) s.heap H locs → ko89 r0 x2 S → W p l e { frames := 5, cells := 0, slots := 0, locals := 150 } s m args below meth c H locs 0 0 (vx_MQ below (mQi g b KM Q (mA b KM s.heap.size)) (mEx g b KM (fun _ _ => False) (mA b KM s.heap.size)) args s 0 0 (mA b KM s.heap.size)) (F0 m 89 ls [])) : ∀ (k : Nat) (r0 : Nat) (kr0 : KM r0 = (0, 10, 0)) (j1 : Nat) (hj1 : j1 < nJS) (x2 : Int) (ox2 : okI x2) (x3 : Int) (ox3 : okI x3) (S : mSt) (H : Heap) (locs : List Loc) (ls : Array Slot) (hl : lv_has ls 4 [(0, .ref (b + r0)), (1, .ref (g.sa j1)), (2, .int (mI x2)), (3, .int (mI x3))]) (hW : mW g b KM S H) (hS : va_S (mA b KM s.heap.size) s.heap H locs) (h : w_X12_has__55 N Q ko89 k r0 j1 x2 x3 S), W p l e { frames := 5, cells := 0, slots := 0, locals := 150 } s m args below meth c H locs 0 0 (vx_MQ below (mQi g b KM Q (mA b KM s.heap.size)) (mEx g b KM (fun _ _ => False) (mA b KM s.heap.size)) args s 0 0 (mA b KM s.heap.size)) (F0 m 55 ls []) := by
  intro k
  induction k with
  | zero => intro r0 kr0 j1 hj1 x2 ox2 x3 ox3 S H locs ls hl hW hS h; exact False.elim h
  | succ k ih => intro r0 kr0 j1 hj1 x2 ox2 x3 ox3 S H locs ls hl hW hS h; exact W_X12_has__55b C N ih hko89 r0 kr0 j1 hj1 x2 ox2 x3 ox3 S H locs ls hl hW hS h
def w_X12_has__38 (N : Nat) (Q : mSt → Int → Prop)  (r0 : Nat) (j1 : Nat) (x2 : Int) (S : mSt) : Prop :=
  (((nm (x2 - (S r0 12))) = (sLen j1) → ∀ v2 : Int, v2 = 0 → w_X12_has__55 N Q (fun (r0_3 : Nat) (x2_3 : Int) (S_3 : mSt) => ∀ S4 : mSt, S4 = mup S_3 r0_3 12 x2_3 → Q S4 1) N r0 j1 x2 v2 S) ∧ ((nm (x2 - (S r0 12))) ≠ (sLen j1) → Q S 0))
theorem W_X12_has__38 (C : mC p l s m args meth c cX12_has_ "MoonWashModel" 4 (some FieldType.boolean) g) (N : Nat) {Q : mSt → Int → Prop}   (r0 : Nat) (kr0 : KM r0 = (0, 10, 0)) (j1 : Nat) (hj1 : j1 < nJS) (x2 : Int) (ox2 : okI x2) (S : mSt) (H : Heap) (locs : List Loc) (ls : Array Slot) (hl : lv_has ls 4 [(0, .ref (b + r0)), (1, .ref (g.sa j1)), (2, .int (mI x2))]) (hW : mW g b KM S H) (hS : va_S (mA b KM s.heap.size) s.heap H locs) (h : w_X12_has__38 N Q  r0 j1 x2 S) : W p l e { frames := 5, cells := 0, slots := 0, locals := 150 } s m args below meth c H locs 0 0 (vx_MQ below (mQi g b KM Q (mA b KM s.heap.size)) (mEx g b KM (fun _ _ => False) (mA b KM s.heap.size)) args s 0 0 (mA b KM s.heap.size)) (F0 m 38 ls []) := by
  unfold w_X12_has__38 at h
  refine m_iload_n (pc := 38) C.1 dX12_has__38 rfl hl 2 rfl ?_
  refine m_aload_n (pc := 39) C.1 dX12_has__39 rfl hl 0 rfl ?_
  refine g_10_12 (pc := 40) C hW kr0 q_1395 dX12_has__40 ?_
  refine m_isub (pc := 43) C.1 dX12_has__43 ?_
  refine m_aload_n (pc := 44) C.1 dX12_has__44 rfl hl 1 rfl ?_
  refine m_slen (pc := 45) C hl.1 hW hS hj1 q_1515 (by decide) (Nat.le_of_ble_eq_true rfl) dX12_has__45 (fun H locs hW1 hS => ?_)
  refine m_icmp_eq (pc := 48) (tgt := 53) C.1 (nm_ok _) (sLen_ok hj1) dX12_has__48 (by decide) (fun hc => ?_) (fun hc => ?_)
  · replace h := h.1 hc
    refine m_iconst (pc := 53) C.1 dX12_has__53 ?_
    refine m_istore_n (pc := 54) C.1 dX12_has__54 rfl hl (by decide) (fun v => [(3, .int v), (0, .ref (b + r0)), (1, .ref (g.sa j1)), (2, .int (mI x2))]) (fun _ => rfl) (by decide : okI 0) (fun v2 ls ev2 ov2 hl => ?_)
    replace h := h v2 ev2
    refine W_X12_has__55 C N ?_ N r0 kr0 j1 hj1 x2 ox2 v2 ov2 S _ _ _ (lv_sub hl [1, 2, 3, 0] rfl) hW1 hS h
    · intro r0_3 kr0_3 x2_3 ox2_3 S_3 H locs ls hl hW_3 hS h
      refine m_aload_n (pc := 89) C.1 dX12_has__89 rfl hl 0 rfl ?_
      refine m_iload_n (pc := 90) C.1 dX12_has__90 rfl hl 1 rfl ?_
      refine p_10_12 (pc := 91) C hW_3 hS kr0_3 q_1395 ox2_3 dX12_has__91 (fun S4 H locs e4 hW4 hS => ?_)
      replace h := h S4 e4
      refine m_iconst (pc := 94) C.1 dX12_has__94 ?_
      exact m_zret (pc := 95) C.1 C.2.2.2.1 C.2.2.2.2.1 hW4 hS (by decide) h (by decide) (by decide) dX12_has__95
  · replace h := h.2 hc
    refine m_iconst (pc := 51) C.1 dX12_has__51 ?_
    exact m_zret (pc := 52) C.1 C.2.2.2.1 C.2.2.2.2.1 hW1 hS (by decide) h (by decide) (by decide) dX12_has__52
end
def w_X12_has_ (N : Nat) (r0 : Nat) (j1 : Nat) (S : mSt) (Q : mSt → Int → Prop) : Prop :=
  w_X12_skip N r0 S (fun (S1 : mSt) => ∀ v2 : Int, v2 = (S1 r0 12) → w_X12_has__9 N Q (fun (r0_3 : Nat) (j1_3 : Nat) (x2_3 : Int) (S_3 : mSt) => w_X12_has__38 N Q  r0_3 j1_3 x2_3 S_3) N r0 j1 v2 S1)
theorem T_X12_has_ {l : Launch} (hl0 : l.stackTraces = false) {g : mG} {b : Nat} (N : Nat) (r0 : Nat) (kr0 : KM r0 = (0, 10, 0)) (j1 : Nat) (hj1 : j1 < nJS) {S : mSt} {Q : mSt → Int → Prop} (h : w_X12_has_ N r0 j1 S Q) (sz : Nat) : vx_Met l yX12_has_ (Cond.code yX12_has_ cX12_has_ 4 (some FieldType.boolean) :: wsG) { frames := 5, cells := 0, slots := 0, locals := 150 } (mPc g b KM S [.ref (b + r0), .ref (g.sa j1)] sz) (mQi g b KM Q (mA b KM sz)) (mEx g b KM (fun _ _ => False) (mA b KM sz)) 0 0 (mA b KM sz) :=
  m_of (av := [.ref (b + r0), .ref (g.sa j1)]) (Qf := fun A => mQi g b KM Q A) (Xf := fun A => mEx g b KM (fun _ _ => False) A) (by decide) (Nat.le_of_ble_eq_true rfl) (fun p e s m args below meth c ls X hK hml hr hlk hout hnm hW hl => by
    have C : mC p l s m args meth c cX12_has_ "MoonWashModel" 4 (some FieldType.boolean) g := ⟨X, hK, hml, hr, hlk, hout, hl0⟩
    have hS : va_S (mA b KM s.heap.size) s.heap s.heap [] := va_S.rf
    have hl : lv_has ls 4 [(0, .ref (b + r0)), (1, .ref (g.sa j1))] := hl
    unfold w_X12_has_ at h
    refine m_aload_n (pc := 0) C.1 dX12_has__0 rfl hl 0 rfl ?_
    refine m_callVv (pc := 1) C.1 C.2.2.1 hl.1 C.2.1 hW hS (As := []) (rest := []) (r := r0) (T_X12_skip C.2.2.2.2.2.2 N r0 kr0 h) kr0 rfl q_1494 q_1496 q_26 q_92 q_1497 pl_X12_skip (by decide) (Nat.le_of_ble_eq_true rfl) dX12_has__1 (fun S1 H locs h hW1 hS => ?_)
    refine m_aload_n (pc := 4) C.1 dX12_has__4 rfl hl 0 rfl ?_
    refine g_10_12 (pc := 5) C hW1 kr0 q_1395 dX12_has__5 ?_
    refine m_istore_n (pc := 8) C.1 dX12_has__8 rfl hl (by decide) (fun v => [(2, .int v), (0, .ref (b + r0)), (1, .ref (g.sa j1))]) (fun _ => rfl) (hW1.2.1 _ _) (fun v2 ls ev2 ov2 hl => ?_)
    replace h := h v2 ev2
    refine W_X12_has__9 C N ?_ N r0 kr0 j1 hj1 v2 ov2 S1 _ _ _ (lv_sub hl [1, 2, 0] rfl) hW1 hS h
    · intro r0_3 kr0_3 j1_3 hj1_3 x2_3 ox2_3 S_3 H locs ls hl hW_3 hS h
      exact W_X12_has__38 C N  r0_3 kr0_3 j1_3 hj1_3 x2_3 ox2_3 S_3 _ _ _ (lv_sub hl [0, 1, 2] rfl) hW_3 hS h) sz
section
variable {p : Program} {l : Launch} {e : Env} {s : State} {m : MethodId} {args : Array Value} {below : List Frame} {meth : Method} {c : Code} {g : mG} {b : Nat}
end
def w_X12_wrong (N : Nat) (r0 : Nat) (x1 : Int) (S : mSt) (Q : mSt → Prop) : Prop :=
  (((S r0 13) ≠ (-1) → Q S) ∧ ((S r0 13) = (-1) → ∀ S1 : mSt, S1 = mup S r0 13 x1 → Q S1))
theorem T_X12_wrong {l : Launch} (hl0 : l.stackTraces = false) {g : mG} {b : Nat} (N : Nat) (r0 : Nat) (kr0 : KM r0 = (0, 10, 0)) (x1 : Int) (ox1 : okI x1) {S : mSt} {Q : mSt → Prop} (h : w_X12_wrong N r0 x1 S Q) (sz : Nat) : vx_Met l yX12_wrong (Cond.code yX12_wrong cX12_wrong 2 none :: wsG) { frames := 0, cells := 0, slots := 0, locals := 0 } (mPc g b KM S [.ref (b + r0), .int (mI x1)] sz) (mQv g b KM Q (mA b KM sz)) (mEx g b KM (fun _ _ => False) (mA b KM sz)) 0 0 (mA b KM sz) :=
  m_of (av := [.ref (b + r0), .int (mI x1)]) (Qf := fun A => mQv g b KM Q A) (Xf := fun A => mEx g b KM (fun _ _ => False) A) (by decide) (Nat.le_of_ble_eq_true rfl) (fun p e s m args below meth c ls X hK hml hr hlk hout hnm hW hl => by
    have C : mC p l s m args meth c cX12_wrong "MoonWashModel" 2 none g := ⟨X, hK, hml, hr, hlk, hout, hl0⟩
    have hS : va_S (mA b KM s.heap.size) s.heap s.heap [] := va_S.rf
    have hl : lv_has ls 2 [(0, .ref (b + r0)), (1, .int (mI x1))] := hl
    unfold w_X12_wrong at h
    refine m_aload_n (pc := 0) C.1 dX12_wrong_0 rfl hl 0 rfl ?_
    refine g_10_13 (pc := 1) C hW kr0 q_1396 dX12_wrong_1 ?_
    refine m_iconst (pc := 4) C.1 dX12_wrong_4 ?_
    refine m_icmp_ne (pc := 5) (tgt := 13) C.1 (hW.2.1 _ _) (by decide : okI (-1)) dX12_wrong_5 (by decide) (fun hc => ?_) (fun hc => ?_)
    · replace h := h.1 hc
      exact m_vret (pc := 13) C.1 C.2.2.2.1 C.2.2.2.2.1 hW hS h (by decide) (by decide) dX12_wrong_13
    · replace h := h.2 hc
      refine m_aload_n (pc := 8) C.1 dX12_wrong_8 rfl hl 0 rfl ?_
      refine m_iload_n (pc := 9) C.1 dX12_wrong_9 rfl hl 1 rfl ?_
      refine p_10_13 (pc := 10) C hW hS kr0 q_1396 ox1 dX12_wrong_10 (fun S1 H locs e1 hW1 hS => ?_)
      replace h := h S1 e1
      exact m_vret (pc := 13) C.1 C.2.2.2.1 C.2.2.2.2.1 hW1 hS h (by decide) (by decide) dX12_wrong_13) sz
section
variable {p : Program} {l : Launch} {e : Env} {s : State} {m : MethodId} {args : Array Value} {below : List Frame} {meth : Method} {c : Code} {g : mG} {b : Nat}
end
def w_X12_place (N : Nat) (r0 : Nat) (S : mSt) (Q : mSt → Int → Prop) : Prop :=
  w_X12_skip N r0 S (fun (S1 : mSt) => Q S1 (S1 r0 12))
theorem T_X12_place {l : Launch} (hl0 : l.stackTraces = false) {g : mG} {b : Nat} (N : Nat) (r0 : Nat) (kr0 : KM r0 = (0, 10, 0)) {S : mSt} {Q : mSt → Int → Prop} (h : w_X12_place N r0 S Q) (sz : Nat) : vx_Met l yX12_place (Cond.code yX12_place cX12_place 1 (some FieldType.int) :: wsG) { frames := 2, cells := 0, slots := 0, locals := 41 } (mPc g b KM S [.ref (b + r0)] sz) (mQi g b KM Q (mA b KM sz)) (mEx g b KM (fun _ _ => False) (mA b KM sz)) 0 0 (mA b KM sz) :=
  m_of (av := [.ref (b + r0)]) (Qf := fun A => mQi g b KM Q A) (Xf := fun A => mEx g b KM (fun _ _ => False) A) (by decide) (Nat.le_of_ble_eq_true rfl) (fun p e s m args below meth c ls X hK hml hr hlk hout hnm hW hl => by
    have C : mC p l s m args meth c cX12_place "MoonWashModel" 1 (some FieldType.int) g := ⟨X, hK, hml, hr, hlk, hout, hl0⟩
    have hS : va_S (mA b KM s.heap.size) s.heap s.heap [] := va_S.rf
    have hl : lv_has ls 1 [(0, .ref (b + r0))] := hl
    unfold w_X12_place at h
    refine m_aload_n (pc := 0) C.1 dX12_place_0 rfl hl 0 rfl ?_
    refine m_callVv (pc := 1) C.1 C.2.2.1 hl.1 C.2.1 hW hS (As := []) (rest := []) (r := r0) (T_X12_skip C.2.2.2.2.2.2 N r0 kr0 h) kr0 rfl q_1494 q_1496 q_26 q_92 q_1497 pl_X12_skip (by decide) (Nat.le_of_ble_eq_true rfl) dX12_place_1 (fun S1 H locs h hW1 hS => ?_)
    refine m_aload_n (pc := 4) C.1 dX12_place_4 rfl hl 0 rfl ?_
    refine g_10_12 (pc := 5) C hW1 kr0 q_1395 dX12_place_5 ?_
    exact m_iret (pc := 8) C.1 C.2.2.2.1 C.2.2.2.2.1 hW1 hS (hW1.2.1 _ _) h (by decide) (by decide) dX12_place_8) sz
section
variable {p : Program} {l : Launch} {e : Env} {s : State} {m : MethodId} {args : Array Value} {below : List Frame} {meth : Method} {c : Code} {g : mG} {b : Nat}
def w_X12_figures_18b (N : Nat) (Q : mSt → Int → Prop) (ko18 : Nat → Int → Int → Int → Int → mSt → Prop) (ko89 : Nat → Int → Int → Int → Int → mSt → Prop) (r0 : Nat) (x1 : Int) (x2 : Int) (x3 : Int) (x4 : Int) (S : mSt) : Prop :=
  (((S r0 11) ≤ (S r0 12) → ko89 r0 x1 x2 x3 x4 S) ∧ ((S r0 12) < (S r0 11) → w_X12_letter N r0 (S r0 12) S (fun (S1 : mSt) (v1 : Int) => w_X12_isIn N v1 48 57 S1 (fun (S2 : mSt) (v2 : Int) => ((v2 = 0 → ko89 r0 x1 x2 x3 x4 S2) ∧ (v2 ≠ 0 → ((3 < (nm ((S2 r0 12) - x3)) → ko89 r0 x1 x2 x3 x4 S2) ∧ ((nm ((S2 r0 12) - x3)) ≤ 3 → w_X12_letter N r0 (S2 r0 12) S2 (fun (S3 : mSt) (v3 : Int) => ∀ v4 : Int, v4 = (nm ((nm ((nm (10 * x4)) + v3)) - 48)) → ∀ S5 : mSt, S5 = mup S3 r0 12 (nm ((S3 r0 12) + 1)) → ko18 r0 x1 x2 x3 v4 S5)))))))))
theorem W_X12_figures_18b (C : mC p l s m args meth c cX12_figures "MoonWashModel" 5 (some FieldType.int) g) (N : Nat) {Q : mSt → Int → Prop} {ko18 : Nat → Int → Int → Int → Int → mSt → Prop} {ko89 : Nat → Int → Int → Int → Int → mSt → Prop} (hko18 : ∀ (r0 : Nat) (kr0 : KM r0 = (0, 10, 0)) (x1 : Int) (ox1 : okI x1) (x2 : Int) (ox2 : okI x2) (x3 : Int) (ox3 : okI x3) (x4 : Int) (ox4 : okI x4) (S : mSt) (H : Heap) (locs : List Loc) (ls : Array Slot), lv_has ls 5 [(0, .ref (b + r0)), (1, .int (mI x1)), (2, .int (mI x2)), (3, .int (mI x3)), (4, .int (mI x4))] → mW g b KM S H → va_S (mA b KM s.heap.size) s.heap H locs → ko18 r0 x1 x2 x3 x4 S → W p l e { frames := 3, cells := 0, slots := 0, locals := 61 } s m args below meth c H locs 0 0 (vx_MQ below (mQi g b KM Q (mA b KM s.heap.size)) (mEx g b KM (fun _ _ => False) (mA b KM s.heap.size)) args s 0 0 (mA b KM s.heap.size)) (F0 m 18 ls [])) (hko89 : ∀ (r0 : Nat) (kr0 : KM r0 = (0, 10, 0)) (x1 : Int) (ox1 : okI x1) (x2 : Int) (ox2 : okI x2) (x3 : Int) (ox3 : okI x3) (x4 : Int) (ox4 : okI x4) (S : mSt) (H : Heap) (locs : List Loc) (ls : Array Slot), lv_has ls 5 [(0, .ref (b + r0)), (1, .int (mI x1)), (2, .int (mI x2)), (3, .int (mI x3)), (4, .int (mI x4))] → mW g b KM S H → va_S (mA b KM s.heap.size) s.heap H locs → ko89 r0 x1 x2 x3 x4 S → W p l e { frames := 3, cells := 0, slots := 0, locals := 61 } s m args below meth c H locs 0 0 (vx_MQ below (mQi g b KM Q (mA b KM s.heap.size)) (mEx g b KM (fun _ _ => False) (mA b KM s.heap.size)) args s 0 0 (mA b KM s.heap.size)) (F0 m 89 ls [])) (r0 : Nat) (kr0 : KM r0 = (0, 10, 0)) (x1 : Int) (ox1 : okI x1) (x2 : Int) (ox2 : okI x2) (x3 : Int) (ox3 : okI x3) (x4 : Int) (ox4 : okI x4) (S : mSt) (H : Heap) (locs : List Loc) (ls : Array Slot) (hl : lv_has ls 5 [(0, .ref (b + r0)), (1, .int (mI x1)), (2, .int (mI x2)), (3, .int (mI x3)), (4, .int (mI x4))]) (hW : mW g b KM S H) (hS : va_S (mA b KM s.heap.size) s.heap H locs) (h : w_X12_figures_18b N Q ko18 ko89 r0 x1 x2 x3 x4 S) : W p l e { frames := 3, cells := 0, slots := 0, locals := 61 } s m args below meth c H locs 0 0 (vx_MQ below (mQi g b KM Q (mA b KM s.heap.size)) (mEx g b KM (fun _ _ => False) (mA b KM s.heap.size)) args s 0 0 (mA b KM s.heap.size)) (F0 m 18 ls []) := by
  unfold w_X12_figures_18b at h
  refine m_aload_n (pc := 18) C.1 dX12_figures_18 rfl hl 0 rfl ?_
  refine g_10_12 (pc := 19) C hW kr0 q_1395 dX12_figures_19 ?_
  refine m_aload_n (pc := 22) C.1 dX12_figures_22 rfl hl 0 rfl ?_
  refine g_10_11 (pc := 23) C hW kr0 q_1394 dX12_figures_23 ?_
  refine m_icmp_ge (pc := 26) (tgt := 89) C.1 (hW.2.1 _ _) (hW.2.1 _ _) dX12_figures_26 (by decide) (fun hc => ?_) (fun hc => ?_)
  · replace h := h.1 hc
    exact hko89 r0 kr0 x1 ox1 x2 ox2 x3 ox3 x4 ox4 S _ _ _ (lv_sub hl [0, 1, 2, 3, 4] rfl) hW hS h
  · replace h := h.2 hc
    refine m_aload_n (pc := 29) C.1 dX12_figures_29 rfl hl 0 rfl ?_
    refine m_aload_n (pc := 30) C.1 dX12_figures_30 rfl hl 0 rfl ?_
    refine g_10_12 (pc := 31) C hW kr0 q_1395 dX12_figures_31 ?_
    refine m_callVi (pc := 34) C.1 C.2.2.1 hl.1 C.2.1 hW hS (As := [.int (mI (S r0 12))]) (rest := []) (r := r0) (T_X12_letter C.2.2.2.2.2.2 N r0 kr0 (S r0 12) (hW.2.1 _ _) h) kr0 rfl q_1498 q_1500 q_27 q_92 q_1501 pl_X12_letter (by decide) (Nat.le_of_ble_eq_true rfl) dX12_figures_34 (fun v1 S1 H locs ov1 h hW1 hS => ?_)
    refine m_bipush (pc := 37) C.1 dX12_figures_37 rfl ?_
    refine m_bipush (pc := 39) C.1 dX12_figures_39 rfl ?_
    refine m_callSi (pc := 41) C.1 C.2.2.1 hl.1 C.2.1 hW1 hS (As := [.int (mI v1), .int (mI 48), .int (mI 57)]) (rest := []) (T_X12_isIn C.2.2.2.2.2.2 N v1 ov1 48 (by decide : okI 48) 57 (by decide : okI 57) h) q_1475 q_1476 q_92 q_1477 pl_X12_isIn (by decide) (Nat.le_of_ble_eq_true rfl) dX12_figures_41 (fun v2 S2 H locs ov2 h hW2 hS => ?_)
    refine m_if_eq (pc := 44) (tgt := 89) C.1 ov2 dX12_figures_44 (by decide) (fun hc => ?_) (fun hc => ?_)
    · replace h := h.1 hc
      exact hko89 r0 kr0 x1 ox1 x2 ox2 x3 ox3 x4 ox4 S2 _ _ _ (lv_sub hl [0, 1, 2, 3, 4] rfl) hW2 hS h
    · replace h := h.2 hc
      refine m_aload_n (pc := 47) C.1 dX12_figures_47 rfl hl 0 rfl ?_
      refine g_10_12 (pc := 48) C hW2 kr0 q_1395 dX12_figures_48 ?_
      refine m_iload_n (pc := 51) C.1 dX12_figures_51 rfl hl 3 rfl ?_
      refine m_isub (pc := 52) C.1 dX12_figures_52 ?_
      refine m_iconst (pc := 53) C.1 dX12_figures_53 ?_
      refine m_icmp_gt (pc := 54) (tgt := 89) C.1 (nm_ok _) (by decide : okI 3) dX12_figures_54 (by decide) (fun hc => ?_) (fun hc => ?_)
      · replace h := h.1 hc
        exact hko89 r0 kr0 x1 ox1 x2 ox2 x3 ox3 x4 ox4 S2 _ _ _ (lv_sub hl [0, 1, 2, 3, 4] rfl) hW2 hS h
      · replace h := h.2 hc
        refine m_bipush (pc := 57) C.1 dX12_figures_57 rfl ?_
        refine m_iload (pc := 59) C.1 dX12_figures_59 hl 4 rfl ?_
        refine m_imul (pc := 61) C.1 dX12_figures_61 ?_
        refine m_aload_n (pc := 62) C.1 dX12_figures_62 rfl hl 0 rfl ?_
        refine m_aload_n (pc := 63) C.1 dX12_figures_63 rfl hl 0 rfl ?_
        refine g_10_12 (pc := 64) C hW2 kr0 q_1395 dX12_figures_64 ?_
        refine m_callVi (pc := 67) C.1 C.2.2.1 hl.1 C.2.1 hW2 hS (As := [.int (mI (S2 r0 12))]) (rest := [.int (mI (nm (10 * x4)))]) (r := r0) (T_X12_letter C.2.2.2.2.2.2 N r0 kr0 (S2 r0 12) (hW2.2.1 _ _) h) kr0 rfl q_1498 q_1500 q_27 q_92 q_1501 pl_X12_letter (by decide) (Nat.le_of_ble_eq_true rfl) dX12_figures_67 (fun v3 S3 H locs ov3 h hW3 hS => ?_)
        refine m_iadd (pc := 70) C.1 dX12_figures_70 ?_
        refine m_bipush (pc := 71) C.1 dX12_figures_71 rfl ?_
        refine m_isub (pc := 73) C.1 dX12_figures_73 ?_
        refine m_istore (pc := 74) C.1 dX12_figures_74 hl (by decide) (fun v => [(4, .int v), (0, .ref (b + r0)), (1, .int (mI x1)), (2, .int (mI x2)), (3, .int (mI x3))]) (fun _ => rfl) (nm_ok _) (fun v4 ls ev4 ov4 hl => ?_)
        replace h := h v4 ev4
        refine m_aload_n (pc := 76) C.1 dX12_figures_76 rfl hl 1 rfl ?_
        refine lv_dup (pc := 77) C.1.1 C.1.2.1 dX12_figures_77 rfl ?_
        refine g_10_12 (pc := 78) C hW3 kr0 q_1395 dX12_figures_78 ?_
        refine m_iconst (pc := 81) C.1 dX12_figures_81 ?_
        refine m_iadd (pc := 82) C.1 dX12_figures_82 ?_
        refine p_10_12 (pc := 83) C hW3 hS kr0 q_1395 (nm_ok _) dX12_figures_83 (fun S5 H locs e5 hW5 hS => ?_)
        replace h := h S5 e5
        refine m_goto (pc := 86) (tgt := 18) C.1 dX12_figures_86 (by decide) ?_
        exact hko18 r0 kr0 x1 ox1 x2 ox2 x3 ox3 v4 ov4 S5 _ _ _ (lv_sub hl [1, 2, 3, 4, 0] rfl) hW5 hS h
def w_X12_figures_18 (N : Nat) (Q : mSt → Int → Prop) (ko89 : Nat → Int → Int → Int → Int → mSt → Prop) : Nat → Nat → Int → Int → Int → Int → mSt → Prop
  | 0 => fun _ _ _ _ _ _ => False
  | k + 1 => w_X12_figures_18b N Q (w_X12_figures_18 N Q ko89 k) ko89
theorem W_X12_figures_18 (C : mC p l s m args meth c cX12_figures "MoonWashModel" 5 (some FieldType.int) g) (N : Nat) {Q : mSt → Int → Prop} {ko89 : Nat → Int → Int → Int → Int → mSt → Prop} (hko89 : ∀ (r0 : Nat) (kr0 : KM r0 = (0, 10, 0)) (x1 : Int) (ox1 : okI x1) (x2 : Int) (ox2 : okI x2) (x3 : Int) (ox3 : okI x3) (x4 : Int) (ox4 : okI x4) (S : mSt) (H : Heap) (locs : List Loc) (ls : Array Slot), lv_has ls 5 [(0, .ref (b + r0)), (1, .int (mI x1)), (2, .int (mI x2)), (3, .int (mI x3)), (4, .int (mI x4))] → mW g b KM S H → va_S (mA b KM s.heap.size) s.heap H locs → ko89 r0 x1 x2 x3 x4 S → W p l e { frames := 3, cells := 0, slots := 0, locals := 61 } s m args below meth c H locs 0 0 (vx_MQ below (mQi g b KM Q (mA b KM s.heap.size)) (mEx g b KM (fun _ _ => False) (mA b KM s.heap.size)) args s 0 0 (mA b KM s.heap.size)) (F0 m 89 ls [])) : ∀ (k : Nat) (r0 : Nat) (kr0 : KM r0 = (0, 10, 0)) (x1 : Int) (ox1 : okI x1) (x2 : Int) (ox2 : okI x2) (x3 : Int) (ox3 : okI x3) (x4 : Int) (ox4 : okI x4) (S : mSt) (H : Heap) (locs : List Loc) (ls : Array Slot) (hl : lv_has ls 5 [(0, .ref (b + r0)), (1, .int (mI x1)), (2, .int (mI x2)), (3, .int (mI x3)), (4, .int (mI x4))]) (hW : mW g b KM S H) (hS : va_S (mA b KM s.heap.size) s.heap H locs) (h : w_X12_figures_18 N Q ko89 k r0 x1 x2 x3 x4 S), W p l e { frames := 3, cells := 0, slots := 0, locals := 61 } s m args below meth c H locs 0 0 (vx_MQ below (mQi g b KM Q (mA b KM s.heap.size)) (mEx g b KM (fun _ _ => False) (mA b KM s.heap.size)) args s 0 0 (mA b KM s.heap.size)) (F0 m 18 ls []) := by
  intro k
  induction k with
  | zero => intro r0 kr0 x1 ox1 x2 ox2 x3 ox3 x4 ox4 S H locs ls hl hW hS h; exact False.elim h
  | succ k ih => intro r0 kr0 x1 ox1 x2 ox2 x3 ox3 x4 ox4 S H locs ls hl hW hS h; exact W_X12_figures_18b C N ih hko89 r0 kr0 x1 ox1 x2 ox2 x3 ox3 x4 ox4 S H locs ls hl hW hS h
def w_X12_figures_119 (N : Nat) (Q : mSt → Int → Prop)  (r0 : Nat) (x3 : Int) (x4 : Int) (S : mSt) : Prop :=
  w_X12_wrong N r0 x3 S (fun (S1 : mSt) => Q S1 x4)
theorem W_X12_figures_119 (C : mC p l s m args meth c cX12_figures "MoonWashModel" 5 (some FieldType.int) g) (N : Nat) {Q : mSt → Int → Prop}   (r0 : Nat) (kr0 : KM r0 = (0, 10, 0)) (x3 : Int) (ox3 : okI x3) (x4 : Int) (ox4 : okI x4) (S : mSt) (H : Heap) (locs : List Loc) (ls : Array Slot) (hl : lv_has ls 5 [(0, .ref (b + r0)), (3, .int (mI x3)), (4, .int (mI x4))]) (hW : mW g b KM S H) (hS : va_S (mA b KM s.heap.size) s.heap H locs) (h : w_X12_figures_119 N Q  r0 x3 x4 S) : W p l e { frames := 3, cells := 0, slots := 0, locals := 61 } s m args below meth c H locs 0 0 (vx_MQ below (mQi g b KM Q (mA b KM s.heap.size)) (mEx g b KM (fun _ _ => False) (mA b KM s.heap.size)) args s 0 0 (mA b KM s.heap.size)) (F0 m 119 ls []) := by
  unfold w_X12_figures_119 at h
  refine m_aload_n (pc := 119) C.1 dX12_figures_119 rfl hl 0 rfl ?_
  refine m_iload_n (pc := 120) C.1 dX12_figures_120 rfl hl 1 rfl ?_
  refine m_callVv (pc := 121) C.1 C.2.2.1 hl.1 C.2.1 hW hS (As := [.int (mI x3)]) (rest := []) (r := r0) (T_X12_wrong C.2.2.2.2.2.2 N r0 kr0 x3 ox3 h) kr0 rfl q_1502 q_1504 q_28 q_92 q_1505 pl_X12_wrong (by decide) (Nat.le_of_ble_eq_true rfl) dX12_figures_121 (fun S1 H locs h hW1 hS => ?_)
  refine m_iload (pc := 124) C.1 dX12_figures_124 hl 2 rfl ?_
  exact m_iret (pc := 126) C.1 C.2.2.2.1 C.2.2.2.2.1 hW1 hS ox4 h (by decide) (by decide) dX12_figures_126
def w_X12_figures_89 (N : Nat) (Q : mSt → Int → Prop)  (r0 : Nat) (x1 : Int) (x2 : Int) (x3 : Int) (x4 : Int) (S : mSt) : Prop :=
  (((S r0 12) = x3 → w_X12_figures_119 N Q  r0 x3 x4 S) ∧ ((S r0 12) ≠ x3 → ((3 < (nm ((S r0 12) - x3)) → w_X12_figures_119 N Q  r0 x3 x4 S) ∧ ((nm ((S r0 12) - x3)) ≤ 3 → ((x4 < x1 → w_X12_figures_119 N Q  r0 x3 x4 S) ∧ (x1 ≤ x4 → ((x4 ≤ x2 → Q S x4) ∧ (x2 < x4 → w_X12_figures_119 N Q  r0 x3 x4 S))))))))
theorem W_X12_figures_89 (C : mC p l s m args meth c cX12_figures "MoonWashModel" 5 (some FieldType.int) g) (N : Nat) {Q : mSt → Int → Prop}   (r0 : Nat) (kr0 : KM r0 = (0, 10, 0)) (x1 : Int) (ox1 : okI x1) (x2 : Int) (ox2 : okI x2) (x3 : Int) (ox3 : okI x3) (x4 : Int) (ox4 : okI x4) (S : mSt) (H : Heap) (locs : List Loc) (ls : Array Slot) (hl : lv_has ls 5 [(0, .ref (b + r0)), (1, .int (mI x1)), (2, .int (mI x2)), (3, .int (mI x3)), (4, .int (mI x4))]) (hW : mW g b KM S H) (hS : va_S (mA b KM s.heap.size) s.heap H locs) (h : w_X12_figures_89 N Q  r0 x1 x2 x3 x4 S) : W p l e { frames := 3, cells := 0, slots := 0, locals := 61 } s m args below meth c H locs 0 0 (vx_MQ below (mQi g b KM Q (mA b KM s.heap.size)) (mEx g b KM (fun _ _ => False) (mA b KM s.heap.size)) args s 0 0 (mA b KM s.heap.size)) (F0 m 89 ls []) := by
  unfold w_X12_figures_89 at h
  refine m_aload_n (pc := 89) C.1 dX12_figures_89 rfl hl 0 rfl ?_
  refine g_10_12 (pc := 90) C hW kr0 q_1395 dX12_figures_90 ?_
  refine m_iload_n (pc := 93) C.1 dX12_figures_93 rfl hl 3 rfl ?_
  refine m_icmp_eq (pc := 94) (tgt := 119) C.1 (hW.2.1 _ _) ox3 dX12_figures_94 (by decide) (fun hc => ?_) (fun hc => ?_)
  · replace h := h.1 hc
    exact W_X12_figures_119 C N  r0 kr0 x3 ox3 x4 ox4 S _ _ _ (lv_sub hl [0, 3, 4] rfl) hW hS h
  · replace h := h.2 hc
    refine m_aload_n (pc := 97) C.1 dX12_figures_97 rfl hl 0 rfl ?_
    refine g_10_12 (pc := 98) C hW kr0 q_1395 dX12_figures_98 ?_
    refine m_iload_n (pc := 101) C.1 dX12_figures_101 rfl hl 3 rfl ?_
    refine m_isub (pc := 102) C.1 dX12_figures_102 ?_
    refine m_iconst (pc := 103) C.1 dX12_figures_103 ?_
    refine m_icmp_gt (pc := 104) (tgt := 119) C.1 (nm_ok _) (by decide : okI 3) dX12_figures_104 (by decide) (fun hc => ?_) (fun hc => ?_)
    · replace h := h.1 hc
      exact W_X12_figures_119 C N  r0 kr0 x3 ox3 x4 ox4 S _ _ _ (lv_sub hl [0, 3, 4] rfl) hW hS h
    · replace h := h.2 hc
      refine m_iload (pc := 107) C.1 dX12_figures_107 hl 4 rfl ?_
      refine m_iload_n (pc := 109) C.1 dX12_figures_109 rfl hl 1 rfl ?_
      refine m_icmp_lt (pc := 110) (tgt := 119) C.1 ox4 ox1 dX12_figures_110 (by decide) (fun hc => ?_) (fun hc => ?_)
      · replace h := h.1 hc
        exact W_X12_figures_119 C N  r0 kr0 x3 ox3 x4 ox4 S _ _ _ (lv_sub hl [0, 3, 4] rfl) hW hS h
      · replace h := h.2 hc
        refine m_iload (pc := 113) C.1 dX12_figures_113 hl 4 rfl ?_
        refine m_iload_n (pc := 115) C.1 dX12_figures_115 rfl hl 2 rfl ?_
        refine m_icmp_le (pc := 116) (tgt := 124) C.1 ox4 ox2 dX12_figures_116 (by decide) (fun hc => ?_) (fun hc => ?_)
        · replace h := h.1 hc
          refine m_iload (pc := 124) C.1 dX12_figures_124 hl 4 rfl ?_
          exact m_iret (pc := 126) C.1 C.2.2.2.1 C.2.2.2.2.1 hW hS ox4 h (by decide) (by decide) dX12_figures_126
        · replace h := h.2 hc
          exact W_X12_figures_119 C N  r0 kr0 x3 ox3 x4 ox4 S _ _ _ (lv_sub hl [0, 3, 4] rfl) hW hS h
end
def w_X12_figures (N : Nat) (r0 : Nat) (x1 : Int) (x2 : Int) (S : mSt) (Q : mSt → Int → Prop) : Prop :=
  (((S r0 13) = (-1) → w_X12_place N r0 S (fun (S1 : mSt) (v1 : Int) => ∀ v2 : Int, v2 = v1 → ∀ v3 : Int, v3 = 0 → w_X12_figures_18 N Q (fun (r0_4 : Nat) (x1_4 : Int) (x2_4 : Int) (x3_4 : Int) (x4_4 : Int) (S_4 : mSt) => w_X12_figures_89 N Q  r0_4 x1_4 x2_4 x3_4 x4_4 S_4) N r0 x1 x2 v2 v3 S1)) ∧ ((S r0 13) ≠ (-1) → Q S 0))
theorem T_X12_figures {l : Launch} (hl0 : l.stackTraces = false) {g : mG} {b : Nat} (N : Nat) (r0 : Nat) (kr0 : KM r0 = (0, 10, 0)) (x1 : Int) (ox1 : okI x1) (x2 : Int) (ox2 : okI x2) {S : mSt} {Q : mSt → Int → Prop} (h : w_X12_figures N r0 x1 x2 S Q) (sz : Nat) : vx_Met l yX12_figures (Cond.code yX12_figures cX12_figures 5 (some FieldType.int) :: wsG) { frames := 3, cells := 0, slots := 0, locals := 61 } (mPc g b KM S [.ref (b + r0), .int (mI x1), .int (mI x2)] sz) (mQi g b KM Q (mA b KM sz)) (mEx g b KM (fun _ _ => False) (mA b KM sz)) 0 0 (mA b KM sz) :=
  m_of (av := [.ref (b + r0), .int (mI x1), .int (mI x2)]) (Qf := fun A => mQi g b KM Q A) (Xf := fun A => mEx g b KM (fun _ _ => False) A) (by decide) (Nat.le_of_ble_eq_true rfl) (fun p e s m args below meth c ls X hK hml hr hlk hout hnm hW hl => by
    have C : mC p l s m args meth c cX12_figures "MoonWashModel" 5 (some FieldType.int) g := ⟨X, hK, hml, hr, hlk, hout, hl0⟩
    have hS : va_S (mA b KM s.heap.size) s.heap s.heap [] := va_S.rf
    have hl : lv_has ls 5 [(0, .ref (b + r0)), (1, .int (mI x1)), (2, .int (mI x2))] := hl
    unfold w_X12_figures at h
    refine m_aload_n (pc := 0) C.1 dX12_figures_0 rfl hl 0 rfl ?_
    refine g_10_13 (pc := 1) C hW kr0 q_1396 dX12_figures_1 ?_
    refine m_iconst (pc := 4) C.1 dX12_figures_4 ?_
    refine m_icmp_eq (pc := 5) (tgt := 10) C.1 (hW.2.1 _ _) (by decide : okI (-1)) dX12_figures_5 (by decide) (fun hc => ?_) (fun hc => ?_)
    · replace h := h.1 hc
      refine m_aload_n (pc := 10) C.1 dX12_figures_10 rfl hl 0 rfl ?_
      refine m_callVi (pc := 11) C.1 C.2.2.1 hl.1 C.2.1 hW hS (As := []) (rest := []) (r := r0) (T_X12_place C.2.2.2.2.2.2 N r0 kr0 h) kr0 rfl q_1524 q_1526 q_32 q_92 q_1527 pl_X12_place (by decide) (Nat.le_of_ble_eq_true rfl) dX12_figures_11 (fun v1 S1 H locs ov1 h hW1 hS => ?_)
      refine m_istore_n (pc := 14) C.1 dX12_figures_14 rfl hl (by decide) (fun v => [(3, .int v), (0, .ref (b + r0)), (1, .int (mI x1)), (2, .int (mI x2))]) (fun _ => rfl) ov1 (fun v2 ls ev2 ov2 hl => ?_)
      replace h := h v2 ev2
      refine m_iconst (pc := 15) C.1 dX12_figures_15 ?_
      refine m_istore (pc := 16) C.1 dX12_figures_16 hl (by decide) (fun v => [(4, .int v), (3, .int (mI v2)), (0, .ref (b + r0)), (1, .int (mI x1)), (2, .int (mI x2))]) (fun _ => rfl) (by decide : okI 0) (fun v3 ls ev3 ov3 hl => ?_)
      replace h := h v3 ev3
      refine W_X12_figures_18 C N ?_ N r0 kr0 x1 ox1 x2 ox2 v2 ov2 v3 ov3 S1 _ _ _ (lv_sub hl [2, 3, 4, 1, 0] rfl) hW1 hS h
      · intro r0_4 kr0_4 x1_4 ox1_4 x2_4 ox2_4 x3_4 ox3_4 x4_4 ox4_4 S_4 H locs ls hl hW_4 hS h
        exact W_X12_figures_89 C N  r0_4 kr0_4 x1_4 ox1_4 x2_4 ox2_4 x3_4 ox3_4 x4_4 ox4_4 S_4 _ _ _ (lv_sub hl [0, 1, 2, 3, 4] rfl) hW_4 hS h
    · replace h := h.2 hc
      refine m_iconst (pc := 8) C.1 dX12_figures_8 ?_
      exact m_iret (pc := 9) C.1 C.2.2.2.1 C.2.2.2.2.1 hW hS (by decide : okI 0) h (by decide) (by decide) dX12_figures_9) sz
section
variable {p : Program} {l : Launch} {e : Env} {s : State} {m : MethodId} {args : Array Value} {below : List Frame} {meth : Method} {c : Code} {g : mG} {b : Nat}
def w_X12_after_24 (N : Nat) (Q : mSt → Int → Prop)  (r0 : Nat) (x2 : Int) (x3 : Int) (S : mSt) : Prop :=
  w_X12_figures N r0 x2 x3 S (fun (S1 : mSt) (v1 : Int) => Q S1 v1)
theorem W_X12_after_24 (C : mC p l s m args meth c cX12_after "MoonWashModel" 4 (some FieldType.int) g) (N : Nat) {Q : mSt → Int → Prop}   (r0 : Nat) (kr0 : KM r0 = (0, 10, 0)) (x2 : Int) (ox2 : okI x2) (x3 : Int) (ox3 : okI x3) (S : mSt) (H : Heap) (locs : List Loc) (ls : Array Slot) (hl : lv_has ls 4 [(0, .ref (b + r0)), (2, .int (mI x2)), (3, .int (mI x3))]) (hW : mW g b KM S H) (hS : va_S (mA b KM s.heap.size) s.heap H locs) (h : w_X12_after_24 N Q  r0 x2 x3 S) : W p l e { frames := 6, cells := 0, slots := 0, locals := 173 } s m args below meth c H locs 0 0 (vx_MQ below (mQi g b KM Q (mA b KM s.heap.size)) (mEx g b KM (fun _ _ => False) (mA b KM s.heap.size)) args s 0 0 (mA b KM s.heap.size)) (F0 m 24 ls []) := by
  unfold w_X12_after_24 at h
  refine m_aload_n (pc := 24) C.1 dX12_after_24 rfl hl 0 rfl ?_
  refine m_iload_n (pc := 25) C.1 dX12_after_25 rfl hl 1 rfl ?_
  refine m_iload_n (pc := 26) C.1 dX12_after_26 rfl hl 2 rfl ?_
  refine m_callVi (pc := 27) C.1 C.2.2.1 hl.1 C.2.1 hW hS (As := [.int (mI x2), .int (mI x3)]) (rest := []) (r := r0) (T_X12_figures C.2.2.2.2.2.2 N r0 kr0 x2 ox2 x3 ox3 h) kr0 rfl q_1520 q_1522 q_31 q_92 q_1523 pl_X12_figures (by decide) (Nat.le_of_ble_eq_true rfl) dX12_after_27 (fun v1 S1 H locs ov1 h hW1 hS => ?_)
  exact m_iret (pc := 30) C.1 C.2.2.2.1 C.2.2.2.2.1 hW1 hS ov1 h (by decide) (by decide) dX12_after_30
end
def w_X12_after (N : Nat) (r0 : Nat) (j1 : Nat) (x2 : Int) (x3 : Int) (S : mSt) (Q : mSt → Int → Prop) : Prop :=
  (((S r0 13) ≠ (-1) → w_X12_after_24 N Q  r0 x2 x3 S) ∧ ((S r0 13) = (-1) → w_X12_has_ N r0 j1 S (fun (S1 : mSt) (v1 : Int) => ((v1 ≠ 0 → w_X12_after_24 N Q  r0 x2 x3 S1) ∧ (v1 = 0 → w_X12_wrong N r0 (S1 r0 12) S1 (fun (S2 : mSt) => w_X12_after_24 N Q  r0 x2 x3 S2))))))
theorem T_X12_after {l : Launch} (hl0 : l.stackTraces = false) {g : mG} {b : Nat} (N : Nat) (r0 : Nat) (kr0 : KM r0 = (0, 10, 0)) (j1 : Nat) (hj1 : j1 < nJS) (x2 : Int) (ox2 : okI x2) (x3 : Int) (ox3 : okI x3) {S : mSt} {Q : mSt → Int → Prop} (h : w_X12_after N r0 j1 x2 x3 S Q) (sz : Nat) : vx_Met l yX12_after (Cond.code yX12_after cX12_after 4 (some FieldType.int) :: wsG) { frames := 6, cells := 0, slots := 0, locals := 173 } (mPc g b KM S [.ref (b + r0), .ref (g.sa j1), .int (mI x2), .int (mI x3)] sz) (mQi g b KM Q (mA b KM sz)) (mEx g b KM (fun _ _ => False) (mA b KM sz)) 0 0 (mA b KM sz) :=
  m_of (av := [.ref (b + r0), .ref (g.sa j1), .int (mI x2), .int (mI x3)]) (Qf := fun A => mQi g b KM Q A) (Xf := fun A => mEx g b KM (fun _ _ => False) A) (by decide) (Nat.le_of_ble_eq_true rfl) (fun p e s m args below meth c ls X hK hml hr hlk hout hnm hW hl => by
    have C : mC p l s m args meth c cX12_after "MoonWashModel" 4 (some FieldType.int) g := ⟨X, hK, hml, hr, hlk, hout, hl0⟩
    have hS : va_S (mA b KM s.heap.size) s.heap s.heap [] := va_S.rf
    have hl : lv_has ls 4 [(0, .ref (b + r0)), (1, .ref (g.sa j1)), (2, .int (mI x2)), (3, .int (mI x3))] := hl
    unfold w_X12_after at h
    refine m_aload_n (pc := 0) C.1 dX12_after_0 rfl hl 0 rfl ?_
    refine g_10_13 (pc := 1) C hW kr0 q_1396 dX12_after_1 ?_
    refine m_iconst (pc := 4) C.1 dX12_after_4 ?_
    refine m_icmp_ne (pc := 5) (tgt := 24) C.1 (hW.2.1 _ _) (by decide : okI (-1)) dX12_after_5 (by decide) (fun hc => ?_) (fun hc => ?_)
    · replace h := h.1 hc
      exact W_X12_after_24 C N  r0 kr0 x2 ox2 x3 ox3 S _ _ _ (lv_sub hl [0, 2, 3] rfl) hW hS h
    · replace h := h.2 hc
      refine m_aload_n (pc := 8) C.1 dX12_after_8 rfl hl 0 rfl ?_
      refine m_aload_n (pc := 9) C.1 dX12_after_9 rfl hl 1 rfl ?_
      refine m_callVi (pc := 10) C.1 C.2.2.1 hl.1 C.2.1 hW hS (As := [.ref (g.sa j1)]) (rest := []) (r := r0) (T_X12_has_ C.2.2.2.2.2.2 N r0 kr0 j1 hj1 h) kr0 rfl q_1511 q_1513 q_30 q_92 q_1514 pl_X12_has_ (by decide) (Nat.le_of_ble_eq_true rfl) dX12_after_10 (fun v1 S1 H locs ov1 h hW1 hS => ?_)
      refine m_if_ne (pc := 13) (tgt := 24) C.1 ov1 dX12_after_13 (by decide) (fun hc => ?_) (fun hc => ?_)
      · replace h := h.1 hc
        exact W_X12_after_24 C N  r0 kr0 x2 ox2 x3 ox3 S1 _ _ _ (lv_sub hl [0, 2, 3] rfl) hW1 hS h
      · replace h := h.2 hc
        refine m_aload_n (pc := 16) C.1 dX12_after_16 rfl hl 0 rfl ?_
        refine m_aload_n (pc := 17) C.1 dX12_after_17 rfl hl 0 rfl ?_
        refine g_10_12 (pc := 18) C hW1 kr0 q_1395 dX12_after_18 ?_
        refine m_callVv (pc := 21) C.1 C.2.2.1 hl.1 C.2.1 hW1 hS (As := [.int (mI (S1 r0 12))]) (rest := []) (r := r0) (T_X12_wrong C.2.2.2.2.2.2 N r0 kr0 (S1 r0 12) (hW1.2.1 _ _) h) kr0 rfl q_1502 q_1504 q_28 q_92 q_1505 pl_X12_wrong (by decide) (Nat.le_of_ble_eq_true rfl) dX12_after_21 (fun S2 H locs h hW2 hS => ?_)
        exact W_X12_after_24 C N  r0 kr0 x2 ox2 x3 ox3 S2 _ _ _ (lv_sub hl [0, 2, 3] rfl) hW2 hS h) sz
section
variable {p : Program} {l : Launch} {e : Env} {s : State} {m : MethodId} {args : Array Value} {below : List Frame} {meth : Method} {c : Code} {g : mG} {b : Nat}
def w_X12_kinds_109 (N : Nat) (Q : mSt → Int → Prop) (ko28 : Nat → Int → Int → Int → mSt → Prop) (r0 : Nat) (x2 : Int) (x3 : Int) (x4 : Int) (S : mSt) : Prop :=
  ∀ S1 : mSt, S1 = mup S r0 12 (nm ((S r0 12) + 1)) → ko28 r0 x2 x3 x4 S1
theorem W_X12_kinds_109 (C : mC p l s m args meth c cX12_kinds "MoonWashModel" 6 (some FieldType.int) g) (N : Nat) {Q : mSt → Int → Prop} {ko28 : Nat → Int → Int → Int → mSt → Prop} (hko28 : ∀ (r0 : Nat) (kr0 : KM r0 = (0, 10, 0)) (x2 : Int) (ox2 : okI x2) (x3 : Int) (ox3 : okI x3) (x4 : Int) (ox4 : okI x4) (S : mSt) (H : Heap) (locs : List Loc) (ls : Array Slot), lv_has ls 6 [(0, .ref (b + r0)), (2, .int (mI x2)), (3, .int (mI x3)), (4, .int (mI x4))] → mW g b KM S H → va_S (mA b KM s.heap.size) s.heap H locs → ko28 r0 x2 x3 x4 S → W p l e { frames := 6, cells := 0, slots := 0, locals := 173 } s m args below meth c H locs 0 0 (vx_MQ below (mQi g b KM Q (mA b KM s.heap.size)) (mEx g b KM (fun _ _ => False) (mA b KM s.heap.size)) args s 0 0 (mA b KM s.heap.size)) (F0 m 28 ls [])) (r0 : Nat) (kr0 : KM r0 = (0, 10, 0)) (x2 : Int) (ox2 : okI x2) (x3 : Int) (ox3 : okI x3) (x4 : Int) (ox4 : okI x4) (S : mSt) (H : Heap) (locs : List Loc) (ls : Array Slot) (hl : lv_has ls 6 [(0, .ref (b + r0)), (2, .int (mI x2)), (3, .int (mI x3)), (4, .int (mI x4))]) (hW : mW g b KM S H) (hS : va_S (mA b KM s.heap.size) s.heap H locs) (h : w_X12_kinds_109 N Q ko28 r0 x2 x3 x4 S) : W p l e { frames := 6, cells := 0, slots := 0, locals := 173 } s m args below meth c H locs 0 0 (vx_MQ below (mQi g b KM Q (mA b KM s.heap.size)) (mEx g b KM (fun _ _ => False) (mA b KM s.heap.size)) args s 0 0 (mA b KM s.heap.size)) (F0 m 109 ls []) := by
  unfold w_X12_kinds_109 at h
  refine m_aload_n (pc := 109) C.1 dX12_kinds_109 rfl hl 0 rfl ?_
  refine lv_dup (pc := 110) C.1.1 C.1.2.1 dX12_kinds_110 rfl ?_
  refine g_10_12 (pc := 111) C hW kr0 q_1395 dX12_kinds_111 ?_
  refine m_iconst (pc := 114) C.1 dX12_kinds_114 ?_
  refine m_iadd (pc := 115) C.1 dX12_kinds_115 ?_
  refine p_10_12 (pc := 116) C hW hS kr0 q_1395 (nm_ok _) dX12_kinds_116 (fun S1 H locs e1 hW1 hS => ?_)
  replace h := h S1 e1
  refine m_goto (pc := 119) (tgt := 28) C.1 dX12_kinds_119 (by decide) ?_
  exact hko28 r0 kr0 x2 ox2 x3 ox3 x4 ox4 S1 _ _ _ (lv_sub hl [0, 1, 2, 3] rfl) hW1 hS h
def w_X12_kinds_95 (N : Nat) (Q : mSt → Int → Prop) (ko28 : Nat → Int → Int → Int → mSt → Prop) (r0 : Nat) (x2 : Int) (x3 : Int) (x5 : Int) (xs0 : Int) (S : mSt) : Prop :=
  ∀ v1 : Int, v1 = xs0 → ((v1 = 0 → w_X12_kinds_109 N Q ko28 r0 x2 x3 v1 S) ∧ (v1 ≠ 0 → ∀ v2 : Int, v2 = (bOr x3 (bShl 1 x5)) → w_X12_kinds_109 N Q ko28 r0 x2 v2 v1 S))
theorem W_X12_kinds_95 (C : mC p l s m args meth c cX12_kinds "MoonWashModel" 6 (some FieldType.int) g) (N : Nat) {Q : mSt → Int → Prop} {ko28 : Nat → Int → Int → Int → mSt → Prop} (hko28 : ∀ (r0 : Nat) (kr0 : KM r0 = (0, 10, 0)) (x2 : Int) (ox2 : okI x2) (x3 : Int) (ox3 : okI x3) (x4 : Int) (ox4 : okI x4) (S : mSt) (H : Heap) (locs : List Loc) (ls : Array Slot), lv_has ls 6 [(0, .ref (b + r0)), (2, .int (mI x2)), (3, .int (mI x3)), (4, .int (mI x4))] → mW g b KM S H → va_S (mA b KM s.heap.size) s.heap H locs → ko28 r0 x2 x3 x4 S → W p l e { frames := 6, cells := 0, slots := 0, locals := 173 } s m args below meth c H locs 0 0 (vx_MQ below (mQi g b KM Q (mA b KM s.heap.size)) (mEx g b KM (fun _ _ => False) (mA b KM s.heap.size)) args s 0 0 (mA b KM s.heap.size)) (F0 m 28 ls [])) (r0 : Nat) (kr0 : KM r0 = (0, 10, 0)) (x2 : Int) (ox2 : okI x2) (x3 : Int) (ox3 : okI x3) (x5 : Int) (ox5 : okI x5) (xs0 : Int) (oxs0 : okI xs0) (S : mSt) (H : Heap) (locs : List Loc) (ls : Array Slot) (hl : lv_has ls 6 [(0, .ref (b + r0)), (2, .int (mI x2)), (3, .int (mI x3)), (5, .int (mI x5))]) (hW : mW g b KM S H) (hS : va_S (mA b KM s.heap.size) s.heap H locs) (h : w_X12_kinds_95 N Q ko28 r0 x2 x3 x5 xs0 S) : W p l e { frames := 6, cells := 0, slots := 0, locals := 173 } s m args below meth c H locs 0 0 (vx_MQ below (mQi g b KM Q (mA b KM s.heap.size)) (mEx g b KM (fun _ _ => False) (mA b KM s.heap.size)) args s 0 0 (mA b KM s.heap.size)) (F0 m 95 ls [.int (mI xs0)]) := by
  unfold w_X12_kinds_95 at h
  refine m_istore (pc := 95) C.1 dX12_kinds_95 hl (by decide) (fun v => [(4, .int v), (0, .ref (b + r0)), (2, .int (mI x2)), (3, .int (mI x3)), (5, .int (mI x5))]) (fun _ => rfl) oxs0 (fun v1 ls ev1 ov1 hl => ?_)
  replace h := h v1 ev1
  refine m_iload (pc := 97) C.1 dX12_kinds_97 hl 0 rfl ?_
  refine m_if_eq (pc := 99) (tgt := 109) C.1 ov1 dX12_kinds_99 (by decide) (fun hc => ?_) (fun hc => ?_)
  · replace h := h.1 hc
    exact W_X12_kinds_109 C N hko28 r0 kr0 x2 ox2 x3 ox3 v1 ov1 S _ _ _ (lv_sub hl [1, 2, 3, 0] rfl) hW hS h
  · replace h := h.2 hc
    refine m_iload_n (pc := 102) C.1 dX12_kinds_102 rfl hl 3 rfl ?_
    refine m_iconst (pc := 103) C.1 dX12_kinds_103 ?_
    refine m_iload (pc := 104) C.1 dX12_kinds_104 hl 4 rfl ?_
    refine m_ishl (pc := 106) C.1 dX12_kinds_106 ?_
    refine m_ior (pc := 107) C.1 dX12_kinds_107 ?_
    refine m_istore_n (pc := 108) C.1 dX12_kinds_108 rfl hl (by decide) (fun v => [(3, .int v), (4, .int (mI v1)), (0, .ref (b + r0)), (2, .int (mI x2)), (5, .int (mI x5))]) (fun _ => rfl) (bOr_ok _ _) (fun v2 ls ev2 ov2 hl => ?_)
    replace h := h v2 ev2
    exact W_X12_kinds_109 C N hko28 r0 kr0 x2 ox2 v2 ov2 v1 ov1 S _ _ _ (lv_sub hl [2, 3, 0, 1] rfl) hW hS h
def w_X12_kinds_94 (N : Nat) (Q : mSt → Int → Prop) (ko28 : Nat → Int → Int → Int → mSt → Prop) (r0 : Nat) (x2 : Int) (x3 : Int) (x5 : Int) (S : mSt) : Prop :=
  w_X12_kinds_95 N Q ko28 r0 x2 x3 x5 0 S
theorem W_X12_kinds_94 (C : mC p l s m args meth c cX12_kinds "MoonWashModel" 6 (some FieldType.int) g) (N : Nat) {Q : mSt → Int → Prop} {ko28 : Nat → Int → Int → Int → mSt → Prop} (hko28 : ∀ (r0 : Nat) (kr0 : KM r0 = (0, 10, 0)) (x2 : Int) (ox2 : okI x2) (x3 : Int) (ox3 : okI x3) (x4 : Int) (ox4 : okI x4) (S : mSt) (H : Heap) (locs : List Loc) (ls : Array Slot), lv_has ls 6 [(0, .ref (b + r0)), (2, .int (mI x2)), (3, .int (mI x3)), (4, .int (mI x4))] → mW g b KM S H → va_S (mA b KM s.heap.size) s.heap H locs → ko28 r0 x2 x3 x4 S → W p l e { frames := 6, cells := 0, slots := 0, locals := 173 } s m args below meth c H locs 0 0 (vx_MQ below (mQi g b KM Q (mA b KM s.heap.size)) (mEx g b KM (fun _ _ => False) (mA b KM s.heap.size)) args s 0 0 (mA b KM s.heap.size)) (F0 m 28 ls [])) (r0 : Nat) (kr0 : KM r0 = (0, 10, 0)) (x2 : Int) (ox2 : okI x2) (x3 : Int) (ox3 : okI x3) (x5 : Int) (ox5 : okI x5) (S : mSt) (H : Heap) (locs : List Loc) (ls : Array Slot) (hl : lv_has ls 6 [(0, .ref (b + r0)), (2, .int (mI x2)), (3, .int (mI x3)), (5, .int (mI x5))]) (hW : mW g b KM S H) (hS : va_S (mA b KM s.heap.size) s.heap H locs) (h : w_X12_kinds_94 N Q ko28 r0 x2 x3 x5 S) : W p l e { frames := 6, cells := 0, slots := 0, locals := 173 } s m args below meth c H locs 0 0 (vx_MQ below (mQi g b KM Q (mA b KM s.heap.size)) (mEx g b KM (fun _ _ => False) (mA b KM s.heap.size)) args s 0 0 (mA b KM s.heap.size)) (F0 m 94 ls []) := by
  unfold w_X12_kinds_94 at h
  refine m_iconst (pc := 94) C.1 dX12_kinds_94 ?_
  exact W_X12_kinds_95 C N hko28 r0 kr0 x2 ox2 x3 ox3 x5 ox5 0 (by decide : okI 0) S _ _ _ (lv_sub hl [0, 1, 2, 3] rfl) hW hS h
def w_X12_kinds_28b (N : Nat) (Q : mSt → Int → Prop) (ko28 : Nat → Int → Int → Int → mSt → Prop) (ko122 : Nat → Int → Int → Int → mSt → Prop) (r0 : Nat) (x2 : Int) (x3 : Int) (x4 : Int) (S : mSt) : Prop :=
  (((S r0 11) ≤ (S r0 12) → ko122 r0 x2 x3 x4 S) ∧ ((S r0 12) < (S r0 11) → w_X12_letter N r0 (S r0 12) S (fun (S1 : mSt) (v1 : Int) => w_X12_isIn N v1 97 122 S1 (fun (S2 : mSt) (v2 : Int) => ((v2 = 0 → ko122 r0 x2 x3 x4 S2) ∧ (v2 ≠ 0 → w_X12_letter N r0 (S2 r0 12) S2 (fun (S3 : mSt) (v3 : Int) => ∀ v4 : Int, v4 = (nm (v3 - 97)) → ((x4 = 0 → w_X12_kinds_94 N Q ko28 r0 x2 x3 v4 S3) ∧ (x4 ≠ 0 → ((5 ≤ v4 → w_X12_kinds_94 N Q ko28 r0 x2 x3 v4 S3) ∧ (v4 < 5 → w_X12_isOf N x3 v4 S3 (fun (S5 : mSt) (v5 : Int) => ((v5 ≠ 0 → w_X12_kinds_94 N Q ko28 r0 x2 x3 v4 S5) ∧ (v5 = 0 → w_X12_kinds_95 N Q ko28 r0 x2 x3 v4 1 S5))))))))))))))
theorem W_X12_kinds_28b (C : mC p l s m args meth c cX12_kinds "MoonWashModel" 6 (some FieldType.int) g) (N : Nat) {Q : mSt → Int → Prop} {ko28 : Nat → Int → Int → Int → mSt → Prop} {ko122 : Nat → Int → Int → Int → mSt → Prop} (hko28 : ∀ (r0 : Nat) (kr0 : KM r0 = (0, 10, 0)) (x2 : Int) (ox2 : okI x2) (x3 : Int) (ox3 : okI x3) (x4 : Int) (ox4 : okI x4) (S : mSt) (H : Heap) (locs : List Loc) (ls : Array Slot), lv_has ls 6 [(0, .ref (b + r0)), (2, .int (mI x2)), (3, .int (mI x3)), (4, .int (mI x4))] → mW g b KM S H → va_S (mA b KM s.heap.size) s.heap H locs → ko28 r0 x2 x3 x4 S → W p l e { frames := 6, cells := 0, slots := 0, locals := 173 } s m args below meth c H locs 0 0 (vx_MQ below (mQi g b KM Q (mA b KM s.heap.size)) (mEx g b KM (fun _ _ => False) (mA b KM s.heap.size)) args s 0 0 (mA b KM s.heap.size)) (F0 m 28 ls [])) (hko122 : ∀ (r0 : Nat) (kr0 : KM r0 = (0, 10, 0)) (x2 : Int) (ox2 : okI x2) (x3 : Int) (ox3 : okI x3) (x4 : Int) (ox4 : okI x4) (S : mSt) (H : Heap) (locs : List Loc) (ls : Array Slot), lv_has ls 6 [(0, .ref (b + r0)), (2, .int (mI x2)), (3, .int (mI x3)), (4, .int (mI x4))] → mW g b KM S H → va_S (mA b KM s.heap.size) s.heap H locs → ko122 r0 x2 x3 x4 S → W p l e { frames := 6, cells := 0, slots := 0, locals := 173 } s m args below meth c H locs 0 0 (vx_MQ below (mQi g b KM Q (mA b KM s.heap.size)) (mEx g b KM (fun _ _ => False) (mA b KM s.heap.size)) args s 0 0 (mA b KM s.heap.size)) (F0 m 122 ls [])) (r0 : Nat) (kr0 : KM r0 = (0, 10, 0)) (x2 : Int) (ox2 : okI x2) (x3 : Int) (ox3 : okI x3) (x4 : Int) (ox4 : okI x4) (S : mSt) (H : Heap) (locs : List Loc) (ls : Array Slot) (hl : lv_has ls 6 [(0, .ref (b + r0)), (2, .int (mI x2)), (3, .int (mI x3)), (4, .int (mI x4))]) (hW : mW g b KM S H) (hS : va_S (mA b KM s.heap.size) s.heap H locs) (h : w_X12_kinds_28b N Q ko28 ko122 r0 x2 x3 x4 S) : W p l e { frames := 6, cells := 0, slots := 0, locals := 173 } s m args below meth c H locs 0 0 (vx_MQ below (mQi g b KM Q (mA b KM s.heap.size)) (mEx g b KM (fun _ _ => False) (mA b KM s.heap.size)) args s 0 0 (mA b KM s.heap.size)) (F0 m 28 ls []) := by
  unfold w_X12_kinds_28b at h
  refine m_aload_n (pc := 28) C.1 dX12_kinds_28 rfl hl 0 rfl ?_
  refine g_10_12 (pc := 29) C hW kr0 q_1395 dX12_kinds_29 ?_
  refine m_aload_n (pc := 32) C.1 dX12_kinds_32 rfl hl 0 rfl ?_
  refine g_10_11 (pc := 33) C hW kr0 q_1394 dX12_kinds_33 ?_
  refine m_icmp_ge (pc := 36) (tgt := 122) C.1 (hW.2.1 _ _) (hW.2.1 _ _) dX12_kinds_36 (by decide) (fun hc => ?_) (fun hc => ?_)
  · replace h := h.1 hc
    exact hko122 r0 kr0 x2 ox2 x3 ox3 x4 ox4 S _ _ _ (lv_sub hl [0, 1, 2, 3] rfl) hW hS h
  · replace h := h.2 hc
    refine m_aload_n (pc := 39) C.1 dX12_kinds_39 rfl hl 0 rfl ?_
    refine m_aload_n (pc := 40) C.1 dX12_kinds_40 rfl hl 0 rfl ?_
    refine g_10_12 (pc := 41) C hW kr0 q_1395 dX12_kinds_41 ?_
    refine m_callVi (pc := 44) C.1 C.2.2.1 hl.1 C.2.1 hW hS (As := [.int (mI (S r0 12))]) (rest := []) (r := r0) (T_X12_letter C.2.2.2.2.2.2 N r0 kr0 (S r0 12) (hW.2.1 _ _) h) kr0 rfl q_1498 q_1500 q_27 q_92 q_1501 pl_X12_letter (by decide) (Nat.le_of_ble_eq_true rfl) dX12_kinds_44 (fun v1 S1 H locs ov1 h hW1 hS => ?_)
    refine m_bipush (pc := 47) C.1 dX12_kinds_47 rfl ?_
    refine m_bipush (pc := 49) C.1 dX12_kinds_49 rfl ?_
    refine m_callSi (pc := 51) C.1 C.2.2.1 hl.1 C.2.1 hW1 hS (As := [.int (mI v1), .int (mI 97), .int (mI 122)]) (rest := []) (T_X12_isIn C.2.2.2.2.2.2 N v1 ov1 97 (by decide : okI 97) 122 (by decide : okI 122) h) q_1475 q_1476 q_92 q_1477 pl_X12_isIn (by decide) (Nat.le_of_ble_eq_true rfl) dX12_kinds_51 (fun v2 S2 H locs ov2 h hW2 hS => ?_)
    refine m_if_eq (pc := 54) (tgt := 122) C.1 ov2 dX12_kinds_54 (by decide) (fun hc => ?_) (fun hc => ?_)
    · replace h := h.1 hc
      exact hko122 r0 kr0 x2 ox2 x3 ox3 x4 ox4 S2 _ _ _ (lv_sub hl [0, 1, 2, 3] rfl) hW2 hS h
    · replace h := h.2 hc
      refine m_aload_n (pc := 57) C.1 dX12_kinds_57 rfl hl 0 rfl ?_
      refine m_aload_n (pc := 58) C.1 dX12_kinds_58 rfl hl 0 rfl ?_
      refine g_10_12 (pc := 59) C hW2 kr0 q_1395 dX12_kinds_59 ?_
      refine m_callVi (pc := 62) C.1 C.2.2.1 hl.1 C.2.1 hW2 hS (As := [.int (mI (S2 r0 12))]) (rest := []) (r := r0) (T_X12_letter C.2.2.2.2.2.2 N r0 kr0 (S2 r0 12) (hW2.2.1 _ _) h) kr0 rfl q_1498 q_1500 q_27 q_92 q_1501 pl_X12_letter (by decide) (Nat.le_of_ble_eq_true rfl) dX12_kinds_62 (fun v3 S3 H locs ov3 h hW3 hS => ?_)
      refine m_bipush (pc := 65) C.1 dX12_kinds_65 rfl ?_
      refine m_isub (pc := 67) C.1 dX12_kinds_67 ?_
      refine m_istore (pc := 68) C.1 dX12_kinds_68 hl (by decide) (fun v => [(5, .int v), (0, .ref (b + r0)), (2, .int (mI x2)), (3, .int (mI x3)), (4, .int (mI x4))]) (fun _ => rfl) (nm_ok _) (fun v4 ls ev4 ov4 hl => ?_)
      replace h := h v4 ev4
      refine m_iload (pc := 70) C.1 dX12_kinds_70 hl 4 rfl ?_
      refine m_if_eq (pc := 72) (tgt := 94) C.1 ox4 dX12_kinds_72 (by decide) (fun hc => ?_) (fun hc => ?_)
      · replace h := h.1 hc
        exact W_X12_kinds_94 C N hko28 r0 kr0 x2 ox2 x3 ox3 v4 ov4 S3 _ _ _ (lv_sub hl [1, 2, 3, 0] rfl) hW3 hS h
      · replace h := h.2 hc
        refine m_iload (pc := 75) C.1 dX12_kinds_75 hl 0 rfl ?_
        refine m_iconst (pc := 77) C.1 dX12_kinds_77 ?_
        refine m_icmp_ge (pc := 78) (tgt := 94) C.1 ov4 (by decide : okI 5) dX12_kinds_78 (by decide) (fun hc => ?_) (fun hc => ?_)
        · replace h := h.1 hc
          exact W_X12_kinds_94 C N hko28 r0 kr0 x2 ox2 x3 ox3 v4 ov4 S3 _ _ _ (lv_sub hl [1, 2, 3, 0] rfl) hW3 hS h
        · replace h := h.2 hc
          refine m_iload_n (pc := 81) C.1 dX12_kinds_81 rfl hl 3 rfl ?_
          refine m_iload (pc := 82) C.1 dX12_kinds_82 hl 0 rfl ?_
          refine m_callSi (pc := 84) C.1 C.2.2.1 hl.1 C.2.1 hW3 hS (As := [.int (mI x3), .int (mI v4)]) (rest := []) (T_X12_isOf C.2.2.2.2.2.2 N x3 ox3 v4 ov4 h) q_1590 q_1591 q_92 q_1592 pl_X12_isOf (by decide) (Nat.le_of_ble_eq_true rfl) dX12_kinds_84 (fun v5 S5 H locs ov5 h hW5 hS => ?_)
          refine m_if_ne (pc := 87) (tgt := 94) C.1 ov5 dX12_kinds_87 (by decide) (fun hc => ?_) (fun hc => ?_)
          · replace h := h.1 hc
            exact W_X12_kinds_94 C N hko28 r0 kr0 x2 ox2 x3 ox3 v4 ov4 S5 _ _ _ (lv_sub hl [1, 2, 3, 0] rfl) hW5 hS h
          · replace h := h.2 hc
            refine m_iconst (pc := 90) C.1 dX12_kinds_90 ?_
            refine m_goto (pc := 91) (tgt := 95) C.1 dX12_kinds_91 (by decide) ?_
            exact W_X12_kinds_95 C N hko28 r0 kr0 x2 ox2 x3 ox3 v4 ov4 1 (by decide : okI 1) S5 _ _ _ (lv_sub hl [1, 2, 3, 0] rfl) hW5 hS h
def w_X12_kinds_28 (N : Nat) (Q : mSt → Int → Prop) (ko122 : Nat → Int → Int → Int → mSt → Prop) : Nat → Nat → Int → Int → Int → mSt → Prop
  | 0 => fun _ _ _ _ _ => False
  | k + 1 => w_X12_kinds_28b N Q (w_X12_kinds_28 N Q ko122 k) ko122
theorem W_X12_kinds_28 (C : mC p l s m args meth c cX12_kinds "MoonWashModel" 6 (some FieldType.int) g) (N : Nat) {Q : mSt → Int → Prop} {ko122 : Nat → Int → Int → Int → mSt → Prop} (hko122 : ∀ (r0 : Nat) (kr0 : KM r0 = (0, 10, 0)) (x2 : Int) (ox2 : okI x2) (x3 : Int) (ox3 : okI x3) (x4 : Int) (ox4 : okI x4) (S : mSt) (H : Heap) (locs : List Loc) (ls : Array Slot), lv_has ls 6 [(0, .ref (b + r0)), (2, .int (mI x2)), (3, .int (mI x3)), (4, .int (mI x4))] → mW g b KM S H → va_S (mA b KM s.heap.size) s.heap H locs → ko122 r0 x2 x3 x4 S → W p l e { frames := 6, cells := 0, slots := 0, locals := 173 } s m args below meth c H locs 0 0 (vx_MQ below (mQi g b KM Q (mA b KM s.heap.size)) (mEx g b KM (fun _ _ => False) (mA b KM s.heap.size)) args s 0 0 (mA b KM s.heap.size)) (F0 m 122 ls [])) : ∀ (k : Nat) (r0 : Nat) (kr0 : KM r0 = (0, 10, 0)) (x2 : Int) (ox2 : okI x2) (x3 : Int) (ox3 : okI x3) (x4 : Int) (ox4 : okI x4) (S : mSt) (H : Heap) (locs : List Loc) (ls : Array Slot) (hl : lv_has ls 6 [(0, .ref (b + r0)), (2, .int (mI x2)), (3, .int (mI x3)), (4, .int (mI x4))]) (hW : mW g b KM S H) (hS : va_S (mA b KM s.heap.size) s.heap H locs) (h : w_X12_kinds_28 N Q ko122 k r0 x2 x3 x4 S), W p l e { frames := 6, cells := 0, slots := 0, locals := 173 } s m args below meth c H locs 0 0 (vx_MQ below (mQi g b KM Q (mA b KM s.heap.size)) (mEx g b KM (fun _ _ => False) (mA b KM s.heap.size)) args s 0 0 (mA b KM s.heap.size)) (F0 m 28 ls []) := by
  intro k
  induction k with
  | zero => intro r0 kr0 x2 ox2 x3 ox3 x4 ox4 S H locs ls hl hW hS h; exact False.elim h
  | succ k ih => intro r0 kr0 x2 ox2 x3 ox3 x4 ox4 S H locs ls hl hW hS h; exact W_X12_kinds_28b C N ih hko122 r0 kr0 x2 ox2 x3 ox3 x4 ox4 S H locs ls hl hW hS h
def w_X12_kinds_135 (N : Nat) (Q : mSt → Int → Prop)  (r0 : Nat) (x2 : Int) (x3 : Int) (S : mSt) : Prop :=
  w_X12_wrong N r0 x2 S (fun (S1 : mSt) => Q S1 x3)
theorem W_X12_kinds_135 (C : mC p l s m args meth c cX12_kinds "MoonWashModel" 6 (some FieldType.int) g) (N : Nat) {Q : mSt → Int → Prop}   (r0 : Nat) (kr0 : KM r0 = (0, 10, 0)) (x2 : Int) (ox2 : okI x2) (x3 : Int) (ox3 : okI x3) (S : mSt) (H : Heap) (locs : List Loc) (ls : Array Slot) (hl : lv_has ls 6 [(0, .ref (b + r0)), (2, .int (mI x2)), (3, .int (mI x3))]) (hW : mW g b KM S H) (hS : va_S (mA b KM s.heap.size) s.heap H locs) (h : w_X12_kinds_135 N Q  r0 x2 x3 S) : W p l e { frames := 6, cells := 0, slots := 0, locals := 173 } s m args below meth c H locs 0 0 (vx_MQ below (mQi g b KM Q (mA b KM s.heap.size)) (mEx g b KM (fun _ _ => False) (mA b KM s.heap.size)) args s 0 0 (mA b KM s.heap.size)) (F0 m 135 ls []) := by
  unfold w_X12_kinds_135 at h
  refine m_aload_n (pc := 135) C.1 dX12_kinds_135 rfl hl 0 rfl ?_
  refine m_iload_n (pc := 136) C.1 dX12_kinds_136 rfl hl 1 rfl ?_
  refine m_callVv (pc := 137) C.1 C.2.2.1 hl.1 C.2.1 hW hS (As := [.int (mI x2)]) (rest := []) (r := r0) (T_X12_wrong C.2.2.2.2.2.2 N r0 kr0 x2 ox2 h) kr0 rfl q_1502 q_1504 q_28 q_92 q_1505 pl_X12_wrong (by decide) (Nat.le_of_ble_eq_true rfl) dX12_kinds_137 (fun S1 H locs h hW1 hS => ?_)
  refine m_iload_n (pc := 140) C.1 dX12_kinds_140 rfl hl 2 rfl ?_
  exact m_iret (pc := 141) C.1 C.2.2.2.1 C.2.2.2.2.1 hW1 hS ox3 h (by decide) (by decide) dX12_kinds_141
def w_X12_kinds_122 (N : Nat) (Q : mSt → Int → Prop)  (r0 : Nat) (x2 : Int) (x3 : Int) (x4 : Int) (S : mSt) : Prop :=
  ((x4 = 0 → w_X12_kinds_135 N Q  r0 x2 x3 S) ∧ (x4 ≠ 0 → (((S r0 12) ≠ x2 → Q S x3) ∧ ((S r0 12) = x2 → w_X12_kinds_135 N Q  r0 x2 x3 S))))
theorem W_X12_kinds_122 (C : mC p l s m args meth c cX12_kinds "MoonWashModel" 6 (some FieldType.int) g) (N : Nat) {Q : mSt → Int → Prop}   (r0 : Nat) (kr0 : KM r0 = (0, 10, 0)) (x2 : Int) (ox2 : okI x2) (x3 : Int) (ox3 : okI x3) (x4 : Int) (ox4 : okI x4) (S : mSt) (H : Heap) (locs : List Loc) (ls : Array Slot) (hl : lv_has ls 6 [(0, .ref (b + r0)), (2, .int (mI x2)), (3, .int (mI x3)), (4, .int (mI x4))]) (hW : mW g b KM S H) (hS : va_S (mA b KM s.heap.size) s.heap H locs) (h : w_X12_kinds_122 N Q  r0 x2 x3 x4 S) : W p l e { frames := 6, cells := 0, slots := 0, locals := 173 } s m args below meth c H locs 0 0 (vx_MQ below (mQi g b KM Q (mA b KM s.heap.size)) (mEx g b KM (fun _ _ => False) (mA b KM s.heap.size)) args s 0 0 (mA b KM s.heap.size)) (F0 m 122 ls []) := by
  unfold w_X12_kinds_122 at h
  refine m_iload (pc := 122) C.1 dX12_kinds_122 hl 3 rfl ?_
  refine m_if_eq (pc := 124) (tgt := 135) C.1 ox4 dX12_kinds_124 (by decide) (fun hc => ?_) (fun hc => ?_)
  · replace h := h.1 hc
    exact W_X12_kinds_135 C N  r0 kr0 x2 ox2 x3 ox3 S _ _ _ (lv_sub hl [0, 1, 2] rfl) hW hS h
  · replace h := h.2 hc
    refine m_aload_n (pc := 127) C.1 dX12_kinds_127 rfl hl 0 rfl ?_
    refine g_10_12 (pc := 128) C hW kr0 q_1395 dX12_kinds_128 ?_
    refine m_iload_n (pc := 131) C.1 dX12_kinds_131 rfl hl 1 rfl ?_
    refine m_icmp_ne (pc := 132) (tgt := 140) C.1 (hW.2.1 _ _) ox2 dX12_kinds_132 (by decide) (fun hc => ?_) (fun hc => ?_)
    · replace h := h.1 hc
      refine m_iload_n (pc := 140) C.1 dX12_kinds_140 rfl hl 2 rfl ?_
      exact m_iret (pc := 141) C.1 C.2.2.2.1 C.2.2.2.2.1 hW hS ox3 h (by decide) (by decide) dX12_kinds_141
    · replace h := h.2 hc
      exact W_X12_kinds_135 C N  r0 kr0 x2 ox2 x3 ox3 S _ _ _ (lv_sub hl [0, 1, 2] rfl) hW hS h
end
def w_X12_kinds (N : Nat) (r0 : Nat) (j1 : Nat) (S : mSt) (Q : mSt → Int → Prop) : Prop :=
  (((S r0 13) ≠ (-1) → Q S 0) ∧ ((S r0 13) = (-1) → w_X12_has_ N r0 j1 S (fun (S1 : mSt) (v1 : Int) => ((v1 ≠ 0 → w_X12_place N r0 S1 (fun (S2 : mSt) (v2 : Int) => ∀ v3 : Int, v3 = v2 → ∀ v4 : Int, v4 = 0 → ∀ v5 : Int, v5 = 1 → w_X12_kinds_28 N Q (fun (r0_6 : Nat) (x2_6 : Int) (x3_6 : Int) (x4_6 : Int) (S_6 : mSt) => w_X12_kinds_122 N Q  r0_6 x2_6 x3_6 x4_6 S_6) N r0 v3 v4 v5 S2)) ∧ (v1 = 0 → Q S1 0)))))
theorem T_X12_kinds {l : Launch} (hl0 : l.stackTraces = false) {g : mG} {b : Nat} (N : Nat) (r0 : Nat) (kr0 : KM r0 = (0, 10, 0)) (j1 : Nat) (hj1 : j1 < nJS) {S : mSt} {Q : mSt → Int → Prop} (h : w_X12_kinds N r0 j1 S Q) (sz : Nat) : vx_Met l yX12_kinds (Cond.code yX12_kinds cX12_kinds 6 (some FieldType.int) :: wsG) { frames := 6, cells := 0, slots := 0, locals := 173 } (mPc g b KM S [.ref (b + r0), .ref (g.sa j1)] sz) (mQi g b KM Q (mA b KM sz)) (mEx g b KM (fun _ _ => False) (mA b KM sz)) 0 0 (mA b KM sz) :=
  m_of (av := [.ref (b + r0), .ref (g.sa j1)]) (Qf := fun A => mQi g b KM Q A) (Xf := fun A => mEx g b KM (fun _ _ => False) A) (by decide) (Nat.le_of_ble_eq_true rfl) (fun p e s m args below meth c ls X hK hml hr hlk hout hnm hW hl => by
    have C : mC p l s m args meth c cX12_kinds "MoonWashModel" 6 (some FieldType.int) g := ⟨X, hK, hml, hr, hlk, hout, hl0⟩
    have hS : va_S (mA b KM s.heap.size) s.heap s.heap [] := va_S.rf
    have hl : lv_has ls 6 [(0, .ref (b + r0)), (1, .ref (g.sa j1))] := hl
    unfold w_X12_kinds at h
    refine m_aload_n (pc := 0) C.1 dX12_kinds_0 rfl hl 0 rfl ?_
    refine g_10_13 (pc := 1) C hW kr0 q_1396 dX12_kinds_1 ?_
    refine m_iconst (pc := 4) C.1 dX12_kinds_4 ?_
    refine m_icmp_ne (pc := 5) (tgt := 16) C.1 (hW.2.1 _ _) (by decide : okI (-1)) dX12_kinds_5 (by decide) (fun hc => ?_) (fun hc => ?_)
    · replace h := h.1 hc
      refine m_iconst (pc := 16) C.1 dX12_kinds_16 ?_
      exact m_iret (pc := 17) C.1 C.2.2.2.1 C.2.2.2.2.1 hW hS (by decide : okI 0) h (by decide) (by decide) dX12_kinds_17
    · replace h := h.2 hc
      refine m_aload_n (pc := 8) C.1 dX12_kinds_8 rfl hl 0 rfl ?_
      refine m_aload_n (pc := 9) C.1 dX12_kinds_9 rfl hl 1 rfl ?_
      refine m_callVi (pc := 10) C.1 C.2.2.1 hl.1 C.2.1 hW hS (As := [.ref (g.sa j1)]) (rest := []) (r := r0) (T_X12_has_ C.2.2.2.2.2.2 N r0 kr0 j1 hj1 h) kr0 rfl q_1511 q_1513 q_30 q_92 q_1514 pl_X12_has_ (by decide) (Nat.le_of_ble_eq_true rfl) dX12_kinds_10 (fun v1 S1 H locs ov1 h hW1 hS => ?_)
      refine m_if_ne (pc := 13) (tgt := 18) C.1 ov1 dX12_kinds_13 (by decide) (fun hc => ?_) (fun hc => ?_)
      · replace h := h.1 hc
        refine m_aload_n (pc := 18) C.1 dX12_kinds_18 rfl hl 0 rfl ?_
        refine m_callVi (pc := 19) C.1 C.2.2.1 hl.1 C.2.1 hW1 hS (As := []) (rest := []) (r := r0) (T_X12_place C.2.2.2.2.2.2 N r0 kr0 h) kr0 rfl q_1524 q_1526 q_32 q_92 q_1527 pl_X12_place (by decide) (Nat.le_of_ble_eq_true rfl) dX12_kinds_19 (fun v2 S2 H locs ov2 h hW2 hS => ?_)
        refine m_istore_n (pc := 22) C.1 dX12_kinds_22 rfl hl (by decide) (fun v => [(2, .int v), (0, .ref (b + r0)), (1, .ref (g.sa j1))]) (fun _ => rfl) ov2 (fun v3 ls ev3 ov3 hl => ?_)
        replace h := h v3 ev3
        refine m_iconst (pc := 23) C.1 dX12_kinds_23 ?_
        refine m_istore_n (pc := 24) C.1 dX12_kinds_24 rfl hl (by decide) (fun v => [(3, .int v), (2, .int (mI v3)), (0, .ref (b + r0)), (1, .ref (g.sa j1))]) (fun _ => rfl) (by decide : okI 0) (fun v4 ls ev4 ov4 hl => ?_)
        replace h := h v4 ev4
        refine m_iconst (pc := 25) C.1 dX12_kinds_25 ?_
        refine m_istore (pc := 26) C.1 dX12_kinds_26 hl (by decide) (fun v => [(4, .int v), (3, .int (mI v4)), (2, .int (mI v3)), (0, .ref (b + r0)), (1, .ref (g.sa j1))]) (fun _ => rfl) (by decide : okI 1) (fun v5 ls ev5 ov5 hl => ?_)
        replace h := h v5 ev5
        refine W_X12_kinds_28 C N ?_ N r0 kr0 v3 ov3 v4 ov4 v5 ov5 S2 _ _ _ (lv_sub hl [3, 2, 1, 0] rfl) hW2 hS h
        · intro r0_6 kr0_6 x2_6 ox2_6 x3_6 ox3_6 x4_6 ox4_6 S_6 H locs ls hl hW_6 hS h
          exact W_X12_kinds_122 C N  r0_6 kr0_6 x2_6 ox2_6 x3_6 ox3_6 x4_6 ox4_6 S_6 _ _ _ (lv_sub hl [0, 1, 2, 3] rfl) hW_6 hS h
      · replace h := h.2 hc
        refine m_iconst (pc := 16) C.1 dX12_kinds_16 ?_
        exact m_iret (pc := 17) C.1 C.2.2.2.1 C.2.2.2.2.1 hW1 hS (by decide : okI 0) h (by decide) (by decide) dX12_kinds_17) sz
section
variable {p : Program} {l : Launch} {e : Env} {s : State} {m : MethodId} {args : Array Value} {below : List Frame} {meth : Method} {c : Code} {g : mG} {b : Nat}
def w_X12_soapLine_16 (N : Nat) (Q : mSt → Prop)  (r0 : Nat) (S : mSt) : Prop :=
  w_X12_figures N r0 0 9 S (fun (S1 : mSt) (v1 : Int) => ∀ v2 : Int, v2 = v1 → w_X12_after N r0 8 1 30 S1 (fun (S3 : mSt) (v3 : Int) => ∀ v4 : Int, v4 = v3 → w_X12_after N r0 9 0 3 S3 (fun (S5 : mSt) (v5 : Int) => ∀ v6 : Int, v6 = v5 → w_X12_kinds N r0 10 S5 (fun (S7 : mSt) (v7 : Int) => ∀ v8 : Int, v8 = v7 → (((S7 r0 13) = (-1) → ∀ v9 : Int, v9 = (nm (70 + (nm (4 * (S7 (r0 + 1) 3))))) → (0 ≤ (nm (v9 + 0)) ∧ (nm (v9 + 0)) < 750 ∧ ∀ S11 : mSt, S11 = mup S7 (r0 + 1) (nm (v9 + 0)) v2 → (0 ≤ (nm (v9 + 1)) ∧ (nm (v9 + 1)) < 750 ∧ ∀ S13 : mSt, S13 = mup S11 (r0 + 1) (nm (v9 + 1)) v4 → (0 ≤ (nm (v9 + 2)) ∧ (nm (v9 + 2)) < 750 ∧ ∀ S15 : mSt, S15 = mup S13 (r0 + 1) (nm (v9 + 2)) v6 → (0 ≤ (nm (v9 + 3)) ∧ (nm (v9 + 3)) < 750 ∧ ∀ S17 : mSt, S17 = mup S15 (r0 + 1) (nm (v9 + 3)) v8 → ∀ S18 : mSt, S18 = mup S17 (r0 + 1) 3 (nm ((S17 (r0 + 1) 3) + 1)) → Q S18))))) ∧ ((S7 r0 13) ≠ (-1) → Q S7))))))
theorem W_X12_soapLine_16 (C : mC p l s m args meth c cX12_soapLine "MoonWashModel" 7 none g) (N : Nat) {Q : mSt → Prop}   (r0 : Nat) (kr0 : KM r0 = (0, 10, 0)) (S : mSt) (H : Heap) (locs : List Loc) (ls : Array Slot) (hl : lv_has ls 7 [(0, .ref (b + r0))]) (hW : mW g b KM S H) (hS : va_S (mA b KM s.heap.size) s.heap H locs) (h : w_X12_soapLine_16 N Q  r0 S) : W p l e { frames := 7, cells := 0, slots := 0, locals := 198 } s m args below meth c H locs 0 0 (vx_MQ below (mQv g b KM Q (mA b KM s.heap.size)) (mEx g b KM (fun _ _ => False) (mA b KM s.heap.size)) args s 0 0 (mA b KM s.heap.size)) (F0 m 16 ls []) := by
  unfold w_X12_soapLine_16 at h
  refine m_aload_n (pc := 16) C.1 dX12_soapLine_16 rfl hl 0 rfl ?_
  refine m_iconst (pc := 17) C.1 dX12_soapLine_17 ?_
  refine m_bipush (pc := 18) C.1 dX12_soapLine_18 rfl ?_
  refine m_callVi (pc := 20) C.1 C.2.2.1 hl.1 C.2.1 hW hS (As := [.int (mI 0), .int (mI 9)]) (rest := []) (r := r0) (T_X12_figures C.2.2.2.2.2.2 N r0 kr0 0 (by decide : okI 0) 9 (by decide : okI 9) h) kr0 rfl q_1520 q_1522 q_31 q_92 q_1523 pl_X12_figures (by decide) (Nat.le_of_ble_eq_true rfl) dX12_soapLine_20 (fun v1 S1 H locs ov1 h hW1 hS => ?_)
  refine m_istore_n (pc := 23) C.1 dX12_soapLine_23 rfl hl (by decide) (fun v => [(2, .int v), (0, .ref (b + r0))]) (fun _ => rfl) ov1 (fun v2 ls ev2 ov2 hl => ?_)
  replace h := h v2 ev2
  refine m_aload_n (pc := 24) C.1 dX12_soapLine_24 rfl hl 1 rfl ?_
  refine m_ldcS (pc := 25) C.1 C.2.1 (index := 112) (j := 8) (tx := "water") (by decide +kernel) dX12_soapLine_25 ?_
  refine m_iconst (pc := 27) C.1 dX12_soapLine_27 ?_
  refine m_bipush (pc := 28) C.1 dX12_soapLine_28 rfl ?_
  refine m_callVi (pc := 30) C.1 C.2.2.1 hl.1 C.2.1 hW1 hS (As := [.ref (g.sa 8), .int (mI 1), .int (mI 30)]) (rest := []) (r := r0) (T_X12_after C.2.2.2.2.2.2 N r0 kr0 8 (by decide : 8 < nJS) 1 (by decide : okI 1) 30 (by decide : okI 30) h) kr0 rfl q_1580 q_1582 q_42 q_92 q_1583 pl_X12_after (by decide) (Nat.le_of_ble_eq_true rfl) dX12_soapLine_30 (fun v3 S3 H locs ov3 h hW3 hS => ?_)
  refine m_istore_n (pc := 33) C.1 dX12_soapLine_33 rfl hl (by decide) (fun v => [(3, .int v), (2, .int (mI v2)), (0, .ref (b + r0))]) (fun _ => rfl) ov3 (fun v4 ls ev4 ov4 hl => ?_)
  replace h := h v4 ev4
  refine m_aload_n (pc := 34) C.1 dX12_soapLine_34 rfl hl 2 rfl ?_
  refine m_ldcS (pc := 35) C.1 C.2.1 (index := 118) (j := 9) (tx := "rough") (by decide +kernel) dX12_soapLine_35 ?_
  refine m_iconst (pc := 37) C.1 dX12_soapLine_37 ?_
  refine m_iconst (pc := 38) C.1 dX12_soapLine_38 ?_
  refine m_callVi (pc := 39) C.1 C.2.2.1 hl.1 C.2.1 hW3 hS (As := [.ref (g.sa 9), .int (mI 0), .int (mI 3)]) (rest := []) (r := r0) (T_X12_after C.2.2.2.2.2.2 N r0 kr0 9 (by decide : 9 < nJS) 0 (by decide : okI 0) 3 (by decide : okI 3) h) kr0 rfl q_1580 q_1582 q_42 q_92 q_1583 pl_X12_after (by decide) (Nat.le_of_ble_eq_true rfl) dX12_soapLine_39 (fun v5 S5 H locs ov5 h hW5 hS => ?_)
  refine m_istore (pc := 42) C.1 dX12_soapLine_42 hl (by decide) (fun v => [(4, .int v), (3, .int (mI v4)), (2, .int (mI v2)), (0, .ref (b + r0))]) (fun _ => rfl) ov5 (fun v6 ls ev6 ov6 hl => ?_)
  replace h := h v6 ev6
  refine m_aload_n (pc := 44) C.1 dX12_soapLine_44 rfl hl 3 rfl ?_
  refine m_ldcS (pc := 45) C.1 C.2.1 (index := 120) (j := 10) (tx := "takes") (by decide +kernel) dX12_soapLine_45 ?_
  refine m_callVi (pc := 47) C.1 C.2.2.1 hl.1 C.2.1 hW5 hS (As := [.ref (g.sa 10)]) (rest := []) (r := r0) (T_X12_kinds C.2.2.2.2.2.2 N r0 kr0 10 (by decide : 10 < nJS) h) kr0 rfl q_1586 q_1588 q_43 q_92 q_1589 pl_X12_kinds (by decide) (Nat.le_of_ble_eq_true rfl) dX12_soapLine_47 (fun v7 S7 H locs ov7 h hW7 hS => ?_)
  refine m_istore (pc := 50) C.1 dX12_soapLine_50 hl (by decide) (fun v => [(5, .int v), (4, .int (mI v6)), (3, .int (mI v4)), (2, .int (mI v2)), (0, .ref (b + r0))]) (fun _ => rfl) ov7 (fun v8 ls ev8 ov8 hl => ?_)
  replace h := h v8 ev8
  refine m_aload_n (pc := 52) C.1 dX12_soapLine_52 rfl hl 4 rfl ?_
  refine g_10_13 (pc := 53) C hW7 kr0 q_1396 dX12_soapLine_53 ?_
  refine m_iconst (pc := 56) C.1 dX12_soapLine_56 ?_
  refine m_icmp_eq (pc := 57) (tgt := 61) C.1 (hW7.2.1 _ _) (by decide : okI (-1)) dX12_soapLine_57 (by decide) (fun hc => ?_) (fun hc => ?_)
  · replace h := h.1 hc
    refine m_bipush (pc := 61) C.1 dX12_soapLine_61 rfl ?_
    refine m_iconst (pc := 63) C.1 dX12_soapLine_63 ?_
    refine m_aload_n (pc := 64) C.1 dX12_soapLine_64 rfl hl 4 rfl ?_
    refine g_10_1 (pc := 65) C hW7 kr0 q_1384 dX12_soapLine_65 ?_
    refine m_iconst (pc := 68) C.1 dX12_soapLine_68 ?_
    refine m_iald (pc := 69) C.1 C.2.1 hW7 (k_10_1 kr0) (by decide : okI 3) (by decide) (by decide) dX12_soapLine_69 ?_
    refine m_imul (pc := 70) C.1 dX12_soapLine_70 ?_
    refine m_iadd (pc := 71) C.1 dX12_soapLine_71 ?_
    refine m_istore (pc := 72) C.1 dX12_soapLine_72 hl (by decide) (fun v => [(6, .int v), (5, .int (mI v8)), (4, .int (mI v6)), (3, .int (mI v4)), (2, .int (mI v2)), (0, .ref (b + r0))]) (fun _ => rfl) (nm_ok _) (fun v9 ls ev9 ov9 hl => ?_)
    replace h := h v9 ev9
    refine m_aload_n (pc := 74) C.1 dX12_soapLine_74 rfl hl 5 rfl ?_
    refine g_10_1 (pc := 75) C hW7 kr0 q_1384 dX12_soapLine_75 ?_
    refine m_iload (pc := 78) C.1 dX12_soapLine_78 hl 0 rfl ?_
    refine m_iconst (pc := 80) C.1 dX12_soapLine_80 ?_
    refine m_iadd (pc := 81) C.1 dX12_soapLine_81 ?_
    refine m_iload_n (pc := 82) C.1 dX12_soapLine_82 rfl hl 4 rfl ?_
    obtain ⟨hb10a, hb10b, h⟩ := h
    refine m_iast (pc := 83) C.1 C.2.1 hW7 hS (k_10_1 kr0) (nm_ok _) ov2 hb10a hb10b dX12_soapLine_83 (fun S11 H locs e11 hW11 hS => ?_)
    replace h := h S11 e11
    refine m_aload_n (pc := 84) C.1 dX12_soapLine_84 rfl hl 5 rfl ?_
    refine g_10_1 (pc := 85) C hW11 kr0 q_1384 dX12_soapLine_85 ?_
    refine m_iload (pc := 88) C.1 dX12_soapLine_88 hl 0 rfl ?_
    refine m_iconst (pc := 90) C.1 dX12_soapLine_90 ?_
    refine m_iadd (pc := 91) C.1 dX12_soapLine_91 ?_
    refine m_iload_n (pc := 92) C.1 dX12_soapLine_92 rfl hl 3 rfl ?_
    obtain ⟨hb12a, hb12b, h⟩ := h
    refine m_iast (pc := 93) C.1 C.2.1 hW11 hS (k_10_1 kr0) (nm_ok _) ov4 hb12a hb12b dX12_soapLine_93 (fun S13 H locs e13 hW13 hS => ?_)
    replace h := h S13 e13
    refine m_aload_n (pc := 94) C.1 dX12_soapLine_94 rfl hl 5 rfl ?_
    refine g_10_1 (pc := 95) C hW13 kr0 q_1384 dX12_soapLine_95 ?_
    refine m_iload (pc := 98) C.1 dX12_soapLine_98 hl 0 rfl ?_
    refine m_iconst (pc := 100) C.1 dX12_soapLine_100 ?_
    refine m_iadd (pc := 101) C.1 dX12_soapLine_101 ?_
    refine m_iload (pc := 102) C.1 dX12_soapLine_102 hl 2 rfl ?_
    obtain ⟨hb14a, hb14b, h⟩ := h
    refine m_iast (pc := 104) C.1 C.2.1 hW13 hS (k_10_1 kr0) (nm_ok _) ov6 hb14a hb14b dX12_soapLine_104 (fun S15 H locs e15 hW15 hS => ?_)
    replace h := h S15 e15
    refine m_aload_n (pc := 105) C.1 dX12_soapLine_105 rfl hl 5 rfl ?_
    refine g_10_1 (pc := 106) C hW15 kr0 q_1384 dX12_soapLine_106 ?_
    refine m_iload (pc := 109) C.1 dX12_soapLine_109 hl 0 rfl ?_
    refine m_iconst (pc := 111) C.1 dX12_soapLine_111 ?_
    refine m_iadd (pc := 112) C.1 dX12_soapLine_112 ?_
    refine m_iload (pc := 113) C.1 dX12_soapLine_113 hl 1 rfl ?_
    obtain ⟨hb16a, hb16b, h⟩ := h
    refine m_iast (pc := 115) C.1 C.2.1 hW15 hS (k_10_1 kr0) (nm_ok _) ov8 hb16a hb16b dX12_soapLine_115 (fun S17 H locs e17 hW17 hS => ?_)
    replace h := h S17 e17
    refine m_aload_n (pc := 116) C.1 dX12_soapLine_116 rfl hl 5 rfl ?_
    refine g_10_1 (pc := 117) C hW17 kr0 q_1384 dX12_soapLine_117 ?_
    refine m_iconst (pc := 120) C.1 dX12_soapLine_120 ?_
    refine lv_dup2_11 (pc := 121) C.1.1 C.1.2.1 dX12_soapLine_121 rfl rfl ?_
    refine m_iald (pc := 122) C.1 C.2.1 hW17 (k_10_1 kr0) (by decide : okI 3) (by decide) (by decide) dX12_soapLine_122 ?_
    refine m_iconst (pc := 123) C.1 dX12_soapLine_123 ?_
    refine m_iadd (pc := 124) C.1 dX12_soapLine_124 ?_
    refine m_iast (pc := 125) C.1 C.2.1 hW17 hS (k_10_1 kr0) (by decide : okI 3) (nm_ok _) (by decide) (by decide) dX12_soapLine_125 (fun S18 H locs e18 hW18 hS => ?_)
    replace h := h S18 e18
    exact m_vret (pc := 126) C.1 C.2.2.2.1 C.2.2.2.2.1 hW18 hS h (by decide) (by decide) dX12_soapLine_126
  · replace h := h.2 hc
    exact m_vret (pc := 60) C.1 C.2.2.2.1 C.2.2.2.2.1 hW7 hS h (by decide) (by decide) dX12_soapLine_60
end
def w_X12_soapLine (N : Nat) (r0 : Nat) (x1 : Int) (S : mSt) (Q : mSt → Prop) : Prop :=
  (((S (r0 + 1) 3) ≠ 6 → w_X12_soapLine_16 N Q  r0 S) ∧ ((S (r0 + 1) 3) = 6 → w_X12_wrong N r0 x1 S (fun (S1 : mSt) => w_X12_soapLine_16 N Q  r0 S1)))
theorem T_X12_soapLine {l : Launch} (hl0 : l.stackTraces = false) {g : mG} {b : Nat} (N : Nat) (r0 : Nat) (kr0 : KM r0 = (0, 10, 0)) (x1 : Int) (ox1 : okI x1) {S : mSt} {Q : mSt → Prop} (h : w_X12_soapLine N r0 x1 S Q) (sz : Nat) : vx_Met l yX12_soapLine (Cond.code yX12_soapLine cX12_soapLine 7 none :: wsG) { frames := 7, cells := 0, slots := 0, locals := 198 } (mPc g b KM S [.ref (b + r0), .int (mI x1)] sz) (mQv g b KM Q (mA b KM sz)) (mEx g b KM (fun _ _ => False) (mA b KM sz)) 0 0 (mA b KM sz) :=
  m_of (av := [.ref (b + r0), .int (mI x1)]) (Qf := fun A => mQv g b KM Q A) (Xf := fun A => mEx g b KM (fun _ _ => False) A) (by decide) (Nat.le_of_ble_eq_true rfl) (fun p e s m args below meth c ls X hK hml hr hlk hout hnm hW hl => by
    have C : mC p l s m args meth c cX12_soapLine "MoonWashModel" 7 none g := ⟨X, hK, hml, hr, hlk, hout, hl0⟩
    have hS : va_S (mA b KM s.heap.size) s.heap s.heap [] := va_S.rf
    have hl : lv_has ls 7 [(0, .ref (b + r0)), (1, .int (mI x1))] := hl
    unfold w_X12_soapLine at h
    refine m_aload_n (pc := 0) C.1 dX12_soapLine_0 rfl hl 0 rfl ?_
    refine g_10_1 (pc := 1) C hW kr0 q_1384 dX12_soapLine_1 ?_
    refine m_iconst (pc := 4) C.1 dX12_soapLine_4 ?_
    refine m_iald (pc := 5) C.1 C.2.1 hW (k_10_1 kr0) (by decide : okI 3) (by decide) (by decide) dX12_soapLine_5 ?_
    refine m_bipush (pc := 6) C.1 dX12_soapLine_6 rfl ?_
    refine m_icmp_ne (pc := 8) (tgt := 16) C.1 (hW.2.1 _ _) (by decide : okI 6) dX12_soapLine_8 (by decide) (fun hc => ?_) (fun hc => ?_)
    · replace h := h.1 hc
      exact W_X12_soapLine_16 C N  r0 kr0 S _ _ _ (lv_sub hl [0] rfl) hW hS h
    · replace h := h.2 hc
      refine m_aload_n (pc := 11) C.1 dX12_soapLine_11 rfl hl 0 rfl ?_
      refine m_iload_n (pc := 12) C.1 dX12_soapLine_12 rfl hl 1 rfl ?_
      refine m_callVv (pc := 13) C.1 C.2.2.1 hl.1 C.2.1 hW hS (As := [.int (mI x1)]) (rest := []) (r := r0) (T_X12_wrong C.2.2.2.2.2.2 N r0 kr0 x1 ox1 h) kr0 rfl q_1502 q_1504 q_28 q_92 q_1505 pl_X12_wrong (by decide) (Nat.le_of_ble_eq_true rfl) dX12_soapLine_13 (fun S1 H locs h hW1 hS => ?_)
      exact W_X12_soapLine_16 C N  r0 kr0 S1 _ _ _ (lv_sub hl [0] rfl) hW1 hS h) sz
section
variable {p : Program} {l : Launch} {e : Env} {s : State} {m : MethodId} {args : Array Value} {below : List Frame} {meth : Method} {c : Code} {g : mG} {b : Nat}
end
def w_X12_partLine (N : Nat) (r0 : Nat) (S : mSt) (Q : mSt → Prop) : Prop :=
  w_X12_figures N r0 0 7 S (fun (S1 : mSt) (v1 : Int) => ∀ v2 : Int, v2 = v1 → w_X12_after N r0 12 0 9 S1 (fun (S3 : mSt) (v3 : Int) => ∀ v4 : Int, v4 = v3 → w_X12_after N r0 13 0 9 S3 (fun (S5 : mSt) (v5 : Int) => ∀ v6 : Int, v6 = v5 → w_X12_kinds N r0 15 S5 (fun (S7 : mSt) (v7 : Int) => ∀ v8 : Int, v8 = v7 → (((S7 r0 13) = (-1) → w_X12_has N r0 v2 0 v4 S7 (fun (S9 : mSt) => w_X12_has N r0 v2 1 v6 S9 (fun (S10 : mSt) => w_X12_has N r0 v2 3 v8 S10 (fun (S11 : mSt) => Q S11)))) ∧ ((S7 r0 13) ≠ (-1) → Q S7))))))
theorem T_X12_partLine {l : Launch} (hl0 : l.stackTraces = false) {g : mG} {b : Nat} (N : Nat) (r0 : Nat) (kr0 : KM r0 = (0, 10, 0)) {S : mSt} {Q : mSt → Prop} (h : w_X12_partLine N r0 S Q) (sz : Nat) : vx_Met l yX12_partLine (Cond.code yX12_partLine cX12_partLine 5 none :: wsG) { frames := 7, cells := 0, slots := 0, locals := 198 } (mPc g b KM S [.ref (b + r0)] sz) (mQv g b KM Q (mA b KM sz)) (mEx g b KM (fun _ _ => False) (mA b KM sz)) 0 0 (mA b KM sz) :=
  m_of (av := [.ref (b + r0)]) (Qf := fun A => mQv g b KM Q A) (Xf := fun A => mEx g b KM (fun _ _ => False) A) (by decide) (Nat.le_of_ble_eq_true rfl) (fun p e s m args below meth c ls X hK hml hr hlk hout hnm hW hl => by
    have C : mC p l s m args meth c cX12_partLine "MoonWashModel" 5 none g := ⟨X, hK, hml, hr, hlk, hout, hl0⟩
    have hS : va_S (mA b KM s.heap.size) s.heap s.heap [] := va_S.rf
    have hl : lv_has ls 5 [(0, .ref (b + r0))] := hl
    unfold w_X12_partLine at h
    refine m_aload_n (pc := 0) C.1 dX12_partLine_0 rfl hl 0 rfl ?_
    refine m_iconst (pc := 1) C.1 dX12_partLine_1 ?_
    refine m_bipush (pc := 2) C.1 dX12_partLine_2 rfl ?_
    refine m_callVi (pc := 4) C.1 C.2.2.1 hl.1 C.2.1 hW hS (As := [.int (mI 0), .int (mI 7)]) (rest := []) (r := r0) (T_X12_figures C.2.2.2.2.2.2 N r0 kr0 0 (by decide : okI 0) 7 (by decide : okI 7) h) kr0 rfl q_1520 q_1522 q_31 q_92 q_1523 pl_X12_figures (by decide) (Nat.le_of_ble_eq_true rfl) dX12_partLine_4 (fun v1 S1 H locs ov1 h hW1 hS => ?_)
    refine m_istore_n (pc := 7) C.1 dX12_partLine_7 rfl hl (by decide) (fun v => [(1, .int v), (0, .ref (b + r0))]) (fun _ => rfl) ov1 (fun v2 ls ev2 ov2 hl => ?_)
    replace h := h v2 ev2
    refine m_aload_n (pc := 8) C.1 dX12_partLine_8 rfl hl 1 rfl ?_
    refine m_ldcS (pc := 9) C.1 C.2.1 (index := 126) (j := 12) (tx := "grey") (by decide +kernel) dX12_partLine_9 ?_
    refine m_iconst (pc := 11) C.1 dX12_partLine_11 ?_
    refine m_bipush (pc := 12) C.1 dX12_partLine_12 rfl ?_
    refine m_callVi (pc := 14) C.1 C.2.2.1 hl.1 C.2.1 hW1 hS (As := [.ref (g.sa 12), .int (mI 0), .int (mI 9)]) (rest := []) (r := r0) (T_X12_after C.2.2.2.2.2.2 N r0 kr0 12 (by decide : 12 < nJS) 0 (by decide : okI 0) 9 (by decide : okI 9) h) kr0 rfl q_1580 q_1582 q_42 q_92 q_1583 pl_X12_after (by decide) (Nat.le_of_ble_eq_true rfl) dX12_partLine_14 (fun v3 S3 H locs ov3 h hW3 hS => ?_)
    refine m_istore_n (pc := 17) C.1 dX12_partLine_17 rfl hl (by decide) (fun v => [(2, .int v), (1, .int (mI v2)), (0, .ref (b + r0))]) (fun _ => rfl) ov3 (fun v4 ls ev4 ov4 hl => ?_)
    replace h := h v4 ev4
    refine m_aload_n (pc := 18) C.1 dX12_partLine_18 rfl hl 2 rfl ?_
    refine m_ldcS (pc := 19) C.1 C.2.1 (index := 128) (j := 13) (tx := "thin") (by decide +kernel) dX12_partLine_19 ?_
    refine m_iconst (pc := 21) C.1 dX12_partLine_21 ?_
    refine m_bipush (pc := 22) C.1 dX12_partLine_22 rfl ?_
    refine m_callVi (pc := 24) C.1 C.2.2.1 hl.1 C.2.1 hW3 hS (As := [.ref (g.sa 13), .int (mI 0), .int (mI 9)]) (rest := []) (r := r0) (T_X12_after C.2.2.2.2.2.2 N r0 kr0 13 (by decide : 13 < nJS) 0 (by decide : okI 0) 9 (by decide : okI 9) h) kr0 rfl q_1580 q_1582 q_42 q_92 q_1583 pl_X12_after (by decide) (Nat.le_of_ble_eq_true rfl) dX12_partLine_24 (fun v5 S5 H locs ov5 h hW5 hS => ?_)
    refine m_istore_n (pc := 27) C.1 dX12_partLine_27 rfl hl (by decide) (fun v => [(3, .int v), (2, .int (mI v4)), (1, .int (mI v2)), (0, .ref (b + r0))]) (fun _ => rfl) ov5 (fun v6 ls ev6 ov6 hl => ?_)
    replace h := h v6 ev6
    refine m_aload_n (pc := 28) C.1 dX12_partLine_28 rfl hl 3 rfl ?_
    refine m_ldcS (pc := 29) C.1 C.2.1 (index := 130) (j := 15) (tx := "stains") (by decide +kernel) dX12_partLine_29 ?_
    refine m_callVi (pc := 31) C.1 C.2.2.1 hl.1 C.2.1 hW5 hS (As := [.ref (g.sa 15)]) (rest := []) (r := r0) (T_X12_kinds C.2.2.2.2.2.2 N r0 kr0 15 (by decide : 15 < nJS) h) kr0 rfl q_1586 q_1588 q_43 q_92 q_1589 pl_X12_kinds (by decide) (Nat.le_of_ble_eq_true rfl) dX12_partLine_31 (fun v7 S7 H locs ov7 h hW7 hS => ?_)
    refine m_istore (pc := 34) C.1 dX12_partLine_34 hl (by decide) (fun v => [(4, .int v), (3, .int (mI v6)), (2, .int (mI v4)), (1, .int (mI v2)), (0, .ref (b + r0))]) (fun _ => rfl) ov7 (fun v8 ls ev8 ov8 hl => ?_)
    replace h := h v8 ev8
    refine m_aload_n (pc := 36) C.1 dX12_partLine_36 rfl hl 4 rfl ?_
    refine g_10_13 (pc := 37) C hW7 kr0 q_1396 dX12_partLine_37 ?_
    refine m_iconst (pc := 40) C.1 dX12_partLine_40 ?_
    refine m_icmp_eq (pc := 41) (tgt := 45) C.1 (hW7.2.1 _ _) (by decide : okI (-1)) dX12_partLine_41 (by decide) (fun hc => ?_) (fun hc => ?_)
    · replace h := h.1 hc
      refine m_aload_n (pc := 45) C.1 dX12_partLine_45 rfl hl 4 rfl ?_
      refine m_iload_n (pc := 46) C.1 dX12_partLine_46 rfl hl 3 rfl ?_
      refine m_iconst (pc := 47) C.1 dX12_partLine_47 ?_
      refine m_iload_n (pc := 48) C.1 dX12_partLine_48 rfl hl 2 rfl ?_
      refine m_callVv (pc := 49) C.1 C.2.2.1 hl.1 C.2.1 hW7 hS (As := [.int (mI v2), .int (mI 0), .int (mI v4)]) (rest := []) (r := r0) (T_X12_has C.2.2.2.2.2.2 N r0 kr0 v2 ov2 0 (by decide : okI 0) v4 ov4 h) kr0 rfl q_1379 q_1381 q_22 q_92 q_1382 pl_X12_has (by decide) (Nat.le_of_ble_eq_true rfl) dX12_partLine_49 (fun S9 H locs h hW9 hS => ?_)
      refine m_aload_n (pc := 52) C.1 dX12_partLine_52 rfl hl 4 rfl ?_
      refine m_iload_n (pc := 53) C.1 dX12_partLine_53 rfl hl 3 rfl ?_
      refine m_iconst (pc := 54) C.1 dX12_partLine_54 ?_
      refine m_iload_n (pc := 55) C.1 dX12_partLine_55 rfl hl 1 rfl ?_
      refine m_callVv (pc := 56) C.1 C.2.2.1 hl.1 C.2.1 hW9 hS (As := [.int (mI v2), .int (mI 1), .int (mI v6)]) (rest := []) (r := r0) (T_X12_has C.2.2.2.2.2.2 N r0 kr0 v2 ov2 1 (by decide : okI 1) v6 ov6 h) kr0 rfl q_1379 q_1381 q_22 q_92 q_1382 pl_X12_has (by decide) (Nat.le_of_ble_eq_true rfl) dX12_partLine_56 (fun S10 H locs h hW10 hS => ?_)
      refine m_aload_n (pc := 59) C.1 dX12_partLine_59 rfl hl 4 rfl ?_
      refine m_iload_n (pc := 60) C.1 dX12_partLine_60 rfl hl 3 rfl ?_
      refine m_iconst (pc := 61) C.1 dX12_partLine_61 ?_
      refine m_iload (pc := 62) C.1 dX12_partLine_62 hl 0 rfl ?_
      refine m_callVv (pc := 64) C.1 C.2.2.1 hl.1 C.2.1 hW10 hS (As := [.int (mI v2), .int (mI 3), .int (mI v8)]) (rest := []) (r := r0) (T_X12_has C.2.2.2.2.2.2 N r0 kr0 v2 ov2 3 (by decide : okI 3) v8 ov8 h) kr0 rfl q_1379 q_1381 q_22 q_92 q_1382 pl_X12_has (by decide) (Nat.le_of_ble_eq_true rfl) dX12_partLine_64 (fun S11 H locs h hW11 hS => ?_)
      exact m_vret (pc := 67) C.1 C.2.2.2.1 C.2.2.2.2.1 hW11 hS h (by decide) (by decide) dX12_partLine_67
    · replace h := h.2 hc
      exact m_vret (pc := 44) C.1 C.2.2.2.1 C.2.2.2.2.1 hW7 hS h (by decide) (by decide) dX12_partLine_44) sz
section
variable {p : Program} {l : Launch} {e : Env} {s : State} {m : MethodId} {args : Array Value} {below : List Frame} {meth : Method} {c : Code} {g : mG} {b : Nat}
def w_X12_dueLine_16 (N : Nat) (Q : mSt → Prop)  (r0 : Nat) (S : mSt) : Prop :=
  w_X12_figures N r0 0 999 S (fun (S1 : mSt) (v1 : Int) => ∀ v2 : Int, v2 = v1 → w_X12_after N r0 20 1 99 S1 (fun (S3 : mSt) (v3 : Int) => ∀ v4 : Int, v4 = v3 → (((S3 r0 13) = (-1) → (0 ≤ (nm (94 + (nm (2 * (S3 (r0 + 1) 4))))) ∧ (nm (94 + (nm (2 * (S3 (r0 + 1) 4))))) < 750 ∧ ∀ S6 : mSt, S6 = mup S3 (r0 + 1) (nm (94 + (nm (2 * (S3 (r0 + 1) 4))))) v2 → (0 ≤ (nm ((nm (94 + (nm (2 * (S6 (r0 + 1) 4))))) + 1)) ∧ (nm ((nm (94 + (nm (2 * (S6 (r0 + 1) 4))))) + 1)) < 750 ∧ ∀ S8 : mSt, S8 = mup S6 (r0 + 1) (nm ((nm (94 + (nm (2 * (S6 (r0 + 1) 4))))) + 1)) v4 → ∀ S9 : mSt, S9 = mup S8 (r0 + 1) 4 (nm ((S8 (r0 + 1) 4) + 1)) → Q S9))) ∧ ((S3 r0 13) ≠ (-1) → Q S3))))
theorem W_X12_dueLine_16 (C : mC p l s m args meth c cX12_dueLine "MoonWashModel" 4 none g) (N : Nat) {Q : mSt → Prop}   (r0 : Nat) (kr0 : KM r0 = (0, 10, 0)) (S : mSt) (H : Heap) (locs : List Loc) (ls : Array Slot) (hl : lv_has ls 4 [(0, .ref (b + r0))]) (hW : mW g b KM S H) (hS : va_S (mA b KM s.heap.size) s.heap H locs) (h : w_X12_dueLine_16 N Q  r0 S) : W p l e { frames := 7, cells := 0, slots := 0, locals := 196 } s m args below meth c H locs 0 0 (vx_MQ below (mQv g b KM Q (mA b KM s.heap.size)) (mEx g b KM (fun _ _ => False) (mA b KM s.heap.size)) args s 0 0 (mA b KM s.heap.size)) (F0 m 16 ls []) := by
  unfold w_X12_dueLine_16 at h
  refine m_aload_n (pc := 16) C.1 dX12_dueLine_16 rfl hl 0 rfl ?_
  refine m_iconst (pc := 17) C.1 dX12_dueLine_17 ?_
  refine m_sipush (pc := 18) C.1 dX12_dueLine_18 rfl ?_
  refine m_callVi (pc := 21) C.1 C.2.2.1 hl.1 C.2.1 hW hS (As := [.int (mI 0), .int (mI 999)]) (rest := []) (r := r0) (T_X12_figures C.2.2.2.2.2.2 N r0 kr0 0 (by decide : okI 0) 999 (by decide : okI 999) h) kr0 rfl q_1520 q_1522 q_31 q_92 q_1523 pl_X12_figures (by decide) (Nat.le_of_ble_eq_true rfl) dX12_dueLine_21 (fun v1 S1 H locs ov1 h hW1 hS => ?_)
  refine m_istore_n (pc := 24) C.1 dX12_dueLine_24 rfl hl (by decide) (fun v => [(2, .int v), (0, .ref (b + r0))]) (fun _ => rfl) ov1 (fun v2 ls ev2 ov2 hl => ?_)
  replace h := h v2 ev2
  refine m_aload_n (pc := 25) C.1 dX12_dueLine_25 rfl hl 1 rfl ?_
  refine m_ldcS (pc := 26) C.1 C.2.1 (index := 132) (j := 20) (tx := "light") (by decide +kernel) dX12_dueLine_26 ?_
  refine m_iconst (pc := 28) C.1 dX12_dueLine_28 ?_
  refine m_bipush (pc := 29) C.1 dX12_dueLine_29 rfl ?_
  refine m_callVi (pc := 31) C.1 C.2.2.1 hl.1 C.2.1 hW1 hS (As := [.ref (g.sa 20), .int (mI 1), .int (mI 99)]) (rest := []) (r := r0) (T_X12_after C.2.2.2.2.2.2 N r0 kr0 20 (by decide : 20 < nJS) 1 (by decide : okI 1) 99 (by decide : okI 99) h) kr0 rfl q_1580 q_1582 q_42 q_92 q_1583 pl_X12_after (by decide) (Nat.le_of_ble_eq_true rfl) dX12_dueLine_31 (fun v3 S3 H locs ov3 h hW3 hS => ?_)
  refine m_istore_n (pc := 34) C.1 dX12_dueLine_34 rfl hl (by decide) (fun v => [(3, .int v), (2, .int (mI v2)), (0, .ref (b + r0))]) (fun _ => rfl) ov3 (fun v4 ls ev4 ov4 hl => ?_)
  replace h := h v4 ev4
  refine m_aload_n (pc := 35) C.1 dX12_dueLine_35 rfl hl 2 rfl ?_
  refine g_10_13 (pc := 36) C hW3 kr0 q_1396 dX12_dueLine_36 ?_
  refine m_iconst (pc := 39) C.1 dX12_dueLine_39 ?_
  refine m_icmp_eq (pc := 40) (tgt := 44) C.1 (hW3.2.1 _ _) (by decide : okI (-1)) dX12_dueLine_40 (by decide) (fun hc => ?_) (fun hc => ?_)
  · replace h := h.1 hc
    refine m_aload_n (pc := 44) C.1 dX12_dueLine_44 rfl hl 2 rfl ?_
    refine g_10_1 (pc := 45) C hW3 kr0 q_1384 dX12_dueLine_45 ?_
    refine m_bipush (pc := 48) C.1 dX12_dueLine_48 rfl ?_
    refine m_iconst (pc := 50) C.1 dX12_dueLine_50 ?_
    refine m_aload_n (pc := 51) C.1 dX12_dueLine_51 rfl hl 2 rfl ?_
    refine g_10_1 (pc := 52) C hW3 kr0 q_1384 dX12_dueLine_52 ?_
    refine m_iconst (pc := 55) C.1 dX12_dueLine_55 ?_
    refine m_iald (pc := 56) C.1 C.2.1 hW3 (k_10_1 kr0) (by decide : okI 4) (by decide) (by decide) dX12_dueLine_56 ?_
    refine m_imul (pc := 57) C.1 dX12_dueLine_57 ?_
    refine m_iadd (pc := 58) C.1 dX12_dueLine_58 ?_
    refine m_iload_n (pc := 59) C.1 dX12_dueLine_59 rfl hl 1 rfl ?_
    obtain ⟨hb5a, hb5b, h⟩ := h
    refine m_iast (pc := 60) C.1 C.2.1 hW3 hS (k_10_1 kr0) (nm_ok _) ov2 hb5a hb5b dX12_dueLine_60 (fun S6 H locs e6 hW6 hS => ?_)
    replace h := h S6 e6
    refine m_aload_n (pc := 61) C.1 dX12_dueLine_61 rfl hl 2 rfl ?_
    refine g_10_1 (pc := 62) C hW6 kr0 q_1384 dX12_dueLine_62 ?_
    refine m_bipush (pc := 65) C.1 dX12_dueLine_65 rfl ?_
    refine m_iconst (pc := 67) C.1 dX12_dueLine_67 ?_
    refine m_aload_n (pc := 68) C.1 dX12_dueLine_68 rfl hl 2 rfl ?_
    refine g_10_1 (pc := 69) C hW6 kr0 q_1384 dX12_dueLine_69 ?_
    refine m_iconst (pc := 72) C.1 dX12_dueLine_72 ?_
    refine m_iald (pc := 73) C.1 C.2.1 hW6 (k_10_1 kr0) (by decide : okI 4) (by decide) (by decide) dX12_dueLine_73 ?_
    refine m_imul (pc := 74) C.1 dX12_dueLine_74 ?_
    refine m_iadd (pc := 75) C.1 dX12_dueLine_75 ?_
    refine m_iconst (pc := 76) C.1 dX12_dueLine_76 ?_
    refine m_iadd (pc := 77) C.1 dX12_dueLine_77 ?_
    refine m_iload_n (pc := 78) C.1 dX12_dueLine_78 rfl hl 0 rfl ?_
    obtain ⟨hb7a, hb7b, h⟩ := h
    refine m_iast (pc := 79) C.1 C.2.1 hW6 hS (k_10_1 kr0) (nm_ok _) ov4 hb7a hb7b dX12_dueLine_79 (fun S8 H locs e8 hW8 hS => ?_)
    replace h := h S8 e8
    refine m_aload_n (pc := 80) C.1 dX12_dueLine_80 rfl hl 2 rfl ?_
    refine g_10_1 (pc := 81) C hW8 kr0 q_1384 dX12_dueLine_81 ?_
    refine m_iconst (pc := 84) C.1 dX12_dueLine_84 ?_
    refine lv_dup2_11 (pc := 85) C.1.1 C.1.2.1 dX12_dueLine_85 rfl rfl ?_
    refine m_iald (pc := 86) C.1 C.2.1 hW8 (k_10_1 kr0) (by decide : okI 4) (by decide) (by decide) dX12_dueLine_86 ?_
    refine m_iconst (pc := 87) C.1 dX12_dueLine_87 ?_
    refine m_iadd (pc := 88) C.1 dX12_dueLine_88 ?_
    refine m_iast (pc := 89) C.1 C.2.1 hW8 hS (k_10_1 kr0) (by decide : okI 4) (nm_ok _) (by decide) (by decide) dX12_dueLine_89 (fun S9 H locs e9 hW9 hS => ?_)
    replace h := h S9 e9
    exact m_vret (pc := 90) C.1 C.2.2.2.1 C.2.2.2.2.1 hW9 hS h (by decide) (by decide) dX12_dueLine_90
  · replace h := h.2 hc
    exact m_vret (pc := 43) C.1 C.2.2.2.1 C.2.2.2.2.1 hW3 hS h (by decide) (by decide) dX12_dueLine_43
end
def w_X12_dueLine (N : Nat) (r0 : Nat) (x1 : Int) (S : mSt) (Q : mSt → Prop) : Prop :=
  (((S (r0 + 1) 4) ≠ 8 → w_X12_dueLine_16 N Q  r0 S) ∧ ((S (r0 + 1) 4) = 8 → w_X12_wrong N r0 x1 S (fun (S1 : mSt) => w_X12_dueLine_16 N Q  r0 S1)))
theorem T_X12_dueLine {l : Launch} (hl0 : l.stackTraces = false) {g : mG} {b : Nat} (N : Nat) (r0 : Nat) (kr0 : KM r0 = (0, 10, 0)) (x1 : Int) (ox1 : okI x1) {S : mSt} {Q : mSt → Prop} (h : w_X12_dueLine N r0 x1 S Q) (sz : Nat) : vx_Met l yX12_dueLine (Cond.code yX12_dueLine cX12_dueLine 4 none :: wsG) { frames := 7, cells := 0, slots := 0, locals := 196 } (mPc g b KM S [.ref (b + r0), .int (mI x1)] sz) (mQv g b KM Q (mA b KM sz)) (mEx g b KM (fun _ _ => False) (mA b KM sz)) 0 0 (mA b KM sz) :=
  m_of (av := [.ref (b + r0), .int (mI x1)]) (Qf := fun A => mQv g b KM Q A) (Xf := fun A => mEx g b KM (fun _ _ => False) A) (by decide) (Nat.le_of_ble_eq_true rfl) (fun p e s m args below meth c ls X hK hml hr hlk hout hnm hW hl => by
    have C : mC p l s m args meth c cX12_dueLine "MoonWashModel" 4 none g := ⟨X, hK, hml, hr, hlk, hout, hl0⟩
    have hS : va_S (mA b KM s.heap.size) s.heap s.heap [] := va_S.rf
    have hl : lv_has ls 4 [(0, .ref (b + r0)), (1, .int (mI x1))] := hl
    unfold w_X12_dueLine at h
    refine m_aload_n (pc := 0) C.1 dX12_dueLine_0 rfl hl 0 rfl ?_
    refine g_10_1 (pc := 1) C hW kr0 q_1384 dX12_dueLine_1 ?_
    refine m_iconst (pc := 4) C.1 dX12_dueLine_4 ?_
    refine m_iald (pc := 5) C.1 C.2.1 hW (k_10_1 kr0) (by decide : okI 4) (by decide) (by decide) dX12_dueLine_5 ?_
    refine m_bipush (pc := 6) C.1 dX12_dueLine_6 rfl ?_
    refine m_icmp_ne (pc := 8) (tgt := 16) C.1 (hW.2.1 _ _) (by decide : okI 8) dX12_dueLine_8 (by decide) (fun hc => ?_) (fun hc => ?_)
    · replace h := h.1 hc
      exact W_X12_dueLine_16 C N  r0 kr0 S _ _ _ (lv_sub hl [0] rfl) hW hS h
    · replace h := h.2 hc
      refine m_aload_n (pc := 11) C.1 dX12_dueLine_11 rfl hl 0 rfl ?_
      refine m_iload_n (pc := 12) C.1 dX12_dueLine_12 rfl hl 1 rfl ?_
      refine m_callVv (pc := 13) C.1 C.2.2.1 hl.1 C.2.1 hW hS (As := [.int (mI x1)]) (rest := []) (r := r0) (T_X12_wrong C.2.2.2.2.2.2 N r0 kr0 x1 ox1 h) kr0 rfl q_1502 q_1504 q_28 q_92 q_1505 pl_X12_wrong (by decide) (Nat.le_of_ble_eq_true rfl) dX12_dueLine_13 (fun S1 H locs h hW1 hS => ?_)
      exact W_X12_dueLine_16 C N  r0 kr0 S1 _ _ _ (lv_sub hl [0] rfl) hW1 hS h) sz
section
variable {p : Program} {l : Launch} {e : Env} {s : State} {m : MethodId} {args : Array Value} {below : List Frame} {meth : Method} {c : Code} {g : mG} {b : Nat}
end
def w_X12_tells (N : Nat) (r0 : Nat) (x1 : Int) (x2 : Int) (S : mSt) (Q : mSt → Prop) : Prop :=
  w_X12_figures N r0 0 x2 S (fun (S1 : mSt) (v1 : Int) => ∀ v2 : Int, v2 = v1 → (((S1 r0 13) ≠ (-1) → Q S1) ∧ ((S1 r0 13) = (-1) → (0 ≤ x1 ∧ x1 < 750 ∧ ∀ S4 : mSt, S4 = mup S1 (r0 + 1) x1 v2 → Q S4))))
theorem T_X12_tells {l : Launch} (hl0 : l.stackTraces = false) {g : mG} {b : Nat} (N : Nat) (r0 : Nat) (kr0 : KM r0 = (0, 10, 0)) (x1 : Int) (ox1 : okI x1) (x2 : Int) (ox2 : okI x2) {S : mSt} {Q : mSt → Prop} (h : w_X12_tells N r0 x1 x2 S Q) (sz : Nat) : vx_Met l yX12_tells (Cond.code yX12_tells cX12_tells 4 none :: wsG) { frames := 4, cells := 0, slots := 0, locals := 85 } (mPc g b KM S [.ref (b + r0), .int (mI x1), .int (mI x2)] sz) (mQv g b KM Q (mA b KM sz)) (mEx g b KM (fun _ _ => False) (mA b KM sz)) 0 0 (mA b KM sz) :=
  m_of (av := [.ref (b + r0), .int (mI x1), .int (mI x2)]) (Qf := fun A => mQv g b KM Q A) (Xf := fun A => mEx g b KM (fun _ _ => False) A) (by decide) (Nat.le_of_ble_eq_true rfl) (fun p e s m args below meth c ls X hK hml hr hlk hout hnm hW hl => by
    have C : mC p l s m args meth c cX12_tells "MoonWashModel" 4 none g := ⟨X, hK, hml, hr, hlk, hout, hl0⟩
    have hS : va_S (mA b KM s.heap.size) s.heap s.heap [] := va_S.rf
    have hl : lv_has ls 4 [(0, .ref (b + r0)), (1, .int (mI x1)), (2, .int (mI x2))] := hl
    unfold w_X12_tells at h
    refine m_aload_n (pc := 0) C.1 dX12_tells_0 rfl hl 0 rfl ?_
    refine m_iconst (pc := 1) C.1 dX12_tells_1 ?_
    refine m_iload_n (pc := 2) C.1 dX12_tells_2 rfl hl 2 rfl ?_
    refine m_callVi (pc := 3) C.1 C.2.2.1 hl.1 C.2.1 hW hS (As := [.int (mI 0), .int (mI x2)]) (rest := []) (r := r0) (T_X12_figures C.2.2.2.2.2.2 N r0 kr0 0 (by decide : okI 0) x2 ox2 h) kr0 rfl q_1520 q_1522 q_31 q_92 q_1523 pl_X12_figures (by decide) (Nat.le_of_ble_eq_true rfl) dX12_tells_3 (fun v1 S1 H locs ov1 h hW1 hS => ?_)
    refine m_istore_n (pc := 6) C.1 dX12_tells_6 rfl hl (by decide) (fun v => [(3, .int v), (0, .ref (b + r0)), (1, .int (mI x1)), (2, .int (mI x2))]) (fun _ => rfl) ov1 (fun v2 ls ev2 ov2 hl => ?_)
    replace h := h v2 ev2
    refine m_aload_n (pc := 7) C.1 dX12_tells_7 rfl hl 1 rfl ?_
    refine g_10_13 (pc := 8) C hW1 kr0 q_1396 dX12_tells_8 ?_
    refine m_iconst (pc := 11) C.1 dX12_tells_11 ?_
    refine m_icmp_ne (pc := 12) (tgt := 22) C.1 (hW1.2.1 _ _) (by decide : okI (-1)) dX12_tells_12 (by decide) (fun hc => ?_) (fun hc => ?_)
    · replace h := h.1 hc
      exact m_vret (pc := 22) C.1 C.2.2.2.1 C.2.2.2.2.1 hW1 hS h (by decide) (by decide) dX12_tells_22
    · replace h := h.2 hc
      refine m_aload_n (pc := 15) C.1 dX12_tells_15 rfl hl 1 rfl ?_
      refine g_10_1 (pc := 16) C hW1 kr0 q_1384 dX12_tells_16 ?_
      refine m_iload_n (pc := 19) C.1 dX12_tells_19 rfl hl 2 rfl ?_
      refine m_iload_n (pc := 20) C.1 dX12_tells_20 rfl hl 0 rfl ?_
      obtain ⟨hb3a, hb3b, h⟩ := h
      refine m_iast (pc := 21) C.1 C.2.1 hW1 hS (k_10_1 kr0) ox1 ov2 hb3a hb3b dX12_tells_21 (fun S4 H locs e4 hW4 hS => ?_)
      replace h := h S4 e4
      exact m_vret (pc := 22) C.1 C.2.2.2.1 C.2.2.2.2.1 hW4 hS h (by decide) (by decide) dX12_tells_22) sz
section
variable {p : Program} {l : Launch} {e : Env} {s : State} {m : MethodId} {args : Array Value} {below : List Frame} {meth : Method} {c : Code} {g : mG} {b : Nat}
end
def w_X12_houseLine (N : Nat) (r0 : Nat) (S : mSt) (Q : mSt → Prop) : Prop :=
  w_X12_place N r0 S (fun (S1 : mSt) (v1 : Int) => ∀ v2 : Int, v2 = v1 → w_X12_has_ N r0 7 S1 (fun (S3 : mSt) (v3 : Int) => ((v3 = 0 → w_X12_has_ N r0 11 S3 (fun (S4 : mSt) (v4 : Int) => ((v4 = 0 → w_X12_has_ N r0 16 S4 (fun (S5 : mSt) (v5 : Int) => ((v5 = 0 → w_X12_has_ N r0 19 S5 (fun (S6 : mSt) (v6 : Int) => ((v6 = 0 → w_X12_has_ N r0 21 S6 (fun (S7 : mSt) (v7 : Int) => ((v7 = 0 → w_X12_has_ N r0 8 S7 (fun (S8 : mSt) (v8 : Int) => ((v8 = 0 → w_X12_has_ N r0 22 S8 (fun (S9 : mSt) (v9 : Int) => ((v9 = 0 → w_X12_has_ N r0 23 S9 (fun (S10 : mSt) (v10 : Int) => ((v10 = 0 → w_X12_wrong N r0 (S10 r0 12) S10 (fun (S11 : mSt) => Q S11)) ∧ (v10 ≠ 0 → w_X12_tells N r0 8 100 S10 (fun (S12 : mSt) => Q S12))))) ∧ (v9 ≠ 0 → w_X12_tells N r0 7 100 S9 (fun (S13 : mSt) => Q S13))))) ∧ (v8 ≠ 0 → w_X12_tells N r0 5 99 S8 (fun (S14 : mSt) => Q S14))))) ∧ (v7 ≠ 0 → w_X12_tells N r0 6 20 S7 (fun (S15 : mSt) => Q S15))))) ∧ (v6 ≠ 0 → w_X12_dueLine N r0 v2 S6 (fun (S16 : mSt) => Q S16))))) ∧ (v5 ≠ 0 → w_X12_figures N r0 0 7 S5 (fun (S17 : mSt) (v17 : Int) => ∀ v18 : Int, v18 = v17 → w_X12_tells N r0 (nm (62 + v18)) 9 S17 (fun (S19 : mSt) => Q S19)))))) ∧ (v4 ≠ 0 → w_X12_partLine N r0 S4 (fun (S20 : mSt) => Q S20))))) ∧ (v3 ≠ 0 → w_X12_soapLine N r0 v2 S3 (fun (S21 : mSt) => Q S21)))))
theorem T_X12_houseLine {l : Launch} (hl0 : l.stackTraces = false) {g : mG} {b : Nat} (N : Nat) (r0 : Nat) (kr0 : KM r0 = (0, 10, 0)) {S : mSt} {Q : mSt → Prop} (h : w_X12_houseLine N r0 S Q) (sz : Nat) : vx_Met l yX12_houseLine (Cond.code yX12_houseLine cX12_houseLine 3 none :: wsG) { frames := 8, cells := 0, slots := 0, locals := 224 } (mPc g b KM S [.ref (b + r0)] sz) (mQv g b KM Q (mA b KM sz)) (mEx g b KM (fun _ _ => False) (mA b KM sz)) 0 0 (mA b KM sz) :=
  m_of (av := [.ref (b + r0)]) (Qf := fun A => mQv g b KM Q A) (Xf := fun A => mEx g b KM (fun _ _ => False) A) (by decide) (Nat.le_of_ble_eq_true rfl) (fun p e s m args below meth c ls X hK hml hr hlk hout hnm hW hl => by
    have C : mC p l s m args meth c cX12_houseLine "MoonWashModel" 3 none g := ⟨X, hK, hml, hr, hlk, hout, hl0⟩
    have hS : va_S (mA b KM s.heap.size) s.heap s.heap [] := va_S.rf
    have hl : lv_has ls 3 [(0, .ref (b + r0))] := hl
    unfold w_X12_houseLine at h
    refine m_aload_n (pc := 0) C.1 dX12_houseLine_0 rfl hl 0 rfl ?_
    refine m_callVi (pc := 1) C.1 C.2.2.1 hl.1 C.2.1 hW hS (As := []) (rest := []) (r := r0) (T_X12_place C.2.2.2.2.2.2 N r0 kr0 h) kr0 rfl q_1524 q_1526 q_32 q_92 q_1527 pl_X12_place (by decide) (Nat.le_of_ble_eq_true rfl) dX12_houseLine_1 (fun v1 S1 H locs ov1 h hW1 hS => ?_)
    refine m_istore_n (pc := 4) C.1 dX12_houseLine_4 rfl hl (by decide) (fun v => [(1, .int v), (0, .ref (b + r0))]) (fun _ => rfl) ov1 (fun v2 ls ev2 ov2 hl => ?_)
    replace h := h v2 ev2
    refine m_aload_n (pc := 5) C.1 dX12_houseLine_5 rfl hl 1 rfl ?_
    refine m_ldcS (pc := 6) C.1 C.2.1 (index := 134) (j := 7) (tx := "soap") (by decide +kernel) dX12_houseLine_6 ?_
    refine m_callVi (pc := 8) C.1 C.2.2.1 hl.1 C.2.1 hW1 hS (As := [.ref (g.sa 7)]) (rest := []) (r := r0) (T_X12_has_ C.2.2.2.2.2.2 N r0 kr0 7 (by decide : 7 < nJS) h) kr0 rfl q_1511 q_1513 q_30 q_92 q_1514 pl_X12_has_ (by decide) (Nat.le_of_ble_eq_true rfl) dX12_houseLine_8 (fun v3 S3 H locs ov3 h hW3 hS => ?_)
    refine m_if_eq (pc := 11) (tgt := 22) C.1 ov3 dX12_houseLine_11 (by decide) (fun hc => ?_) (fun hc => ?_)
    · replace h := h.1 hc
      refine m_aload_n (pc := 22) C.1 dX12_houseLine_22 rfl hl 1 rfl ?_
      refine m_ldcS (pc := 23) C.1 C.2.1 (index := 139) (j := 11) (tx := "part") (by decide +kernel) dX12_houseLine_23 ?_
      refine m_callVi (pc := 25) C.1 C.2.2.1 hl.1 C.2.1 hW3 hS (As := [.ref (g.sa 11)]) (rest := []) (r := r0) (T_X12_has_ C.2.2.2.2.2.2 N r0 kr0 11 (by decide : 11 < nJS) h) kr0 rfl q_1511 q_1513 q_30 q_92 q_1514 pl_X12_has_ (by decide) (Nat.le_of_ble_eq_true rfl) dX12_houseLine_25 (fun v4 S4 H locs ov4 h hW4 hS => ?_)
      refine m_if_eq (pc := 28) (tgt := 38) C.1 ov4 dX12_houseLine_28 (by decide) (fun hc => ?_) (fun hc => ?_)
      · replace h := h.1 hc
        refine m_aload_n (pc := 38) C.1 dX12_houseLine_38 rfl hl 1 rfl ?_
        refine m_ldcS (pc := 39) C.1 C.2.1 (index := 144) (j := 16) (tx := "wind") (by decide +kernel) dX12_houseLine_39 ?_
        refine m_callVi (pc := 41) C.1 C.2.2.1 hl.1 C.2.1 hW4 hS (As := [.ref (g.sa 16)]) (rest := []) (r := r0) (T_X12_has_ C.2.2.2.2.2.2 N r0 kr0 16 (by decide : 16 < nJS) h) kr0 rfl q_1511 q_1513 q_30 q_92 q_1514 pl_X12_has_ (by decide) (Nat.le_of_ble_eq_true rfl) dX12_houseLine_41 (fun v5 S5 H locs ov5 h hW5 hS => ?_)
        refine m_if_eq (pc := 44) (tgt := 68) C.1 ov5 dX12_houseLine_44 (by decide) (fun hc => ?_) (fun hc => ?_)
        · replace h := h.1 hc
          refine m_aload_n (pc := 68) C.1 dX12_houseLine_68 rfl hl 1 rfl ?_
          refine m_ldcS (pc := 69) C.1 C.2.1 (index := 150) (j := 19) (tx := "due") (by decide +kernel) dX12_houseLine_69 ?_
          refine m_callVi (pc := 71) C.1 C.2.2.1 hl.1 C.2.1 hW5 hS (As := [.ref (g.sa 19)]) (rest := []) (r := r0) (T_X12_has_ C.2.2.2.2.2.2 N r0 kr0 19 (by decide : 19 < nJS) h) kr0 rfl q_1511 q_1513 q_30 q_92 q_1514 pl_X12_has_ (by decide) (Nat.le_of_ble_eq_true rfl) dX12_houseLine_71 (fun v6 S6 H locs ov6 h hW6 hS => ?_)
          refine m_if_eq (pc := 74) (tgt := 85) C.1 ov6 dX12_houseLine_74 (by decide) (fun hc => ?_) (fun hc => ?_)
          · replace h := h.1 hc
            refine m_aload_n (pc := 85) C.1 dX12_houseLine_85 rfl hl 1 rfl ?_
            refine m_ldcS (pc := 86) C.1 C.2.1 (index := 155) (j := 21) (tx := "spring") (by decide +kernel) dX12_houseLine_86 ?_
            refine m_callVi (pc := 88) C.1 C.2.2.1 hl.1 C.2.1 hW6 hS (As := [.ref (g.sa 21)]) (rest := []) (r := r0) (T_X12_has_ C.2.2.2.2.2.2 N r0 kr0 21 (by decide : 21 < nJS) h) kr0 rfl q_1511 q_1513 q_30 q_92 q_1514 pl_X12_has_ (by decide) (Nat.le_of_ble_eq_true rfl) dX12_houseLine_88 (fun v7 S7 H locs ov7 h hW7 hS => ?_)
            refine m_if_eq (pc := 91) (tgt := 105) C.1 ov7 dX12_houseLine_91 (by decide) (fun hc => ?_) (fun hc => ?_)
            · replace h := h.1 hc
              refine m_aload_n (pc := 105) C.1 dX12_houseLine_105 rfl hl 1 rfl ?_
              refine m_ldcS (pc := 106) C.1 C.2.1 (index := 112) (j := 8) (tx := "water") (by decide +kernel) dX12_houseLine_106 ?_
              refine m_callVi (pc := 108) C.1 C.2.2.1 hl.1 C.2.1 hW7 hS (As := [.ref (g.sa 8)]) (rest := []) (r := r0) (T_X12_has_ C.2.2.2.2.2.2 N r0 kr0 8 (by decide : 8 < nJS) h) kr0 rfl q_1511 q_1513 q_30 q_92 q_1514 pl_X12_has_ (by decide) (Nat.le_of_ble_eq_true rfl) dX12_houseLine_108 (fun v8 S8 H locs ov8 h hW8 hS => ?_)
              refine m_if_eq (pc := 111) (tgt := 124) C.1 ov8 dX12_houseLine_111 (by decide) (fun hc => ?_) (fun hc => ?_)
              · replace h := h.1 hc
                refine m_aload_n (pc := 124) C.1 dX12_houseLine_124 rfl hl 1 rfl ?_
                refine m_ldcS (pc := 125) C.1 C.2.1 (index := 157) (j := 22) (tx := "wolves") (by decide +kernel) dX12_houseLine_125 ?_
                refine m_callVi (pc := 127) C.1 C.2.2.1 hl.1 C.2.1 hW8 hS (As := [.ref (g.sa 22)]) (rest := []) (r := r0) (T_X12_has_ C.2.2.2.2.2.2 N r0 kr0 22 (by decide : 22 < nJS) h) kr0 rfl q_1511 q_1513 q_30 q_92 q_1514 pl_X12_has_ (by decide) (Nat.le_of_ble_eq_true rfl) dX12_houseLine_127 (fun v9 S9 H locs ov9 h hW9 hS => ?_)
                refine m_if_eq (pc := 130) (tgt := 144) C.1 ov9 dX12_houseLine_130 (by decide) (fun hc => ?_) (fun hc => ?_)
                · replace h := h.1 hc
                  refine m_aload_n (pc := 144) C.1 dX12_houseLine_144 rfl hl 1 rfl ?_
                  refine m_ldcS (pc := 145) C.1 C.2.1 (index := 159) (j := 23) (tx := "thieves") (by decide +kernel) dX12_houseLine_145 ?_
                  refine m_callVi (pc := 147) C.1 C.2.2.1 hl.1 C.2.1 hW9 hS (As := [.ref (g.sa 23)]) (rest := []) (r := r0) (T_X12_has_ C.2.2.2.2.2.2 N r0 kr0 23 (by decide : 23 < nJS) h) kr0 rfl q_1511 q_1513 q_30 q_92 q_1514 pl_X12_has_ (by decide) (Nat.le_of_ble_eq_true rfl) dX12_houseLine_147 (fun v10 S10 H locs ov10 h hW10 hS => ?_)
                  refine m_if_eq (pc := 150) (tgt := 164) C.1 ov10 dX12_houseLine_150 (by decide) (fun hc => ?_) (fun hc => ?_)
                  · replace h := h.1 hc
                    refine m_aload_n (pc := 164) C.1 dX12_houseLine_164 rfl hl 1 rfl ?_
                    refine m_aload_n (pc := 165) C.1 dX12_houseLine_165 rfl hl 1 rfl ?_
                    refine g_10_12 (pc := 166) C hW10 kr0 q_1395 dX12_houseLine_166 ?_
                    refine m_callVv (pc := 169) C.1 C.2.2.1 hl.1 C.2.1 hW10 hS (As := [.int (mI (S10 r0 12))]) (rest := []) (r := r0) (T_X12_wrong C.2.2.2.2.2.2 N r0 kr0 (S10 r0 12) (hW10.2.1 _ _) h) kr0 rfl q_1502 q_1504 q_28 q_92 q_1505 pl_X12_wrong (by decide) (Nat.le_of_ble_eq_true rfl) dX12_houseLine_169 (fun S11 H locs h hW11 hS => ?_)
                    exact m_vret (pc := 172) C.1 C.2.2.2.1 C.2.2.2.2.1 hW11 hS h (by decide) (by decide) dX12_houseLine_172
                  · replace h := h.2 hc
                    refine m_aload_n (pc := 153) C.1 dX12_houseLine_153 rfl hl 1 rfl ?_
                    refine m_bipush (pc := 154) C.1 dX12_houseLine_154 rfl ?_
                    refine m_bipush (pc := 156) C.1 dX12_houseLine_156 rfl ?_
                    refine m_callVv (pc := 158) C.1 C.2.2.1 hl.1 C.2.1 hW10 hS (As := [.int (mI 8), .int (mI 100)]) (rest := []) (r := r0) (T_X12_tells C.2.2.2.2.2.2 N r0 kr0 8 (by decide : okI 8) 100 (by decide : okI 100) h) kr0 rfl q_1597 q_1599 q_45 q_92 q_1600 pl_X12_tells (by decide) (Nat.le_of_ble_eq_true rfl) dX12_houseLine_158 (fun S12 H locs h hW12 hS => ?_)
                    refine m_goto (pc := 161) (tgt := 172) C.1 dX12_houseLine_161 (by decide) ?_
                    exact m_vret (pc := 172) C.1 C.2.2.2.1 C.2.2.2.2.1 hW12 hS h (by decide) (by decide) dX12_houseLine_172
                · replace h := h.2 hc
                  refine m_aload_n (pc := 133) C.1 dX12_houseLine_133 rfl hl 1 rfl ?_
                  refine m_bipush (pc := 134) C.1 dX12_houseLine_134 rfl ?_
                  refine m_bipush (pc := 136) C.1 dX12_houseLine_136 rfl ?_
                  refine m_callVv (pc := 138) C.1 C.2.2.1 hl.1 C.2.1 hW9 hS (As := [.int (mI 7), .int (mI 100)]) (rest := []) (r := r0) (T_X12_tells C.2.2.2.2.2.2 N r0 kr0 7 (by decide : okI 7) 100 (by decide : okI 100) h) kr0 rfl q_1597 q_1599 q_45 q_92 q_1600 pl_X12_tells (by decide) (Nat.le_of_ble_eq_true rfl) dX12_houseLine_138 (fun S13 H locs h hW13 hS => ?_)
                  refine m_goto (pc := 141) (tgt := 172) C.1 dX12_houseLine_141 (by decide) ?_
                  exact m_vret (pc := 172) C.1 C.2.2.2.1 C.2.2.2.2.1 hW13 hS h (by decide) (by decide) dX12_houseLine_172
              · replace h := h.2 hc
                refine m_aload_n (pc := 114) C.1 dX12_houseLine_114 rfl hl 1 rfl ?_
                refine m_iconst (pc := 115) C.1 dX12_houseLine_115 ?_
                refine m_bipush (pc := 116) C.1 dX12_houseLine_116 rfl ?_
                refine m_callVv (pc := 118) C.1 C.2.2.1 hl.1 C.2.1 hW8 hS (As := [.int (mI 5), .int (mI 99)]) (rest := []) (r := r0) (T_X12_tells C.2.2.2.2.2.2 N r0 kr0 5 (by decide : okI 5) 99 (by decide : okI 99) h) kr0 rfl q_1597 q_1599 q_45 q_92 q_1600 pl_X12_tells (by decide) (Nat.le_of_ble_eq_true rfl) dX12_houseLine_118 (fun S14 H locs h hW14 hS => ?_)
                refine m_goto (pc := 121) (tgt := 172) C.1 dX12_houseLine_121 (by decide) ?_
                exact m_vret (pc := 172) C.1 C.2.2.2.1 C.2.2.2.2.1 hW14 hS h (by decide) (by decide) dX12_houseLine_172
            · replace h := h.2 hc
              refine m_aload_n (pc := 94) C.1 dX12_houseLine_94 rfl hl 1 rfl ?_
              refine m_bipush (pc := 95) C.1 dX12_houseLine_95 rfl ?_
              refine m_bipush (pc := 97) C.1 dX12_houseLine_97 rfl ?_
              refine m_callVv (pc := 99) C.1 C.2.2.1 hl.1 C.2.1 hW7 hS (As := [.int (mI 6), .int (mI 20)]) (rest := []) (r := r0) (T_X12_tells C.2.2.2.2.2.2 N r0 kr0 6 (by decide : okI 6) 20 (by decide : okI 20) h) kr0 rfl q_1597 q_1599 q_45 q_92 q_1600 pl_X12_tells (by decide) (Nat.le_of_ble_eq_true rfl) dX12_houseLine_99 (fun S15 H locs h hW15 hS => ?_)
              refine m_goto (pc := 102) (tgt := 172) C.1 dX12_houseLine_102 (by decide) ?_
              exact m_vret (pc := 172) C.1 C.2.2.2.1 C.2.2.2.2.1 hW15 hS h (by decide) (by decide) dX12_houseLine_172
          · replace h := h.2 hc
            refine m_aload_n (pc := 77) C.1 dX12_houseLine_77 rfl hl 1 rfl ?_
            refine m_iload_n (pc := 78) C.1 dX12_houseLine_78 rfl hl 0 rfl ?_
            refine m_callVv (pc := 79) C.1 C.2.2.1 hl.1 C.2.1 hW6 hS (As := [.int (mI v2)]) (rest := []) (r := r0) (T_X12_dueLine C.2.2.2.2.2.2 N r0 kr0 v2 ov2 h) kr0 rfl q_1602 q_1604 q_46 q_92 q_1605 pl_X12_dueLine (by decide) (Nat.le_of_ble_eq_true rfl) dX12_houseLine_79 (fun S16 H locs h hW16 hS => ?_)
            refine m_goto (pc := 82) (tgt := 172) C.1 dX12_houseLine_82 (by decide) ?_
            exact m_vret (pc := 172) C.1 C.2.2.2.1 C.2.2.2.2.1 hW16 hS h (by decide) (by decide) dX12_houseLine_172
        · replace h := h.2 hc
          refine m_aload_n (pc := 47) C.1 dX12_houseLine_47 rfl hl 1 rfl ?_
          refine m_iconst (pc := 48) C.1 dX12_houseLine_48 ?_
          refine m_bipush (pc := 49) C.1 dX12_houseLine_49 rfl ?_
          refine m_callVi (pc := 51) C.1 C.2.2.1 hl.1 C.2.1 hW5 hS (As := [.int (mI 0), .int (mI 7)]) (rest := []) (r := r0) (T_X12_figures C.2.2.2.2.2.2 N r0 kr0 0 (by decide : okI 0) 7 (by decide : okI 7) h) kr0 rfl q_1520 q_1522 q_31 q_92 q_1523 pl_X12_figures (by decide) (Nat.le_of_ble_eq_true rfl) dX12_houseLine_51 (fun v17 S17 H locs ov17 h hW17 hS => ?_)
          refine m_istore_n (pc := 54) C.1 dX12_houseLine_54 rfl hl (by decide) (fun v => [(2, .int v), (1, .int (mI v2)), (0, .ref (b + r0))]) (fun _ => rfl) ov17 (fun v18 ls ev18 ov18 hl => ?_)
          replace h := h v18 ev18
          refine m_aload_n (pc := 55) C.1 dX12_houseLine_55 rfl hl 2 rfl ?_
          refine m_bipush (pc := 56) C.1 dX12_houseLine_56 rfl ?_
          refine m_iload_n (pc := 58) C.1 dX12_houseLine_58 rfl hl 0 rfl ?_
          refine m_iadd (pc := 59) C.1 dX12_houseLine_59 ?_
          refine m_bipush (pc := 60) C.1 dX12_houseLine_60 rfl ?_
          refine m_callVv (pc := 62) C.1 C.2.2.1 hl.1 C.2.1 hW17 hS (As := [.int (mI (nm (62 + v18))), .int (mI 9)]) (rest := []) (r := r0) (T_X12_tells C.2.2.2.2.2.2 N r0 kr0 (nm (62 + v18)) (nm_ok _) 9 (by decide : okI 9) h) kr0 rfl q_1597 q_1599 q_45 q_92 q_1600 pl_X12_tells (by decide) (Nat.le_of_ble_eq_true rfl) dX12_houseLine_62 (fun S19 H locs h hW19 hS => ?_)
          refine m_goto (pc := 65) (tgt := 172) C.1 dX12_houseLine_65 (by decide) ?_
          exact m_vret (pc := 172) C.1 C.2.2.2.1 C.2.2.2.2.1 hW19 hS h (by decide) (by decide) dX12_houseLine_172
      · replace h := h.2 hc
        refine m_aload_n (pc := 31) C.1 dX12_houseLine_31 rfl hl 1 rfl ?_
        refine m_callVv (pc := 32) C.1 C.2.2.1 hl.1 C.2.1 hW4 hS (As := []) (rest := []) (r := r0) (T_X12_partLine C.2.2.2.2.2.2 N r0 kr0 h) kr0 rfl q_1593 q_1595 q_44 q_92 q_1596 pl_X12_partLine (by decide) (Nat.le_of_ble_eq_true rfl) dX12_houseLine_32 (fun S20 H locs h hW20 hS => ?_)
        refine m_goto (pc := 35) (tgt := 172) C.1 dX12_houseLine_35 (by decide) ?_
        exact m_vret (pc := 172) C.1 C.2.2.2.1 C.2.2.2.2.1 hW20 hS h (by decide) (by decide) dX12_houseLine_172
    · replace h := h.2 hc
      refine m_aload_n (pc := 14) C.1 dX12_houseLine_14 rfl hl 1 rfl ?_
      refine m_iload_n (pc := 15) C.1 dX12_houseLine_15 rfl hl 0 rfl ?_
      refine m_callVv (pc := 16) C.1 C.2.2.1 hl.1 C.2.1 hW3 hS (As := [.int (mI v2)]) (rest := []) (r := r0) (T_X12_soapLine C.2.2.2.2.2.2 N r0 kr0 v2 ov2 h) kr0 rfl q_1575 q_1577 q_41 q_92 q_1578 pl_X12_soapLine (by decide) (Nat.le_of_ble_eq_true rfl) dX12_houseLine_16 (fun S21 H locs h hW21 hS => ?_)
      refine m_goto (pc := 19) (tgt := 172) C.1 dX12_houseLine_19 (by decide) ?_
      exact m_vret (pc := 172) C.1 C.2.2.2.1 C.2.2.2.2.1 hW21 hS h (by decide) (by decide) dX12_houseLine_172) sz
section
variable {p : Program} {l : Launch} {e : Env} {s : State} {m : MethodId} {args : Array Value} {below : List Frame} {meth : Method} {c : Code} {g : mG} {b : Nat}
end
def w_X12_begins (N : Nat) (r0 : Nat) (S : mSt) (Q : mSt → Prop) : Prop :=
  ∀ S1 : mSt, S1 = mup S r0 13 (-1) → ∀ S2 : mSt, S2 = mup S1 r0 10 (-1) → ∀ S3 : mSt, S3 = mup S2 r0 11 (S2 r0 9) → ∀ S4 : mSt, S4 = mup S3 r0 9 0 → ∀ S5 : mSt, S5 = mup S4 r0 12 0 → ∀ S6 : mSt, S6 = mup S5 r0 14 0 → Q S6
theorem T_X12_begins {l : Launch} (hl0 : l.stackTraces = false) {g : mG} {b : Nat} (N : Nat) (r0 : Nat) (kr0 : KM r0 = (0, 10, 0)) {S : mSt} {Q : mSt → Prop} (h : w_X12_begins N r0 S Q) (sz : Nat) : vx_Met l yX12_begins (Cond.code yX12_begins cX12_begins 1 none :: wsG) { frames := 0, cells := 0, slots := 0, locals := 0 } (mPc g b KM S [.ref (b + r0)] sz) (mQv g b KM Q (mA b KM sz)) (mEx g b KM (fun _ _ => False) (mA b KM sz)) 0 0 (mA b KM sz) :=
  m_of (av := [.ref (b + r0)]) (Qf := fun A => mQv g b KM Q A) (Xf := fun A => mEx g b KM (fun _ _ => False) A) (by decide) (Nat.le_of_ble_eq_true rfl) (fun p e s m args below meth c ls X hK hml hr hlk hout hnm hW hl => by
    have C : mC p l s m args meth c cX12_begins "MoonWashModel" 1 none g := ⟨X, hK, hml, hr, hlk, hout, hl0⟩
    have hS : va_S (mA b KM s.heap.size) s.heap s.heap [] := va_S.rf
    have hl : lv_has ls 1 [(0, .ref (b + r0))] := hl
    unfold w_X12_begins at h
    refine m_aload_n (pc := 0) C.1 dX12_begins_0 rfl hl 0 rfl ?_
    refine m_iconst (pc := 1) C.1 dX12_begins_1 ?_
    refine p_10_13 (pc := 2) C hW hS kr0 q_1396 (by decide : okI (-1)) dX12_begins_2 (fun S1 H locs e1 hW1 hS => ?_)
    replace h := h S1 e1
    refine m_aload_n (pc := 5) C.1 dX12_begins_5 rfl hl 0 rfl ?_
    refine m_iconst (pc := 6) C.1 dX12_begins_6 ?_
    refine p_10_10 (pc := 7) C hW1 hS kr0 q_1393 (by decide : okI (-1)) dX12_begins_7 (fun S2 H locs e2 hW2 hS => ?_)
    replace h := h S2 e2
    refine m_aload_n (pc := 10) C.1 dX12_begins_10 rfl hl 0 rfl ?_
    refine m_aload_n (pc := 11) C.1 dX12_begins_11 rfl hl 0 rfl ?_
    refine g_10_9 (pc := 12) C hW2 kr0 q_1392 dX12_begins_12 ?_
    refine p_10_11 (pc := 15) C hW2 hS kr0 q_1394 (hW2.2.1 _ _) dX12_begins_15 (fun S3 H locs e3 hW3 hS => ?_)
    replace h := h S3 e3
    refine m_aload_n (pc := 18) C.1 dX12_begins_18 rfl hl 0 rfl ?_
    refine m_iconst (pc := 19) C.1 dX12_begins_19 ?_
    refine p_10_9 (pc := 20) C hW3 hS kr0 q_1392 (by decide : okI 0) dX12_begins_20 (fun S4 H locs e4 hW4 hS => ?_)
    replace h := h S4 e4
    refine m_aload_n (pc := 23) C.1 dX12_begins_23 rfl hl 0 rfl ?_
    refine m_iconst (pc := 24) C.1 dX12_begins_24 ?_
    refine p_10_12 (pc := 25) C hW4 hS kr0 q_1395 (by decide : okI 0) dX12_begins_25 (fun S5 H locs e5 hW5 hS => ?_)
    replace h := h S5 e5
    refine m_aload_n (pc := 28) C.1 dX12_begins_28 rfl hl 0 rfl ?_
    refine m_iconst (pc := 29) C.1 dX12_begins_29 ?_
    refine p_10_14 (pc := 30) C hW5 hS kr0 q_1397 (by decide : okI 0) dX12_begins_30 (fun S6 H locs e6 hW6 hS => ?_)
    replace h := h S6 e6
    exact m_vret (pc := 33) C.1 C.2.2.2.1 C.2.2.2.2.1 hW6 hS h (by decide) (by decide) dX12_begins_33) sz
section
variable {p : Program} {l : Launch} {e : Env} {s : State} {m : MethodId} {args : Array Value} {below : List Frame} {meth : Method} {c : Code} {g : mG} {b : Nat}
def w_X12_part_159 (N : Nat) (Q : mSt → Int → Prop)  (r0 : Nat) (xs0 : Int) (S : mSt) : Prop :=
  ∀ v1 : Int, v1 = xs0 → ((v1 ≠ (-1) → (0 ≤ v1 ∧ v1 < 8 ∧ Q S (S (r0 + 7) v1))) ∧ (v1 = (-1) → w_X12_wrong N r0 (S r0 12) S (fun (S3 : mSt) => Q S3 0)))
theorem W_X12_part_159 (C : mC p l s m args meth c cX12_part "MoonWashModel" 2 (some FieldType.int) g) (N : Nat) {Q : mSt → Int → Prop}   (r0 : Nat) (kr0 : KM r0 = (0, 10, 0)) (xs0 : Int) (oxs0 : okI xs0) (S : mSt) (H : Heap) (locs : List Loc) (ls : Array Slot) (hl : lv_has ls 2 [(0, .ref (b + r0))]) (hW : mW g b KM S H) (hS : va_S (mA b KM s.heap.size) s.heap H locs) (h : w_X12_part_159 N Q  r0 xs0 S) : W p l e { frames := 6, cells := 0, slots := 0, locals := 173 } s m args below meth c H locs 0 0 (vx_MQ below (mQi g b KM Q (mA b KM s.heap.size)) (mEx g b KM (fun _ _ => False) (mA b KM s.heap.size)) args s 0 0 (mA b KM s.heap.size)) (F0 m 159 ls [.int (mI xs0)]) := by
  unfold w_X12_part_159 at h
  refine m_istore_n (pc := 159) C.1 dX12_part_159 rfl hl (by decide) (fun v => [(1, .int v), (0, .ref (b + r0))]) (fun _ => rfl) oxs0 (fun v1 ls ev1 ov1 hl => ?_)
  replace h := h v1 ev1
  refine m_iload_n (pc := 160) C.1 dX12_part_160 rfl hl 0 rfl ?_
  refine m_iconst (pc := 161) C.1 dX12_part_161 ?_
  refine m_icmp_ne (pc := 162) (tgt := 175) C.1 ov1 (by decide : okI (-1)) dX12_part_162 (by decide) (fun hc => ?_) (fun hc => ?_)
  · replace h := h.1 hc
    refine m_aload_n (pc := 175) C.1 dX12_part_175 rfl hl 1 rfl ?_
    refine g_10_15 (pc := 176) C hW kr0 q_1398 dX12_part_176 ?_
    refine m_iload_n (pc := 179) C.1 dX12_part_179 rfl hl 0 rfl ?_
    obtain ⟨hb2a, hb2b, h⟩ := h
    refine m_iald (pc := 180) C.1 C.2.1 hW (k_10_15 kr0) ov1 hb2a hb2b dX12_part_180 ?_
    exact m_iret (pc := 181) C.1 C.2.2.2.1 C.2.2.2.2.1 hW hS (hW.2.1 _ _) h (by decide) (by decide) dX12_part_181
  · replace h := h.2 hc
    refine m_aload_n (pc := 165) C.1 dX12_part_165 rfl hl 1 rfl ?_
    refine m_aload_n (pc := 166) C.1 dX12_part_166 rfl hl 1 rfl ?_
    refine g_10_12 (pc := 167) C hW kr0 q_1395 dX12_part_167 ?_
    refine m_callVv (pc := 170) C.1 C.2.2.1 hl.1 C.2.1 hW hS (As := [.int (mI (S r0 12))]) (rest := []) (r := r0) (T_X12_wrong C.2.2.2.2.2.2 N r0 kr0 (S r0 12) (hW.2.1 _ _) h) kr0 rfl q_1502 q_1504 q_28 q_92 q_1505 pl_X12_wrong (by decide) (Nat.le_of_ble_eq_true rfl) dX12_part_170 (fun S3 H locs h hW3 hS => ?_)
    refine m_iconst (pc := 173) C.1 dX12_part_173 ?_
    exact m_iret (pc := 174) C.1 C.2.2.2.1 C.2.2.2.2.1 hW3 hS (by decide : okI 0) h (by decide) (by decide) dX12_part_174
def w_X12_part_52 (N : Nat) (Q : mSt → Int → Prop)  (r0 : Nat) (S : mSt) : Prop :=
  w_X12_has_ N r0 11 S (fun (S1 : mSt) (v1 : Int) => ((v1 = 0 → w_X12_has_ N r0 12 S1 (fun (S2 : mSt) (v2 : Int) => ((v2 = 0 → w_X12_has_ N r0 13 S2 (fun (S3 : mSt) (v3 : Int) => ((v3 = 0 → w_X12_has_ N r0 14 S3 (fun (S4 : mSt) (v4 : Int) => ((v4 = 0 → w_X12_has_ N r0 15 S4 (fun (S5 : mSt) (v5 : Int) => ((v5 = 0 → w_X12_has_ N r0 16 S5 (fun (S6 : mSt) (v6 : Int) => ((v6 = 0 → w_X12_has_ N r0 17 S6 (fun (S7 : mSt) (v7 : Int) => ((v7 = 0 → w_X12_has_ N r0 18 S7 (fun (S8 : mSt) (v8 : Int) => ((v8 = 0 → w_X12_part_159 N Q  r0 (-1) S8) ∧ (v8 ≠ 0 → w_X12_part_159 N Q  r0 7 S8)))) ∧ (v7 ≠ 0 → w_X12_part_159 N Q  r0 6 S7)))) ∧ (v6 ≠ 0 → w_X12_part_159 N Q  r0 5 S6)))) ∧ (v5 ≠ 0 → w_X12_part_159 N Q  r0 4 S5)))) ∧ (v4 ≠ 0 → w_X12_part_159 N Q  r0 3 S4)))) ∧ (v3 ≠ 0 → w_X12_part_159 N Q  r0 2 S3)))) ∧ (v2 ≠ 0 → w_X12_part_159 N Q  r0 1 S2)))) ∧ (v1 ≠ 0 → w_X12_part_159 N Q  r0 0 S1)))
theorem W_X12_part_52 (C : mC p l s m args meth c cX12_part "MoonWashModel" 2 (some FieldType.int) g) (N : Nat) {Q : mSt → Int → Prop}   (r0 : Nat) (kr0 : KM r0 = (0, 10, 0)) (S : mSt) (H : Heap) (locs : List Loc) (ls : Array Slot) (hl : lv_has ls 2 [(0, .ref (b + r0))]) (hW : mW g b KM S H) (hS : va_S (mA b KM s.heap.size) s.heap H locs) (h : w_X12_part_52 N Q  r0 S) : W p l e { frames := 6, cells := 0, slots := 0, locals := 173 } s m args below meth c H locs 0 0 (vx_MQ below (mQi g b KM Q (mA b KM s.heap.size)) (mEx g b KM (fun _ _ => False) (mA b KM s.heap.size)) args s 0 0 (mA b KM s.heap.size)) (F0 m 52 ls []) := by
  unfold w_X12_part_52 at h
  refine m_aload_n (pc := 52) C.1 dX12_part_52 rfl hl 0 rfl ?_
  refine m_ldcS (pc := 53) C.1 C.2.1 (index := 139) (j := 11) (tx := "part") (by decide +kernel) dX12_part_53 ?_
  refine m_callVi (pc := 55) C.1 C.2.2.1 hl.1 C.2.1 hW hS (As := [.ref (g.sa 11)]) (rest := []) (r := r0) (T_X12_has_ C.2.2.2.2.2.2 N r0 kr0 11 (by decide : 11 < nJS) h) kr0 rfl q_1511 q_1513 q_30 q_92 q_1514 pl_X12_has_ (by decide) (Nat.le_of_ble_eq_true rfl) dX12_part_55 (fun v1 S1 H locs ov1 h hW1 hS => ?_)
  refine m_if_eq (pc := 58) (tgt := 65) C.1 ov1 dX12_part_58 (by decide) (fun hc => ?_) (fun hc => ?_)
  · replace h := h.1 hc
    refine m_aload_n (pc := 65) C.1 dX12_part_65 rfl hl 0 rfl ?_
    refine m_ldcS (pc := 66) C.1 C.2.1 (index := 126) (j := 12) (tx := "grey") (by decide +kernel) dX12_part_66 ?_
    refine m_callVi (pc := 68) C.1 C.2.2.1 hl.1 C.2.1 hW1 hS (As := [.ref (g.sa 12)]) (rest := []) (r := r0) (T_X12_has_ C.2.2.2.2.2.2 N r0 kr0 12 (by decide : 12 < nJS) h) kr0 rfl q_1511 q_1513 q_30 q_92 q_1514 pl_X12_has_ (by decide) (Nat.le_of_ble_eq_true rfl) dX12_part_68 (fun v2 S2 H locs ov2 h hW2 hS => ?_)
    refine m_if_eq (pc := 71) (tgt := 78) C.1 ov2 dX12_part_71 (by decide) (fun hc => ?_) (fun hc => ?_)
    · replace h := h.1 hc
      refine m_aload_n (pc := 78) C.1 dX12_part_78 rfl hl 0 rfl ?_
      refine m_ldcS (pc := 79) C.1 C.2.1 (index := 128) (j := 13) (tx := "thin") (by decide +kernel) dX12_part_79 ?_
      refine m_callVi (pc := 81) C.1 C.2.2.1 hl.1 C.2.1 hW2 hS (As := [.ref (g.sa 13)]) (rest := []) (r := r0) (T_X12_has_ C.2.2.2.2.2.2 N r0 kr0 13 (by decide : 13 < nJS) h) kr0 rfl q_1511 q_1513 q_30 q_92 q_1514 pl_X12_has_ (by decide) (Nat.le_of_ble_eq_true rfl) dX12_part_81 (fun v3 S3 H locs ov3 h hW3 hS => ?_)
      refine m_if_eq (pc := 84) (tgt := 91) C.1 ov3 dX12_part_84 (by decide) (fun hc => ?_) (fun hc => ?_)
      · replace h := h.1 hc
        refine m_aload_n (pc := 91) C.1 dX12_part_91 rfl hl 0 rfl ?_
        refine m_ldcS (pc := 92) C.1 C.2.1 (index := 190) (j := 14) (tx := "wet") (by decide +kernel) dX12_part_92 ?_
        refine m_callVi (pc := 94) C.1 C.2.2.1 hl.1 C.2.1 hW3 hS (As := [.ref (g.sa 14)]) (rest := []) (r := r0) (T_X12_has_ C.2.2.2.2.2.2 N r0 kr0 14 (by decide : 14 < nJS) h) kr0 rfl q_1511 q_1513 q_30 q_92 q_1514 pl_X12_has_ (by decide) (Nat.le_of_ble_eq_true rfl) dX12_part_94 (fun v4 S4 H locs ov4 h hW4 hS => ?_)
        refine m_if_eq (pc := 97) (tgt := 104) C.1 ov4 dX12_part_97 (by decide) (fun hc => ?_) (fun hc => ?_)
        · replace h := h.1 hc
          refine m_aload_n (pc := 104) C.1 dX12_part_104 rfl hl 0 rfl ?_
          refine m_ldcS (pc := 105) C.1 C.2.1 (index := 130) (j := 15) (tx := "stains") (by decide +kernel) dX12_part_105 ?_
          refine m_callVi (pc := 107) C.1 C.2.2.1 hl.1 C.2.1 hW4 hS (As := [.ref (g.sa 15)]) (rest := []) (r := r0) (T_X12_has_ C.2.2.2.2.2.2 N r0 kr0 15 (by decide : 15 < nJS) h) kr0 rfl q_1511 q_1513 q_30 q_92 q_1514 pl_X12_has_ (by decide) (Nat.le_of_ble_eq_true rfl) dX12_part_107 (fun v5 S5 H locs ov5 h hW5 hS => ?_)
          refine m_if_eq (pc := 110) (tgt := 117) C.1 ov5 dX12_part_110 (by decide) (fun hc => ?_) (fun hc => ?_)
          · replace h := h.1 hc
            refine m_aload_n (pc := 117) C.1 dX12_part_117 rfl hl 0 rfl ?_
            refine m_ldcS (pc := 118) C.1 C.2.1 (index := 144) (j := 16) (tx := "wind") (by decide +kernel) dX12_part_118 ?_
            refine m_callVi (pc := 120) C.1 C.2.2.1 hl.1 C.2.1 hW5 hS (As := [.ref (g.sa 16)]) (rest := []) (r := r0) (T_X12_has_ C.2.2.2.2.2.2 N r0 kr0 16 (by decide : 16 < nJS) h) kr0 rfl q_1511 q_1513 q_30 q_92 q_1514 pl_X12_has_ (by decide) (Nat.le_of_ble_eq_true rfl) dX12_part_120 (fun v6 S6 H locs ov6 h hW6 hS => ?_)
            refine m_if_eq (pc := 123) (tgt := 130) C.1 ov6 dX12_part_123 (by decide) (fun hc => ?_) (fun hc => ?_)
            · replace h := h.1 hc
              refine m_aload_n (pc := 130) C.1 dX12_part_130 rfl hl 0 rfl ?_
              refine m_ldcS (pc := 131) C.1 C.2.1 (index := 192) (j := 17) (tx := "damp") (by decide +kernel) dX12_part_131 ?_
              refine m_callVi (pc := 133) C.1 C.2.2.1 hl.1 C.2.1 hW6 hS (As := [.ref (g.sa 17)]) (rest := []) (r := r0) (T_X12_has_ C.2.2.2.2.2.2 N r0 kr0 17 (by decide : 17 < nJS) h) kr0 rfl q_1511 q_1513 q_30 q_92 q_1514 pl_X12_has_ (by decide) (Nat.le_of_ble_eq_true rfl) dX12_part_133 (fun v7 S7 H locs ov7 h hW7 hS => ?_)
              refine m_if_eq (pc := 136) (tgt := 144) C.1 ov7 dX12_part_136 (by decide) (fun hc => ?_) (fun hc => ?_)
              · replace h := h.1 hc
                refine m_aload_n (pc := 144) C.1 dX12_part_144 rfl hl 0 rfl ?_
                refine m_ldcS (pc := 145) C.1 C.2.1 (index := 194) (j := 18) (tx := "night") (by decide +kernel) dX12_part_145 ?_
                refine m_callVi (pc := 147) C.1 C.2.2.1 hl.1 C.2.1 hW7 hS (As := [.ref (g.sa 18)]) (rest := []) (r := r0) (T_X12_has_ C.2.2.2.2.2.2 N r0 kr0 18 (by decide : 18 < nJS) h) kr0 rfl q_1511 q_1513 q_30 q_92 q_1514 pl_X12_has_ (by decide) (Nat.le_of_ble_eq_true rfl) dX12_part_147 (fun v8 S8 H locs ov8 h hW8 hS => ?_)
                refine m_if_eq (pc := 150) (tgt := 158) C.1 ov8 dX12_part_150 (by decide) (fun hc => ?_) (fun hc => ?_)
                · replace h := h.1 hc
                  refine m_iconst (pc := 158) C.1 dX12_part_158 ?_
                  exact W_X12_part_159 C N  r0 kr0 (-1) (by decide : okI (-1)) S8 _ _ _ (lv_sub hl [0] rfl) hW8 hS h
                · replace h := h.2 hc
                  refine m_bipush (pc := 153) C.1 dX12_part_153 rfl ?_
                  refine m_goto (pc := 155) (tgt := 159) C.1 dX12_part_155 (by decide) ?_
                  exact W_X12_part_159 C N  r0 kr0 7 (by decide : okI 7) S8 _ _ _ (lv_sub hl [0] rfl) hW8 hS h
              · replace h := h.2 hc
                refine m_bipush (pc := 139) C.1 dX12_part_139 rfl ?_
                refine m_goto (pc := 141) (tgt := 159) C.1 dX12_part_141 (by decide) ?_
                exact W_X12_part_159 C N  r0 kr0 6 (by decide : okI 6) S7 _ _ _ (lv_sub hl [0] rfl) hW7 hS h
            · replace h := h.2 hc
              refine m_iconst (pc := 126) C.1 dX12_part_126 ?_
              refine m_goto (pc := 127) (tgt := 159) C.1 dX12_part_127 (by decide) ?_
              exact W_X12_part_159 C N  r0 kr0 5 (by decide : okI 5) S6 _ _ _ (lv_sub hl [0] rfl) hW6 hS h
          · replace h := h.2 hc
            refine m_iconst (pc := 113) C.1 dX12_part_113 ?_
            refine m_goto (pc := 114) (tgt := 159) C.1 dX12_part_114 (by decide) ?_
            exact W_X12_part_159 C N  r0 kr0 4 (by decide : okI 4) S5 _ _ _ (lv_sub hl [0] rfl) hW5 hS h
        · replace h := h.2 hc
          refine m_iconst (pc := 100) C.1 dX12_part_100 ?_
          refine m_goto (pc := 101) (tgt := 159) C.1 dX12_part_101 (by decide) ?_
          exact W_X12_part_159 C N  r0 kr0 3 (by decide : okI 3) S4 _ _ _ (lv_sub hl [0] rfl) hW4 hS h
      · replace h := h.2 hc
        refine m_iconst (pc := 87) C.1 dX12_part_87 ?_
        refine m_goto (pc := 88) (tgt := 159) C.1 dX12_part_88 (by decide) ?_
        exact W_X12_part_159 C N  r0 kr0 2 (by decide : okI 2) S3 _ _ _ (lv_sub hl [0] rfl) hW3 hS h
    · replace h := h.2 hc
      refine m_iconst (pc := 74) C.1 dX12_part_74 ?_
      refine m_goto (pc := 75) (tgt := 159) C.1 dX12_part_75 (by decide) ?_
      exact W_X12_part_159 C N  r0 kr0 1 (by decide : okI 1) S2 _ _ _ (lv_sub hl [0] rfl) hW2 hS h
  · replace h := h.2 hc
    refine m_iconst (pc := 61) C.1 dX12_part_61 ?_
    refine m_goto (pc := 62) (tgt := 159) C.1 dX12_part_62 (by decide) ?_
    exact W_X12_part_159 C N  r0 kr0 0 (by decide : okI 0) S1 _ _ _ (lv_sub hl [0] rfl) hW1 hS h
end
def w_X12_part (N : Nat) (r0 : Nat) (S : mSt) (Q : mSt → Int → Prop) : Prop :=
  (((S r0 13) = (-1) → w_X12_skip N r0 S (fun (S1 : mSt) => (((S1 r0 11) ≤ (S1 r0 12) → w_X12_part_52 N Q  r0 S1) ∧ ((S1 r0 12) < (S1 r0 11) → w_X12_letter N r0 (S1 r0 12) S1 (fun (S2 : mSt) (v2 : Int) => w_X12_isIn N v2 48 57 S2 (fun (S3 : mSt) (v3 : Int) => ((v3 = 0 → w_X12_part_52 N Q  r0 S3) ∧ (v3 ≠ 0 → w_X12_figures N r0 0 999 S3 (fun (S4 : mSt) (v4 : Int) => Q S4 v4))))))))) ∧ ((S r0 13) ≠ (-1) → Q S 0))
theorem T_X12_part {l : Launch} (hl0 : l.stackTraces = false) {g : mG} {b : Nat} (N : Nat) (r0 : Nat) (kr0 : KM r0 = (0, 10, 0)) {S : mSt} {Q : mSt → Int → Prop} (h : w_X12_part N r0 S Q) (sz : Nat) : vx_Met l yX12_part (Cond.code yX12_part cX12_part 2 (some FieldType.int) :: wsG) { frames := 6, cells := 0, slots := 0, locals := 173 } (mPc g b KM S [.ref (b + r0)] sz) (mQi g b KM Q (mA b KM sz)) (mEx g b KM (fun _ _ => False) (mA b KM sz)) 0 0 (mA b KM sz) :=
  m_of (av := [.ref (b + r0)]) (Qf := fun A => mQi g b KM Q A) (Xf := fun A => mEx g b KM (fun _ _ => False) A) (by decide) (Nat.le_of_ble_eq_true rfl) (fun p e s m args below meth c ls X hK hml hr hlk hout hnm hW hl => by
    have C : mC p l s m args meth c cX12_part "MoonWashModel" 2 (some FieldType.int) g := ⟨X, hK, hml, hr, hlk, hout, hl0⟩
    have hS : va_S (mA b KM s.heap.size) s.heap s.heap [] := va_S.rf
    have hl : lv_has ls 2 [(0, .ref (b + r0))] := hl
    unfold w_X12_part at h
    refine m_aload_n (pc := 0) C.1 dX12_part_0 rfl hl 0 rfl ?_
    refine g_10_13 (pc := 1) C hW kr0 q_1396 dX12_part_1 ?_
    refine m_iconst (pc := 4) C.1 dX12_part_4 ?_
    refine m_icmp_eq (pc := 5) (tgt := 10) C.1 (hW.2.1 _ _) (by decide : okI (-1)) dX12_part_5 (by decide) (fun hc => ?_) (fun hc => ?_)
    · replace h := h.1 hc
      refine m_aload_n (pc := 10) C.1 dX12_part_10 rfl hl 0 rfl ?_
      refine m_callVv (pc := 11) C.1 C.2.2.1 hl.1 C.2.1 hW hS (As := []) (rest := []) (r := r0) (T_X12_skip C.2.2.2.2.2.2 N r0 kr0 h) kr0 rfl q_1494 q_1496 q_26 q_92 q_1497 pl_X12_skip (by decide) (Nat.le_of_ble_eq_true rfl) dX12_part_11 (fun S1 H locs h hW1 hS => ?_)
      refine m_aload_n (pc := 14) C.1 dX12_part_14 rfl hl 0 rfl ?_
      refine g_10_12 (pc := 15) C hW1 kr0 q_1395 dX12_part_15 ?_
      refine m_aload_n (pc := 18) C.1 dX12_part_18 rfl hl 0 rfl ?_
      refine g_10_11 (pc := 19) C hW1 kr0 q_1394 dX12_part_19 ?_
      refine m_icmp_ge (pc := 22) (tgt := 52) C.1 (hW1.2.1 _ _) (hW1.2.1 _ _) dX12_part_22 (by decide) (fun hc => ?_) (fun hc => ?_)
      · replace h := h.1 hc
        exact W_X12_part_52 C N  r0 kr0 S1 _ _ _ (lv_sub hl [0] rfl) hW1 hS h
      · replace h := h.2 hc
        refine m_aload_n (pc := 25) C.1 dX12_part_25 rfl hl 0 rfl ?_
        refine m_aload_n (pc := 26) C.1 dX12_part_26 rfl hl 0 rfl ?_
        refine g_10_12 (pc := 27) C hW1 kr0 q_1395 dX12_part_27 ?_
        refine m_callVi (pc := 30) C.1 C.2.2.1 hl.1 C.2.1 hW1 hS (As := [.int (mI (S1 r0 12))]) (rest := []) (r := r0) (T_X12_letter C.2.2.2.2.2.2 N r0 kr0 (S1 r0 12) (hW1.2.1 _ _) h) kr0 rfl q_1498 q_1500 q_27 q_92 q_1501 pl_X12_letter (by decide) (Nat.le_of_ble_eq_true rfl) dX12_part_30 (fun v2 S2 H locs ov2 h hW2 hS => ?_)
        refine m_bipush (pc := 33) C.1 dX12_part_33 rfl ?_
        refine m_bipush (pc := 35) C.1 dX12_part_35 rfl ?_
        refine m_callSi (pc := 37) C.1 C.2.2.1 hl.1 C.2.1 hW2 hS (As := [.int (mI v2), .int (mI 48), .int (mI 57)]) (rest := []) (T_X12_isIn C.2.2.2.2.2.2 N v2 ov2 48 (by decide : okI 48) 57 (by decide : okI 57) h) q_1475 q_1476 q_92 q_1477 pl_X12_isIn (by decide) (Nat.le_of_ble_eq_true rfl) dX12_part_37 (fun v3 S3 H locs ov3 h hW3 hS => ?_)
        refine m_if_eq (pc := 40) (tgt := 52) C.1 ov3 dX12_part_40 (by decide) (fun hc => ?_) (fun hc => ?_)
        · replace h := h.1 hc
          exact W_X12_part_52 C N  r0 kr0 S3 _ _ _ (lv_sub hl [0] rfl) hW3 hS h
        · replace h := h.2 hc
          refine m_aload_n (pc := 43) C.1 dX12_part_43 rfl hl 0 rfl ?_
          refine m_iconst (pc := 44) C.1 dX12_part_44 ?_
          refine m_sipush (pc := 45) C.1 dX12_part_45 rfl ?_
          refine m_callVi (pc := 48) C.1 C.2.2.1 hl.1 C.2.1 hW3 hS (As := [.int (mI 0), .int (mI 999)]) (rest := []) (r := r0) (T_X12_figures C.2.2.2.2.2.2 N r0 kr0 0 (by decide : okI 0) 999 (by decide : okI 999) h) kr0 rfl q_1520 q_1522 q_31 q_92 q_1523 pl_X12_figures (by decide) (Nat.le_of_ble_eq_true rfl) dX12_part_48 (fun v4 S4 H locs ov4 h hW4 hS => ?_)
          exact m_iret (pc := 51) C.1 C.2.2.2.1 C.2.2.2.2.1 hW4 hS ov4 h (by decide) (by decide) dX12_part_51
    · replace h := h.2 hc
      refine m_iconst (pc := 8) C.1 dX12_part_8 ?_
      exact m_iret (pc := 9) C.1 C.2.2.2.1 C.2.2.2.2.1 hW hS (by decide : okI 0) h (by decide) (by decide) dX12_part_9) sz
section
variable {p : Program} {l : Launch} {e : Env} {s : State} {m : MethodId} {args : Array Value} {below : List Frame} {meth : Method} {c : Code} {g : mG} {b : Nat}
def w_X12_sum_5b (N : Nat) (Q : mSt → Int → Prop) (ko5 : Nat → Int → mSt → Prop) (ko42 : Int → mSt → Prop) (r0 : Nat) (x1 : Int) (S : mSt) : Prop :=
  (((S r0 13) ≠ (-1) → ko42 x1 S) ∧ ((S r0 13) = (-1) → w_X12_isSign N r0 43 S (fun (S1 : mSt) (v1 : Int) => ((v1 = 0 → ko42 x1 S1) ∧ (v1 ≠ 0 → ∀ S2 : mSt, S2 = mup S1 r0 12 (nm ((S1 r0 12) + 1)) → w_X12_part N r0 S2 (fun (S3 : mSt) (v3 : Int) => ∀ v4 : Int, v4 = (nm (x1 + v3)) → ko5 r0 v4 S3))))))
theorem W_X12_sum_5b (C : mC p l s m args meth c cX12_sum "MoonWashModel" 2 (some FieldType.int) g) (N : Nat) {Q : mSt → Int → Prop} {ko5 : Nat → Int → mSt → Prop} {ko42 : Int → mSt → Prop} (hko5 : ∀ (r0 : Nat) (kr0 : KM r0 = (0, 10, 0)) (x1 : Int) (ox1 : okI x1) (S : mSt) (H : Heap) (locs : List Loc) (ls : Array Slot), lv_has ls 2 [(0, .ref (b + r0)), (1, .int (mI x1))] → mW g b KM S H → va_S (mA b KM s.heap.size) s.heap H locs → ko5 r0 x1 S → W p l e { frames := 7, cells := 0, slots := 0, locals := 194 } s m args below meth c H locs 0 0 (vx_MQ below (mQi g b KM Q (mA b KM s.heap.size)) (mEx g b KM (fun _ _ => False) (mA b KM s.heap.size)) args s 0 0 (mA b KM s.heap.size)) (F0 m 5 ls [])) (hko42 : ∀ (x1 : Int) (ox1 : okI x1) (S : mSt) (H : Heap) (locs : List Loc) (ls : Array Slot), lv_has ls 2 [(1, .int (mI x1))] → mW g b KM S H → va_S (mA b KM s.heap.size) s.heap H locs → ko42 x1 S → W p l e { frames := 7, cells := 0, slots := 0, locals := 194 } s m args below meth c H locs 0 0 (vx_MQ below (mQi g b KM Q (mA b KM s.heap.size)) (mEx g b KM (fun _ _ => False) (mA b KM s.heap.size)) args s 0 0 (mA b KM s.heap.size)) (F0 m 42 ls [])) (r0 : Nat) (kr0 : KM r0 = (0, 10, 0)) (x1 : Int) (ox1 : okI x1) (S : mSt) (H : Heap) (locs : List Loc) (ls : Array Slot) (hl : lv_has ls 2 [(0, .ref (b + r0)), (1, .int (mI x1))]) (hW : mW g b KM S H) (hS : va_S (mA b KM s.heap.size) s.heap H locs) (h : w_X12_sum_5b N Q ko5 ko42 r0 x1 S) : W p l e { frames := 7, cells := 0, slots := 0, locals := 194 } s m args below meth c H locs 0 0 (vx_MQ below (mQi g b KM Q (mA b KM s.heap.size)) (mEx g b KM (fun _ _ => False) (mA b KM s.heap.size)) args s 0 0 (mA b KM s.heap.size)) (F0 m 5 ls []) := by
  unfold w_X12_sum_5b at h
  refine m_aload_n (pc := 5) C.1 dX12_sum_5 rfl hl 0 rfl ?_
  refine g_10_13 (pc := 6) C hW kr0 q_1396 dX12_sum_6 ?_
  refine m_iconst (pc := 9) C.1 dX12_sum_9 ?_
  refine m_icmp_ne (pc := 10) (tgt := 42) C.1 (hW.2.1 _ _) (by decide : okI (-1)) dX12_sum_10 (by decide) (fun hc => ?_) (fun hc => ?_)
  · replace h := h.1 hc
    exact hko42 x1 ox1 S _ _ _ (lv_sub hl [1] rfl) hW hS h
  · replace h := h.2 hc
    refine m_aload_n (pc := 13) C.1 dX12_sum_13 rfl hl 0 rfl ?_
    refine m_bipush (pc := 14) C.1 dX12_sum_14 rfl ?_
    refine m_callVi (pc := 16) C.1 C.2.2.1 hl.1 C.2.1 hW hS (As := [.int (mI 43)]) (rest := []) (r := r0) (T_X12_isSign C.2.2.2.2.2.2 N r0 kr0 43 (by decide : okI 43) h) kr0 rfl q_1542 q_1544 q_36 q_92 q_1545 pl_X12_isSign (by decide) (Nat.le_of_ble_eq_true rfl) dX12_sum_16 (fun v1 S1 H locs ov1 h hW1 hS => ?_)
    refine m_if_eq (pc := 19) (tgt := 42) C.1 ov1 dX12_sum_19 (by decide) (fun hc => ?_) (fun hc => ?_)
    · replace h := h.1 hc
      exact hko42 x1 ox1 S1 _ _ _ (lv_sub hl [1] rfl) hW1 hS h
    · replace h := h.2 hc
      refine m_aload_n (pc := 22) C.1 dX12_sum_22 rfl hl 0 rfl ?_
      refine lv_dup (pc := 23) C.1.1 C.1.2.1 dX12_sum_23 rfl ?_
      refine g_10_12 (pc := 24) C hW1 kr0 q_1395 dX12_sum_24 ?_
      refine m_iconst (pc := 27) C.1 dX12_sum_27 ?_
      refine m_iadd (pc := 28) C.1 dX12_sum_28 ?_
      refine p_10_12 (pc := 29) C hW1 hS kr0 q_1395 (nm_ok _) dX12_sum_29 (fun S2 H locs e2 hW2 hS => ?_)
      replace h := h S2 e2
      refine m_iload_n (pc := 32) C.1 dX12_sum_32 rfl hl 1 rfl ?_
      refine m_aload_n (pc := 33) C.1 dX12_sum_33 rfl hl 0 rfl ?_
      refine m_callVi (pc := 34) C.1 C.2.2.1 hl.1 C.2.1 hW2 hS (As := []) (rest := [.int (mI x1)]) (r := r0) (T_X12_part C.2.2.2.2.2.2 N r0 kr0 h) kr0 rfl q_1556 q_1558 q_39 q_92 q_1559 pl_X12_part (by decide) (Nat.le_of_ble_eq_true rfl) dX12_sum_34 (fun v3 S3 H locs ov3 h hW3 hS => ?_)
      refine m_iadd (pc := 37) C.1 dX12_sum_37 ?_
      refine m_istore_n (pc := 38) C.1 dX12_sum_38 rfl hl (by decide) (fun v => [(1, .int v), (0, .ref (b + r0))]) (fun _ => rfl) (nm_ok _) (fun v4 ls ev4 ov4 hl => ?_)
      replace h := h v4 ev4
      refine m_goto (pc := 39) (tgt := 5) C.1 dX12_sum_39 (by decide) ?_
      exact hko5 r0 kr0 v4 ov4 S3 _ _ _ (lv_sub hl [1, 0] rfl) hW3 hS h
def w_X12_sum_5 (N : Nat) (Q : mSt → Int → Prop) (ko42 : Int → mSt → Prop) : Nat → Nat → Int → mSt → Prop
  | 0 => fun _ _ _ => False
  | k + 1 => w_X12_sum_5b N Q (w_X12_sum_5 N Q ko42 k) ko42
theorem W_X12_sum_5 (C : mC p l s m args meth c cX12_sum "MoonWashModel" 2 (some FieldType.int) g) (N : Nat) {Q : mSt → Int → Prop} {ko42 : Int → mSt → Prop} (hko42 : ∀ (x1 : Int) (ox1 : okI x1) (S : mSt) (H : Heap) (locs : List Loc) (ls : Array Slot), lv_has ls 2 [(1, .int (mI x1))] → mW g b KM S H → va_S (mA b KM s.heap.size) s.heap H locs → ko42 x1 S → W p l e { frames := 7, cells := 0, slots := 0, locals := 194 } s m args below meth c H locs 0 0 (vx_MQ below (mQi g b KM Q (mA b KM s.heap.size)) (mEx g b KM (fun _ _ => False) (mA b KM s.heap.size)) args s 0 0 (mA b KM s.heap.size)) (F0 m 42 ls [])) : ∀ (k : Nat) (r0 : Nat) (kr0 : KM r0 = (0, 10, 0)) (x1 : Int) (ox1 : okI x1) (S : mSt) (H : Heap) (locs : List Loc) (ls : Array Slot) (hl : lv_has ls 2 [(0, .ref (b + r0)), (1, .int (mI x1))]) (hW : mW g b KM S H) (hS : va_S (mA b KM s.heap.size) s.heap H locs) (h : w_X12_sum_5 N Q ko42 k r0 x1 S), W p l e { frames := 7, cells := 0, slots := 0, locals := 194 } s m args below meth c H locs 0 0 (vx_MQ below (mQi g b KM Q (mA b KM s.heap.size)) (mEx g b KM (fun _ _ => False) (mA b KM s.heap.size)) args s 0 0 (mA b KM s.heap.size)) (F0 m 5 ls []) := by
  intro k
  induction k with
  | zero => intro r0 kr0 x1 ox1 S H locs ls hl hW hS h; exact False.elim h
  | succ k ih => intro r0 kr0 x1 ox1 S H locs ls hl hW hS h; exact W_X12_sum_5b C N ih hko42 r0 kr0 x1 ox1 S H locs ls hl hW hS h
end
def w_X12_sum (N : Nat) (r0 : Nat) (S : mSt) (Q : mSt → Int → Prop) : Prop :=
  w_X12_part N r0 S (fun (S1 : mSt) (v1 : Int) => ∀ v2 : Int, v2 = v1 → w_X12_sum_5 N Q (fun (x1_3 : Int) (S_3 : mSt) => Q S_3 x1_3) N r0 v2 S1)
theorem T_X12_sum {l : Launch} (hl0 : l.stackTraces = false) {g : mG} {b : Nat} (N : Nat) (r0 : Nat) (kr0 : KM r0 = (0, 10, 0)) {S : mSt} {Q : mSt → Int → Prop} (h : w_X12_sum N r0 S Q) (sz : Nat) : vx_Met l yX12_sum (Cond.code yX12_sum cX12_sum 2 (some FieldType.int) :: wsG) { frames := 7, cells := 0, slots := 0, locals := 194 } (mPc g b KM S [.ref (b + r0)] sz) (mQi g b KM Q (mA b KM sz)) (mEx g b KM (fun _ _ => False) (mA b KM sz)) 0 0 (mA b KM sz) :=
  m_of (av := [.ref (b + r0)]) (Qf := fun A => mQi g b KM Q A) (Xf := fun A => mEx g b KM (fun _ _ => False) A) (by decide) (Nat.le_of_ble_eq_true rfl) (fun p e s m args below meth c ls X hK hml hr hlk hout hnm hW hl => by
    have C : mC p l s m args meth c cX12_sum "MoonWashModel" 2 (some FieldType.int) g := ⟨X, hK, hml, hr, hlk, hout, hl0⟩
    have hS : va_S (mA b KM s.heap.size) s.heap s.heap [] := va_S.rf
    have hl : lv_has ls 2 [(0, .ref (b + r0))] := hl
    unfold w_X12_sum at h
    refine m_aload_n (pc := 0) C.1 dX12_sum_0 rfl hl 0 rfl ?_
    refine m_callVi (pc := 1) C.1 C.2.2.1 hl.1 C.2.1 hW hS (As := []) (rest := []) (r := r0) (T_X12_part C.2.2.2.2.2.2 N r0 kr0 h) kr0 rfl q_1556 q_1558 q_39 q_92 q_1559 pl_X12_part (by decide) (Nat.le_of_ble_eq_true rfl) dX12_sum_1 (fun v1 S1 H locs ov1 h hW1 hS => ?_)
    refine m_istore_n (pc := 4) C.1 dX12_sum_4 rfl hl (by decide) (fun v => [(1, .int v), (0, .ref (b + r0))]) (fun _ => rfl) ov1 (fun v2 ls ev2 ov2 hl => ?_)
    replace h := h v2 ev2
    refine W_X12_sum_5 C N ?_ N r0 kr0 v2 ov2 S1 _ _ _ (lv_sub hl [1, 0] rfl) hW1 hS h
    · intro x1_3 ox1_3 S_3 H locs ls hl hW_3 hS h
      refine m_iload_n (pc := 42) C.1 dX12_sum_42 rfl hl 0 rfl ?_
      exact m_iret (pc := 43) C.1 C.2.2.2.1 C.2.2.2.2.1 hW_3 hS ox1_3 h (by decide) (by decide) dX12_sum_43) sz
section
variable {p : Program} {l : Launch} {e : Env} {s : State} {m : MethodId} {args : Array Value} {below : List Frame} {meth : Method} {c : Code} {g : mG} {b : Nat}
def w_X12_plain_73 (N : Nat) (Q : mSt → Int → Prop)  (r0 : Nat) (x1 : Int) (x2 : Int) (S : mSt) : Prop :=
  ∀ S1 : mSt, S1 = mup S r0 12 (nm ((S r0 12) + 1)) → w_X12_sum N r0 S1 (fun (S2 : mSt) (v2 : Int) => ∀ v3 : Int, v3 = v2 → ((x2 = 0 → ((x1 ≤ v3 → Q S2 0) ∧ (v3 < x1 → Q S2 1))) ∧ (x2 ≠ 0 → ((v3 ≤ x1 → Q S2 0) ∧ (x1 < v3 → Q S2 1)))))
theorem W_X12_plain_73 (C : mC p l s m args meth c cX12_plain "MoonWashModel" 4 (some FieldType.boolean) g) (N : Nat) {Q : mSt → Int → Prop}   (r0 : Nat) (kr0 : KM r0 = (0, 10, 0)) (x1 : Int) (ox1 : okI x1) (x2 : Int) (ox2 : okI x2) (S : mSt) (H : Heap) (locs : List Loc) (ls : Array Slot) (hl : lv_has ls 4 [(0, .ref (b + r0)), (1, .int (mI x1)), (2, .int (mI x2))]) (hW : mW g b KM S H) (hS : va_S (mA b KM s.heap.size) s.heap H locs) (h : w_X12_plain_73 N Q  r0 x1 x2 S) : W p l e { frames := 8, cells := 0, slots := 0, locals := 215 } s m args below meth c H locs 0 0 (vx_MQ below (mQi g b KM Q (mA b KM s.heap.size)) (mEx g b KM (fun _ _ => False) (mA b KM s.heap.size)) args s 0 0 (mA b KM s.heap.size)) (F0 m 73 ls []) := by
  unfold w_X12_plain_73 at h
  refine m_aload_n (pc := 73) C.1 dX12_plain_73 rfl hl 0 rfl ?_
  refine lv_dup (pc := 74) C.1.1 C.1.2.1 dX12_plain_74 rfl ?_
  refine g_10_12 (pc := 75) C hW kr0 q_1395 dX12_plain_75 ?_
  refine m_iconst (pc := 78) C.1 dX12_plain_78 ?_
  refine m_iadd (pc := 79) C.1 dX12_plain_79 ?_
  refine p_10_12 (pc := 80) C hW hS kr0 q_1395 (nm_ok _) dX12_plain_80 (fun S1 H locs e1 hW1 hS => ?_)
  replace h := h S1 e1
  refine m_aload_n (pc := 83) C.1 dX12_plain_83 rfl hl 0 rfl ?_
  refine m_callVi (pc := 84) C.1 C.2.2.1 hl.1 C.2.1 hW1 hS (As := []) (rest := []) (r := r0) (T_X12_sum C.2.2.2.2.2.2 N r0 kr0 h) kr0 rfl q_1552 q_1554 q_38 q_92 q_1555 pl_X12_sum (by decide) (Nat.le_of_ble_eq_true rfl) dX12_plain_84 (fun v2 S2 H locs ov2 h hW2 hS => ?_)
  refine m_istore_n (pc := 87) C.1 dX12_plain_87 rfl hl (by decide) (fun v => [(3, .int v), (0, .ref (b + r0)), (1, .int (mI x1)), (2, .int (mI x2))]) (fun _ => rfl) ov2 (fun v3 ls ev3 ov3 hl => ?_)
  replace h := h v3 ev3
  refine m_iload_n (pc := 88) C.1 dX12_plain_88 rfl hl 3 rfl ?_
  refine m_if_eq (pc := 89) (tgt := 105) C.1 ox2 dX12_plain_89 (by decide) (fun hc => ?_) (fun hc => ?_)
  · replace h := h.1 hc
    refine m_iload_n (pc := 105) C.1 dX12_plain_105 rfl hl 2 rfl ?_
    refine m_iload_n (pc := 106) C.1 dX12_plain_106 rfl hl 0 rfl ?_
    refine m_icmp_le (pc := 107) (tgt := 114) C.1 ox1 ov3 dX12_plain_107 (by decide) (fun hc => ?_) (fun hc => ?_)
    · replace h := h.1 hc
      refine m_iconst (pc := 114) C.1 dX12_plain_114 ?_
      exact m_zret (pc := 115) C.1 C.2.2.2.1 C.2.2.2.2.1 hW2 hS (by decide) h (by decide) (by decide) dX12_plain_115
    · replace h := h.2 hc
      refine m_iconst (pc := 110) C.1 dX12_plain_110 ?_
      refine m_goto (pc := 111) (tgt := 115) C.1 dX12_plain_111 (by decide) ?_
      exact m_zret (pc := 115) C.1 C.2.2.2.1 C.2.2.2.2.1 hW2 hS (by decide) h (by decide) (by decide) dX12_plain_115
  · replace h := h.2 hc
    refine m_iload_n (pc := 92) C.1 dX12_plain_92 rfl hl 2 rfl ?_
    refine m_iload_n (pc := 93) C.1 dX12_plain_93 rfl hl 0 rfl ?_
    refine m_icmp_ge (pc := 94) (tgt := 101) C.1 ox1 ov3 dX12_plain_94 (by decide) (fun hc => ?_) (fun hc => ?_)
    · replace h := h.1 hc
      refine m_iconst (pc := 101) C.1 dX12_plain_101 ?_
      refine m_goto (pc := 102) (tgt := 115) C.1 dX12_plain_102 (by decide) ?_
      exact m_zret (pc := 115) C.1 C.2.2.2.1 C.2.2.2.2.1 hW2 hS (by decide) h (by decide) (by decide) dX12_plain_115
    · replace h := h.2 hc
      refine m_iconst (pc := 97) C.1 dX12_plain_97 ?_
      refine m_goto (pc := 98) (tgt := 115) C.1 dX12_plain_98 (by decide) ?_
      exact m_zret (pc := 115) C.1 C.2.2.2.1 C.2.2.2.2.1 hW2 hS (by decide) h (by decide) (by decide) dX12_plain_115
end
def w_X12_plain (N : Nat) (r0 : Nat) (S : mSt) (Q : mSt → Int → Prop) : Prop :=
  w_X12_has_ N r0 32 S (fun (S1 : mSt) (v1 : Int) => ((v1 = 0 → w_X12_has_ N r0 33 S1 (fun (S2 : mSt) (v2 : Int) => ((v2 = 0 → w_X12_sum N r0 S2 (fun (S3 : mSt) (v3 : Int) => ∀ v4 : Int, v4 = v3 → (((S3 r0 13) = (-1) → w_X12_isSign N r0 60 S3 (fun (S5 : mSt) (v5 : Int) => ∀ v6 : Int, v6 = v5 → ((v6 ≠ 0 → w_X12_plain_73 N Q  r0 v4 v6 S5) ∧ (v6 = 0 → w_X12_isSign N r0 62 S5 (fun (S7 : mSt) (v7 : Int) => ((v7 ≠ 0 → w_X12_plain_73 N Q  r0 v4 v6 S7) ∧ (v7 = 0 → w_X12_wrong N r0 (S7 r0 12) S7 (fun (S8 : mSt) => Q S8 0)))))))) ∧ ((S3 r0 13) ≠ (-1) → Q S3 0)))) ∧ (v2 ≠ 0 → (((S2 r0 17) = 0 ∨ (S2 r0 17) = 1) ∧ Q S2 (S2 r0 17)))))) ∧ (v1 ≠ 0 → (((S1 r0 16) = 0 ∨ (S1 r0 16) = 1) ∧ Q S1 (S1 r0 16)))))
theorem T_X12_plain {l : Launch} (hl0 : l.stackTraces = false) {g : mG} {b : Nat} (N : Nat) (r0 : Nat) (kr0 : KM r0 = (0, 10, 0)) {S : mSt} {Q : mSt → Int → Prop} (h : w_X12_plain N r0 S Q) (sz : Nat) : vx_Met l yX12_plain (Cond.code yX12_plain cX12_plain 4 (some FieldType.boolean) :: wsG) { frames := 8, cells := 0, slots := 0, locals := 215 } (mPc g b KM S [.ref (b + r0)] sz) (mQi g b KM Q (mA b KM sz)) (mEx g b KM (fun _ _ => False) (mA b KM sz)) 0 0 (mA b KM sz) :=
  m_of (av := [.ref (b + r0)]) (Qf := fun A => mQi g b KM Q A) (Xf := fun A => mEx g b KM (fun _ _ => False) A) (by decide) (Nat.le_of_ble_eq_true rfl) (fun p e s m args below meth c ls X hK hml hr hlk hout hnm hW hl => by
    have C : mC p l s m args meth c cX12_plain "MoonWashModel" 4 (some FieldType.boolean) g := ⟨X, hK, hml, hr, hlk, hout, hl0⟩
    have hS : va_S (mA b KM s.heap.size) s.heap s.heap [] := va_S.rf
    have hl : lv_has ls 4 [(0, .ref (b + r0))] := hl
    unfold w_X12_plain at h
    refine m_aload_n (pc := 0) C.1 dX12_plain_0 rfl hl 0 rfl ?_
    refine m_ldcS (pc := 1) C.1 C.2.1 (index := 198) (j := 32) (tx := "full") (by decide +kernel) dX12_plain_1 ?_
    refine m_callVi (pc := 3) C.1 C.2.2.1 hl.1 C.2.1 hW hS (As := [.ref (g.sa 32)]) (rest := []) (r := r0) (T_X12_has_ C.2.2.2.2.2.2 N r0 kr0 32 (by decide : 32 < nJS) h) kr0 rfl q_1511 q_1513 q_30 q_92 q_1514 pl_X12_has_ (by decide) (Nat.le_of_ble_eq_true rfl) dX12_plain_3 (fun v1 S1 H locs ov1 h hW1 hS => ?_)
    refine m_if_eq (pc := 6) (tgt := 14) C.1 ov1 dX12_plain_6 (by decide) (fun hc => ?_) (fun hc => ?_)
    · replace h := h.1 hc
      refine m_aload_n (pc := 14) C.1 dX12_plain_14 rfl hl 0 rfl ?_
      refine m_ldcS (pc := 15) C.1 C.2.1 (index := 204) (j := 33) (tx := "hung") (by decide +kernel) dX12_plain_15 ?_
      refine m_callVi (pc := 17) C.1 C.2.2.1 hl.1 C.2.1 hW1 hS (As := [.ref (g.sa 33)]) (rest := []) (r := r0) (T_X12_has_ C.2.2.2.2.2.2 N r0 kr0 33 (by decide : 33 < nJS) h) kr0 rfl q_1511 q_1513 q_30 q_92 q_1514 pl_X12_has_ (by decide) (Nat.le_of_ble_eq_true rfl) dX12_plain_17 (fun v2 S2 H locs ov2 h hW2 hS => ?_)
      refine m_if_eq (pc := 20) (tgt := 28) C.1 ov2 dX12_plain_20 (by decide) (fun hc => ?_) (fun hc => ?_)
      · replace h := h.1 hc
        refine m_aload_n (pc := 28) C.1 dX12_plain_28 rfl hl 0 rfl ?_
        refine m_callVi (pc := 29) C.1 C.2.2.1 hl.1 C.2.1 hW2 hS (As := []) (rest := []) (r := r0) (T_X12_sum C.2.2.2.2.2.2 N r0 kr0 h) kr0 rfl q_1552 q_1554 q_38 q_92 q_1555 pl_X12_sum (by decide) (Nat.le_of_ble_eq_true rfl) dX12_plain_29 (fun v3 S3 H locs ov3 h hW3 hS => ?_)
        refine m_istore_n (pc := 32) C.1 dX12_plain_32 rfl hl (by decide) (fun v => [(1, .int v), (0, .ref (b + r0))]) (fun _ => rfl) ov3 (fun v4 ls ev4 ov4 hl => ?_)
        replace h := h v4 ev4
        refine m_aload_n (pc := 33) C.1 dX12_plain_33 rfl hl 1 rfl ?_
        refine g_10_13 (pc := 34) C hW3 kr0 q_1396 dX12_plain_34 ?_
        refine m_iconst (pc := 37) C.1 dX12_plain_37 ?_
        refine m_icmp_eq (pc := 38) (tgt := 43) C.1 (hW3.2.1 _ _) (by decide : okI (-1)) dX12_plain_38 (by decide) (fun hc => ?_) (fun hc => ?_)
        · replace h := h.1 hc
          refine m_aload_n (pc := 43) C.1 dX12_plain_43 rfl hl 1 rfl ?_
          refine m_bipush (pc := 44) C.1 dX12_plain_44 rfl ?_
          refine m_callVi (pc := 46) C.1 C.2.2.1 hl.1 C.2.1 hW3 hS (As := [.int (mI 60)]) (rest := []) (r := r0) (T_X12_isSign C.2.2.2.2.2.2 N r0 kr0 60 (by decide : okI 60) h) kr0 rfl q_1542 q_1544 q_36 q_92 q_1545 pl_X12_isSign (by decide) (Nat.le_of_ble_eq_true rfl) dX12_plain_46 (fun v5 S5 H locs ov5 h hW5 hS => ?_)
          refine m_istore_n (pc := 49) C.1 dX12_plain_49 rfl hl (by decide) (fun v => [(2, .int v), (1, .int (mI v4)), (0, .ref (b + r0))]) (fun _ => rfl) ov5 (fun v6 ls ev6 ov6 hl => ?_)
          replace h := h v6 ev6
          refine m_iload_n (pc := 50) C.1 dX12_plain_50 rfl hl 0 rfl ?_
          refine m_if_ne (pc := 51) (tgt := 73) C.1 ov6 dX12_plain_51 (by decide) (fun hc => ?_) (fun hc => ?_)
          · replace h := h.1 hc
            exact W_X12_plain_73 C N  r0 kr0 v4 ov4 v6 ov6 S5 _ _ _ (lv_sub hl [2, 1, 0] rfl) hW5 hS h
          · replace h := h.2 hc
            refine m_aload_n (pc := 54) C.1 dX12_plain_54 rfl hl 2 rfl ?_
            refine m_bipush (pc := 55) C.1 dX12_plain_55 rfl ?_
            refine m_callVi (pc := 57) C.1 C.2.2.1 hl.1 C.2.1 hW5 hS (As := [.int (mI 62)]) (rest := []) (r := r0) (T_X12_isSign C.2.2.2.2.2.2 N r0 kr0 62 (by decide : okI 62) h) kr0 rfl q_1542 q_1544 q_36 q_92 q_1545 pl_X12_isSign (by decide) (Nat.le_of_ble_eq_true rfl) dX12_plain_57 (fun v7 S7 H locs ov7 h hW7 hS => ?_)
            refine m_if_ne (pc := 60) (tgt := 73) C.1 ov7 dX12_plain_60 (by decide) (fun hc => ?_) (fun hc => ?_)
            · replace h := h.1 hc
              exact W_X12_plain_73 C N  r0 kr0 v4 ov4 v6 ov6 S7 _ _ _ (lv_sub hl [2, 1, 0] rfl) hW7 hS h
            · replace h := h.2 hc
              refine m_aload_n (pc := 63) C.1 dX12_plain_63 rfl hl 2 rfl ?_
              refine m_aload_n (pc := 64) C.1 dX12_plain_64 rfl hl 2 rfl ?_
              refine g_10_12 (pc := 65) C hW7 kr0 q_1395 dX12_plain_65 ?_
              refine m_callVv (pc := 68) C.1 C.2.2.1 hl.1 C.2.1 hW7 hS (As := [.int (mI (S7 r0 12))]) (rest := []) (r := r0) (T_X12_wrong C.2.2.2.2.2.2 N r0 kr0 (S7 r0 12) (hW7.2.1 _ _) h) kr0 rfl q_1502 q_1504 q_28 q_92 q_1505 pl_X12_wrong (by decide) (Nat.le_of_ble_eq_true rfl) dX12_plain_68 (fun S8 H locs h hW8 hS => ?_)
              refine m_iconst (pc := 71) C.1 dX12_plain_71 ?_
              exact m_zret (pc := 72) C.1 C.2.2.2.1 C.2.2.2.2.1 hW8 hS (by decide) h (by decide) (by decide) dX12_plain_72
        · replace h := h.2 hc
          refine m_iconst (pc := 41) C.1 dX12_plain_41 ?_
          exact m_zret (pc := 42) C.1 C.2.2.2.1 C.2.2.2.2.1 hW3 hS (by decide) h (by decide) (by decide) dX12_plain_42
      · replace h := h.2 hc
        refine m_aload_n (pc := 23) C.1 dX12_plain_23 rfl hl 0 rfl ?_
        refine g_10_17 (pc := 24) C hW2 kr0 q_1400 dX12_plain_24 ?_
        exact m_zret (pc := 27) C.1 C.2.2.2.1 C.2.2.2.2.1 hW2 hS h.1 h.2 (by decide) (by decide) dX12_plain_27
    · replace h := h.2 hc
      refine m_aload_n (pc := 9) C.1 dX12_plain_9 rfl hl 0 rfl ?_
      refine g_10_16 (pc := 10) C hW1 kr0 q_1399 dX12_plain_10 ?_
      exact m_zret (pc := 13) C.1 C.2.2.2.1 C.2.2.2.2.1 hW1 hS h.1 h.2 (by decide) (by decide) dX12_plain_13) sz
section
variable {p : Program} {l : Launch} {e : Env} {s : State} {m : MethodId} {args : Array Value} {below : List Frame} {meth : Method} {c : Code} {g : mG} {b : Nat}
def w_X12_every_40 (N : Nat) (F : Nat → mSt → (mSt → Int → Prop) → Prop) (Q : mSt → Int → Prop) (ko5 : Nat → Int → mSt → Prop) (r0 : Nat) (xs0 : Int) (S : mSt) : Prop :=
  ∀ v1 : Int, v1 = xs0 → ko5 r0 v1 S
theorem W_X12_every_40 (C : mC p l s m args meth c cX12_every "MoonWashModel" 3 (some FieldType.boolean) g) (N : Nat) {fr lo : Nat} {F : Nat → mSt → (mSt → Int → Prop) → Prop} (hF : ∀ (r0 : Nat) (kr0 : KM r0 = (0, 10, 0)) {S : mSt} {Q : mSt → Int → Prop}, F r0 S Q → ∀ sz : Nat, vx_Met l yX12_atom (Cond.code yX12_atom cX12_atom 4 (some FieldType.boolean) :: wsG) { frames := fr, cells := 0, slots := 0, locals := lo } (mPc g b KM S [.ref (b + r0)] sz) (mQi g b KM Q (mA b KM sz)) (mEx g b KM (fun _ _ => False) (mA b KM sz)) 0 0 (mA b KM sz)) {Q : mSt → Int → Prop} {ko5 : Nat → Int → mSt → Prop} (hko5 : ∀ (r0 : Nat) (kr0 : KM r0 = (0, 10, 0)) (x1 : Int) (ox1 : okI x1) (S : mSt) (H : Heap) (locs : List Loc) (ls : Array Slot), lv_has ls 3 [(0, .ref (b + r0)), (1, .int (mI x1))] → mW g b KM S H → va_S (mA b KM s.heap.size) s.heap H locs → ko5 r0 x1 S → W p l e { frames := fr + 6, cells := 0, slots := 0, locals := lo + 173 } s m args below meth c H locs 0 0 (vx_MQ below (mQi g b KM Q (mA b KM s.heap.size)) (mEx g b KM (fun _ _ => False) (mA b KM s.heap.size)) args s 0 0 (mA b KM s.heap.size)) (F0 m 5 ls [])) (r0 : Nat) (kr0 : KM r0 = (0, 10, 0)) (xs0 : Int) (oxs0 : okI xs0) (S : mSt) (H : Heap) (locs : List Loc) (ls : Array Slot) (hl : lv_has ls 3 [(0, .ref (b + r0))]) (hW : mW g b KM S H) (hS : va_S (mA b KM s.heap.size) s.heap H locs) (h : w_X12_every_40 N F Q ko5 r0 xs0 S) : W p l e { frames := fr + 6, cells := 0, slots := 0, locals := lo + 173 } s m args below meth c H locs 0 0 (vx_MQ below (mQi g b KM Q (mA b KM s.heap.size)) (mEx g b KM (fun _ _ => False) (mA b KM s.heap.size)) args s 0 0 (mA b KM s.heap.size)) (F0 m 40 ls [.int (mI xs0)]) := by
  unfold w_X12_every_40 at h
  refine m_istore_n (pc := 40) C.1 dX12_every_40 rfl hl (by decide) (fun v => [(1, .int v), (0, .ref (b + r0))]) (fun _ => rfl) oxs0 (fun v1 ls ev1 ov1 hl => ?_)
  replace h := h v1 ev1
  refine m_goto (pc := 41) (tgt := 5) C.1 dX12_every_41 (by decide) ?_
  exact hko5 r0 kr0 v1 ov1 S _ _ _ (lv_sub hl [1, 0] rfl) hW hS h
def w_X12_every_39 (N : Nat) (F : Nat → mSt → (mSt → Int → Prop) → Prop) (Q : mSt → Int → Prop) (ko5 : Nat → Int → mSt → Prop) (r0 : Nat) (S : mSt) : Prop :=
  w_X12_every_40 N F Q ko5 r0 0 S
theorem W_X12_every_39 (C : mC p l s m args meth c cX12_every "MoonWashModel" 3 (some FieldType.boolean) g) (N : Nat) {fr lo : Nat} {F : Nat → mSt → (mSt → Int → Prop) → Prop} (hF : ∀ (r0 : Nat) (kr0 : KM r0 = (0, 10, 0)) {S : mSt} {Q : mSt → Int → Prop}, F r0 S Q → ∀ sz : Nat, vx_Met l yX12_atom (Cond.code yX12_atom cX12_atom 4 (some FieldType.boolean) :: wsG) { frames := fr, cells := 0, slots := 0, locals := lo } (mPc g b KM S [.ref (b + r0)] sz) (mQi g b KM Q (mA b KM sz)) (mEx g b KM (fun _ _ => False) (mA b KM sz)) 0 0 (mA b KM sz)) {Q : mSt → Int → Prop} {ko5 : Nat → Int → mSt → Prop} (hko5 : ∀ (r0 : Nat) (kr0 : KM r0 = (0, 10, 0)) (x1 : Int) (ox1 : okI x1) (S : mSt) (H : Heap) (locs : List Loc) (ls : Array Slot), lv_has ls 3 [(0, .ref (b + r0)), (1, .int (mI x1))] → mW g b KM S H → va_S (mA b KM s.heap.size) s.heap H locs → ko5 r0 x1 S → W p l e { frames := fr + 6, cells := 0, slots := 0, locals := lo + 173 } s m args below meth c H locs 0 0 (vx_MQ below (mQi g b KM Q (mA b KM s.heap.size)) (mEx g b KM (fun _ _ => False) (mA b KM s.heap.size)) args s 0 0 (mA b KM s.heap.size)) (F0 m 5 ls [])) (r0 : Nat) (kr0 : KM r0 = (0, 10, 0)) (S : mSt) (H : Heap) (locs : List Loc) (ls : Array Slot) (hl : lv_has ls 3 [(0, .ref (b + r0))]) (hW : mW g b KM S H) (hS : va_S (mA b KM s.heap.size) s.heap H locs) (h : w_X12_every_39 N F Q ko5 r0 S) : W p l e { frames := fr + 6, cells := 0, slots := 0, locals := lo + 173 } s m args below meth c H locs 0 0 (vx_MQ below (mQi g b KM Q (mA b KM s.heap.size)) (mEx g b KM (fun _ _ => False) (mA b KM s.heap.size)) args s 0 0 (mA b KM s.heap.size)) (F0 m 39 ls []) := by
  unfold w_X12_every_39 at h
  refine m_iconst (pc := 39) C.1 dX12_every_39 ?_
  exact W_X12_every_40 C N hF hko5 r0 kr0 0 (by decide : okI 0) S _ _ _ (lv_sub hl [0] rfl) hW hS h
def w_X12_every_5b (N : Nat) (F : Nat → mSt → (mSt → Int → Prop) → Prop) (Q : mSt → Int → Prop) (ko5 : Nat → Int → mSt → Prop) (ko44 : Int → mSt → Prop) (r0 : Nat) (x1 : Int) (S : mSt) : Prop :=
  (((S r0 13) ≠ (-1) → ko44 x1 S) ∧ ((S r0 13) = (-1) → w_X12_has_ N r0 30 S (fun (S1 : mSt) (v1 : Int) => ((v1 = 0 → ko44 x1 S1) ∧ (v1 ≠ 0 → F r0 S1 (fun (S2 : mSt) (v2 : Int) => ∀ v3 : Int, v3 = v2 → ((x1 = 0 → w_X12_every_39 N F Q ko5 r0 S2) ∧ (x1 ≠ 0 → ((v3 = 0 → w_X12_every_39 N F Q ko5 r0 S2) ∧ (v3 ≠ 0 → w_X12_every_40 N F Q ko5 r0 1 S2))))))))))
theorem W_X12_every_5b (C : mC p l s m args meth c cX12_every "MoonWashModel" 3 (some FieldType.boolean) g) (N : Nat) {fr lo : Nat} {F : Nat → mSt → (mSt → Int → Prop) → Prop} (hF : ∀ (r0 : Nat) (kr0 : KM r0 = (0, 10, 0)) {S : mSt} {Q : mSt → Int → Prop}, F r0 S Q → ∀ sz : Nat, vx_Met l yX12_atom (Cond.code yX12_atom cX12_atom 4 (some FieldType.boolean) :: wsG) { frames := fr, cells := 0, slots := 0, locals := lo } (mPc g b KM S [.ref (b + r0)] sz) (mQi g b KM Q (mA b KM sz)) (mEx g b KM (fun _ _ => False) (mA b KM sz)) 0 0 (mA b KM sz)) {Q : mSt → Int → Prop} {ko5 : Nat → Int → mSt → Prop} {ko44 : Int → mSt → Prop} (hko5 : ∀ (r0 : Nat) (kr0 : KM r0 = (0, 10, 0)) (x1 : Int) (ox1 : okI x1) (S : mSt) (H : Heap) (locs : List Loc) (ls : Array Slot), lv_has ls 3 [(0, .ref (b + r0)), (1, .int (mI x1))] → mW g b KM S H → va_S (mA b KM s.heap.size) s.heap H locs → ko5 r0 x1 S → W p l e { frames := fr + 6, cells := 0, slots := 0, locals := lo + 173 } s m args below meth c H locs 0 0 (vx_MQ below (mQi g b KM Q (mA b KM s.heap.size)) (mEx g b KM (fun _ _ => False) (mA b KM s.heap.size)) args s 0 0 (mA b KM s.heap.size)) (F0 m 5 ls [])) (hko44 : ∀ (x1 : Int) (ox1 : okI x1) (S : mSt) (H : Heap) (locs : List Loc) (ls : Array Slot), lv_has ls 3 [(1, .int (mI x1))] → mW g b KM S H → va_S (mA b KM s.heap.size) s.heap H locs → ko44 x1 S → W p l e { frames := fr + 6, cells := 0, slots := 0, locals := lo + 173 } s m args below meth c H locs 0 0 (vx_MQ below (mQi g b KM Q (mA b KM s.heap.size)) (mEx g b KM (fun _ _ => False) (mA b KM s.heap.size)) args s 0 0 (mA b KM s.heap.size)) (F0 m 44 ls [])) (r0 : Nat) (kr0 : KM r0 = (0, 10, 0)) (x1 : Int) (ox1 : okI x1) (S : mSt) (H : Heap) (locs : List Loc) (ls : Array Slot) (hl : lv_has ls 3 [(0, .ref (b + r0)), (1, .int (mI x1))]) (hW : mW g b KM S H) (hS : va_S (mA b KM s.heap.size) s.heap H locs) (h : w_X12_every_5b N F Q ko5 ko44 r0 x1 S) : W p l e { frames := fr + 6, cells := 0, slots := 0, locals := lo + 173 } s m args below meth c H locs 0 0 (vx_MQ below (mQi g b KM Q (mA b KM s.heap.size)) (mEx g b KM (fun _ _ => False) (mA b KM s.heap.size)) args s 0 0 (mA b KM s.heap.size)) (F0 m 5 ls []) := by
  unfold w_X12_every_5b at h
  refine m_aload_n (pc := 5) C.1 dX12_every_5 rfl hl 0 rfl ?_
  refine g_10_13 (pc := 6) C hW kr0 q_1396 dX12_every_6 ?_
  refine m_iconst (pc := 9) C.1 dX12_every_9 ?_
  refine m_icmp_ne (pc := 10) (tgt := 44) C.1 (hW.2.1 _ _) (by decide : okI (-1)) dX12_every_10 (by decide) (fun hc => ?_) (fun hc => ?_)
  · replace h := h.1 hc
    exact hko44 x1 ox1 S _ _ _ (lv_sub hl [1] rfl) hW hS h
  · replace h := h.2 hc
    refine m_aload_n (pc := 13) C.1 dX12_every_13 rfl hl 0 rfl ?_
    refine m_ldcS (pc := 14) C.1 C.2.1 (index := 224) (j := 30) (tx := "and") (by decide +kernel) dX12_every_14 ?_
    refine m_callVi (pc := 16) C.1 C.2.2.1 hl.1 C.2.1 hW hS (As := [.ref (g.sa 30)]) (rest := []) (r := r0) (T_X12_has_ C.2.2.2.2.2.2 N r0 kr0 30 (by decide : 30 < nJS) h) kr0 rfl q_1511 q_1513 q_30 q_92 q_1514 pl_X12_has_ (by dsimp only [mRm]; omega) (Nat.le_of_ble_eq_true rfl) dX12_every_16 (fun v1 S1 H locs ov1 h hW1 hS => ?_)
    refine m_if_eq (pc := 19) (tgt := 44) C.1 ov1 dX12_every_19 (by decide) (fun hc => ?_) (fun hc => ?_)
    · replace h := h.1 hc
      exact hko44 x1 ox1 S1 _ _ _ (lv_sub hl [1] rfl) hW1 hS h
    · replace h := h.2 hc
      refine m_aload_n (pc := 22) C.1 dX12_every_22 rfl hl 0 rfl ?_
      refine m_callVi (pc := 23) C.1 C.2.2.1 hl.1 C.2.1 hW1 hS (As := []) (rest := []) (r := r0) (hF r0 kr0 h) kr0 rfl q_1537 q_1539 q_35 q_92 q_1540 pl_X12_atom (by dsimp only [mRm]; omega) (Nat.le_of_ble_eq_true rfl) dX12_every_23 (fun v2 S2 H locs ov2 h hW2 hS => ?_)
      refine m_istore_n (pc := 26) C.1 dX12_every_26 rfl hl (by decide) (fun v => [(2, .int v), (0, .ref (b + r0)), (1, .int (mI x1))]) (fun _ => rfl) ov2 (fun v3 ls ev3 ov3 hl => ?_)
      replace h := h v3 ev3
      refine m_iload_n (pc := 27) C.1 dX12_every_27 rfl hl 2 rfl ?_
      refine m_if_eq (pc := 28) (tgt := 39) C.1 ox1 dX12_every_28 (by decide) (fun hc => ?_) (fun hc => ?_)
      · replace h := h.1 hc
        exact W_X12_every_39 C N hF hko5 r0 kr0 S2 _ _ _ (lv_sub hl [1] rfl) hW2 hS h
      · replace h := h.2 hc
        refine m_iload_n (pc := 31) C.1 dX12_every_31 rfl hl 0 rfl ?_
        refine m_if_eq (pc := 32) (tgt := 39) C.1 ov3 dX12_every_32 (by decide) (fun hc => ?_) (fun hc => ?_)
        · replace h := h.1 hc
          exact W_X12_every_39 C N hF hko5 r0 kr0 S2 _ _ _ (lv_sub hl [1] rfl) hW2 hS h
        · replace h := h.2 hc
          refine m_iconst (pc := 35) C.1 dX12_every_35 ?_
          refine m_goto (pc := 36) (tgt := 40) C.1 dX12_every_36 (by decide) ?_
          exact W_X12_every_40 C N hF hko5 r0 kr0 1 (by decide : okI 1) S2 _ _ _ (lv_sub hl [1] rfl) hW2 hS h
def w_X12_every_5 (N : Nat) (F : Nat → mSt → (mSt → Int → Prop) → Prop) (Q : mSt → Int → Prop) (ko44 : Int → mSt → Prop) : Nat → Nat → Int → mSt → Prop
  | 0 => fun _ _ _ => False
  | k + 1 => w_X12_every_5b N F Q (w_X12_every_5 N F Q ko44 k) ko44
theorem W_X12_every_5 (C : mC p l s m args meth c cX12_every "MoonWashModel" 3 (some FieldType.boolean) g) (N : Nat) {fr lo : Nat} {F : Nat → mSt → (mSt → Int → Prop) → Prop} (hF : ∀ (r0 : Nat) (kr0 : KM r0 = (0, 10, 0)) {S : mSt} {Q : mSt → Int → Prop}, F r0 S Q → ∀ sz : Nat, vx_Met l yX12_atom (Cond.code yX12_atom cX12_atom 4 (some FieldType.boolean) :: wsG) { frames := fr, cells := 0, slots := 0, locals := lo } (mPc g b KM S [.ref (b + r0)] sz) (mQi g b KM Q (mA b KM sz)) (mEx g b KM (fun _ _ => False) (mA b KM sz)) 0 0 (mA b KM sz)) {Q : mSt → Int → Prop} {ko44 : Int → mSt → Prop} (hko44 : ∀ (x1 : Int) (ox1 : okI x1) (S : mSt) (H : Heap) (locs : List Loc) (ls : Array Slot), lv_has ls 3 [(1, .int (mI x1))] → mW g b KM S H → va_S (mA b KM s.heap.size) s.heap H locs → ko44 x1 S → W p l e { frames := fr + 6, cells := 0, slots := 0, locals := lo + 173 } s m args below meth c H locs 0 0 (vx_MQ below (mQi g b KM Q (mA b KM s.heap.size)) (mEx g b KM (fun _ _ => False) (mA b KM s.heap.size)) args s 0 0 (mA b KM s.heap.size)) (F0 m 44 ls [])) : ∀ (k : Nat) (r0 : Nat) (kr0 : KM r0 = (0, 10, 0)) (x1 : Int) (ox1 : okI x1) (S : mSt) (H : Heap) (locs : List Loc) (ls : Array Slot) (hl : lv_has ls 3 [(0, .ref (b + r0)), (1, .int (mI x1))]) (hW : mW g b KM S H) (hS : va_S (mA b KM s.heap.size) s.heap H locs) (h : w_X12_every_5 N F Q ko44 k r0 x1 S), W p l e { frames := fr + 6, cells := 0, slots := 0, locals := lo + 173 } s m args below meth c H locs 0 0 (vx_MQ below (mQi g b KM Q (mA b KM s.heap.size)) (mEx g b KM (fun _ _ => False) (mA b KM s.heap.size)) args s 0 0 (mA b KM s.heap.size)) (F0 m 5 ls []) := by
  intro k
  induction k with
  | zero => intro r0 kr0 x1 ox1 S H locs ls hl hW hS h; exact False.elim h
  | succ k ih => intro r0 kr0 x1 ox1 S H locs ls hl hW hS h; exact W_X12_every_5b C N hF ih hko44 r0 kr0 x1 ox1 S H locs ls hl hW hS h
end
def w_X12_every (N : Nat) (F : Nat → mSt → (mSt → Int → Prop) → Prop) (r0 : Nat) (S : mSt) (Q : mSt → Int → Prop) : Prop :=
  F r0 S (fun (S1 : mSt) (v1 : Int) => ∀ v2 : Int, v2 = v1 → w_X12_every_5 N F Q (fun (x1_3 : Int) (S_3 : mSt) => ((x1_3 = 0 ∨ x1_3 = 1) ∧ Q S_3 x1_3)) N r0 v2 S1)
theorem T_X12_every {l : Launch} (hl0 : l.stackTraces = false) {g : mG} {b : Nat} (N : Nat) {fr lo : Nat} {F : Nat → mSt → (mSt → Int → Prop) → Prop} (hF : ∀ (r0 : Nat) (kr0 : KM r0 = (0, 10, 0)) {S : mSt} {Q : mSt → Int → Prop}, F r0 S Q → ∀ sz : Nat, vx_Met l yX12_atom (Cond.code yX12_atom cX12_atom 4 (some FieldType.boolean) :: wsG) { frames := fr, cells := 0, slots := 0, locals := lo } (mPc g b KM S [.ref (b + r0)] sz) (mQi g b KM Q (mA b KM sz)) (mEx g b KM (fun _ _ => False) (mA b KM sz)) 0 0 (mA b KM sz)) (r0 : Nat) (kr0 : KM r0 = (0, 10, 0)) {S : mSt} {Q : mSt → Int → Prop} (h : w_X12_every N F r0 S Q) (sz : Nat) : vx_Met l yX12_every (Cond.code yX12_every cX12_every 3 (some FieldType.boolean) :: wsG) { frames := fr + 6, cells := 0, slots := 0, locals := lo + 173 } (mPc g b KM S [.ref (b + r0)] sz) (mQi g b KM Q (mA b KM sz)) (mEx g b KM (fun _ _ => False) (mA b KM sz)) 0 0 (mA b KM sz) :=
  m_of (av := [.ref (b + r0)]) (Qf := fun A => mQi g b KM Q A) (Xf := fun A => mEx g b KM (fun _ _ => False) A) (by decide) (Nat.le_of_ble_eq_true rfl) (fun p e s m args below meth c ls X hK hml hr hlk hout hnm hW hl => by
    have C : mC p l s m args meth c cX12_every "MoonWashModel" 3 (some FieldType.boolean) g := ⟨X, hK, hml, hr, hlk, hout, hl0⟩
    have hS : va_S (mA b KM s.heap.size) s.heap s.heap [] := va_S.rf
    have hl : lv_has ls 3 [(0, .ref (b + r0))] := hl
    unfold w_X12_every at h
    refine m_aload_n (pc := 0) C.1 dX12_every_0 rfl hl 0 rfl ?_
    refine m_callVi (pc := 1) C.1 C.2.2.1 hl.1 C.2.1 hW hS (As := []) (rest := []) (r := r0) (hF r0 kr0 h) kr0 rfl q_1537 q_1539 q_35 q_92 q_1540 pl_X12_atom (by dsimp only [mRm]; omega) (Nat.le_of_ble_eq_true rfl) dX12_every_1 (fun v1 S1 H locs ov1 h hW1 hS => ?_)
    refine m_istore_n (pc := 4) C.1 dX12_every_4 rfl hl (by decide) (fun v => [(1, .int v), (0, .ref (b + r0))]) (fun _ => rfl) ov1 (fun v2 ls ev2 ov2 hl => ?_)
    replace h := h v2 ev2
    refine W_X12_every_5 C N hF ?_ N r0 kr0 v2 ov2 S1 _ _ _ (lv_sub hl [1, 0] rfl) hW1 hS h
    · intro x1_3 ox1_3 S_3 H locs ls hl hW_3 hS h
      refine m_iload_n (pc := 44) C.1 dX12_every_44 rfl hl 0 rfl ?_
      exact m_zret (pc := 45) C.1 C.2.2.2.1 C.2.2.2.2.1 hW_3 hS h.1 h.2 (by decide) (by decide) dX12_every_45) sz
section
variable {p : Program} {l : Launch} {e : Env} {s : State} {m : MethodId} {args : Array Value} {below : List Frame} {meth : Method} {c : Code} {g : mG} {b : Nat}
def w_X12_some_40 (N : Nat) (F : Nat → mSt → (mSt → Int → Prop) → Prop) (Q : mSt → Int → Prop) (ko5 : Nat → Int → mSt → Prop) (r0 : Nat) (xs0 : Int) (S : mSt) : Prop :=
  ∀ v1 : Int, v1 = xs0 → ko5 r0 v1 S
theorem W_X12_some_40 (C : mC p l s m args meth c cX12_some "MoonWashModel" 3 (some FieldType.boolean) g) (N : Nat) {fr lo : Nat} {F : Nat → mSt → (mSt → Int → Prop) → Prop} (hF : ∀ (r0 : Nat) (kr0 : KM r0 = (0, 10, 0)) {S : mSt} {Q : mSt → Int → Prop}, F r0 S Q → ∀ sz : Nat, vx_Met l yX12_atom (Cond.code yX12_atom cX12_atom 4 (some FieldType.boolean) :: wsG) { frames := fr, cells := 0, slots := 0, locals := lo } (mPc g b KM S [.ref (b + r0)] sz) (mQi g b KM Q (mA b KM sz)) (mEx g b KM (fun _ _ => False) (mA b KM sz)) 0 0 (mA b KM sz)) {Q : mSt → Int → Prop} {ko5 : Nat → Int → mSt → Prop} (hko5 : ∀ (r0 : Nat) (kr0 : KM r0 = (0, 10, 0)) (x1 : Int) (ox1 : okI x1) (S : mSt) (H : Heap) (locs : List Loc) (ls : Array Slot), lv_has ls 3 [(0, .ref (b + r0)), (1, .int (mI x1))] → mW g b KM S H → va_S (mA b KM s.heap.size) s.heap H locs → ko5 r0 x1 S → W p l e { frames := fr + 7, cells := 0, slots := 0, locals := lo + 195 } s m args below meth c H locs 0 0 (vx_MQ below (mQi g b KM Q (mA b KM s.heap.size)) (mEx g b KM (fun _ _ => False) (mA b KM s.heap.size)) args s 0 0 (mA b KM s.heap.size)) (F0 m 5 ls [])) (r0 : Nat) (kr0 : KM r0 = (0, 10, 0)) (xs0 : Int) (oxs0 : okI xs0) (S : mSt) (H : Heap) (locs : List Loc) (ls : Array Slot) (hl : lv_has ls 3 [(0, .ref (b + r0))]) (hW : mW g b KM S H) (hS : va_S (mA b KM s.heap.size) s.heap H locs) (h : w_X12_some_40 N F Q ko5 r0 xs0 S) : W p l e { frames := fr + 7, cells := 0, slots := 0, locals := lo + 195 } s m args below meth c H locs 0 0 (vx_MQ below (mQi g b KM Q (mA b KM s.heap.size)) (mEx g b KM (fun _ _ => False) (mA b KM s.heap.size)) args s 0 0 (mA b KM s.heap.size)) (F0 m 40 ls [.int (mI xs0)]) := by
  unfold w_X12_some_40 at h
  refine m_istore_n (pc := 40) C.1 dX12_some_40 rfl hl (by decide) (fun v => [(1, .int v), (0, .ref (b + r0))]) (fun _ => rfl) oxs0 (fun v1 ls ev1 ov1 hl => ?_)
  replace h := h v1 ev1
  refine m_goto (pc := 41) (tgt := 5) C.1 dX12_some_41 (by decide) ?_
  exact hko5 r0 kr0 v1 ov1 S _ _ _ (lv_sub hl [1, 0] rfl) hW hS h
def w_X12_some_35 (N : Nat) (F : Nat → mSt → (mSt → Int → Prop) → Prop) (Q : mSt → Int → Prop) (ko5 : Nat → Int → mSt → Prop) (r0 : Nat) (S : mSt) : Prop :=
  w_X12_some_40 N F Q ko5 r0 1 S
theorem W_X12_some_35 (C : mC p l s m args meth c cX12_some "MoonWashModel" 3 (some FieldType.boolean) g) (N : Nat) {fr lo : Nat} {F : Nat → mSt → (mSt → Int → Prop) → Prop} (hF : ∀ (r0 : Nat) (kr0 : KM r0 = (0, 10, 0)) {S : mSt} {Q : mSt → Int → Prop}, F r0 S Q → ∀ sz : Nat, vx_Met l yX12_atom (Cond.code yX12_atom cX12_atom 4 (some FieldType.boolean) :: wsG) { frames := fr, cells := 0, slots := 0, locals := lo } (mPc g b KM S [.ref (b + r0)] sz) (mQi g b KM Q (mA b KM sz)) (mEx g b KM (fun _ _ => False) (mA b KM sz)) 0 0 (mA b KM sz)) {Q : mSt → Int → Prop} {ko5 : Nat → Int → mSt → Prop} (hko5 : ∀ (r0 : Nat) (kr0 : KM r0 = (0, 10, 0)) (x1 : Int) (ox1 : okI x1) (S : mSt) (H : Heap) (locs : List Loc) (ls : Array Slot), lv_has ls 3 [(0, .ref (b + r0)), (1, .int (mI x1))] → mW g b KM S H → va_S (mA b KM s.heap.size) s.heap H locs → ko5 r0 x1 S → W p l e { frames := fr + 7, cells := 0, slots := 0, locals := lo + 195 } s m args below meth c H locs 0 0 (vx_MQ below (mQi g b KM Q (mA b KM s.heap.size)) (mEx g b KM (fun _ _ => False) (mA b KM s.heap.size)) args s 0 0 (mA b KM s.heap.size)) (F0 m 5 ls [])) (r0 : Nat) (kr0 : KM r0 = (0, 10, 0)) (S : mSt) (H : Heap) (locs : List Loc) (ls : Array Slot) (hl : lv_has ls 3 [(0, .ref (b + r0))]) (hW : mW g b KM S H) (hS : va_S (mA b KM s.heap.size) s.heap H locs) (h : w_X12_some_35 N F Q ko5 r0 S) : W p l e { frames := fr + 7, cells := 0, slots := 0, locals := lo + 195 } s m args below meth c H locs 0 0 (vx_MQ below (mQi g b KM Q (mA b KM s.heap.size)) (mEx g b KM (fun _ _ => False) (mA b KM s.heap.size)) args s 0 0 (mA b KM s.heap.size)) (F0 m 35 ls []) := by
  unfold w_X12_some_35 at h
  refine m_iconst (pc := 35) C.1 dX12_some_35 ?_
  refine m_goto (pc := 36) (tgt := 40) C.1 dX12_some_36 (by decide) ?_
  exact W_X12_some_40 C N hF hko5 r0 kr0 1 (by decide : okI 1) S _ _ _ (lv_sub hl [0] rfl) hW hS h
def w_X12_some_5b (N : Nat) (F : Nat → mSt → (mSt → Int → Prop) → Prop) (Q : mSt → Int → Prop) (ko5 : Nat → Int → mSt → Prop) (ko44 : Int → mSt → Prop) (r0 : Nat) (x1 : Int) (S : mSt) : Prop :=
  (((S r0 13) ≠ (-1) → ko44 x1 S) ∧ ((S r0 13) = (-1) → w_X12_has_ N r0 29 S (fun (S1 : mSt) (v1 : Int) => ((v1 = 0 → ko44 x1 S1) ∧ (v1 ≠ 0 → w_X12_every N F r0 S1 (fun (S2 : mSt) (v2 : Int) => ∀ v3 : Int, v3 = v2 → ((x1 ≠ 0 → w_X12_some_35 N F Q ko5 r0 S2) ∧ (x1 = 0 → ((v3 = 0 → w_X12_some_40 N F Q ko5 r0 0 S2) ∧ (v3 ≠ 0 → w_X12_some_35 N F Q ko5 r0 S2))))))))))
theorem W_X12_some_5b (C : mC p l s m args meth c cX12_some "MoonWashModel" 3 (some FieldType.boolean) g) (N : Nat) {fr lo : Nat} {F : Nat → mSt → (mSt → Int → Prop) → Prop} (hF : ∀ (r0 : Nat) (kr0 : KM r0 = (0, 10, 0)) {S : mSt} {Q : mSt → Int → Prop}, F r0 S Q → ∀ sz : Nat, vx_Met l yX12_atom (Cond.code yX12_atom cX12_atom 4 (some FieldType.boolean) :: wsG) { frames := fr, cells := 0, slots := 0, locals := lo } (mPc g b KM S [.ref (b + r0)] sz) (mQi g b KM Q (mA b KM sz)) (mEx g b KM (fun _ _ => False) (mA b KM sz)) 0 0 (mA b KM sz)) {Q : mSt → Int → Prop} {ko5 : Nat → Int → mSt → Prop} {ko44 : Int → mSt → Prop} (hko5 : ∀ (r0 : Nat) (kr0 : KM r0 = (0, 10, 0)) (x1 : Int) (ox1 : okI x1) (S : mSt) (H : Heap) (locs : List Loc) (ls : Array Slot), lv_has ls 3 [(0, .ref (b + r0)), (1, .int (mI x1))] → mW g b KM S H → va_S (mA b KM s.heap.size) s.heap H locs → ko5 r0 x1 S → W p l e { frames := fr + 7, cells := 0, slots := 0, locals := lo + 195 } s m args below meth c H locs 0 0 (vx_MQ below (mQi g b KM Q (mA b KM s.heap.size)) (mEx g b KM (fun _ _ => False) (mA b KM s.heap.size)) args s 0 0 (mA b KM s.heap.size)) (F0 m 5 ls [])) (hko44 : ∀ (x1 : Int) (ox1 : okI x1) (S : mSt) (H : Heap) (locs : List Loc) (ls : Array Slot), lv_has ls 3 [(1, .int (mI x1))] → mW g b KM S H → va_S (mA b KM s.heap.size) s.heap H locs → ko44 x1 S → W p l e { frames := fr + 7, cells := 0, slots := 0, locals := lo + 195 } s m args below meth c H locs 0 0 (vx_MQ below (mQi g b KM Q (mA b KM s.heap.size)) (mEx g b KM (fun _ _ => False) (mA b KM s.heap.size)) args s 0 0 (mA b KM s.heap.size)) (F0 m 44 ls [])) (r0 : Nat) (kr0 : KM r0 = (0, 10, 0)) (x1 : Int) (ox1 : okI x1) (S : mSt) (H : Heap) (locs : List Loc) (ls : Array Slot) (hl : lv_has ls 3 [(0, .ref (b + r0)), (1, .int (mI x1))]) (hW : mW g b KM S H) (hS : va_S (mA b KM s.heap.size) s.heap H locs) (h : w_X12_some_5b N F Q ko5 ko44 r0 x1 S) : W p l e { frames := fr + 7, cells := 0, slots := 0, locals := lo + 195 } s m args below meth c H locs 0 0 (vx_MQ below (mQi g b KM Q (mA b KM s.heap.size)) (mEx g b KM (fun _ _ => False) (mA b KM s.heap.size)) args s 0 0 (mA b KM s.heap.size)) (F0 m 5 ls []) := by
  unfold w_X12_some_5b at h
  refine m_aload_n (pc := 5) C.1 dX12_some_5 rfl hl 0 rfl ?_
  refine g_10_13 (pc := 6) C hW kr0 q_1396 dX12_some_6 ?_
  refine m_iconst (pc := 9) C.1 dX12_some_9 ?_
  refine m_icmp_ne (pc := 10) (tgt := 44) C.1 (hW.2.1 _ _) (by decide : okI (-1)) dX12_some_10 (by decide) (fun hc => ?_) (fun hc => ?_)
  · replace h := h.1 hc
    exact hko44 x1 ox1 S _ _ _ (lv_sub hl [1] rfl) hW hS h
  · replace h := h.2 hc
    refine m_aload_n (pc := 13) C.1 dX12_some_13 rfl hl 0 rfl ?_
    refine m_ldcS (pc := 14) C.1 C.2.1 (index := 229) (j := 29) (tx := "or") (by decide +kernel) dX12_some_14 ?_
    refine m_callVi (pc := 16) C.1 C.2.2.1 hl.1 C.2.1 hW hS (As := [.ref (g.sa 29)]) (rest := []) (r := r0) (T_X12_has_ C.2.2.2.2.2.2 N r0 kr0 29 (by decide : 29 < nJS) h) kr0 rfl q_1511 q_1513 q_30 q_92 q_1514 pl_X12_has_ (by dsimp only [mRm]; omega) (Nat.le_of_ble_eq_true rfl) dX12_some_16 (fun v1 S1 H locs ov1 h hW1 hS => ?_)
    refine m_if_eq (pc := 19) (tgt := 44) C.1 ov1 dX12_some_19 (by decide) (fun hc => ?_) (fun hc => ?_)
    · replace h := h.1 hc
      exact hko44 x1 ox1 S1 _ _ _ (lv_sub hl [1] rfl) hW1 hS h
    · replace h := h.2 hc
      refine m_aload_n (pc := 22) C.1 dX12_some_22 rfl hl 0 rfl ?_
      refine m_callVi (pc := 23) C.1 C.2.2.1 hl.1 C.2.1 hW1 hS (As := []) (rest := []) (r := r0) (T_X12_every C.2.2.2.2.2.2 N hF r0 kr0 h) kr0 rfl q_1533 q_1535 q_34 q_92 q_1536 pl_X12_every (by dsimp only [mRm]; omega) (Nat.le_of_ble_eq_true rfl) dX12_some_23 (fun v2 S2 H locs ov2 h hW2 hS => ?_)
      refine m_istore_n (pc := 26) C.1 dX12_some_26 rfl hl (by decide) (fun v => [(2, .int v), (0, .ref (b + r0)), (1, .int (mI x1))]) (fun _ => rfl) ov2 (fun v3 ls ev3 ov3 hl => ?_)
      replace h := h v3 ev3
      refine m_iload_n (pc := 27) C.1 dX12_some_27 rfl hl 2 rfl ?_
      refine m_if_ne (pc := 28) (tgt := 35) C.1 ox1 dX12_some_28 (by decide) (fun hc => ?_) (fun hc => ?_)
      · replace h := h.1 hc
        exact W_X12_some_35 C N hF hko5 r0 kr0 S2 _ _ _ (lv_sub hl [1] rfl) hW2 hS h
      · replace h := h.2 hc
        refine m_iload_n (pc := 31) C.1 dX12_some_31 rfl hl 0 rfl ?_
        refine m_if_eq (pc := 32) (tgt := 39) C.1 ov3 dX12_some_32 (by decide) (fun hc => ?_) (fun hc => ?_)
        · replace h := h.1 hc
          refine m_iconst (pc := 39) C.1 dX12_some_39 ?_
          exact W_X12_some_40 C N hF hko5 r0 kr0 0 (by decide : okI 0) S2 _ _ _ (lv_sub hl [1] rfl) hW2 hS h
        · replace h := h.2 hc
          exact W_X12_some_35 C N hF hko5 r0 kr0 S2 _ _ _ (lv_sub hl [1] rfl) hW2 hS h
def w_X12_some_5 (N : Nat) (F : Nat → mSt → (mSt → Int → Prop) → Prop) (Q : mSt → Int → Prop) (ko44 : Int → mSt → Prop) : Nat → Nat → Int → mSt → Prop
  | 0 => fun _ _ _ => False
  | k + 1 => w_X12_some_5b N F Q (w_X12_some_5 N F Q ko44 k) ko44
theorem W_X12_some_5 (C : mC p l s m args meth c cX12_some "MoonWashModel" 3 (some FieldType.boolean) g) (N : Nat) {fr lo : Nat} {F : Nat → mSt → (mSt → Int → Prop) → Prop} (hF : ∀ (r0 : Nat) (kr0 : KM r0 = (0, 10, 0)) {S : mSt} {Q : mSt → Int → Prop}, F r0 S Q → ∀ sz : Nat, vx_Met l yX12_atom (Cond.code yX12_atom cX12_atom 4 (some FieldType.boolean) :: wsG) { frames := fr, cells := 0, slots := 0, locals := lo } (mPc g b KM S [.ref (b + r0)] sz) (mQi g b KM Q (mA b KM sz)) (mEx g b KM (fun _ _ => False) (mA b KM sz)) 0 0 (mA b KM sz)) {Q : mSt → Int → Prop} {ko44 : Int → mSt → Prop} (hko44 : ∀ (x1 : Int) (ox1 : okI x1) (S : mSt) (H : Heap) (locs : List Loc) (ls : Array Slot), lv_has ls 3 [(1, .int (mI x1))] → mW g b KM S H → va_S (mA b KM s.heap.size) s.heap H locs → ko44 x1 S → W p l e { frames := fr + 7, cells := 0, slots := 0, locals := lo + 195 } s m args below meth c H locs 0 0 (vx_MQ below (mQi g b KM Q (mA b KM s.heap.size)) (mEx g b KM (fun _ _ => False) (mA b KM s.heap.size)) args s 0 0 (mA b KM s.heap.size)) (F0 m 44 ls [])) : ∀ (k : Nat) (r0 : Nat) (kr0 : KM r0 = (0, 10, 0)) (x1 : Int) (ox1 : okI x1) (S : mSt) (H : Heap) (locs : List Loc) (ls : Array Slot) (hl : lv_has ls 3 [(0, .ref (b + r0)), (1, .int (mI x1))]) (hW : mW g b KM S H) (hS : va_S (mA b KM s.heap.size) s.heap H locs) (h : w_X12_some_5 N F Q ko44 k r0 x1 S), W p l e { frames := fr + 7, cells := 0, slots := 0, locals := lo + 195 } s m args below meth c H locs 0 0 (vx_MQ below (mQi g b KM Q (mA b KM s.heap.size)) (mEx g b KM (fun _ _ => False) (mA b KM s.heap.size)) args s 0 0 (mA b KM s.heap.size)) (F0 m 5 ls []) := by
  intro k
  induction k with
  | zero => intro r0 kr0 x1 ox1 S H locs ls hl hW hS h; exact False.elim h
  | succ k ih => intro r0 kr0 x1 ox1 S H locs ls hl hW hS h; exact W_X12_some_5b C N hF ih hko44 r0 kr0 x1 ox1 S H locs ls hl hW hS h
end
def w_X12_some (N : Nat) (F : Nat → mSt → (mSt → Int → Prop) → Prop) (r0 : Nat) (S : mSt) (Q : mSt → Int → Prop) : Prop :=
  w_X12_every N F r0 S (fun (S1 : mSt) (v1 : Int) => ∀ v2 : Int, v2 = v1 → w_X12_some_5 N F Q (fun (x1_3 : Int) (S_3 : mSt) => ((x1_3 = 0 ∨ x1_3 = 1) ∧ Q S_3 x1_3)) N r0 v2 S1)
theorem T_X12_some {l : Launch} (hl0 : l.stackTraces = false) {g : mG} {b : Nat} (N : Nat) {fr lo : Nat} {F : Nat → mSt → (mSt → Int → Prop) → Prop} (hF : ∀ (r0 : Nat) (kr0 : KM r0 = (0, 10, 0)) {S : mSt} {Q : mSt → Int → Prop}, F r0 S Q → ∀ sz : Nat, vx_Met l yX12_atom (Cond.code yX12_atom cX12_atom 4 (some FieldType.boolean) :: wsG) { frames := fr, cells := 0, slots := 0, locals := lo } (mPc g b KM S [.ref (b + r0)] sz) (mQi g b KM Q (mA b KM sz)) (mEx g b KM (fun _ _ => False) (mA b KM sz)) 0 0 (mA b KM sz)) (r0 : Nat) (kr0 : KM r0 = (0, 10, 0)) {S : mSt} {Q : mSt → Int → Prop} (h : w_X12_some N F r0 S Q) (sz : Nat) : vx_Met l yX12_some (Cond.code yX12_some cX12_some 3 (some FieldType.boolean) :: wsG) { frames := fr + 7, cells := 0, slots := 0, locals := lo + 195 } (mPc g b KM S [.ref (b + r0)] sz) (mQi g b KM Q (mA b KM sz)) (mEx g b KM (fun _ _ => False) (mA b KM sz)) 0 0 (mA b KM sz) :=
  m_of (av := [.ref (b + r0)]) (Qf := fun A => mQi g b KM Q A) (Xf := fun A => mEx g b KM (fun _ _ => False) A) (by decide) (Nat.le_of_ble_eq_true rfl) (fun p e s m args below meth c ls X hK hml hr hlk hout hnm hW hl => by
    have C : mC p l s m args meth c cX12_some "MoonWashModel" 3 (some FieldType.boolean) g := ⟨X, hK, hml, hr, hlk, hout, hl0⟩
    have hS : va_S (mA b KM s.heap.size) s.heap s.heap [] := va_S.rf
    have hl : lv_has ls 3 [(0, .ref (b + r0))] := hl
    unfold w_X12_some at h
    refine m_aload_n (pc := 0) C.1 dX12_some_0 rfl hl 0 rfl ?_
    refine m_callVi (pc := 1) C.1 C.2.2.1 hl.1 C.2.1 hW hS (As := []) (rest := []) (r := r0) (T_X12_every C.2.2.2.2.2.2 N hF r0 kr0 h) kr0 rfl q_1533 q_1535 q_34 q_92 q_1536 pl_X12_every (by dsimp only [mRm]; omega) (Nat.le_of_ble_eq_true rfl) dX12_some_1 (fun v1 S1 H locs ov1 h hW1 hS => ?_)
    refine m_istore_n (pc := 4) C.1 dX12_some_4 rfl hl (by decide) (fun v => [(1, .int v), (0, .ref (b + r0))]) (fun _ => rfl) ov1 (fun v2 ls ev2 ov2 hl => ?_)
    replace h := h v2 ev2
    refine W_X12_some_5 C N hF ?_ N r0 kr0 v2 ov2 S1 _ _ _ (lv_sub hl [1, 0] rfl) hW1 hS h
    · intro x1_3 ox1_3 S_3 H locs ls hl hW_3 hS h
      refine m_iload_n (pc := 44) C.1 dX12_some_44 rfl hl 0 rfl ?_
      exact m_zret (pc := 45) C.1 C.2.2.2.1 C.2.2.2.2.1 hW_3 hS h.1 h.2 (by decide) (by decide) dX12_some_45) sz
section
variable {p : Program} {l : Launch} {e : Env} {s : State} {m : MethodId} {args : Array Value} {below : List Frame} {meth : Method} {c : Code} {g : mG} {b : Nat}
def w_X12_atom_138 (N : Nat) (F : Nat → mSt → (mSt → Int → Prop) → Prop) (Q : mSt → Int → Prop)  (r0 : Nat) (x3 : Int) (S : mSt) : Prop :=
  ∀ S1 : mSt, S1 = mup S r0 14 (nm ((S r0 14) - 1)) → ((x3 = 0 ∨ x3 = 1) ∧ Q S1 x3)
theorem W_X12_atom_138 (C : mC p l s m args meth c cX12_atom "MoonWashModel" 4 (some FieldType.boolean) g) (N : Nat) {fr lo : Nat} {F : Nat → mSt → (mSt → Int → Prop) → Prop} (hF : ∀ (r0 : Nat) (kr0 : KM r0 = (0, 10, 0)) {S : mSt} {Q : mSt → Int → Prop}, F r0 S Q → ∀ sz : Nat, vx_Met l yX12_atom (Cond.code yX12_atom cX12_atom 4 (some FieldType.boolean) :: wsG) { frames := fr, cells := 0, slots := 0, locals := lo } (mPc g b KM S [.ref (b + r0)] sz) (mQi g b KM Q (mA b KM sz)) (mEx g b KM (fun _ _ => False) (mA b KM sz)) 0 0 (mA b KM sz)) {Q : mSt → Int → Prop}   (r0 : Nat) (kr0 : KM r0 = (0, 10, 0)) (x3 : Int) (ox3 : okI x3) (S : mSt) (H : Heap) (locs : List Loc) (ls : Array Slot) (hl : lv_has ls 4 [(0, .ref (b + r0)), (3, .int (mI x3))]) (hW : mW g b KM S H) (hS : va_S (mA b KM s.heap.size) s.heap H locs) (h : w_X12_atom_138 N F Q  r0 x3 S) : W p l e { frames := fr + 9, cells := 0, slots := 0, locals := lo + 238 } s m args below meth c H locs 0 0 (vx_MQ below (mQi g b KM Q (mA b KM s.heap.size)) (mEx g b KM (fun _ _ => False) (mA b KM s.heap.size)) args s 0 0 (mA b KM s.heap.size)) (F0 m 138 ls []) := by
  unfold w_X12_atom_138 at h
  refine m_aload_n (pc := 138) C.1 dX12_atom_138 rfl hl 0 rfl ?_
  refine lv_dup (pc := 139) C.1.1 C.1.2.1 dX12_atom_139 rfl ?_
  refine g_10_14 (pc := 140) C hW kr0 q_1397 dX12_atom_140 ?_
  refine m_iconst (pc := 143) C.1 dX12_atom_143 ?_
  refine m_isub (pc := 144) C.1 dX12_atom_144 ?_
  refine p_10_14 (pc := 145) C hW hS kr0 q_1397 (nm_ok _) dX12_atom_145 (fun S1 H locs e1 hW1 hS => ?_)
  replace h := h S1 e1
  refine m_iload_n (pc := 148) C.1 dX12_atom_148 rfl hl 1 rfl ?_
  exact m_zret (pc := 149) C.1 C.2.2.2.1 C.2.2.2.2.1 hW1 hS h.1 h.2 (by decide) (by decide) dX12_atom_149
def w_X12_atom_128 (N : Nat) (F : Nat → mSt → (mSt → Int → Prop) → Prop) (Q : mSt → Int → Prop)  (r0 : Nat) (x3 : Int) (S : mSt) : Prop :=
  ∀ S1 : mSt, S1 = mup S r0 12 (nm ((S r0 12) + 1)) → w_X12_atom_138 N F Q  r0 x3 S1
theorem W_X12_atom_128 (C : mC p l s m args meth c cX12_atom "MoonWashModel" 4 (some FieldType.boolean) g) (N : Nat) {fr lo : Nat} {F : Nat → mSt → (mSt → Int → Prop) → Prop} (hF : ∀ (r0 : Nat) (kr0 : KM r0 = (0, 10, 0)) {S : mSt} {Q : mSt → Int → Prop}, F r0 S Q → ∀ sz : Nat, vx_Met l yX12_atom (Cond.code yX12_atom cX12_atom 4 (some FieldType.boolean) :: wsG) { frames := fr, cells := 0, slots := 0, locals := lo } (mPc g b KM S [.ref (b + r0)] sz) (mQi g b KM Q (mA b KM sz)) (mEx g b KM (fun _ _ => False) (mA b KM sz)) 0 0 (mA b KM sz)) {Q : mSt → Int → Prop}   (r0 : Nat) (kr0 : KM r0 = (0, 10, 0)) (x3 : Int) (ox3 : okI x3) (S : mSt) (H : Heap) (locs : List Loc) (ls : Array Slot) (hl : lv_has ls 4 [(0, .ref (b + r0)), (3, .int (mI x3))]) (hW : mW g b KM S H) (hS : va_S (mA b KM s.heap.size) s.heap H locs) (h : w_X12_atom_128 N F Q  r0 x3 S) : W p l e { frames := fr + 9, cells := 0, slots := 0, locals := lo + 238 } s m args below meth c H locs 0 0 (vx_MQ below (mQi g b KM Q (mA b KM s.heap.size)) (mEx g b KM (fun _ _ => False) (mA b KM s.heap.size)) args s 0 0 (mA b KM s.heap.size)) (F0 m 128 ls []) := by
  unfold w_X12_atom_128 at h
  refine m_aload_n (pc := 128) C.1 dX12_atom_128 rfl hl 0 rfl ?_
  refine lv_dup (pc := 129) C.1.1 C.1.2.1 dX12_atom_129 rfl ?_
  refine g_10_12 (pc := 130) C hW kr0 q_1395 dX12_atom_130 ?_
  refine m_iconst (pc := 133) C.1 dX12_atom_133 ?_
  refine m_iadd (pc := 134) C.1 dX12_atom_134 ?_
  refine p_10_12 (pc := 135) C hW hS kr0 q_1395 (nm_ok _) dX12_atom_135 (fun S1 H locs e1 hW1 hS => ?_)
  replace h := h S1 e1
  exact W_X12_atom_138 C N hF  r0 kr0 x3 ox3 S1 _ _ _ (lv_sub hl [0, 1] rfl) hW1 hS h
def w_X12_atom_84 (N : Nat) (F : Nat → mSt → (mSt → Int → Prop) → Prop) (Q : mSt → Int → Prop)  (r0 : Nat) (xs0 : Int) (S : mSt) : Prop :=
  ∀ v1 : Int, v1 = xs0 → w_X12_atom_138 N F Q  r0 v1 S
theorem W_X12_atom_84 (C : mC p l s m args meth c cX12_atom "MoonWashModel" 4 (some FieldType.boolean) g) (N : Nat) {fr lo : Nat} {F : Nat → mSt → (mSt → Int → Prop) → Prop} (hF : ∀ (r0 : Nat) (kr0 : KM r0 = (0, 10, 0)) {S : mSt} {Q : mSt → Int → Prop}, F r0 S Q → ∀ sz : Nat, vx_Met l yX12_atom (Cond.code yX12_atom cX12_atom 4 (some FieldType.boolean) :: wsG) { frames := fr, cells := 0, slots := 0, locals := lo } (mPc g b KM S [.ref (b + r0)] sz) (mQi g b KM Q (mA b KM sz)) (mEx g b KM (fun _ _ => False) (mA b KM sz)) 0 0 (mA b KM sz)) {Q : mSt → Int → Prop}   (r0 : Nat) (kr0 : KM r0 = (0, 10, 0)) (xs0 : Int) (oxs0 : okI xs0) (S : mSt) (H : Heap) (locs : List Loc) (ls : Array Slot) (hl : lv_has ls 4 [(0, .ref (b + r0))]) (hW : mW g b KM S H) (hS : va_S (mA b KM s.heap.size) s.heap H locs) (h : w_X12_atom_84 N F Q  r0 xs0 S) : W p l e { frames := fr + 9, cells := 0, slots := 0, locals := lo + 238 } s m args below meth c H locs 0 0 (vx_MQ below (mQi g b KM Q (mA b KM s.heap.size)) (mEx g b KM (fun _ _ => False) (mA b KM s.heap.size)) args s 0 0 (mA b KM s.heap.size)) (F0 m 84 ls [.int (mI xs0)]) := by
  unfold w_X12_atom_84 at h
  refine m_istore_n (pc := 84) C.1 dX12_atom_84 rfl hl (by decide) (fun v => [(3, .int v), (0, .ref (b + r0))]) (fun _ => rfl) oxs0 (fun v1 ls ev1 ov1 hl => ?_)
  replace h := h v1 ev1
  refine m_goto (pc := 85) (tgt := 138) C.1 dX12_atom_85 (by decide) ?_
  exact W_X12_atom_138 C N hF  r0 kr0 v1 ov1 S _ _ _ (lv_sub hl [1, 0] rfl) hW hS h
def w_X12_atom_40 (N : Nat) (F : Nat → mSt → (mSt → Int → Prop) → Prop) (Q : mSt → Int → Prop)  (r0 : Nat) (x1 : Int) (x2 : Int) (S : mSt) : Prop :=
  (((S r0 14) ≠ 6 → ∀ S1 : mSt, S1 = mup S r0 14 (nm ((S r0 14) + 1)) → ∀ v2 : Int, v2 = 0 → ((x2 = 0 → ∀ S3 : mSt, S3 = mup S1 r0 12 (nm ((S1 r0 12) + 1)) → w_X12_some N F r0 S3 (fun (S4 : mSt) (v4 : Int) => ∀ v5 : Int, v5 = v4 → (((S4 r0 13) ≠ (-1) → w_X12_atom_128 N F Q  r0 v5 S4) ∧ ((S4 r0 13) = (-1) → w_X12_isSign N r0 41 S4 (fun (S6 : mSt) (v6 : Int) => ((v6 ≠ 0 → w_X12_atom_128 N F Q  r0 v5 S6) ∧ (v6 = 0 → w_X12_wrong N r0 (S6 r0 12) S6 (fun (S7 : mSt) => w_X12_atom_128 N F Q  r0 v5 S7)))))))) ∧ (x2 ≠ 0 → F r0 S1 (fun (S8 : mSt) (v8 : Int) => ((v8 ≠ 0 → w_X12_atom_84 N F Q  r0 0 S8) ∧ (v8 = 0 → w_X12_atom_84 N F Q  r0 1 S8)))))) ∧ ((S r0 14) = 6 → w_X12_wrong N r0 x1 S (fun (S9 : mSt) => Q S9 0)))
theorem W_X12_atom_40 (C : mC p l s m args meth c cX12_atom "MoonWashModel" 4 (some FieldType.boolean) g) (N : Nat) {fr lo : Nat} {F : Nat → mSt → (mSt → Int → Prop) → Prop} (hF : ∀ (r0 : Nat) (kr0 : KM r0 = (0, 10, 0)) {S : mSt} {Q : mSt → Int → Prop}, F r0 S Q → ∀ sz : Nat, vx_Met l yX12_atom (Cond.code yX12_atom cX12_atom 4 (some FieldType.boolean) :: wsG) { frames := fr, cells := 0, slots := 0, locals := lo } (mPc g b KM S [.ref (b + r0)] sz) (mQi g b KM Q (mA b KM sz)) (mEx g b KM (fun _ _ => False) (mA b KM sz)) 0 0 (mA b KM sz)) {Q : mSt → Int → Prop}   (r0 : Nat) (kr0 : KM r0 = (0, 10, 0)) (x1 : Int) (ox1 : okI x1) (x2 : Int) (ox2 : okI x2) (S : mSt) (H : Heap) (locs : List Loc) (ls : Array Slot) (hl : lv_has ls 4 [(0, .ref (b + r0)), (1, .int (mI x1)), (2, .int (mI x2))]) (hW : mW g b KM S H) (hS : va_S (mA b KM s.heap.size) s.heap H locs) (h : w_X12_atom_40 N F Q  r0 x1 x2 S) : W p l e { frames := fr + 9, cells := 0, slots := 0, locals := lo + 238 } s m args below meth c H locs 0 0 (vx_MQ below (mQi g b KM Q (mA b KM s.heap.size)) (mEx g b KM (fun _ _ => False) (mA b KM s.heap.size)) args s 0 0 (mA b KM s.heap.size)) (F0 m 40 ls []) := by
  unfold w_X12_atom_40 at h
  refine m_aload_n (pc := 40) C.1 dX12_atom_40 rfl hl 0 rfl ?_
  refine g_10_14 (pc := 41) C hW kr0 q_1397 dX12_atom_41 ?_
  refine m_bipush (pc := 44) C.1 dX12_atom_44 rfl ?_
  refine m_icmp_ne (pc := 46) (tgt := 56) C.1 (hW.2.1 _ _) (by decide : okI 6) dX12_atom_46 (by decide) (fun hc => ?_) (fun hc => ?_)
  · replace h := h.1 hc
    refine m_aload_n (pc := 56) C.1 dX12_atom_56 rfl hl 0 rfl ?_
    refine lv_dup (pc := 57) C.1.1 C.1.2.1 dX12_atom_57 rfl ?_
    refine g_10_14 (pc := 58) C hW kr0 q_1397 dX12_atom_58 ?_
    refine m_iconst (pc := 61) C.1 dX12_atom_61 ?_
    refine m_iadd (pc := 62) C.1 dX12_atom_62 ?_
    refine p_10_14 (pc := 63) C hW hS kr0 q_1397 (nm_ok _) dX12_atom_63 (fun S1 H locs e1 hW1 hS => ?_)
    replace h := h S1 e1
    refine m_iconst (pc := 66) C.1 dX12_atom_66 ?_
    refine m_istore_n (pc := 67) C.1 dX12_atom_67 rfl hl (by decide) (fun v => [(3, .int v), (0, .ref (b + r0)), (1, .int (mI x1)), (2, .int (mI x2))]) (fun _ => rfl) (by decide : okI 0) (fun v2 ls ev2 ov2 hl => ?_)
    replace h := h v2 ev2
    refine m_iload_n (pc := 68) C.1 dX12_atom_68 rfl hl 3 rfl ?_
    refine m_if_eq (pc := 69) (tgt := 88) C.1 ox2 dX12_atom_69 (by decide) (fun hc => ?_) (fun hc => ?_)
    · replace h := h.1 hc
      refine m_aload_n (pc := 88) C.1 dX12_atom_88 rfl hl 1 rfl ?_
      refine lv_dup (pc := 89) C.1.1 C.1.2.1 dX12_atom_89 rfl ?_
      refine g_10_12 (pc := 90) C hW1 kr0 q_1395 dX12_atom_90 ?_
      refine m_iconst (pc := 93) C.1 dX12_atom_93 ?_
      refine m_iadd (pc := 94) C.1 dX12_atom_94 ?_
      refine p_10_12 (pc := 95) C hW1 hS kr0 q_1395 (nm_ok _) dX12_atom_95 (fun S3 H locs e3 hW3 hS => ?_)
      replace h := h S3 e3
      refine m_aload_n (pc := 98) C.1 dX12_atom_98 rfl hl 1 rfl ?_
      refine m_callVi (pc := 99) C.1 C.2.2.1 hl.1 C.2.1 hW3 hS (As := []) (rest := []) (r := r0) (T_X12_some C.2.2.2.2.2.2 N hF r0 kr0 h) kr0 rfl q_1529 q_1531 q_33 q_92 q_1532 pl_X12_some (by dsimp only [mRm]; omega) (Nat.le_of_ble_eq_true rfl) dX12_atom_99 (fun v4 S4 H locs ov4 h hW4 hS => ?_)
      refine m_istore_n (pc := 102) C.1 dX12_atom_102 rfl hl (by decide) (fun v => [(3, .int v), (0, .ref (b + r0)), (1, .int (mI x1)), (2, .int (mI x2))]) (fun _ => rfl) ov4 (fun v5 ls ev5 ov5 hl => ?_)
      replace h := h v5 ev5
      refine m_aload_n (pc := 103) C.1 dX12_atom_103 rfl hl 1 rfl ?_
      refine g_10_13 (pc := 104) C hW4 kr0 q_1396 dX12_atom_104 ?_
      refine m_iconst (pc := 107) C.1 dX12_atom_107 ?_
      refine m_icmp_ne (pc := 108) (tgt := 128) C.1 (hW4.2.1 _ _) (by decide : okI (-1)) dX12_atom_108 (by decide) (fun hc => ?_) (fun hc => ?_)
      · replace h := h.1 hc
        exact W_X12_atom_128 C N hF  r0 kr0 v5 ov5 S4 _ _ _ (lv_sub hl [1, 0] rfl) hW4 hS h
      · replace h := h.2 hc
        refine m_aload_n (pc := 111) C.1 dX12_atom_111 rfl hl 1 rfl ?_
        refine m_bipush (pc := 112) C.1 dX12_atom_112 rfl ?_
        refine m_callVi (pc := 114) C.1 C.2.2.1 hl.1 C.2.1 hW4 hS (As := [.int (mI 41)]) (rest := []) (r := r0) (T_X12_isSign C.2.2.2.2.2.2 N r0 kr0 41 (by decide : okI 41) h) kr0 rfl q_1542 q_1544 q_36 q_92 q_1545 pl_X12_isSign (by dsimp only [mRm]; omega) (Nat.le_of_ble_eq_true rfl) dX12_atom_114 (fun v6 S6 H locs ov6 h hW6 hS => ?_)
        refine m_if_ne (pc := 117) (tgt := 128) C.1 ov6 dX12_atom_117 (by decide) (fun hc => ?_) (fun hc => ?_)
        · replace h := h.1 hc
          exact W_X12_atom_128 C N hF  r0 kr0 v5 ov5 S6 _ _ _ (lv_sub hl [1, 0] rfl) hW6 hS h
        · replace h := h.2 hc
          refine m_aload_n (pc := 120) C.1 dX12_atom_120 rfl hl 1 rfl ?_
          refine m_aload_n (pc := 121) C.1 dX12_atom_121 rfl hl 1 rfl ?_
          refine g_10_12 (pc := 122) C hW6 kr0 q_1395 dX12_atom_122 ?_
          refine m_callVv (pc := 125) C.1 C.2.2.1 hl.1 C.2.1 hW6 hS (As := [.int (mI (S6 r0 12))]) (rest := []) (r := r0) (T_X12_wrong C.2.2.2.2.2.2 N r0 kr0 (S6 r0 12) (hW6.2.1 _ _) h) kr0 rfl q_1502 q_1504 q_28 q_92 q_1505 pl_X12_wrong (by dsimp only [mRm]; omega) (Nat.le_of_ble_eq_true rfl) dX12_atom_125 (fun S7 H locs h hW7 hS => ?_)
          exact W_X12_atom_128 C N hF  r0 kr0 v5 ov5 S7 _ _ _ (lv_sub hl [1, 0] rfl) hW7 hS h
    · replace h := h.2 hc
      refine m_aload_n (pc := 72) C.1 dX12_atom_72 rfl hl 1 rfl ?_
      refine m_callVi (pc := 73) C.1 C.2.2.1 hl.1 C.2.1 hW1 hS (As := []) (rest := []) (r := r0) (hF r0 kr0 h) kr0 rfl q_1537 q_1539 q_35 q_92 q_1540 pl_X12_atom (by dsimp only [mRm]; omega) (Nat.le_of_ble_eq_true rfl) dX12_atom_73 (fun v8 S8 H locs ov8 h hW8 hS => ?_)
      refine m_if_ne (pc := 76) (tgt := 83) C.1 ov8 dX12_atom_76 (by decide) (fun hc => ?_) (fun hc => ?_)
      · replace h := h.1 hc
        refine m_iconst (pc := 83) C.1 dX12_atom_83 ?_
        exact W_X12_atom_84 C N hF  r0 kr0 0 (by decide : okI 0) S8 _ _ _ (lv_sub hl [1] rfl) hW8 hS h
      · replace h := h.2 hc
        refine m_iconst (pc := 79) C.1 dX12_atom_79 ?_
        refine m_goto (pc := 80) (tgt := 84) C.1 dX12_atom_80 (by decide) ?_
        exact W_X12_atom_84 C N hF  r0 kr0 1 (by decide : okI 1) S8 _ _ _ (lv_sub hl [1] rfl) hW8 hS h
  · replace h := h.2 hc
    refine m_aload_n (pc := 49) C.1 dX12_atom_49 rfl hl 0 rfl ?_
    refine m_iload_n (pc := 50) C.1 dX12_atom_50 rfl hl 1 rfl ?_
    refine m_callVv (pc := 51) C.1 C.2.2.1 hl.1 C.2.1 hW hS (As := [.int (mI x1)]) (rest := []) (r := r0) (T_X12_wrong C.2.2.2.2.2.2 N r0 kr0 x1 ox1 h) kr0 rfl q_1502 q_1504 q_28 q_92 q_1505 pl_X12_wrong (by dsimp only [mRm]; omega) (Nat.le_of_ble_eq_true rfl) dX12_atom_51 (fun S9 H locs h hW9 hS => ?_)
    refine m_iconst (pc := 54) C.1 dX12_atom_54 ?_
    exact m_zret (pc := 55) C.1 C.2.2.2.1 C.2.2.2.2.1 hW9 hS (by decide) h (by decide) (by decide) dX12_atom_55
end
def w_X12_atom_b (N : Nat) (F : Nat → mSt → (mSt → Int → Prop) → Prop) (r0 : Nat) (S : mSt) (Q : mSt → Int → Prop) : Prop :=
  (((S r0 13) = (-1) → w_X12_place N r0 S (fun (S1 : mSt) (v1 : Int) => ∀ v2 : Int, v2 = v1 → w_X12_has_ N r0 31 S1 (fun (S3 : mSt) (v3 : Int) => ∀ v4 : Int, v4 = v3 → ((v4 ≠ 0 → w_X12_atom_40 N F Q  r0 v2 v4 S3) ∧ (v4 = 0 → w_X12_isSign N r0 40 S3 (fun (S5 : mSt) (v5 : Int) => ((v5 ≠ 0 → w_X12_atom_40 N F Q  r0 v2 v4 S5) ∧ (v5 = 0 → w_X12_plain N r0 S5 (fun (S6 : mSt) (v6 : Int) => ((v6 = 0 ∨ v6 = 1) ∧ Q S6 v6)))))))))) ∧ ((S r0 13) ≠ (-1) → Q S 0))
theorem T_X12_atom_b {l : Launch} (hl0 : l.stackTraces = false) {g : mG} {b : Nat} (N : Nat) {fr lo : Nat} {F : Nat → mSt → (mSt → Int → Prop) → Prop} (hF : ∀ (r0 : Nat) (kr0 : KM r0 = (0, 10, 0)) {S : mSt} {Q : mSt → Int → Prop}, F r0 S Q → ∀ sz : Nat, vx_Met l yX12_atom (Cond.code yX12_atom cX12_atom 4 (some FieldType.boolean) :: wsG) { frames := fr, cells := 0, slots := 0, locals := lo } (mPc g b KM S [.ref (b + r0)] sz) (mQi g b KM Q (mA b KM sz)) (mEx g b KM (fun _ _ => False) (mA b KM sz)) 0 0 (mA b KM sz)) (r0 : Nat) (kr0 : KM r0 = (0, 10, 0)) {S : mSt} {Q : mSt → Int → Prop} (h : w_X12_atom_b N F r0 S Q) (sz : Nat) : vx_Met l yX12_atom (Cond.code yX12_atom cX12_atom 4 (some FieldType.boolean) :: wsG) { frames := fr + 9, cells := 0, slots := 0, locals := lo + 238 } (mPc g b KM S [.ref (b + r0)] sz) (mQi g b KM Q (mA b KM sz)) (mEx g b KM (fun _ _ => False) (mA b KM sz)) 0 0 (mA b KM sz) :=
  m_of (av := [.ref (b + r0)]) (Qf := fun A => mQi g b KM Q A) (Xf := fun A => mEx g b KM (fun _ _ => False) A) (by decide) (Nat.le_of_ble_eq_true rfl) (fun p e s m args below meth c ls X hK hml hr hlk hout hnm hW hl => by
    have C : mC p l s m args meth c cX12_atom "MoonWashModel" 4 (some FieldType.boolean) g := ⟨X, hK, hml, hr, hlk, hout, hl0⟩
    have hS : va_S (mA b KM s.heap.size) s.heap s.heap [] := va_S.rf
    have hl : lv_has ls 4 [(0, .ref (b + r0))] := hl
    unfold w_X12_atom_b at h
    refine m_aload_n (pc := 0) C.1 dX12_atom_0 rfl hl 0 rfl ?_
    refine g_10_13 (pc := 1) C hW kr0 q_1396 dX12_atom_1 ?_
    refine m_iconst (pc := 4) C.1 dX12_atom_4 ?_
    refine m_icmp_eq (pc := 5) (tgt := 10) C.1 (hW.2.1 _ _) (by decide : okI (-1)) dX12_atom_5 (by decide) (fun hc => ?_) (fun hc => ?_)
    · replace h := h.1 hc
      refine m_aload_n (pc := 10) C.1 dX12_atom_10 rfl hl 0 rfl ?_
      refine m_callVi (pc := 11) C.1 C.2.2.1 hl.1 C.2.1 hW hS (As := []) (rest := []) (r := r0) (T_X12_place C.2.2.2.2.2.2 N r0 kr0 h) kr0 rfl q_1524 q_1526 q_32 q_92 q_1527 pl_X12_place (by dsimp only [mRm]; omega) (Nat.le_of_ble_eq_true rfl) dX12_atom_11 (fun v1 S1 H locs ov1 h hW1 hS => ?_)
      refine m_istore_n (pc := 14) C.1 dX12_atom_14 rfl hl (by decide) (fun v => [(1, .int v), (0, .ref (b + r0))]) (fun _ => rfl) ov1 (fun v2 ls ev2 ov2 hl => ?_)
      replace h := h v2 ev2
      refine m_aload_n (pc := 15) C.1 dX12_atom_15 rfl hl 1 rfl ?_
      refine m_ldcS (pc := 16) C.1 C.2.1 (index := 212) (j := 31) (tx := "not") (by decide +kernel) dX12_atom_16 ?_
      refine m_callVi (pc := 18) C.1 C.2.2.1 hl.1 C.2.1 hW1 hS (As := [.ref (g.sa 31)]) (rest := []) (r := r0) (T_X12_has_ C.2.2.2.2.2.2 N r0 kr0 31 (by decide : 31 < nJS) h) kr0 rfl q_1511 q_1513 q_30 q_92 q_1514 pl_X12_has_ (by dsimp only [mRm]; omega) (Nat.le_of_ble_eq_true rfl) dX12_atom_18 (fun v3 S3 H locs ov3 h hW3 hS => ?_)
      refine m_istore_n (pc := 21) C.1 dX12_atom_21 rfl hl (by decide) (fun v => [(2, .int v), (1, .int (mI v2)), (0, .ref (b + r0))]) (fun _ => rfl) ov3 (fun v4 ls ev4 ov4 hl => ?_)
      replace h := h v4 ev4
      refine m_iload_n (pc := 22) C.1 dX12_atom_22 rfl hl 0 rfl ?_
      refine m_if_ne (pc := 23) (tgt := 40) C.1 ov4 dX12_atom_23 (by decide) (fun hc => ?_) (fun hc => ?_)
      · replace h := h.1 hc
        exact W_X12_atom_40 C N hF  r0 kr0 v2 ov2 v4 ov4 S3 _ _ _ (lv_sub hl [2, 1, 0] rfl) hW3 hS h
      · replace h := h.2 hc
        refine m_aload_n (pc := 26) C.1 dX12_atom_26 rfl hl 2 rfl ?_
        refine m_bipush (pc := 27) C.1 dX12_atom_27 rfl ?_
        refine m_callVi (pc := 29) C.1 C.2.2.1 hl.1 C.2.1 hW3 hS (As := [.int (mI 40)]) (rest := []) (r := r0) (T_X12_isSign C.2.2.2.2.2.2 N r0 kr0 40 (by decide : okI 40) h) kr0 rfl q_1542 q_1544 q_36 q_92 q_1545 pl_X12_isSign (by dsimp only [mRm]; omega) (Nat.le_of_ble_eq_true rfl) dX12_atom_29 (fun v5 S5 H locs ov5 h hW5 hS => ?_)
        refine m_if_ne (pc := 32) (tgt := 40) C.1 ov5 dX12_atom_32 (by decide) (fun hc => ?_) (fun hc => ?_)
        · replace h := h.1 hc
          exact W_X12_atom_40 C N hF  r0 kr0 v2 ov2 v4 ov4 S5 _ _ _ (lv_sub hl [2, 1, 0] rfl) hW5 hS h
        · replace h := h.2 hc
          refine m_aload_n (pc := 35) C.1 dX12_atom_35 rfl hl 2 rfl ?_
          refine m_callVi (pc := 36) C.1 C.2.2.1 hl.1 C.2.1 hW5 hS (As := []) (rest := []) (r := r0) (T_X12_plain C.2.2.2.2.2.2 N r0 kr0 h) kr0 rfl q_1546 q_1548 q_37 q_92 q_1549 pl_X12_plain (by dsimp only [mRm]; omega) (Nat.le_of_ble_eq_true rfl) dX12_atom_36 (fun v6 S6 H locs ov6 h hW6 hS => ?_)
          exact m_zret (pc := 39) C.1 C.2.2.2.1 C.2.2.2.2.1 hW6 hS h.1 h.2 (by decide) (by decide) dX12_atom_39
    · replace h := h.2 hc
      refine m_iconst (pc := 8) C.1 dX12_atom_8 ?_
      exact m_zret (pc := 9) C.1 C.2.2.2.1 C.2.2.2.2.1 hW hS (by decide) h (by decide) (by decide) dX12_atom_9) sz
def w_X12_atom (N : Nat) : Nat → Nat → mSt → (mSt → Int → Prop) → Prop
  | 0 => fun _ _ _ => False
  | d + 1 => w_X12_atom_b N (w_X12_atom N d)
theorem T_X12_atom {l : Launch} (hl0 : l.stackTraces = false) {g : mG} {b : Nat} (N : Nat) : ∀ (d : Nat) (r0 : Nat) (kr0 : KM r0 = (0, 10, 0)) {S : mSt} {Q : mSt → Int → Prop}, w_X12_atom N d r0 S Q → ∀ sz : Nat, vx_Met l yX12_atom (Cond.code yX12_atom cX12_atom 4 (some FieldType.boolean) :: wsG) { frames := 9 * d, cells := 0, slots := 0, locals := 238 * d } (mPc g b KM S [.ref (b + r0)] sz) (mQi g b KM Q (mA b KM sz)) (mEx g b KM (fun _ _ => False) (mA b KM sz)) 0 0 (mA b KM sz) := by
  intro d
  induction d with
  | zero => intro r0 kr0 S Q h; exact False.elim h
  | succ d ih => intro r0 kr0 S Q h sz; exact T_X12_atom_b hl0 N (fun r0 kr0 => fun hh => ih r0 kr0 hh) r0 kr0 h sz
