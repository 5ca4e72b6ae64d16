set_option maxHeartbeats 4000000
set_option maxRecDepth 20000
section
variable {p : Program} {l : Launch} {e : Env} {s : State} {m : MethodId} {args : Array Value} {below : List Frame} {meth : Method} {c : Code} {g : mG} {b : Nat}
def w_X12_lawLine_163 (N : Nat) (Q : mSt → Prop)  (r0 : Nat) (x1 : Int) (x2 : Int) (xs0 : Int) (xs1 : Int) (rs2 : Nat) (S : mSt) : Prop :=
  ∀ S1 : mSt, S1 = mup S rs2 19 (nm (xs1 + xs0)) → ((x1 ≠ 3 → ∀ S2 : mSt, S2 = mup S1 r0 20 (nm ((S1 r0 20) + 0)) → Q S2) ∧ (x1 = 3 → ∀ S3 : mSt, S3 = mup S1 r0 20 (nm ((S1 r0 20) + x2)) → Q S3))
theorem W_X12_lawLine_163 (C : mC p l s m args meth c cX12_lawLine "MoonWashModel" 4 none g) (N : Nat) {Q : mSt → Prop}   (r0 : Nat) (kr0 : KM r0 = (0, 10, 0)) (x1 : Int) (ox1 : okI x1) (x2 : Int) (ox2 : okI x2) (xs0 : Int) (oxs0 : okI xs0) (xs1 : Int) (oxs1 : okI xs1) (rs2 : Nat) (krs2 : KM rs2 = (0, 10, 0)) (S : mSt) (H : Heap) (locs : List Loc) (ls : Array Slot) (hl : lv_has ls 4 [(0, .ref (b + r0)), (1, .int (mI x1)), (2, .int (mI x2))]) (hW : mW g b KM S H) (hS : va_S (mA b KM s.heap.size) s.heap H locs) (h : w_X12_lawLine_163 N Q  r0 x1 x2 xs0 xs1 rs2 S) : W p l e { frames := 116, cells := 0, slots := 0, locals := 3073 } s m args below meth c H locs 0 0 (vx_MQ below (mQv g b KM Q (mA b KM s.heap.size)) (mEx g b KM (fun _ _ => False) (mA b KM s.heap.size)) args s 0 0 (mA b KM s.heap.size)) (F0 m 163 ls [.int (mI xs0), .int (mI xs1), .ref (b + rs2)]) := by
  unfold w_X12_lawLine_163 at h
  refine m_iadd (pc := 163) C.1 dX12_lawLine_163 ?_
  refine p_10_19 (pc := 164) C hW hS krs2 q_1402 (nm_ok _) dX12_lawLine_164 (fun S1 H locs e1 hW1 hS => ?_)
  replace h := h S1 e1
  refine m_aload_n (pc := 167) C.1 dX12_lawLine_167 rfl hl 0 rfl ?_
  refine lv_dup (pc := 168) C.1.1 C.1.2.1 dX12_lawLine_168 rfl ?_
  refine g_10_20 (pc := 169) C hW1 kr0 q_1403 dX12_lawLine_169 ?_
  refine m_iload_n (pc := 172) C.1 dX12_lawLine_172 rfl hl 1 rfl ?_
  refine m_iconst (pc := 173) C.1 dX12_lawLine_173 ?_
  refine m_icmp_ne (pc := 174) (tgt := 181) C.1 ox1 (by decide : okI 3) dX12_lawLine_174 (by decide) (fun hc => ?_) (fun hc => ?_)
  · replace h := h.1 hc
    refine m_iconst (pc := 181) C.1 dX12_lawLine_181 ?_
    refine m_iadd (pc := 182) C.1 dX12_lawLine_182 ?_
    refine p_10_20 (pc := 183) C hW1 hS kr0 q_1403 (nm_ok _) dX12_lawLine_183 (fun S2 H locs e2 hW2 hS => ?_)
    replace h := h S2 e2
    exact m_vret (pc := 186) C.1 C.2.2.2.1 C.2.2.2.2.1 hW2 hS h (by decide) (by decide) dX12_lawLine_186
  · replace h := h.2 hc
    refine m_iload_n (pc := 177) C.1 dX12_lawLine_177 rfl hl 2 rfl ?_
    refine m_goto (pc := 178) (tgt := 182) C.1 dX12_lawLine_178 (by decide) ?_
    refine m_iadd (pc := 182) C.1 dX12_lawLine_182 ?_
    refine p_10_20 (pc := 183) C hW1 hS kr0 q_1403 (nm_ok _) dX12_lawLine_183 (fun S3 H locs e3 hW3 hS => ?_)
    replace h := h S3 e3
    exact m_vret (pc := 186) C.1 C.2.2.2.1 C.2.2.2.2.1 hW3 hS h (by decide) (by decide) dX12_lawLine_186
def w_X12_lawLine_144 (N : Nat) (Q : mSt → Prop)  (r0 : Nat) (x1 : Int) (x2 : Int) (xs0 : Int) (xs1 : Int) (rs2 : Nat) (S : mSt) : Prop :=
  ∀ S1 : mSt, S1 = mup S rs2 18 (nm (xs1 + xs0)) → ((x1 ≠ 2 → w_X12_lawLine_163 N Q  r0 x1 x2 0 (S1 r0 19) r0 S1) ∧ (x1 = 2 → w_X12_lawLine_163 N Q  r0 x1 x2 x2 (S1 r0 19) r0 S1))
theorem W_X12_lawLine_144 (C : mC p l s m args meth c cX12_lawLine "MoonWashModel" 4 none g) (N : Nat) {Q : mSt → Prop}   (r0 : Nat) (kr0 : KM r0 = (0, 10, 0)) (x1 : Int) (ox1 : okI x1) (x2 : Int) (ox2 : okI x2) (xs0 : Int) (oxs0 : okI xs0) (xs1 : Int) (oxs1 : okI xs1) (rs2 : Nat) (krs2 : KM rs2 = (0, 10, 0)) (S : mSt) (H : Heap) (locs : List Loc) (ls : Array Slot) (hl : lv_has ls 4 [(0, .ref (b + r0)), (1, .int (mI x1)), (2, .int (mI x2))]) (hW : mW g b KM S H) (hS : va_S (mA b KM s.heap.size) s.heap H locs) (h : w_X12_lawLine_144 N Q  r0 x1 x2 xs0 xs1 rs2 S) : W p l e { frames := 116, cells := 0, slots := 0, locals := 3073 } s m args below meth c H locs 0 0 (vx_MQ below (mQv g b KM Q (mA b KM s.heap.size)) (mEx g b KM (fun _ _ => False) (mA b KM s.heap.size)) args s 0 0 (mA b KM s.heap.size)) (F0 m 144 ls [.int (mI xs0), .int (mI xs1), .ref (b + rs2)]) := by
  unfold w_X12_lawLine_144 at h
  refine m_iadd (pc := 144) C.1 dX12_lawLine_144 ?_
  refine p_10_18 (pc := 145) C hW hS krs2 q_1401 (nm_ok _) dX12_lawLine_145 (fun S1 H locs e1 hW1 hS => ?_)
  replace h := h S1 e1
  refine m_aload_n (pc := 148) C.1 dX12_lawLine_148 rfl hl 0 rfl ?_
  refine lv_dup (pc := 149) C.1.1 C.1.2.1 dX12_lawLine_149 rfl ?_
  refine g_10_19 (pc := 150) C hW1 kr0 q_1402 dX12_lawLine_150 ?_
  refine m_iload_n (pc := 153) C.1 dX12_lawLine_153 rfl hl 1 rfl ?_
  refine m_iconst (pc := 154) C.1 dX12_lawLine_154 ?_
  refine m_icmp_ne (pc := 155) (tgt := 162) C.1 ox1 (by decide : okI 2) dX12_lawLine_155 (by decide) (fun hc => ?_) (fun hc => ?_)
  · replace h := h.1 hc
    refine m_iconst (pc := 162) C.1 dX12_lawLine_162 ?_
    exact W_X12_lawLine_163 C N  r0 kr0 x1 ox1 x2 ox2 0 (by decide : okI 0) (S1 r0 19) (hW1.2.1 _ _) r0 kr0 S1 _ _ _ (lv_sub hl [0, 1, 2] rfl) hW1 hS h
  · replace h := h.2 hc
    refine m_iload_n (pc := 158) C.1 dX12_lawLine_158 rfl hl 2 rfl ?_
    refine m_goto (pc := 159) (tgt := 163) C.1 dX12_lawLine_159 (by decide) ?_
    exact W_X12_lawLine_163 C N  r0 kr0 x1 ox1 x2 ox2 x2 ox2 (S1 r0 19) (hW1.2.1 _ _) r0 kr0 S1 _ _ _ (lv_sub hl [0, 1, 2] rfl) hW1 hS h
def w_X12_lawLine_106 (N : Nat) (Q : mSt → Prop)  (r0 : Nat) (x1 : Int) (x2 : Int) (xs0 : Int) (S : mSt) : Prop :=
  ∀ v1 : Int, v1 = xs0 → (((S r0 13) ≠ (-1) → Q S) ∧ ((S r0 13) = (-1) → ((v1 ≠ 0 → ((x1 ≠ 0 → ((x1 ≠ 1 → w_X12_lawLine_144 N Q  r0 x1 x2 0 (S r0 18) r0 S) ∧ (x1 = 1 → w_X12_lawLine_144 N Q  r0 x1 x2 (nm (-x2)) (S r0 18) r0 S))) ∧ (x1 = 0 → w_X12_lawLine_144 N Q  r0 x1 x2 x2 (S r0 18) r0 S))) ∧ (v1 = 0 → Q S))))
theorem W_X12_lawLine_106 (C : mC p l s m args meth c cX12_lawLine "MoonWashModel" 4 none g) (N : Nat) {Q : mSt → Prop}   (r0 : Nat) (kr0 : KM r0 = (0, 10, 0)) (x1 : Int) (ox1 : okI x1) (x2 : Int) (ox2 : okI x2) (xs0 : Int) (oxs0 : okI xs0) (S : mSt) (H : Heap) (locs : List Loc) (ls : Array Slot) (hl : lv_has ls 4 [(0, .ref (b + r0)), (1, .int (mI x1)), (2, .int (mI x2))]) (hW : mW g b KM S H) (hS : va_S (mA b KM s.heap.size) s.heap H locs) (h : w_X12_lawLine_106 N Q  r0 x1 x2 xs0 S) : W p l e { frames := 116, cells := 0, slots := 0, locals := 3073 } s m args below meth c H locs 0 0 (vx_MQ below (mQv g b KM Q (mA b KM s.heap.size)) (mEx g b KM (fun _ _ => False) (mA b KM s.heap.size)) args s 0 0 (mA b KM s.heap.size)) (F0 m 106 ls [.int (mI xs0)]) := by
  unfold w_X12_lawLine_106 at h
  refine m_istore_n (pc := 106) C.1 dX12_lawLine_106 rfl hl (by decide) (fun v => [(3, .int v), (0, .ref (b + r0)), (1, .int (mI x1)), (2, .int (mI x2))]) (fun _ => rfl) oxs0 (fun v1 ls ev1 ov1 hl => ?_)
  replace h := h v1 ev1
  refine m_aload_n (pc := 107) C.1 dX12_lawLine_107 rfl hl 1 rfl ?_
  refine g_10_13 (pc := 108) C hW kr0 q_1396 dX12_lawLine_108 ?_
  refine m_iconst (pc := 111) C.1 dX12_lawLine_111 ?_
  refine m_icmp_ne (pc := 112) (tgt := 119) C.1 (hW.2.1 _ _) (by decide : okI (-1)) dX12_lawLine_112 (by decide) (fun hc => ?_) (fun hc => ?_)
  · replace h := h.1 hc
    exact m_vret (pc := 119) C.1 C.2.2.2.1 C.2.2.2.2.1 hW hS h (by decide) (by decide) dX12_lawLine_119
  · replace h := h.2 hc
    refine m_iload_n (pc := 115) C.1 dX12_lawLine_115 rfl hl 0 rfl ?_
    refine m_if_ne (pc := 116) (tgt := 120) C.1 ov1 dX12_lawLine_116 (by decide) (fun hc => ?_) (fun hc => ?_)
    · replace h := h.1 hc
      refine m_aload_n (pc := 120) C.1 dX12_lawLine_120 rfl hl 1 rfl ?_
      refine lv_dup (pc := 121) C.1.1 C.1.2.1 dX12_lawLine_121 rfl ?_
      refine g_10_18 (pc := 122) C hW kr0 q_1401 dX12_lawLine_122 ?_
      refine m_iload_n (pc := 125) C.1 dX12_lawLine_125 rfl hl 2 rfl ?_
      refine m_if_ne (pc := 126) (tgt := 133) C.1 ox1 dX12_lawLine_126 (by decide) (fun hc => ?_) (fun hc => ?_)
      · replace h := h.1 hc
        refine m_iload_n (pc := 133) C.1 dX12_lawLine_133 rfl hl 2 rfl ?_
        refine m_iconst (pc := 134) C.1 dX12_lawLine_134 ?_
        refine m_icmp_ne (pc := 135) (tgt := 143) C.1 ox1 (by decide : okI 1) dX12_lawLine_135 (by decide) (fun hc => ?_) (fun hc => ?_)
        · replace h := h.1 hc
          refine m_iconst (pc := 143) C.1 dX12_lawLine_143 ?_
          exact W_X12_lawLine_144 C N  r0 kr0 x1 ox1 x2 ox2 0 (by decide : okI 0) (S r0 18) (hW.2.1 _ _) r0 kr0 S _ _ _ (lv_sub hl [1, 2, 3] rfl) hW hS h
        · replace h := h.2 hc
          refine m_iload_n (pc := 138) C.1 dX12_lawLine_138 rfl hl 3 rfl ?_
          refine m_ineg (pc := 139) C.1 dX12_lawLine_139 ?_
          refine m_goto (pc := 140) (tgt := 144) C.1 dX12_lawLine_140 (by decide) ?_
          exact W_X12_lawLine_144 C N  r0 kr0 x1 ox1 x2 ox2 (nm (-x2)) (nm_ok _) (S r0 18) (hW.2.1 _ _) r0 kr0 S _ _ _ (lv_sub hl [1, 2, 3] rfl) hW hS h
      · replace h := h.2 hc
        refine m_iload_n (pc := 129) C.1 dX12_lawLine_129 rfl hl 3 rfl ?_
        refine m_goto (pc := 130) (tgt := 144) C.1 dX12_lawLine_130 (by decide) ?_
        exact W_X12_lawLine_144 C N  r0 kr0 x1 ox1 x2 ox2 x2 ox2 (S r0 18) (hW.2.1 _ _) r0 kr0 S _ _ _ (lv_sub hl [1, 2, 3] rfl) hW hS h
    · replace h := h.2 hc
      exact m_vret (pc := 119) C.1 C.2.2.2.1 C.2.2.2.2.1 hW hS h (by decide) (by decide) dX12_lawLine_119
def w_X12_lawLine_101 (N : Nat) (Q : mSt → Prop)  (r0 : Nat) (x1 : Int) (x2 : Int) (S : mSt) : Prop :=
  w_X12_lawLine_106 N Q  r0 x1 x2 1 S
theorem W_X12_lawLine_101 (C : mC p l s m args meth c cX12_lawLine "MoonWashModel" 4 none g) (N : Nat) {Q : mSt → Prop}   (r0 : Nat) (kr0 : KM r0 = (0, 10, 0)) (x1 : Int) (ox1 : okI x1) (x2 : Int) (ox2 : okI x2) (S : mSt) (H : Heap) (locs : List Loc) (ls : Array Slot) (hl : lv_has ls 4 [(0, .ref (b + r0)), (1, .int (mI x1)), (2, .int (mI x2))]) (hW : mW g b KM S H) (hS : va_S (mA b KM s.heap.size) s.heap H locs) (h : w_X12_lawLine_101 N Q  r0 x1 x2 S) : W p l e { frames := 116, cells := 0, slots := 0, locals := 3073 } s m args below meth c H locs 0 0 (vx_MQ below (mQv g b KM Q (mA b KM s.heap.size)) (mEx g b KM (fun _ _ => False) (mA b KM s.heap.size)) args s 0 0 (mA b KM s.heap.size)) (F0 m 101 ls []) := by
  unfold w_X12_lawLine_101 at h
  refine m_iconst (pc := 101) C.1 dX12_lawLine_101 ?_
  refine m_goto (pc := 102) (tgt := 106) C.1 dX12_lawLine_102 (by decide) ?_
  exact W_X12_lawLine_106 C N  r0 kr0 x1 ox1 x2 ox2 1 (by decide : okI 1) S _ _ _ (lv_sub hl [0, 1, 2] rfl) hW hS h
def w_X12_lawLine_53 (N : Nat) (Q : mSt → Prop)  (r0 : Nat) (xs0 : Int) (S : mSt) : Prop :=
  ∀ v1 : Int, v1 = xs0 → ((v1 ≠ (-1) → w_X12_figures N r0 0 20 S (fun (S2 : mSt) (v2 : Int) => ∀ v3 : Int, v3 = v2 → (((S2 r0 13) = (-1) → w_X12_has_ N r0 28 S2 (fun (S4 : mSt) (v4 : Int) => ((v4 = 0 → w_X12_lawLine_101 N Q  r0 v1 v3 S4) ∧ (v4 ≠ 0 → w_X12_some N (w_X12_atom N 12) r0 S4 (fun (S5 : mSt) (v5 : Int) => ((v5 = 0 → w_X12_lawLine_106 N Q  r0 v1 v3 0 S5) ∧ (v5 ≠ 0 → w_X12_lawLine_101 N Q  r0 v1 v3 S5))))))) ∧ ((S2 r0 13) ≠ (-1) → Q S2)))) ∧ (v1 = (-1) → w_X12_wrong N r0 (S r0 12) S (fun (S6 : mSt) => Q S6)))
theorem W_X12_lawLine_53 (C : mC p l s m args meth c cX12_lawLine "MoonWashModel" 4 none g) (N : Nat) {Q : mSt → Prop}   (r0 : Nat) (kr0 : KM r0 = (0, 10, 0)) (xs0 : Int) (oxs0 : okI xs0) (S : mSt) (H : Heap) (locs : List Loc) (ls : Array Slot) (hl : lv_has ls 4 [(0, .ref (b + r0))]) (hW : mW g b KM S H) (hS : va_S (mA b KM s.heap.size) s.heap H locs) (h : w_X12_lawLine_53 N Q  r0 xs0 S) : W p l e { frames := 116, cells := 0, slots := 0, locals := 3073 } s m args below meth c H locs 0 0 (vx_MQ below (mQv g b KM Q (mA b KM s.heap.size)) (mEx g b KM (fun _ _ => False) (mA b KM s.heap.size)) args s 0 0 (mA b KM s.heap.size)) (F0 m 53 ls [.int (mI xs0)]) := by
  unfold w_X12_lawLine_53 at h
  refine m_istore_n (pc := 53) C.1 dX12_lawLine_53 rfl hl (by decide) (fun v => [(1, .int v), (0, .ref (b + r0))]) (fun _ => rfl) oxs0 (fun v1 ls ev1 ov1 hl => ?_)
  replace h := h v1 ev1
  refine m_iload_n (pc := 54) C.1 dX12_lawLine_54 rfl hl 0 rfl ?_
  refine m_iconst (pc := 55) C.1 dX12_lawLine_55 ?_
  refine m_icmp_ne (pc := 56) (tgt := 68) C.1 ov1 (by decide : okI (-1)) dX12_lawLine_56 (by decide) (fun hc => ?_) (fun hc => ?_)
  · replace h := h.1 hc
    refine m_aload_n (pc := 68) C.1 dX12_lawLine_68 rfl hl 1 rfl ?_
    refine m_iconst (pc := 69) C.1 dX12_lawLine_69 ?_
    refine m_bipush (pc := 70) C.1 dX12_lawLine_70 rfl ?_
    refine m_callVi (pc := 72) C.1 C.2.2.1 hl.1 C.2.1 hW hS (As := [.int (mI 0), .int (mI 20)]) (rest := []) (r := r0) (T_X12_figures C.2.2.2.2.2.2 N r0 kr0 0 (by decide : okI 0) 20 (by decide : okI 20) h) kr0 rfl q_1520 q_1522 q_31 q_92 q_1523 pl_X12_figures (by decide) (Nat.le_of_ble_eq_true rfl) dX12_lawLine_72 (fun v2 S2 H locs ov2 h hW2 hS => ?_)
    refine m_istore_n (pc := 75) C.1 dX12_lawLine_75 rfl hl (by decide) (fun v => [(2, .int v), (1, .int (mI v1)), (0, .ref (b + r0))]) (fun _ => rfl) ov2 (fun v3 ls ev3 ov3 hl => ?_)
    replace h := h v3 ev3
    refine m_aload_n (pc := 76) C.1 dX12_lawLine_76 rfl hl 2 rfl ?_
    refine g_10_13 (pc := 77) C hW2 kr0 q_1396 dX12_lawLine_77 ?_
    refine m_iconst (pc := 80) C.1 dX12_lawLine_80 ?_
    refine m_icmp_eq (pc := 81) (tgt := 85) C.1 (hW2.2.1 _ _) (by decide : okI (-1)) dX12_lawLine_81 (by decide) (fun hc => ?_) (fun hc => ?_)
    · replace h := h.1 hc
      refine m_aload_n (pc := 85) C.1 dX12_lawLine_85 rfl hl 2 rfl ?_
      refine m_ldcS (pc := 86) C.1 C.2.1 (index := 239) (j := 28) (tx := "if") (by decide +kernel) dX12_lawLine_86 ?_
      refine m_callVi (pc := 88) C.1 C.2.2.1 hl.1 C.2.1 hW2 hS (As := [.ref (g.sa 28)]) (rest := []) (r := r0) (T_X12_has_ C.2.2.2.2.2.2 N r0 kr0 28 (by decide : 28 < nJS) h) kr0 rfl q_1511 q_1513 q_30 q_92 q_1514 pl_X12_has_ (by decide) (Nat.le_of_ble_eq_true rfl) dX12_lawLine_88 (fun v4 S4 H locs ov4 h hW4 hS => ?_)
      refine m_if_eq (pc := 91) (tgt := 101) C.1 ov4 dX12_lawLine_91 (by decide) (fun hc => ?_) (fun hc => ?_)
      · replace h := h.1 hc
        exact W_X12_lawLine_101 C N  r0 kr0 v1 ov1 v3 ov3 S4 _ _ _ (lv_sub hl [2, 1, 0] rfl) hW4 hS h
      · replace h := h.2 hc
        refine m_aload_n (pc := 94) C.1 dX12_lawLine_94 rfl hl 2 rfl ?_
        refine m_callVi (pc := 95) C.1 C.2.2.1 hl.1 C.2.1 hW4 hS (As := []) (rest := []) (r := r0) (T_X12_some C.2.2.2.2.2.2 N (fun r0 kr0 => fun hh => T_X12_atom C.2.2.2.2.2.2 N 12 r0 kr0 hh) r0 kr0 h) kr0 rfl q_1529 q_1531 q_33 q_92 q_1532 pl_X12_some (by decide) (Nat.le_of_ble_eq_true rfl) dX12_lawLine_95 (fun v5 S5 H locs ov5 h hW5 hS => ?_)
        refine m_if_eq (pc := 98) (tgt := 105) C.1 ov5 dX12_lawLine_98 (by decide) (fun hc => ?_) (fun hc => ?_)
        · replace h := h.1 hc
          refine m_iconst (pc := 105) C.1 dX12_lawLine_105 ?_
          exact W_X12_lawLine_106 C N  r0 kr0 v1 ov1 v3 ov3 0 (by decide : okI 0) S5 _ _ _ (lv_sub hl [2, 1, 0] rfl) hW5 hS h
        · replace h := h.2 hc
          exact W_X12_lawLine_101 C N  r0 kr0 v1 ov1 v3 ov3 S5 _ _ _ (lv_sub hl [2, 1, 0] rfl) hW5 hS h
    · replace h := h.2 hc
      exact m_vret (pc := 84) C.1 C.2.2.2.1 C.2.2.2.2.1 hW2 hS h (by decide) (by decide) dX12_lawLine_84
  · replace h := h.2 hc
    refine m_aload_n (pc := 59) C.1 dX12_lawLine_59 rfl hl 1 rfl ?_
    refine m_aload_n (pc := 60) C.1 dX12_lawLine_60 rfl hl 1 rfl ?_
    refine g_10_12 (pc := 61) C hW kr0 q_1395 dX12_lawLine_61 ?_
    refine m_callVv (pc := 64) C.1 C.2.2.1 hl.1 C.2.1 hW hS (As := [.int (mI (S r0 12))]) (rest := []) (r := r0) (T_X12_wrong C.2.2.2.2.2.2 N r0 kr0 (S r0 12) (hW.2.1 _ _) h) kr0 rfl q_1502 q_1504 q_28 q_92 q_1505 pl_X12_wrong (by decide) (Nat.le_of_ble_eq_true rfl) dX12_lawLine_64 (fun S6 H locs h hW6 hS => ?_)
    exact m_vret (pc := 67) C.1 C.2.2.2.1 C.2.2.2.2.1 hW6 hS h (by decide) (by decide) dX12_lawLine_67
end
def w_X12_lawLine (N : Nat) (r0 : Nat) (S : mSt) (Q : mSt → Prop) : Prop :=
  w_X12_has_ N r0 24 S (fun (S1 : mSt) (v1 : Int) => ((v1 = 0 → w_X12_has_ N r0 25 S1 (fun (S2 : mSt) (v2 : Int) => ((v2 = 0 → w_X12_has_ N r0 26 S2 (fun (S3 : mSt) (v3 : Int) => ((v3 = 0 → w_X12_has_ N r0 27 S3 (fun (S4 : mSt) (v4 : Int) => ((v4 = 0 → w_X12_lawLine_53 N Q  r0 (-1) S4) ∧ (v4 ≠ 0 → w_X12_lawLine_53 N Q  r0 3 S4)))) ∧ (v3 ≠ 0 → w_X12_lawLine_53 N Q  r0 2 S3)))) ∧ (v2 ≠ 0 → w_X12_lawLine_53 N Q  r0 1 S2)))) ∧ (v1 ≠ 0 → w_X12_lawLine_53 N Q  r0 0 S1)))
theorem T_X12_lawLine {l : Launch} (hl0 : l.stackTraces = false) {g : mG} {b : Nat} (N : Nat) (r0 : Nat) (kr0 : KM r0 = (0, 10, 0)) {S : mSt} {Q : mSt → Prop} (h : w_X12_lawLine N r0 S Q) (sz : Nat) : vx_Met l yX12_lawLine (Cond.code yX12_lawLine cX12_lawLine 4 none :: wsG) { frames := 116, cells := 0, slots := 0, locals := 3073 } (mPc g b KM S [.ref (b + r0)] sz) (mQv g b KM Q (mA b KM sz)) (mEx g b KM (fun _ _ => False) (mA b KM sz)) 0 0 (mA b KM sz) :=
  m_of (av := [.ref (b + r0)]) (Qf := fun A => mQv g b KM Q A) (Xf := fun A => mEx g b KM (fun _ _ => False) A) (by decide) (Nat.le_of_ble_eq_true rfl) (fun p e s m args below meth c ls X hK hml hr hlk hout hnm hW hl => by
    have C : mC p l s m args meth c cX12_lawLine "MoonWashModel" 4 none g := ⟨X, hK, hml, hr, hlk, hout, hl0⟩
    have hS : va_S (mA b KM s.heap.size) s.heap s.heap [] := va_S.rf
    have hl : lv_has ls 4 [(0, .ref (b + r0))] := hl
    unfold w_X12_lawLine at h
    refine m_aload_n (pc := 0) C.1 dX12_lawLine_0 rfl hl 0 rfl ?_
    refine m_ldcS (pc := 1) C.1 C.2.1 (index := 231) (j := 24) (tx := "shine") (by decide +kernel) dX12_lawLine_1 ?_
    refine m_callVi (pc := 3) C.1 C.2.2.1 hl.1 C.2.1 hW hS (As := [.ref (g.sa 24)]) (rest := []) (r := r0) (T_X12_has_ C.2.2.2.2.2.2 N r0 kr0 24 (by decide : 24 < nJS) h) kr0 rfl q_1511 q_1513 q_30 q_92 q_1514 pl_X12_has_ (by decide) (Nat.le_of_ble_eq_true rfl) dX12_lawLine_3 (fun v1 S1 H locs ov1 h hW1 hS => ?_)
    refine m_if_eq (pc := 6) (tgt := 13) C.1 ov1 dX12_lawLine_6 (by decide) (fun hc => ?_) (fun hc => ?_)
    · replace h := h.1 hc
      refine m_aload_n (pc := 13) C.1 dX12_lawLine_13 rfl hl 0 rfl ?_
      refine m_ldcS (pc := 14) C.1 C.2.1 (index := 233) (j := 25) (tx := "dull") (by decide +kernel) dX12_lawLine_14 ?_
      refine m_callVi (pc := 16) C.1 C.2.2.1 hl.1 C.2.1 hW1 hS (As := [.ref (g.sa 25)]) (rest := []) (r := r0) (T_X12_has_ C.2.2.2.2.2.2 N r0 kr0 25 (by decide : 25 < nJS) h) kr0 rfl q_1511 q_1513 q_30 q_92 q_1514 pl_X12_has_ (by decide) (Nat.le_of_ble_eq_true rfl) dX12_lawLine_16 (fun v2 S2 H locs ov2 h hW2 hS => ?_)
      refine m_if_eq (pc := 19) (tgt := 26) C.1 ov2 dX12_lawLine_19 (by decide) (fun hc => ?_) (fun hc => ?_)
      · replace h := h.1 hc
        refine m_aload_n (pc := 26) C.1 dX12_lawLine_26 rfl hl 0 rfl ?_
        refine m_ldcS (pc := 27) C.1 C.2.1 (index := 235) (j := 26) (tx := "dry") (by decide +kernel) dX12_lawLine_27 ?_
        refine m_callVi (pc := 29) C.1 C.2.2.1 hl.1 C.2.1 hW2 hS (As := [.ref (g.sa 26)]) (rest := []) (r := r0) (T_X12_has_ C.2.2.2.2.2.2 N r0 kr0 26 (by decide : 26 < nJS) h) kr0 rfl q_1511 q_1513 q_30 q_92 q_1514 pl_X12_has_ (by decide) (Nat.le_of_ble_eq_true rfl) dX12_lawLine_29 (fun v3 S3 H locs ov3 h hW3 hS => ?_)
        refine m_if_eq (pc := 32) (tgt := 39) C.1 ov3 dX12_lawLine_32 (by decide) (fun hc => ?_) (fun hc => ?_)
        · replace h := h.1 hc
          refine m_aload_n (pc := 39) C.1 dX12_lawLine_39 rfl hl 0 rfl ?_
          refine m_ldcS (pc := 40) C.1 C.2.1 (index := 237) (j := 27) (tx := "soil") (by decide +kernel) dX12_lawLine_40 ?_
          refine m_callVi (pc := 42) C.1 C.2.2.1 hl.1 C.2.1 hW3 hS (As := [.ref (g.sa 27)]) (rest := []) (r := r0) (T_X12_has_ C.2.2.2.2.2.2 N r0 kr0 27 (by decide : 27 < nJS) h) kr0 rfl q_1511 q_1513 q_30 q_92 q_1514 pl_X12_has_ (by decide) (Nat.le_of_ble_eq_true rfl) dX12_lawLine_42 (fun v4 S4 H locs ov4 h hW4 hS => ?_)
          refine m_if_eq (pc := 45) (tgt := 52) C.1 ov4 dX12_lawLine_45 (by decide) (fun hc => ?_) (fun hc => ?_)
          · replace h := h.1 hc
            refine m_iconst (pc := 52) C.1 dX12_lawLine_52 ?_
            exact W_X12_lawLine_53 C N  r0 kr0 (-1) (by decide : okI (-1)) S4 _ _ _ (lv_sub hl [0] rfl) hW4 hS h
          · replace h := h.2 hc
            refine m_iconst (pc := 48) C.1 dX12_lawLine_48 ?_
            refine m_goto (pc := 49) (tgt := 53) C.1 dX12_lawLine_49 (by decide) ?_
            exact W_X12_lawLine_53 C N  r0 kr0 3 (by decide : okI 3) S4 _ _ _ (lv_sub hl [0] rfl) hW4 hS h
        · replace h := h.2 hc
          refine m_iconst (pc := 35) C.1 dX12_lawLine_35 ?_
          refine m_goto (pc := 36) (tgt := 53) C.1 dX12_lawLine_36 (by decide) ?_
          exact W_X12_lawLine_53 C N  r0 kr0 2 (by decide : okI 2) S3 _ _ _ (lv_sub hl [0] rfl) hW3 hS h
      · replace h := h.2 hc
        refine m_iconst (pc := 22) C.1 dX12_lawLine_22 ?_
        refine m_goto (pc := 23) (tgt := 53) C.1 dX12_lawLine_23 (by decide) ?_
        exact W_X12_lawLine_53 C N  r0 kr0 1 (by decide : okI 1) S2 _ _ _ (lv_sub hl [0] rfl) hW2 hS h
    · replace h := h.2 hc
      refine m_iconst (pc := 9) C.1 dX12_lawLine_9 ?_
      refine m_goto (pc := 10) (tgt := 53) C.1 dX12_lawLine_10 (by decide) ?_
      exact W_X12_lawLine_53 C N  r0 kr0 0 (by decide : okI 0) S1 _ _ _ (lv_sub hl [0] rfl) hW1 hS h) sz
section
variable {p : Program} {l : Launch} {e : Env} {s : State} {m : MethodId} {args : Array Value} {below : List Frame} {meth : Method} {c : Code} {g : mG} {b : Nat}
def w_X12_read_106 (N : Nat) (Q : mSt → Int → Prop) (ko23 : Nat → Int → Int → Int → mSt → Prop) (r0 : Nat) (x1 : Int) (x3 : Int) (S : mSt) : Prop :=
  ∀ v1 : Int, v1 = 0 → ko23 r0 x1 v1 x3 S
theorem W_X12_read_106 (C : mC p l s m args meth c cX12_read "MoonWashModel" 4 (some FieldType.int) g) (N : Nat) {Q : mSt → Int → Prop} {ko23 : Nat → Int → Int → Int → mSt → Prop} (hko23 : ∀ (r0 : Nat) (kr0 : KM r0 = (0, 10, 0)) (x1 : Int) (ox1 : okI x1) (x2 : Int) (ox2 : okI x2) (x3 : Int) (ox3 : okI x3) (S : mSt) (H : Heap) (locs : List Loc) (ls : Array Slot), lv_has ls 4 [(0, .ref (b + r0)), (1, .int (mI x1)), (2, .int (mI x2)), (3, .int (mI x3))] → mW g b KM S H → va_S (mA b KM s.heap.size) s.heap H locs → ko23 r0 x1 x2 x3 S → W p l e { frames := 117, cells := 0, slots := 0, locals := 3096 } s m args below meth c H locs 0 0 (vx_MQ below (mQi g b KM Q (mA b KM s.heap.size)) (mEx g b KM (fun _ _ => False) (mA b KM s.heap.size)) args s 0 0 (mA b KM s.heap.size)) (F0 m 23 ls [])) (r0 : Nat) (kr0 : KM r0 = (0, 10, 0)) (x1 : Int) (ox1 : okI x1) (x3 : Int) (ox3 : okI x3) (S : mSt) (H : Heap) (locs : List Loc) (ls : Array Slot) (hl : lv_has ls 4 [(0, .ref (b + r0)), (1, .int (mI x1)), (3, .int (mI x3))]) (hW : mW g b KM S H) (hS : va_S (mA b KM s.heap.size) s.heap H locs) (h : w_X12_read_106 N Q ko23 r0 x1 x3 S) : W p l e { frames := 117, cells := 0, slots := 0, locals := 3096 } s m args below meth c H locs 0 0 (vx_MQ below (mQi g b KM Q (mA b KM s.heap.size)) (mEx g b KM (fun _ _ => False) (mA b KM s.heap.size)) args s 0 0 (mA b KM s.heap.size)) (F0 m 106 ls []) := by
  unfold w_X12_read_106 at h
  refine m_iconst (pc := 106) C.1 dX12_read_106 ?_
  refine m_istore_n (pc := 107) C.1 dX12_read_107 rfl hl (by decide) (fun v => [(2, .int v), (0, .ref (b + r0)), (1, .int (mI x1)), (3, .int (mI x3))]) (fun _ => rfl) (by decide : okI 0) (fun v1 ls ev1 ov1 hl => ?_)
  replace h := h v1 ev1
  refine m_goto (pc := 108) (tgt := 23) C.1 dX12_read_108 (by decide) ?_
  exact hko23 r0 kr0 x1 ox1 v1 ov1 x3 ox3 S _ _ _ (lv_sub hl [1, 2, 0, 3] rfl) hW hS h
def w_X12_read_80 (N : Nat) (Q : mSt → Int → Prop) (ko23 : Nat → Int → Int → Int → mSt → Prop) (r0 : Nat) (x1 : Int) (x2 : Int) (x3 : Int) (S : mSt) : Prop :=
  ∀ v1 : Int, v1 = nm (x3 + 1) → w_X12_skip N r0 S (fun (S2 : mSt) => (((S2 r0 13) ≠ (-1) → w_X12_read_106 N Q ko23 r0 x1 v1 S2) ∧ ((S2 r0 13) = (-1) → (((S2 r0 12) ≠ (S2 r0 11) → w_X12_isSign N r0 59 S2 (fun (S3 : mSt) (v3 : Int) => ((v3 = 0 → w_X12_wrong N r0 (S3 r0 12) S3 (fun (S4 : mSt) => ko23 r0 x1 x2 v1 S4)) ∧ (v3 ≠ 0 → ∀ S5 : mSt, S5 = mup S3 r0 12 (nm ((S3 r0 12) + 1)) → ko23 r0 x1 x2 v1 S5)))) ∧ ((S2 r0 12) = (S2 r0 11) → w_X12_read_106 N Q ko23 r0 x1 v1 S2)))))
theorem W_X12_read_80 (C : mC p l s m args meth c cX12_read "MoonWashModel" 4 (some FieldType.int) g) (N : Nat) {Q : mSt → Int → Prop} {ko23 : Nat → Int → Int → Int → mSt → Prop} (hko23 : ∀ (r0 : Nat) (kr0 : KM r0 = (0, 10, 0)) (x1 : Int) (ox1 : okI x1) (x2 : Int) (ox2 : okI x2) (x3 : Int) (ox3 : okI x3) (S : mSt) (H : Heap) (locs : List Loc) (ls : Array Slot), lv_has ls 4 [(0, .ref (b + r0)), (1, .int (mI x1)), (2, .int (mI x2)), (3, .int (mI x3))] → mW g b KM S H → va_S (mA b KM s.heap.size) s.heap H locs → ko23 r0 x1 x2 x3 S → W p l e { frames := 117, cells := 0, slots := 0, locals := 3096 } s m args below meth c H locs 0 0 (vx_MQ below (mQi g b KM Q (mA b KM s.heap.size)) (mEx g b KM (fun _ _ => False) (mA b KM s.heap.size)) args s 0 0 (mA b KM s.heap.size)) (F0 m 23 ls [])) (r0 : Nat) (kr0 : KM r0 = (0, 10, 0)) (x1 : Int) (ox1 : okI x1) (x2 : Int) (ox2 : okI x2) (x3 : Int) (ox3 : okI x3) (S : mSt) (H : Heap) (locs : List Loc) (ls : Array Slot) (hl : lv_has ls 4 [(0, .ref (b + r0)), (1, .int (mI x1)), (2, .int (mI x2)), (3, .int (mI x3))]) (hW : mW g b KM S H) (hS : va_S (mA b KM s.heap.size) s.heap H locs) (h : w_X12_read_80 N Q ko23 r0 x1 x2 x3 S) : W p l e { frames := 117, cells := 0, slots := 0, locals := 3096 } s m args below meth c H locs 0 0 (vx_MQ below (mQi g b KM Q (mA b KM s.heap.size)) (mEx g b KM (fun _ _ => False) (mA b KM s.heap.size)) args s 0 0 (mA b KM s.heap.size)) (F0 m 80 ls []) := by
  unfold w_X12_read_80 at h
  refine m_iinc (pc := 80) C.1 dX12_read_80 hl (by decide) (q0 := 3) rfl (fun v => [(3, .int v), (0, .ref (b + r0)), (1, .int (mI x1)), (2, .int (mI x2))]) (fun _ => rfl) (fun v1 ls ev1 ov1 hl => ?_)
  replace h := h v1 ev1
  refine m_aload_n (pc := 83) C.1 dX12_read_83 rfl hl 1 rfl ?_
  refine m_callVv (pc := 84) C.1 C.2.2.1 hl.1 C.2.1 hW hS (As := []) (rest := []) (r := r0) (T_X12_skip C.2.2.2.2.2.2 N r0 kr0 h) kr0 rfl q_1494 q_1496 q_26 q_92 q_1497 pl_X12_skip (by decide) (Nat.le_of_ble_eq_true rfl) dX12_read_84 (fun S2 H locs h hW2 hS => ?_)
  refine m_aload_n (pc := 87) C.1 dX12_read_87 rfl hl 1 rfl ?_
  refine g_10_13 (pc := 88) C hW2 kr0 q_1396 dX12_read_88 ?_
  refine m_iconst (pc := 91) C.1 dX12_read_91 ?_
  refine m_icmp_ne (pc := 92) (tgt := 106) C.1 (hW2.2.1 _ _) (by decide : okI (-1)) dX12_read_92 (by decide) (fun hc => ?_) (fun hc => ?_)
  · replace h := h.1 hc
    exact W_X12_read_106 C N hko23 r0 kr0 x1 ox1 v1 ov1 S2 _ _ _ (lv_sub hl [1, 2, 0] rfl) hW2 hS h
  · replace h := h.2 hc
    refine m_aload_n (pc := 95) C.1 dX12_read_95 rfl hl 1 rfl ?_
    refine g_10_12 (pc := 96) C hW2 kr0 q_1395 dX12_read_96 ?_
    refine m_aload_n (pc := 99) C.1 dX12_read_99 rfl hl 1 rfl ?_
    refine g_10_11 (pc := 100) C hW2 kr0 q_1394 dX12_read_100 ?_
    refine m_icmp_ne (pc := 103) (tgt := 111) C.1 (hW2.2.1 _ _) (hW2.2.1 _ _) dX12_read_103 (by decide) (fun hc => ?_) (fun hc => ?_)
    · replace h := h.1 hc
      refine m_aload_n (pc := 111) C.1 dX12_read_111 rfl hl 1 rfl ?_
      refine m_bipush (pc := 112) C.1 dX12_read_112 rfl ?_
      refine m_callVi (pc := 114) C.1 C.2.2.1 hl.1 C.2.1 hW2 hS (As := [.int (mI 59)]) (rest := []) (r := r0) (T_X12_isSign C.2.2.2.2.2.2 N r0 kr0 59 (by decide : okI 59) h) kr0 rfl q_1542 q_1544 q_36 q_92 q_1545 pl_X12_isSign (by decide) (Nat.le_of_ble_eq_true rfl) dX12_read_114 (fun v3 S3 H locs ov3 h hW3 hS => ?_)
      refine m_if_eq (pc := 117) (tgt := 133) C.1 ov3 dX12_read_117 (by decide) (fun hc => ?_) (fun hc => ?_)
      · replace h := h.1 hc
        refine m_aload_n (pc := 133) C.1 dX12_read_133 rfl hl 1 rfl ?_
        refine m_aload_n (pc := 134) C.1 dX12_read_134 rfl hl 1 rfl ?_
        refine g_10_12 (pc := 135) C hW3 kr0 q_1395 dX12_read_135 ?_
        refine m_callVv (pc := 138) C.1 C.2.2.1 hl.1 C.2.1 hW3 hS (As := [.int (mI (S3 r0 12))]) (rest := []) (r := r0) (T_X12_wrong C.2.2.2.2.2.2 N r0 kr0 (S3 r0 12) (hW3.2.1 _ _) h) kr0 rfl q_1502 q_1504 q_28 q_92 q_1505 pl_X12_wrong (by decide) (Nat.le_of_ble_eq_true rfl) dX12_read_138 (fun S4 H locs h hW4 hS => ?_)
        refine m_goto (pc := 141) (tgt := 23) C.1 dX12_read_141 (by decide) ?_
        exact hko23 r0 kr0 x1 ox1 x2 ox2 v1 ov1 S4 _ _ _ (lv_sub hl [1, 2, 3, 0] rfl) hW4 hS h
      · replace h := h.2 hc
        refine m_aload_n (pc := 120) C.1 dX12_read_120 rfl hl 1 rfl ?_
        refine lv_dup (pc := 121) C.1.1 C.1.2.1 dX12_read_121 rfl ?_
        refine g_10_12 (pc := 122) C hW3 kr0 q_1395 dX12_read_122 ?_
        refine m_iconst (pc := 125) C.1 dX12_read_125 ?_
        refine m_iadd (pc := 126) C.1 dX12_read_126 ?_
        refine p_10_12 (pc := 127) C hW3 hS kr0 q_1395 (nm_ok _) dX12_read_127 (fun S5 H locs e5 hW5 hS => ?_)
        replace h := h S5 e5
        refine m_goto (pc := 130) (tgt := 23) C.1 dX12_read_130 (by decide) ?_
        exact hko23 r0 kr0 x1 ox1 x2 ox2 v1 ov1 S5 _ _ _ (lv_sub hl [1, 2, 3, 0] rfl) hW5 hS h
    · replace h := h.2 hc
      exact W_X12_read_106 C N hko23 r0 kr0 x1 ox1 v1 ov1 S2 _ _ _ (lv_sub hl [1, 2, 0] rfl) hW2 hS h
def w_X12_read_51 (N : Nat) (Q : mSt → Int → Prop) (ko23 : Nat → Int → Int → Int → mSt → Prop) (r0 : Nat) (x1 : Int) (x2 : Int) (x3 : Int) (xs0 : Int) (xs1 : Int) (S : mSt) : Prop :=
  ((xs1 ≠ xs0 → ((x1 = 0 → w_X12_houseLine N r0 S (fun (S1 : mSt) => w_X12_read_80 N Q ko23 r0 x1 x2 x3 S1)) ∧ (x1 ≠ 0 → w_X12_lawLine N r0 S (fun (S2 : mSt) => w_X12_read_80 N Q ko23 r0 x1 x2 x3 S2)))) ∧ (xs1 = xs0 → w_X12_wrong N r0 (S r0 12) S (fun (S3 : mSt) => w_X12_read_80 N Q ko23 r0 x1 x2 x3 S3)))
theorem W_X12_read_51 (C : mC p l s m args meth c cX12_read "MoonWashModel" 4 (some FieldType.int) g) (N : Nat) {Q : mSt → Int → Prop} {ko23 : Nat → Int → Int → Int → mSt → Prop} (hko23 : ∀ (r0 : Nat) (kr0 : KM r0 = (0, 10, 0)) (x1 : Int) (ox1 : okI x1) (x2 : Int) (ox2 : okI x2) (x3 : Int) (ox3 : okI x3) (S : mSt) (H : Heap) (locs : List Loc) (ls : Array Slot), lv_has ls 4 [(0, .ref (b + r0)), (1, .int (mI x1)), (2, .int (mI x2)), (3, .int (mI x3))] → mW g b KM S H → va_S (mA b KM s.heap.size) s.heap H locs → ko23 r0 x1 x2 x3 S → W p l e { frames := 117, cells := 0, slots := 0, locals := 3096 } s m args below meth c H locs 0 0 (vx_MQ below (mQi g b KM Q (mA b KM s.heap.size)) (mEx g b KM (fun _ _ => False) (mA b KM s.heap.size)) args s 0 0 (mA b KM s.heap.size)) (F0 m 23 ls [])) (r0 : Nat) (kr0 : KM r0 = (0, 10, 0)) (x1 : Int) (ox1 : okI x1) (x2 : Int) (ox2 : okI x2) (x3 : Int) (ox3 : okI x3) (xs0 : Int) (oxs0 : okI xs0) (xs1 : Int) (oxs1 : okI xs1) (S : mSt) (H : Heap) (locs : List Loc) (ls : Array Slot) (hl : lv_has ls 4 [(0, .ref (b + r0)), (1, .int (mI x1)), (2, .int (mI x2)), (3, .int (mI x3))]) (hW : mW g b KM S H) (hS : va_S (mA b KM s.heap.size) s.heap H locs) (h : w_X12_read_51 N Q ko23 r0 x1 x2 x3 xs0 xs1 S) : W p l e { frames := 117, cells := 0, slots := 0, locals := 3096 } s m args below meth c H locs 0 0 (vx_MQ below (mQi g b KM Q (mA b KM s.heap.size)) (mEx g b KM (fun _ _ => False) (mA b KM s.heap.size)) args s 0 0 (mA b KM s.heap.size)) (F0 m 51 ls [.int (mI xs0), .int (mI xs1)]) := by
  unfold w_X12_read_51 at h
  refine m_icmp_ne (pc := 51) (tgt := 65) C.1 oxs1 oxs0 dX12_read_51 (by decide) (fun hc => ?_) (fun hc => ?_)
  · replace h := h.1 hc
    refine m_iload_n (pc := 65) C.1 dX12_read_65 rfl hl 1 rfl ?_
    refine m_if_eq (pc := 66) (tgt := 76) C.1 ox1 dX12_read_66 (by decide) (fun hc => ?_) (fun hc => ?_)
    · replace h := h.1 hc
      refine m_aload_n (pc := 76) C.1 dX12_read_76 rfl hl 0 rfl ?_
      refine m_callVv (pc := 77) C.1 C.2.2.1 hl.1 C.2.1 hW hS (As := []) (rest := []) (r := r0) (T_X12_houseLine C.2.2.2.2.2.2 N r0 kr0 h) kr0 rfl q_1570 q_1572 q_40 q_92 q_1573 pl_X12_houseLine (by decide) (Nat.le_of_ble_eq_true rfl) dX12_read_77 (fun S1 H locs h hW1 hS => ?_)
      exact W_X12_read_80 C N hko23 r0 kr0 x1 ox1 x2 ox2 x3 ox3 S1 _ _ _ (lv_sub hl [0, 1, 2, 3] rfl) hW1 hS h
    · replace h := h.2 hc
      refine m_aload_n (pc := 69) C.1 dX12_read_69 rfl hl 0 rfl ?_
      refine m_callVv (pc := 70) C.1 C.2.2.1 hl.1 C.2.1 hW hS (As := []) (rest := []) (r := r0) (T_X12_lawLine C.2.2.2.2.2.2 N r0 kr0 h) kr0 rfl q_1506 q_1508 q_29 q_92 q_1509 pl_X12_lawLine (by decide) (Nat.le_of_ble_eq_true rfl) dX12_read_70 (fun S2 H locs h hW2 hS => ?_)
      refine m_goto (pc := 73) (tgt := 80) C.1 dX12_read_73 (by decide) ?_
      exact W_X12_read_80 C N hko23 r0 kr0 x1 ox1 x2 ox2 x3 ox3 S2 _ _ _ (lv_sub hl [0, 1, 2, 3] rfl) hW2 hS h
  · replace h := h.2 hc
    refine m_aload_n (pc := 54) C.1 dX12_read_54 rfl hl 0 rfl ?_
    refine m_aload_n (pc := 55) C.1 dX12_read_55 rfl hl 0 rfl ?_
    refine g_10_12 (pc := 56) C hW kr0 q_1395 dX12_read_56 ?_
    refine m_callVv (pc := 59) C.1 C.2.2.1 hl.1 C.2.1 hW hS (As := [.int (mI (S r0 12))]) (rest := []) (r := r0) (T_X12_wrong C.2.2.2.2.2.2 N r0 kr0 (S r0 12) (hW.2.1 _ _) h) kr0 rfl q_1502 q_1504 q_28 q_92 q_1505 pl_X12_wrong (by decide) (Nat.le_of_ble_eq_true rfl) dX12_read_59 (fun S3 H locs h hW3 hS => ?_)
    refine m_goto (pc := 62) (tgt := 80) C.1 dX12_read_62 (by decide) ?_
    exact W_X12_read_80 C N hko23 r0 kr0 x1 ox1 x2 ox2 x3 ox3 S3 _ _ _ (lv_sub hl [0, 1, 2, 3] rfl) hW3 hS h
def w_X12_read_23b (N : Nat) (Q : mSt → Int → Prop) (ko23 : Nat → Int → Int → Int → mSt → Prop) (ko144 : Int → mSt → Prop) (r0 : Nat) (x1 : Int) (x2 : Int) (x3 : Int) (S : mSt) : Prop :=
  ((x2 = 0 → ko144 x3 S) ∧ (x2 ≠ 0 → (((S r0 13) ≠ (-1) → ko144 x3 S) ∧ ((S r0 13) = (-1) → w_X12_skip N r0 S (fun (S1 : mSt) => ((x1 = 0 → w_X12_read_51 N Q ko23 r0 x1 x2 x3 14 x3 S1) ∧ (x1 ≠ 0 → w_X12_read_51 N Q ko23 r0 x1 x2 x3 12 x3 S1)))))))
theorem W_X12_read_23b (C : mC p l s m args meth c cX12_read "MoonWashModel" 4 (some FieldType.int) g) (N : Nat) {Q : mSt → Int → Prop} {ko23 : Nat → Int → Int → Int → mSt → Prop} {ko144 : Int → mSt → Prop} (hko23 : ∀ (r0 : Nat) (kr0 : KM r0 = (0, 10, 0)) (x1 : Int) (ox1 : okI x1) (x2 : Int) (ox2 : okI x2) (x3 : Int) (ox3 : okI x3) (S : mSt) (H : Heap) (locs : List Loc) (ls : Array Slot), lv_has ls 4 [(0, .ref (b + r0)), (1, .int (mI x1)), (2, .int (mI x2)), (3, .int (mI x3))] → mW g b KM S H → va_S (mA b KM s.heap.size) s.heap H locs → ko23 r0 x1 x2 x3 S → W p l e { frames := 117, cells := 0, slots := 0, locals := 3096 } s m args below meth c H locs 0 0 (vx_MQ below (mQi g b KM Q (mA b KM s.heap.size)) (mEx g b KM (fun _ _ => False) (mA b KM s.heap.size)) args s 0 0 (mA b KM s.heap.size)) (F0 m 23 ls [])) (hko144 : ∀ (x3 : Int) (ox3 : okI x3) (S : mSt) (H : Heap) (locs : List Loc) (ls : Array Slot), lv_has ls 4 [(3, .int (mI x3))] → mW g b KM S H → va_S (mA b KM s.heap.size) s.heap H locs → ko144 x3 S → W p l e { frames := 117, cells := 0, slots := 0, locals := 3096 } s m args below meth c H locs 0 0 (vx_MQ below (mQi g b KM Q (mA b KM s.heap.size)) (mEx g b KM (fun _ _ => False) (mA b KM s.heap.size)) args s 0 0 (mA b KM s.heap.size)) (F0 m 144 ls [])) (r0 : Nat) (kr0 : KM r0 = (0, 10, 0)) (x1 : Int) (ox1 : okI x1) (x2 : Int) (ox2 : okI x2) (x3 : Int) (ox3 : okI x3) (S : mSt) (H : Heap) (locs : List Loc) (ls : Array Slot) (hl : lv_has ls 4 [(0, .ref (b + r0)), (1, .int (mI x1)), (2, .int (mI x2)), (3, .int (mI x3))]) (hW : mW g b KM S H) (hS : va_S (mA b KM s.heap.size) s.heap H locs) (h : w_X12_read_23b N Q ko23 ko144 r0 x1 x2 x3 S) : W p l e { frames := 117, cells := 0, slots := 0, locals := 3096 } s m args below meth c H locs 0 0 (vx_MQ below (mQi g b KM Q (mA b KM s.heap.size)) (mEx g b KM (fun _ _ => False) (mA b KM s.heap.size)) args s 0 0 (mA b KM s.heap.size)) (F0 m 23 ls []) := by
  unfold w_X12_read_23b at h
  refine m_iload_n (pc := 23) C.1 dX12_read_23 rfl hl 2 rfl ?_
  refine m_if_eq (pc := 24) (tgt := 144) C.1 ox2 dX12_read_24 (by decide) (fun hc => ?_) (fun hc => ?_)
  · replace h := h.1 hc
    exact hko144 x3 ox3 S _ _ _ (lv_sub hl [3] rfl) hW hS h
  · replace h := h.2 hc
    refine m_aload_n (pc := 27) C.1 dX12_read_27 rfl hl 0 rfl ?_
    refine g_10_13 (pc := 28) C hW kr0 q_1396 dX12_read_28 ?_
    refine m_iconst (pc := 31) C.1 dX12_read_31 ?_
    refine m_icmp_ne (pc := 32) (tgt := 144) C.1 (hW.2.1 _ _) (by decide : okI (-1)) dX12_read_32 (by decide) (fun hc => ?_) (fun hc => ?_)
    · replace h := h.1 hc
      exact hko144 x3 ox3 S _ _ _ (lv_sub hl [3] rfl) hW hS h
    · replace h := h.2 hc
      refine m_aload_n (pc := 35) C.1 dX12_read_35 rfl hl 0 rfl ?_
      refine m_callVv (pc := 36) C.1 C.2.2.1 hl.1 C.2.1 hW hS (As := []) (rest := []) (r := r0) (T_X12_skip C.2.2.2.2.2.2 N r0 kr0 h) kr0 rfl q_1494 q_1496 q_26 q_92 q_1497 pl_X12_skip (by decide) (Nat.le_of_ble_eq_true rfl) dX12_read_36 (fun S1 H locs h hW1 hS => ?_)
      refine m_iload_n (pc := 39) C.1 dX12_read_39 rfl hl 3 rfl ?_
      refine m_iload_n (pc := 40) C.1 dX12_read_40 rfl hl 1 rfl ?_
      refine m_if_eq (pc := 41) (tgt := 49) C.1 ox1 dX12_read_41 (by decide) (fun hc => ?_) (fun hc => ?_)
      · replace h := h.1 hc
        refine m_bipush (pc := 49) C.1 dX12_read_49 rfl ?_
        exact W_X12_read_51 C N hko23 r0 kr0 x1 ox1 x2 ox2 x3 ox3 14 (by decide : okI 14) x3 ox3 S1 _ _ _ (lv_sub hl [0, 1, 2, 3] rfl) hW1 hS h
      · replace h := h.2 hc
        refine m_bipush (pc := 44) C.1 dX12_read_44 rfl ?_
        refine m_goto (pc := 46) (tgt := 51) C.1 dX12_read_46 (by decide) ?_
        exact W_X12_read_51 C N hko23 r0 kr0 x1 ox1 x2 ox2 x3 ox3 12 (by decide : okI 12) x3 ox3 S1 _ _ _ (lv_sub hl [0, 1, 2, 3] rfl) hW1 hS h
def w_X12_read_23 (N : Nat) (Q : mSt → Int → Prop) (ko144 : Int → mSt → Prop) : Nat → Nat → Int → Int → Int → mSt → Prop
  | 0 => fun _ _ _ _ _ => False
  | k + 1 => w_X12_read_23b N Q (w_X12_read_23 N Q ko144 k) ko144
theorem W_X12_read_23 (C : mC p l s m args meth c cX12_read "MoonWashModel" 4 (some FieldType.int) g) (N : Nat) {Q : mSt → Int → Prop} {ko144 : Int → mSt → Prop} (hko144 : ∀ (x3 : Int) (ox3 : okI x3) (S : mSt) (H : Heap) (locs : List Loc) (ls : Array Slot), lv_has ls 4 [(3, .int (mI x3))] → mW g b KM S H → va_S (mA b KM s.heap.size) s.heap H locs → ko144 x3 S → W p l e { frames := 117, cells := 0, slots := 0, locals := 3096 } s m args below meth c H locs 0 0 (vx_MQ below (mQi g b KM Q (mA b KM s.heap.size)) (mEx g b KM (fun _ _ => False) (mA b KM s.heap.size)) args s 0 0 (mA b KM s.heap.size)) (F0 m 144 ls [])) : ∀ (k : Nat) (r0 : Nat) (kr0 : KM r0 = (0, 10, 0)) (x1 : Int) (ox1 : okI x1) (x2 : Int) (ox2 : okI x2) (x3 : Int) (ox3 : okI x3) (S : mSt) (H : Heap) (locs : List Loc) (ls : Array Slot) (hl : lv_has ls 4 [(0, .ref (b + r0)), (1, .int (mI x1)), (2, .int (mI x2)), (3, .int (mI x3))]) (hW : mW g b KM S H) (hS : va_S (mA b KM s.heap.size) s.heap H locs) (h : w_X12_read_23 N Q ko144 k r0 x1 x2 x3 S), W p l e { frames := 117, cells := 0, slots := 0, locals := 3096 } s m args below meth c H locs 0 0 (vx_MQ below (mQi g b KM Q (mA b KM s.heap.size)) (mEx g b KM (fun _ _ => False) (mA b KM s.heap.size)) args s 0 0 (mA b KM s.heap.size)) (F0 m 23 ls []) := by
  intro k
  induction k with
  | zero => intro r0 kr0 x1 ox1 x2 ox2 x3 ox3 S H locs ls hl hW hS h; exact False.elim h
  | succ k ih => intro r0 kr0 x1 ox1 x2 ox2 x3 ox3 S H locs ls hl hW hS h; exact W_X12_read_23b C N ih hko144 r0 kr0 x1 ox1 x2 ox2 x3 ox3 S H locs ls hl hW hS h
def w_X12_read_20 (N : Nat) (Q : mSt → Int → Prop)  (r0 : Nat) (x1 : Int) (xs0 : Int) (S : mSt) : Prop :=
  ∀ v1 : Int, v1 = xs0 → ∀ v2 : Int, v2 = 0 → w_X12_read_23 N Q (fun (x3_3 : Int) (S_3 : mSt) => Q S_3 x3_3) N r0 x1 v1 v2 S
theorem W_X12_read_20 (C : mC p l s m args meth c cX12_read "MoonWashModel" 4 (some FieldType.int) g) (N : Nat) {Q : mSt → Int → Prop}   (r0 : Nat) (kr0 : KM r0 = (0, 10, 0)) (x1 : Int) (ox1 : okI x1) (xs0 : Int) (oxs0 : okI xs0) (S : mSt) (H : Heap) (locs : List Loc) (ls : Array Slot) (hl : lv_has ls 4 [(0, .ref (b + r0)), (1, .int (mI x1))]) (hW : mW g b KM S H) (hS : va_S (mA b KM s.heap.size) s.heap H locs) (h : w_X12_read_20 N Q  r0 x1 xs0 S) : W p l e { frames := 117, cells := 0, slots := 0, locals := 3096 } s m args below meth c H locs 0 0 (vx_MQ below (mQi g b KM Q (mA b KM s.heap.size)) (mEx g b KM (fun _ _ => False) (mA b KM s.heap.size)) args s 0 0 (mA b KM s.heap.size)) (F0 m 20 ls [.int (mI xs0)]) := by
  unfold w_X12_read_20 at h
  refine m_istore_n (pc := 20) C.1 dX12_read_20 rfl hl (by decide) (fun v => [(2, .int v), (0, .ref (b + r0)), (1, .int (mI x1))]) (fun _ => rfl) oxs0 (fun v1 ls ev1 ov1 hl => ?_)
  replace h := h v1 ev1
  refine m_iconst (pc := 21) C.1 dX12_read_21 ?_
  refine m_istore_n (pc := 22) C.1 dX12_read_22 rfl hl (by decide) (fun v => [(3, .int v), (2, .int (mI v1)), (0, .ref (b + r0)), (1, .int (mI x1))]) (fun _ => rfl) (by decide : okI 0) (fun v2 ls ev2 ov2 hl => ?_)
  replace h := h v2 ev2
  refine W_X12_read_23 C N ?_ N r0 kr0 x1 ox1 v1 ov1 v2 ov2 S _ _ _ (lv_sub hl [2, 3, 1, 0] rfl) hW hS h
  · intro x3_3 ox3_3 S_3 H locs ls hl hW_3 hS h
    refine m_iload_n (pc := 144) C.1 dX12_read_144 rfl hl 0 rfl ?_
    exact m_iret (pc := 145) C.1 C.2.2.2.1 C.2.2.2.2.1 hW_3 hS ox3_3 h (by decide) (by decide) dX12_read_145
end
def w_X12_read (N : Nat) (r0 : Nat) (x1 : Int) (S : mSt) (Q : mSt → Int → Prop) : Prop :=
  w_X12_skip N r0 S (fun (S1 : mSt) => (((S1 r0 11) ≤ (S1 r0 12) → w_X12_read_20 N Q  r0 x1 0 S1) ∧ ((S1 r0 12) < (S1 r0 11) → w_X12_read_20 N Q  r0 x1 1 S1)))
theorem T_X12_read {l : Launch} (hl0 : l.stackTraces = false) {g : mG} {b : Nat} (N : Nat) (r0 : Nat) (kr0 : KM r0 = (0, 10, 0)) (x1 : Int) (ox1 : okI x1) {S : mSt} {Q : mSt → Int → Prop} (h : w_X12_read N r0 x1 S Q) (sz : Nat) : vx_Met l yX12_read (Cond.code yX12_read cX12_read 4 (some FieldType.int) :: wsG) { frames := 117, cells := 0, slots := 0, locals := 3096 } (mPc g b KM S [.ref (b + r0), .int (mI x1)] sz) (mQi g b KM Q (mA b KM sz)) (mEx g b KM (fun _ _ => False) (mA b KM sz)) 0 0 (mA b KM sz) :=
  m_of (av := [.ref (b + r0), .int (mI x1)]) (Qf := fun A => mQi g b KM Q A) (Xf := fun A => mEx g b KM (fun _ _ => False) A) (by decide) (Nat.le_of_ble_eq_true rfl) (fun p e s m args below meth c ls X hK hml hr hlk hout hnm hW hl => by
    have C : mC p l s m args meth c cX12_read "MoonWashModel" 4 (some FieldType.int) g := ⟨X, hK, hml, hr, hlk, hout, hl0⟩
    have hS : va_S (mA b KM s.heap.size) s.heap s.heap [] := va_S.rf
    have hl : lv_has ls 4 [(0, .ref (b + r0)), (1, .int (mI x1))] := hl
    unfold w_X12_read at h
    refine m_aload_n (pc := 0) C.1 dX12_read_0 rfl hl 0 rfl ?_
    refine m_callVv (pc := 1) C.1 C.2.2.1 hl.1 C.2.1 hW hS (As := []) (rest := []) (r := r0) (T_X12_skip C.2.2.2.2.2.2 N r0 kr0 h) kr0 rfl q_1494 q_1496 q_26 q_92 q_1497 pl_X12_skip (by decide) (Nat.le_of_ble_eq_true rfl) dX12_read_1 (fun S1 H locs h hW1 hS => ?_)
    refine m_aload_n (pc := 4) C.1 dX12_read_4 rfl hl 0 rfl ?_
    refine g_10_12 (pc := 5) C hW1 kr0 q_1395 dX12_read_5 ?_
    refine m_aload_n (pc := 8) C.1 dX12_read_8 rfl hl 0 rfl ?_
    refine g_10_11 (pc := 9) C hW1 kr0 q_1394 dX12_read_9 ?_
    refine m_icmp_ge (pc := 12) (tgt := 19) C.1 (hW1.2.1 _ _) (hW1.2.1 _ _) dX12_read_12 (by decide) (fun hc => ?_) (fun hc => ?_)
    · replace h := h.1 hc
      refine m_iconst (pc := 19) C.1 dX12_read_19 ?_
      exact W_X12_read_20 C N  r0 kr0 x1 ox1 0 (by decide : okI 0) S1 _ _ _ (lv_sub hl [0, 1] rfl) hW1 hS h
    · replace h := h.2 hc
      refine m_iconst (pc := 15) C.1 dX12_read_15 ?_
      refine m_goto (pc := 16) (tgt := 20) C.1 dX12_read_16 (by decide) ?_
      exact W_X12_read_20 C N  r0 kr0 x1 ox1 1 (by decide : okI 1) S1 _ _ _ (lv_sub hl [0, 1] rfl) hW1 hS h) sz
section
variable {p : Program} {l : Launch} {e : Env} {s : State} {m : MethodId} {args : Array Value} {below : List Frame} {meth : Method} {c : Code} {g : mG} {b : Nat}
def w_X12_putsAside_2b (N : Nat) (Q : mSt → Prop) (ko2 : Nat → Int → mSt → Prop) (ko27 : mSt → Prop) (r0 : Nat) (x1 : Int) (S : mSt) : Prop :=
  ((350 ≤ x1 → ko27 S) ∧ (x1 < 350 → (0 ≤ x1 ∧ x1 < 750 ∧ (0 ≤ x1 ∧ x1 < 350 ∧ ∀ S3 : mSt, S3 = mup S (r0 + 4) x1 (S (r0 + 1) x1) → ∀ v4 : Int, v4 = nm (x1 + 1) → ko2 r0 v4 S3))))
theorem W_X12_putsAside_2b (C : mC p l s m args meth c cX12_putsAside "MoonWashModel" 2 none g) (N : Nat) {Q : mSt → Prop} {ko2 : Nat → Int → mSt → Prop} {ko27 : mSt → Prop} (hko2 : ∀ (r0 : Nat) (kr0 : KM r0 = (0, 10, 0)) (x1 : Int) (ox1 : okI x1) (S : mSt) (H : Heap) (locs : List Loc) (ls : Array Slot), lv_has ls 2 [(0, .ref (b + r0)), (1, .int (mI x1))] → mW g b KM S H → va_S (mA b KM s.heap.size) s.heap H locs → ko2 r0 x1 S → W p l e { frames := 0, cells := 0, slots := 0, locals := 0 } s m args below meth c H locs 0 0 (vx_MQ below (mQv g b KM Q (mA b KM s.heap.size)) (mEx g b KM (fun _ _ => False) (mA b KM s.heap.size)) args s 0 0 (mA b KM s.heap.size)) (F0 m 2 ls [])) (hko27 : ∀  (S : mSt) (H : Heap) (locs : List Loc) (ls : Array Slot), lv_has ls 2 [] → mW g b KM S H → va_S (mA b KM s.heap.size) s.heap H locs → ko27 S → W p l e { frames := 0, cells := 0, slots := 0, locals := 0 } s m args below meth c H locs 0 0 (vx_MQ below (mQv g b KM Q (mA b KM s.heap.size)) (mEx g b KM (fun _ _ => False) (mA b KM s.heap.size)) args s 0 0 (mA b KM s.heap.size)) (F0 m 27 ls [])) (r0 : Nat) (kr0 : KM r0 = (0, 10, 0)) (x1 : Int) (ox1 : okI x1) (S : mSt) (H : Heap) (locs : List Loc) (ls : Array Slot) (hl : lv_has ls 2 [(0, .ref (b + r0)), (1, .int (mI x1))]) (hW : mW g b KM S H) (hS : va_S (mA b KM s.heap.size) s.heap H locs) (h : w_X12_putsAside_2b N Q ko2 ko27 r0 x1 S) : W p l e { frames := 0, cells := 0, slots := 0, locals := 0 } s m args below meth c H locs 0 0 (vx_MQ below (mQv g b KM Q (mA b KM s.heap.size)) (mEx g b KM (fun _ _ => False) (mA b KM s.heap.size)) args s 0 0 (mA b KM s.heap.size)) (F0 m 2 ls []) := by
  unfold w_X12_putsAside_2b at h
  refine m_iload_n (pc := 2) C.1 dX12_putsAside_2 rfl hl 1 rfl ?_
  refine m_sipush (pc := 3) C.1 dX12_putsAside_3 rfl ?_
  refine m_icmp_ge (pc := 6) (tgt := 27) C.1 ox1 (by decide : okI 350) dX12_putsAside_6 (by decide) (fun hc => ?_) (fun hc => ?_)
  · replace h := h.1 hc
    exact hko27  S _ _ _ (lv_sub hl [] rfl) hW hS h
  · replace h := h.2 hc
    refine m_aload_n (pc := 9) C.1 dX12_putsAside_9 rfl hl 0 rfl ?_
    refine g_10_5 (pc := 10) C hW kr0 q_1388 dX12_putsAside_10 ?_
    refine m_iload_n (pc := 13) C.1 dX12_putsAside_13 rfl hl 1 rfl ?_
    refine m_aload_n (pc := 14) C.1 dX12_putsAside_14 rfl hl 0 rfl ?_
    refine g_10_1 (pc := 15) C hW kr0 q_1384 dX12_putsAside_15 ?_
    refine m_iload_n (pc := 18) C.1 dX12_putsAside_18 rfl hl 1 rfl ?_
    obtain ⟨hb1a, hb1b, h⟩ := h
    refine m_iald (pc := 19) C.1 C.2.1 hW (k_10_1 kr0) ox1 hb1a hb1b dX12_putsAside_19 ?_
    obtain ⟨hb2a, hb2b, h⟩ := h
    refine m_iast (pc := 20) C.1 C.2.1 hW hS (k_10_5 kr0) ox1 (hW.2.1 _ _) hb2a hb2b dX12_putsAside_20 (fun S3 H locs e3 hW3 hS => ?_)
    replace h := h S3 e3
    refine m_iinc (pc := 21) C.1 dX12_putsAside_21 hl (by decide) (q0 := 1) rfl (fun v => [(1, .int v), (0, .ref (b + r0))]) (fun _ => rfl) (fun v4 ls ev4 ov4 hl => ?_)
    replace h := h v4 ev4
    refine m_goto (pc := 24) (tgt := 2) C.1 dX12_putsAside_24 (by decide) ?_
    exact hko2 r0 kr0 v4 ov4 S3 _ _ _ (lv_sub hl [1, 0] rfl) hW3 hS h
def w_X12_putsAside_2 (N : Nat) (Q : mSt → Prop) (ko27 : mSt → Prop) : Nat → Nat → Int → mSt → Prop
  | 0 => fun _ _ _ => False
  | k + 1 => w_X12_putsAside_2b N Q (w_X12_putsAside_2 N Q ko27 k) ko27
theorem W_X12_putsAside_2 (C : mC p l s m args meth c cX12_putsAside "MoonWashModel" 2 none g) (N : Nat) {Q : mSt → Prop} {ko27 : mSt → Prop} (hko27 : ∀  (S : mSt) (H : Heap) (locs : List Loc) (ls : Array Slot), lv_has ls 2 [] → mW g b KM S H → va_S (mA b KM s.heap.size) s.heap H locs → ko27 S → W p l e { frames := 0, cells := 0, slots := 0, locals := 0 } s m args below meth c H locs 0 0 (vx_MQ below (mQv g b KM Q (mA b KM s.heap.size)) (mEx g b KM (fun _ _ => False) (mA b KM s.heap.size)) args s 0 0 (mA b KM s.heap.size)) (F0 m 27 ls [])) : ∀ (k : Nat) (r0 : Nat) (kr0 : KM r0 = (0, 10, 0)) (x1 : Int) (ox1 : okI x1) (S : mSt) (H : Heap) (locs : List Loc) (ls : Array Slot) (hl : lv_has ls 2 [(0, .ref (b + r0)), (1, .int (mI x1))]) (hW : mW g b KM S H) (hS : va_S (mA b KM s.heap.size) s.heap H locs) (h : w_X12_putsAside_2 N Q ko27 k r0 x1 S), W p l e { frames := 0, cells := 0, slots := 0, locals := 0 } s m args below meth c H locs 0 0 (vx_MQ below (mQv g b KM Q (mA b KM s.heap.size)) (mEx g b KM (fun _ _ => False) (mA b KM s.heap.size)) args s 0 0 (mA b KM s.heap.size)) (F0 m 2 ls []) := by
  intro k
  induction k with
  | zero => intro r0 kr0 x1 ox1 S H locs ls hl hW hS h; exact False.elim h
  | succ k ih => intro r0 kr0 x1 ox1 S H locs ls hl hW hS h; exact W_X12_putsAside_2b C N ih hko27 r0 kr0 x1 ox1 S H locs ls hl hW hS h
end
def w_X12_putsAside (N : Nat) (r0 : Nat) (S : mSt) (Q : mSt → Prop) : Prop :=
  ∀ v1 : Int, v1 = 0 → w_X12_putsAside_2 N Q (fun  (S_2 : mSt) => Q S_2) N r0 v1 S
theorem T_X12_putsAside {l : Launch} (hl0 : l.stackTraces = false) {g : mG} {b : Nat} (N : Nat) (r0 : Nat) (kr0 : KM r0 = (0, 10, 0)) {S : mSt} {Q : mSt → Prop} (h : w_X12_putsAside N r0 S Q) (sz : Nat) : vx_Met l yX12_putsAside (Cond.code yX12_putsAside cX12_putsAside 2 none :: wsG) { frames := 0, cells := 0, slots := 0, locals := 0 } (mPc g b KM S [.ref (b + r0)] sz) (mQv g b KM Q (mA b KM sz)) (mEx g b KM (fun _ _ => False) (mA b KM sz)) 0 0 (mA b KM sz) :=
  m_of (av := [.ref (b + r0)]) (Qf := fun A => mQv g b KM Q A) (Xf := fun A => mEx g b KM (fun _ _ => False) A) (by decide) (Nat.le_of_ble_eq_true rfl) (fun p e s m args below meth c ls X hK hml hr hlk hout hnm hW hl => by
    have C : mC p l s m args meth c cX12_putsAside "MoonWashModel" 2 none g := ⟨X, hK, hml, hr, hlk, hout, hl0⟩
    have hS : va_S (mA b KM s.heap.size) s.heap s.heap [] := va_S.rf
    have hl : lv_has ls 2 [(0, .ref (b + r0))] := hl
    unfold w_X12_putsAside at h
    refine m_iconst (pc := 0) C.1 dX12_putsAside_0 ?_
    refine m_istore_n (pc := 1) C.1 dX12_putsAside_1 rfl hl (by decide) (fun v => [(1, .int v), (0, .ref (b + r0))]) (fun _ => rfl) (by decide : okI 0) (fun v1 ls ev1 ov1 hl => ?_)
    replace h := h v1 ev1
    refine W_X12_putsAside_2 C N ?_ N r0 kr0 v1 ov1 S _ _ _ (lv_sub hl [1, 0] rfl) hW hS h
    · intro S_2 H locs ls hl hW_2 hS h
      exact m_vret (pc := 27) C.1 C.2.2.2.1 C.2.2.2.2.1 hW_2 hS h (by decide) (by decide) dX12_putsAside_27) sz
section
variable {p : Program} {l : Launch} {e : Env} {s : State} {m : MethodId} {args : Array Value} {below : List Frame} {meth : Method} {c : Code} {g : mG} {b : Nat}
def w_X12_comesBack_2b (N : Nat) (Q : mSt → Prop) (ko2 : Nat → Int → mSt → Prop) (ko27 : mSt → Prop) (r0 : Nat) (x1 : Int) (S : mSt) : Prop :=
  ((350 ≤ x1 → ko27 S) ∧ (x1 < 350 → (0 ≤ x1 ∧ x1 < 350 ∧ (0 ≤ x1 ∧ x1 < 750 ∧ ∀ S3 : mSt, S3 = mup S (r0 + 1) x1 (S (r0 + 4) x1) → ∀ v4 : Int, v4 = nm (x1 + 1) → ko2 r0 v4 S3))))
theorem W_X12_comesBack_2b (C : mC p l s m args meth c cX12_comesBack "MoonWashModel" 2 none g) (N : Nat) {Q : mSt → Prop} {ko2 : Nat → Int → mSt → Prop} {ko27 : mSt → Prop} (hko2 : ∀ (r0 : Nat) (kr0 : KM r0 = (0, 10, 0)) (x1 : Int) (ox1 : okI x1) (S : mSt) (H : Heap) (locs : List Loc) (ls : Array Slot), lv_has ls 2 [(0, .ref (b + r0)), (1, .int (mI x1))] → mW g b KM S H → va_S (mA b KM s.heap.size) s.heap H locs → ko2 r0 x1 S → W p l e { frames := 0, cells := 0, slots := 0, locals := 0 } s m args below meth c H locs 0 0 (vx_MQ below (mQv g b KM Q (mA b KM s.heap.size)) (mEx g b KM (fun _ _ => False) (mA b KM s.heap.size)) args s 0 0 (mA b KM s.heap.size)) (F0 m 2 ls [])) (hko27 : ∀  (S : mSt) (H : Heap) (locs : List Loc) (ls : Array Slot), lv_has ls 2 [] → mW g b KM S H → va_S (mA b KM s.heap.size) s.heap H locs → ko27 S → W p l e { frames := 0, cells := 0, slots := 0, locals := 0 } s m args below meth c H locs 0 0 (vx_MQ below (mQv g b KM Q (mA b KM s.heap.size)) (mEx g b KM (fun _ _ => False) (mA b KM s.heap.size)) args s 0 0 (mA b KM s.heap.size)) (F0 m 27 ls [])) (r0 : Nat) (kr0 : KM r0 = (0, 10, 0)) (x1 : Int) (ox1 : okI x1) (S : mSt) (H : Heap) (locs : List Loc) (ls : Array Slot) (hl : lv_has ls 2 [(0, .ref (b + r0)), (1, .int (mI x1))]) (hW : mW g b KM S H) (hS : va_S (mA b KM s.heap.size) s.heap H locs) (h : w_X12_comesBack_2b N Q ko2 ko27 r0 x1 S) : W p l e { frames := 0, cells := 0, slots := 0, locals := 0 } s m args below meth c H locs 0 0 (vx_MQ below (mQv g b KM Q (mA b KM s.heap.size)) (mEx g b KM (fun _ _ => False) (mA b KM s.heap.size)) args s 0 0 (mA b KM s.heap.size)) (F0 m 2 ls []) := by
  unfold w_X12_comesBack_2b at h
  refine m_iload_n (pc := 2) C.1 dX12_comesBack_2 rfl hl 1 rfl ?_
  refine m_sipush (pc := 3) C.1 dX12_comesBack_3 rfl ?_
  refine m_icmp_ge (pc := 6) (tgt := 27) C.1 ox1 (by decide : okI 350) dX12_comesBack_6 (by decide) (fun hc => ?_) (fun hc => ?_)
  · replace h := h.1 hc
    exact hko27  S _ _ _ (lv_sub hl [] rfl) hW hS h
  · replace h := h.2 hc
    refine m_aload_n (pc := 9) C.1 dX12_comesBack_9 rfl hl 0 rfl ?_
    refine g_10_1 (pc := 10) C hW kr0 q_1384 dX12_comesBack_10 ?_
    refine m_iload_n (pc := 13) C.1 dX12_comesBack_13 rfl hl 1 rfl ?_
    refine m_aload_n (pc := 14) C.1 dX12_comesBack_14 rfl hl 0 rfl ?_
    refine g_10_5 (pc := 15) C hW kr0 q_1388 dX12_comesBack_15 ?_
    refine m_iload_n (pc := 18) C.1 dX12_comesBack_18 rfl hl 1 rfl ?_
    obtain ⟨hb1a, hb1b, h⟩ := h
    refine m_iald (pc := 19) C.1 C.2.1 hW (k_10_5 kr0) ox1 hb1a hb1b dX12_comesBack_19 ?_
    obtain ⟨hb2a, hb2b, h⟩ := h
    refine m_iast (pc := 20) C.1 C.2.1 hW hS (k_10_1 kr0) ox1 (hW.2.1 _ _) hb2a hb2b dX12_comesBack_20 (fun S3 H locs e3 hW3 hS => ?_)
    replace h := h S3 e3
    refine m_iinc (pc := 21) C.1 dX12_comesBack_21 hl (by decide) (q0 := 1) rfl (fun v => [(1, .int v), (0, .ref (b + r0))]) (fun _ => rfl) (fun v4 ls ev4 ov4 hl => ?_)
    replace h := h v4 ev4
    refine m_goto (pc := 24) (tgt := 2) C.1 dX12_comesBack_24 (by decide) ?_
    exact hko2 r0 kr0 v4 ov4 S3 _ _ _ (lv_sub hl [1, 0] rfl) hW3 hS h
def w_X12_comesBack_2 (N : Nat) (Q : mSt → Prop) (ko27 : mSt → Prop) : Nat → Nat → Int → mSt → Prop
  | 0 => fun _ _ _ => False
  | k + 1 => w_X12_comesBack_2b N Q (w_X12_comesBack_2 N Q ko27 k) ko27
theorem W_X12_comesBack_2 (C : mC p l s m args meth c cX12_comesBack "MoonWashModel" 2 none g) (N : Nat) {Q : mSt → Prop} {ko27 : mSt → Prop} (hko27 : ∀  (S : mSt) (H : Heap) (locs : List Loc) (ls : Array Slot), lv_has ls 2 [] → mW g b KM S H → va_S (mA b KM s.heap.size) s.heap H locs → ko27 S → W p l e { frames := 0, cells := 0, slots := 0, locals := 0 } s m args below meth c H locs 0 0 (vx_MQ below (mQv g b KM Q (mA b KM s.heap.size)) (mEx g b KM (fun _ _ => False) (mA b KM s.heap.size)) args s 0 0 (mA b KM s.heap.size)) (F0 m 27 ls [])) : ∀ (k : Nat) (r0 : Nat) (kr0 : KM r0 = (0, 10, 0)) (x1 : Int) (ox1 : okI x1) (S : mSt) (H : Heap) (locs : List Loc) (ls : Array Slot) (hl : lv_has ls 2 [(0, .ref (b + r0)), (1, .int (mI x1))]) (hW : mW g b KM S H) (hS : va_S (mA b KM s.heap.size) s.heap H locs) (h : w_X12_comesBack_2 N Q ko27 k r0 x1 S), W p l e { frames := 0, cells := 0, slots := 0, locals := 0 } s m args below meth c H locs 0 0 (vx_MQ below (mQv g b KM Q (mA b KM s.heap.size)) (mEx g b KM (fun _ _ => False) (mA b KM s.heap.size)) args s 0 0 (mA b KM s.heap.size)) (F0 m 2 ls []) := by
  intro k
  induction k with
  | zero => intro r0 kr0 x1 ox1 S H locs ls hl hW hS h; exact False.elim h
  | succ k ih => intro r0 kr0 x1 ox1 S H locs ls hl hW hS h; exact W_X12_comesBack_2b C N ih hko27 r0 kr0 x1 ox1 S H locs ls hl hW hS h
end
def w_X12_comesBack (N : Nat) (r0 : Nat) (S : mSt) (Q : mSt → Prop) : Prop :=
  ∀ v1 : Int, v1 = 0 → w_X12_comesBack_2 N Q (fun  (S_2 : mSt) => Q S_2) N r0 v1 S
theorem T_X12_comesBack {l : Launch} (hl0 : l.stackTraces = false) {g : mG} {b : Nat} (N : Nat) (r0 : Nat) (kr0 : KM r0 = (0, 10, 0)) {S : mSt} {Q : mSt → Prop} (h : w_X12_comesBack N r0 S Q) (sz : Nat) : vx_Met l yX12_comesBack (Cond.code yX12_comesBack cX12_comesBack 2 none :: wsG) { frames := 0, cells := 0, slots := 0, locals := 0 } (mPc g b KM S [.ref (b + r0)] sz) (mQv g b KM Q (mA b KM sz)) (mEx g b KM (fun _ _ => False) (mA b KM sz)) 0 0 (mA b KM sz) :=
  m_of (av := [.ref (b + r0)]) (Qf := fun A => mQv g b KM Q A) (Xf := fun A => mEx g b KM (fun _ _ => False) A) (by decide) (Nat.le_of_ble_eq_true rfl) (fun p e s m args below meth c ls X hK hml hr hlk hout hnm hW hl => by
    have C : mC p l s m args meth c cX12_comesBack "MoonWashModel" 2 none g := ⟨X, hK, hml, hr, hlk, hout, hl0⟩
    have hS : va_S (mA b KM s.heap.size) s.heap s.heap [] := va_S.rf
    have hl : lv_has ls 2 [(0, .ref (b + r0))] := hl
    unfold w_X12_comesBack at h
    refine m_iconst (pc := 0) C.1 dX12_comesBack_0 ?_
    refine m_istore_n (pc := 1) C.1 dX12_comesBack_1 rfl hl (by decide) (fun v => [(1, .int v), (0, .ref (b + r0))]) (fun _ => rfl) (by decide : okI 0) (fun v1 ls ev1 ov1 hl => ?_)
    replace h := h v1 ev1
    refine W_X12_comesBack_2 C N ?_ N r0 kr0 v1 ov1 S _ _ _ (lv_sub hl [1, 0] rfl) hW hS h
    · intro S_2 H locs ls hl hW_2 hS h
      exact m_vret (pc := 27) C.1 C.2.2.2.1 C.2.2.2.2.1 hW_2 hS h (by decide) (by decide) dX12_comesBack_27) sz
section
variable {p : Program} {l : Launch} {e : Env} {s : State} {m : MethodId} {args : Array Value} {below : List Frame} {meth : Method} {c : Code} {g : mG} {b : Nat}
def w_X12_house_43 (N : Nat) (Q : mSt → Int → Prop)  (r0 : Nat) (xs0 : Int) (rs1 : Nat) (S : mSt) : Prop :=
  ∀ S1 : mSt, S1 = mup S rs1 0 xs0 → (((S1 r0 0) ≤ 0 → ∀ S2 : mSt, S2 = mup S1 (r0 + 1) 0 (nm ((S1 (r0 + 1) 0) + 1)) → ∀ S3 : mSt, S3 = mup S2 r0 7 0 → Q S3 (S3 (r0 + 1) 0)) ∧ (0 < (S1 r0 0) → w_X12_comesBack N r0 S1 (fun (S4 : mSt) => Q S4 0)))
theorem W_X12_house_43 (C : mC p l s m args meth c cX12_house "MoonWashModel" 2 (some FieldType.int) g) (N : Nat) {Q : mSt → Int → Prop}   (r0 : Nat) (kr0 : KM r0 = (0, 10, 0)) (xs0 : Int) (oxs0 : okI xs0) (rs1 : Nat) (krs1 : KM rs1 = (0, 10, 0)) (S : mSt) (H : Heap) (locs : List Loc) (ls : Array Slot) (hl : lv_has ls 2 [(0, .ref (b + r0))]) (hW : mW g b KM S H) (hS : va_S (mA b KM s.heap.size) s.heap H locs) (h : w_X12_house_43 N Q  r0 xs0 rs1 S) : W p l e { frames := 118, cells := 0, slots := 0, locals := 3119 } s m args below meth c H locs 0 0 (vx_MQ below (mQi g b KM Q (mA b KM s.heap.size)) (mEx g b KM (fun _ _ => False) (mA b KM s.heap.size)) args s 0 0 (mA b KM s.heap.size)) (F0 m 43 ls [.int (mI xs0), .ref (b + rs1)]) := by
  unfold w_X12_house_43 at h
  refine p_10_0 (pc := 43) C hW hS krs1 q_1383 oxs0 dX12_house_43 (fun S1 H locs e1 hW1 hS => ?_)
  replace h := h S1 e1
  refine m_aload_n (pc := 46) C.1 dX12_house_46 rfl hl 0 rfl ?_
  refine g_10_0 (pc := 47) C hW1 kr0 q_1383 dX12_house_47 ?_
  refine m_if_le (pc := 50) (tgt := 59) C.1 (hW1.2.1 _ _) dX12_house_50 (by decide) (fun hc => ?_) (fun hc => ?_)
  · replace h := h.1 hc
    refine m_aload_n (pc := 59) C.1 dX12_house_59 rfl hl 0 rfl ?_
    refine g_10_1 (pc := 60) C hW1 kr0 q_1384 dX12_house_60 ?_
    refine m_iconst (pc := 63) C.1 dX12_house_63 ?_
    refine lv_dup2_11 (pc := 64) C.1.1 C.1.2.1 dX12_house_64 rfl rfl ?_
    refine m_iald (pc := 65) C.1 C.2.1 hW1 (k_10_1 kr0) (by decide : okI 0) (by decide) (by decide) dX12_house_65 ?_
    refine m_iconst (pc := 66) C.1 dX12_house_66 ?_
    refine m_iadd (pc := 67) C.1 dX12_house_67 ?_
    refine m_iast (pc := 68) C.1 C.2.1 hW1 hS (k_10_1 kr0) (by decide : okI 0) (nm_ok _) (by decide) (by decide) dX12_house_68 (fun S2 H locs e2 hW2 hS => ?_)
    replace h := h S2 e2
    refine m_aload_n (pc := 69) C.1 dX12_house_69 rfl hl 0 rfl ?_
    refine m_iconst (pc := 70) C.1 dX12_house_70 ?_
    refine p_10_7 (pc := 71) C hW2 hS kr0 q_1390 (by decide : okI 0) dX12_house_71 (fun S3 H locs e3 hW3 hS => ?_)
    replace h := h S3 e3
    refine m_aload_n (pc := 74) C.1 dX12_house_74 rfl hl 0 rfl ?_
    refine g_10_1 (pc := 75) C hW3 kr0 q_1384 dX12_house_75 ?_
    refine m_iconst (pc := 78) C.1 dX12_house_78 ?_
    refine m_iald (pc := 79) C.1 C.2.1 hW3 (k_10_1 kr0) (by decide : okI 0) (by decide) (by decide) dX12_house_79 ?_
    exact m_iret (pc := 80) C.1 C.2.2.2.1 C.2.2.2.2.1 hW3 hS (hW3.2.1 _ _) h (by decide) (by decide) dX12_house_80
  · replace h := h.2 hc
    refine m_aload_n (pc := 53) C.1 dX12_house_53 rfl hl 0 rfl ?_
    refine m_callVv (pc := 54) C.1 C.2.2.1 hl.1 C.2.1 hW1 hS (As := []) (rest := []) (r := r0) (T_X12_comesBack C.2.2.2.2.2.2 N r0 kr0 h) kr0 rfl q_1610 q_1612 q_47 q_92 q_1613 pl_X12_comesBack (by decide) (Nat.le_of_ble_eq_true rfl) dX12_house_54 (fun S4 H locs h hW4 hS => ?_)
    refine m_iconst (pc := 57) C.1 dX12_house_57 ?_
    exact m_iret (pc := 58) C.1 C.2.2.2.1 C.2.2.2.2.1 hW4 hS (by decide : okI 0) h (by decide) (by decide) dX12_house_58
end
def w_X12_house (N : Nat) (r0 : Nat) (S : mSt) (Q : mSt → Int → Prop) : Prop :=
  w_X12_putsAside N r0 S (fun (S1 : mSt) => w_X12_begins N r0 S1 (fun (S2 : mSt) => w_X12_read N r0 0 S2 (fun (S3 : mSt) (v3 : Int) => ∀ v4 : Int, v4 = v3 → (((S3 r0 13) = (-1) → (((S3 (r0 + 1) 0) ≠ 12 → w_X12_house_43 N Q  r0 0 r0 S3) ∧ ((S3 (r0 + 1) 0) = 12 → w_X12_house_43 N Q  r0 2 r0 S3))) ∧ ((S3 r0 13) ≠ (-1) → w_X12_house_43 N Q  r0 1 r0 S3)))))
theorem T_X12_house {l : Launch} (hl0 : l.stackTraces = false) {g : mG} {b : Nat} (N : Nat) (r0 : Nat) (kr0 : KM r0 = (0, 10, 0)) {S : mSt} {Q : mSt → Int → Prop} (h : w_X12_house N r0 S Q) (sz : Nat) : vx_Met l yX12_house (Cond.code yX12_house cX12_house 2 (some FieldType.int) :: wsG) { frames := 118, cells := 0, slots := 0, locals := 3119 } (mPc g b KM S [.ref (b + r0)] sz) (mQi g b KM Q (mA b KM sz)) (mEx g b KM (fun _ _ => False) (mA b KM sz)) 0 0 (mA b KM sz) :=
  m_of (av := [.ref (b + r0)]) (Qf := fun A => mQi g b KM Q A) (Xf := fun A => mEx g b KM (fun _ _ => False) A) (by decide) (Nat.le_of_ble_eq_true rfl) (fun p e s m args below meth c ls X hK hml hr hlk hout hnm hW hl => by
    have C : mC p l s m args meth c cX12_house "MoonWashModel" 2 (some FieldType.int) g := ⟨X, hK, hml, hr, hlk, hout, hl0⟩
    have hS : va_S (mA b KM s.heap.size) s.heap s.heap [] := va_S.rf
    have hl : lv_has ls 2 [(0, .ref (b + r0))] := hl
    unfold w_X12_house at h
    refine m_aload_n (pc := 0) C.1 dX12_house_0 rfl hl 0 rfl ?_
    refine m_callVv (pc := 1) C.1 C.2.2.1 hl.1 C.2.1 hW hS (As := []) (rest := []) (r := r0) (T_X12_putsAside C.2.2.2.2.2.2 N r0 kr0 h) kr0 rfl q_1482 q_1484 q_23 q_92 q_1485 pl_X12_putsAside (by decide) (Nat.le_of_ble_eq_true rfl) dX12_house_1 (fun S1 H locs h hW1 hS => ?_)
    refine m_aload_n (pc := 4) C.1 dX12_house_4 rfl hl 0 rfl ?_
    refine m_callVv (pc := 5) C.1 C.2.2.1 hl.1 C.2.1 hW1 hS (As := []) (rest := []) (r := r0) (T_X12_begins C.2.2.2.2.2.2 N r0 kr0 h) kr0 rfl q_1486 q_1488 q_24 q_92 q_1489 pl_X12_begins (by decide) (Nat.le_of_ble_eq_true rfl) dX12_house_5 (fun S2 H locs h hW2 hS => ?_)
    refine m_aload_n (pc := 8) C.1 dX12_house_8 rfl hl 0 rfl ?_
    refine m_iconst (pc := 9) C.1 dX12_house_9 ?_
    refine m_callVi (pc := 10) C.1 C.2.2.1 hl.1 C.2.1 hW2 hS (As := [.int (mI 0)]) (rest := []) (r := r0) (T_X12_read C.2.2.2.2.2.2 N r0 kr0 0 (by decide : okI 0) h) kr0 rfl q_1490 q_1492 q_25 q_92 q_1493 pl_X12_read (by decide) (Nat.le_of_ble_eq_true rfl) dX12_house_10 (fun v3 S3 H locs ov3 h hW3 hS => ?_)
    refine m_istore_n (pc := 13) C.1 dX12_house_13 rfl hl (by decide) (fun v => [(1, .int v), (0, .ref (b + r0))]) (fun _ => rfl) ov3 (fun v4 ls ev4 ov4 hl => ?_)
    replace h := h v4 ev4
    refine m_aload_n (pc := 14) C.1 dX12_house_14 rfl hl 1 rfl ?_
    refine m_aload_n (pc := 15) C.1 dX12_house_15 rfl hl 1 rfl ?_
    refine g_10_13 (pc := 16) C hW3 kr0 q_1396 dX12_house_16 ?_
    refine m_iconst (pc := 19) C.1 dX12_house_19 ?_
    refine m_icmp_eq (pc := 20) (tgt := 27) C.1 (hW3.2.1 _ _) (by decide : okI (-1)) dX12_house_20 (by decide) (fun hc => ?_) (fun hc => ?_)
    · replace h := h.1 hc
      refine m_aload_n (pc := 27) C.1 dX12_house_27 rfl hl 1 rfl ?_
      refine g_10_1 (pc := 28) C hW3 kr0 q_1384 dX12_house_28 ?_
      refine m_iconst (pc := 31) C.1 dX12_house_31 ?_
      refine m_iald (pc := 32) C.1 C.2.1 hW3 (k_10_1 kr0) (by decide : okI 0) (by decide) (by decide) dX12_house_32 ?_
      refine m_bipush (pc := 33) C.1 dX12_house_33 rfl ?_
      refine m_icmp_ne (pc := 35) (tgt := 42) C.1 (hW3.2.1 _ _) (by decide : okI 12) dX12_house_35 (by decide) (fun hc => ?_) (fun hc => ?_)
      · replace h := h.1 hc
        refine m_iconst (pc := 42) C.1 dX12_house_42 ?_
        exact W_X12_house_43 C N  r0 kr0 0 (by decide : okI 0) r0 kr0 S3 _ _ _ (lv_sub hl [1] rfl) hW3 hS h
      · replace h := h.2 hc
        refine m_iconst (pc := 38) C.1 dX12_house_38 ?_
        refine m_goto (pc := 39) (tgt := 43) C.1 dX12_house_39 (by decide) ?_
        exact W_X12_house_43 C N  r0 kr0 2 (by decide : okI 2) r0 kr0 S3 _ _ _ (lv_sub hl [1] rfl) hW3 hS h
    · replace h := h.2 hc
      refine m_iconst (pc := 23) C.1 dX12_house_23 ?_
      refine m_goto (pc := 24) (tgt := 43) C.1 dX12_house_24 (by decide) ?_
      exact W_X12_house_43 C N  r0 kr0 1 (by decide : okI 1) r0 kr0 S3 _ _ _ (lv_sub hl [1] rfl) hW3 hS h) sz
section
variable {p : Program} {l : Launch} {e : Env} {s : State} {m : MethodId} {args : Array Value} {below : List Frame} {meth : Method} {c : Code} {g : mG} {b : Nat}
def w_X12_law_55b (N : Nat) (Q : mSt → Int → Prop) (ko55 : Nat → Int → Int → mSt → Prop) (ko85 : Nat → Int → mSt → Prop) (r0 : Nat) (x1 : Int) (x2 : Int) (S : mSt) : Prop :=
  (((S r0 11) ≤ x2 → ko85 r0 x1 S) ∧ (x2 < (S r0 11) → (0 ≤ x2 ∧ x2 < 400 ∧ (0 ≤ (nm (350 + x2)) ∧ (nm (350 + x2)) < 750 ∧ ∀ S3 : mSt, S3 = mup S (r0 + 1) (nm (350 + x2)) (S (r0 + 6) x2) → ∀ v4 : Int, v4 = nm (x2 + 1) → ko55 r0 x1 v4 S3))))
theorem W_X12_law_55b (C : mC p l s m args meth c cX12_law "MoonWashModel" 3 (some FieldType.int) g) (N : Nat) {Q : mSt → Int → Prop} {ko55 : Nat → Int → Int → mSt → Prop} {ko85 : Nat → Int → mSt → Prop} (hko55 : ∀ (r0 : Nat) (kr0 : KM r0 = (0, 10, 0)) (x1 : Int) (ox1 : okI x1) (x2 : Int) (ox2 : okI x2) (S : mSt) (H : Heap) (locs : List Loc) (ls : Array Slot), lv_has ls 3 [(0, .ref (b + r0)), (1, .int (mI x1)), (2, .int (mI x2))] → mW g b KM S H → va_S (mA b KM s.heap.size) s.heap H locs → ko55 r0 x1 x2 S → W p l e { frames := 118, cells := 0, slots := 0, locals := 3119 } s m args below meth c H locs 0 0 (vx_MQ below (mQi g b KM Q (mA b KM s.heap.size)) (mEx g b KM (fun _ _ => False) (mA b KM s.heap.size)) args s 0 0 (mA b KM s.heap.size)) (F0 m 55 ls [])) (hko85 : ∀ (r0 : Nat) (kr0 : KM r0 = (0, 10, 0)) (x1 : Int) (ox1 : okI x1) (S : mSt) (H : Heap) (locs : List Loc) (ls : Array Slot), lv_has ls 3 [(0, .ref (b + r0)), (1, .int (mI x1))] → mW g b KM S H → va_S (mA b KM s.heap.size) s.heap H locs → ko85 r0 x1 S → W p l e { frames := 118, cells := 0, slots := 0, locals := 3119 } s m args below meth c H locs 0 0 (vx_MQ below (mQi g b KM Q (mA b KM s.heap.size)) (mEx g b KM (fun _ _ => False) (mA b KM s.heap.size)) args s 0 0 (mA b KM s.heap.size)) (F0 m 85 ls [])) (r0 : Nat) (kr0 : KM r0 = (0, 10, 0)) (x1 : Int) (ox1 : okI x1) (x2 : Int) (ox2 : okI x2) (S : mSt) (H : Heap) (locs : List Loc) (ls : Array Slot) (hl : lv_has ls 3 [(0, .ref (b + r0)), (1, .int (mI x1)), (2, .int (mI x2))]) (hW : mW g b KM S H) (hS : va_S (mA b KM s.heap.size) s.heap H locs) (h : w_X12_law_55b N Q ko55 ko85 r0 x1 x2 S) : W p l e { frames := 118, cells := 0, slots := 0, locals := 3119 } s m args below meth c H locs 0 0 (vx_MQ below (mQi g b KM Q (mA b KM s.heap.size)) (mEx g b KM (fun _ _ => False) (mA b KM s.heap.size)) args s 0 0 (mA b KM s.heap.size)) (F0 m 55 ls []) := by
  unfold w_X12_law_55b at h
  refine m_iload_n (pc := 55) C.1 dX12_law_55 rfl hl 2 rfl ?_
  refine m_aload_n (pc := 56) C.1 dX12_law_56 rfl hl 0 rfl ?_
  refine g_10_11 (pc := 57) C hW kr0 q_1394 dX12_law_57 ?_
  refine m_icmp_ge (pc := 60) (tgt := 85) C.1 ox2 (hW.2.1 _ _) dX12_law_60 (by decide) (fun hc => ?_) (fun hc => ?_)
  · replace h := h.1 hc
    exact hko85 r0 kr0 x1 ox1 S _ _ _ (lv_sub hl [0, 1] rfl) hW hS h
  · replace h := h.2 hc
    refine m_aload_n (pc := 63) C.1 dX12_law_63 rfl hl 0 rfl ?_
    refine g_10_1 (pc := 64) C hW kr0 q_1384 dX12_law_64 ?_
    refine m_sipush (pc := 67) C.1 dX12_law_67 rfl ?_
    refine m_iload_n (pc := 70) C.1 dX12_law_70 rfl hl 2 rfl ?_
    refine m_iadd (pc := 71) C.1 dX12_law_71 ?_
    refine m_aload_n (pc := 72) C.1 dX12_law_72 rfl hl 0 rfl ?_
    refine g_10_8 (pc := 73) C hW kr0 q_1391 dX12_law_73 ?_
    refine m_iload_n (pc := 76) C.1 dX12_law_76 rfl hl 2 rfl ?_
    obtain ⟨hb1a, hb1b, h⟩ := h
    refine m_iald (pc := 77) C.1 C.2.1 hW (k_10_8 kr0) ox2 hb1a hb1b dX12_law_77 ?_
    obtain ⟨hb2a, hb2b, h⟩ := h
    refine m_iast (pc := 78) C.1 C.2.1 hW hS (k_10_1 kr0) (nm_ok _) (hW.2.1 _ _) hb2a hb2b dX12_law_78 (fun S3 H locs e3 hW3 hS => ?_)
    replace h := h S3 e3
    refine m_iinc (pc := 79) C.1 dX12_law_79 hl (by decide) (q0 := 2) rfl (fun v => [(2, .int v), (0, .ref (b + r0)), (1, .int (mI x1))]) (fun _ => rfl) (fun v4 ls ev4 ov4 hl => ?_)
    replace h := h v4 ev4
    refine m_goto (pc := 82) (tgt := 55) C.1 dX12_law_82 (by decide) ?_
    exact hko55 r0 kr0 x1 ox1 v4 ov4 S3 _ _ _ (lv_sub hl [1, 2, 0] rfl) hW3 hS h
def w_X12_law_55 (N : Nat) (Q : mSt → Int → Prop) (ko85 : Nat → Int → mSt → Prop) : Nat → Nat → Int → Int → mSt → Prop
  | 0 => fun _ _ _ _ => False
  | k + 1 => w_X12_law_55b N Q (w_X12_law_55 N Q ko85 k) ko85
theorem W_X12_law_55 (C : mC p l s m args meth c cX12_law "MoonWashModel" 3 (some FieldType.int) g) (N : Nat) {Q : mSt → Int → Prop} {ko85 : Nat → Int → mSt → Prop} (hko85 : ∀ (r0 : Nat) (kr0 : KM r0 = (0, 10, 0)) (x1 : Int) (ox1 : okI x1) (S : mSt) (H : Heap) (locs : List Loc) (ls : Array Slot), lv_has ls 3 [(0, .ref (b + r0)), (1, .int (mI x1))] → mW g b KM S H → va_S (mA b KM s.heap.size) s.heap H locs → ko85 r0 x1 S → W p l e { frames := 118, cells := 0, slots := 0, locals := 3119 } s m args below meth c H locs 0 0 (vx_MQ below (mQi g b KM Q (mA b KM s.heap.size)) (mEx g b KM (fun _ _ => False) (mA b KM s.heap.size)) args s 0 0 (mA b KM s.heap.size)) (F0 m 85 ls [])) : ∀ (k : Nat) (r0 : Nat) (kr0 : KM r0 = (0, 10, 0)) (x1 : Int) (ox1 : okI x1) (x2 : Int) (ox2 : okI x2) (S : mSt) (H : Heap) (locs : List Loc) (ls : Array Slot) (hl : lv_has ls 3 [(0, .ref (b + r0)), (1, .int (mI x1)), (2, .int (mI x2))]) (hW : mW g b KM S H) (hS : va_S (mA b KM s.heap.size) s.heap H locs) (h : w_X12_law_55 N Q ko85 k r0 x1 x2 S), W p l e { frames := 118, cells := 0, slots := 0, locals := 3119 } s m args below meth c H locs 0 0 (vx_MQ below (mQi g b KM Q (mA b KM s.heap.size)) (mEx g b KM (fun _ _ => False) (mA b KM s.heap.size)) args s 0 0 (mA b KM s.heap.size)) (F0 m 55 ls []) := by
  intro k
  induction k with
  | zero => intro r0 kr0 x1 ox1 x2 ox2 S H locs ls hl hW hS h; exact False.elim h
  | succ k ih => intro r0 kr0 x1 ox1 x2 ox2 S H locs ls hl hW hS h; exact W_X12_law_55b C N ih hko85 r0 kr0 x1 ox1 x2 ox2 S H locs ls hl hW hS h
def w_X12_law_24 (N : Nat) (Q : mSt → Int → Prop)  (r0 : Nat) (x1 : Int) (xs0 : Int) (rs1 : Nat) (S : mSt) : Prop :=
  ∀ S1 : mSt, S1 = mup S rs1 0 xs0 → (((S1 r0 0) ≤ 0 → ∀ S2 : mSt, S2 = mup S1 (r0 + 1) 1 x1 → ∀ S3 : mSt, S3 = mup S2 (r0 + 1) 2 (S2 r0 11) → ∀ v4 : Int, v4 = 0 → w_X12_law_55 N Q (fun (r0_5 : Nat) (x1_5 : Int) (S_5 : mSt) => ∀ S6 : mSt, S6 = mup S_5 r0_5 7 0 → Q S6 x1_5) N r0 x1 v4 S3) ∧ (0 < (S1 r0 0) → Q S1 0))
theorem W_X12_law_24 (C : mC p l s m args meth c cX12_law "MoonWashModel" 3 (some FieldType.int) g) (N : Nat) {Q : mSt → Int → Prop}   (r0 : Nat) (kr0 : KM r0 = (0, 10, 0)) (x1 : Int) (ox1 : okI x1) (xs0 : Int) (oxs0 : okI xs0) (rs1 : Nat) (krs1 : KM rs1 = (0, 10, 0)) (S : mSt) (H : Heap) (locs : List Loc) (ls : Array Slot) (hl : lv_has ls 3 [(0, .ref (b + r0)), (1, .int (mI x1))]) (hW : mW g b KM S H) (hS : va_S (mA b KM s.heap.size) s.heap H locs) (h : w_X12_law_24 N Q  r0 x1 xs0 rs1 S) : W p l e { frames := 118, cells := 0, slots := 0, locals := 3119 } s m args below meth c H locs 0 0 (vx_MQ below (mQi g b KM Q (mA b KM s.heap.size)) (mEx g b KM (fun _ _ => False) (mA b KM s.heap.size)) args s 0 0 (mA b KM s.heap.size)) (F0 m 24 ls [.int (mI xs0), .ref (b + rs1)]) := by
  unfold w_X12_law_24 at h
  refine p_10_0 (pc := 24) C hW hS krs1 q_1383 oxs0 dX12_law_24 (fun S1 H locs e1 hW1 hS => ?_)
  replace h := h S1 e1
  refine m_aload_n (pc := 27) C.1 dX12_law_27 rfl hl 0 rfl ?_
  refine g_10_0 (pc := 28) C hW1 kr0 q_1383 dX12_law_28 ?_
  refine m_if_le (pc := 31) (tgt := 36) C.1 (hW1.2.1 _ _) dX12_law_31 (by decide) (fun hc => ?_) (fun hc => ?_)
  · replace h := h.1 hc
    refine m_aload_n (pc := 36) C.1 dX12_law_36 rfl hl 0 rfl ?_
    refine g_10_1 (pc := 37) C hW1 kr0 q_1384 dX12_law_37 ?_
    refine m_iconst (pc := 40) C.1 dX12_law_40 ?_
    refine m_iload_n (pc := 41) C.1 dX12_law_41 rfl hl 1 rfl ?_
    refine m_iast (pc := 42) C.1 C.2.1 hW1 hS (k_10_1 kr0) (by decide : okI 1) ox1 (by decide) (by decide) dX12_law_42 (fun S2 H locs e2 hW2 hS => ?_)
    replace h := h S2 e2
    refine m_aload_n (pc := 43) C.1 dX12_law_43 rfl hl 0 rfl ?_
    refine g_10_1 (pc := 44) C hW2 kr0 q_1384 dX12_law_44 ?_
    refine m_iconst (pc := 47) C.1 dX12_law_47 ?_
    refine m_aload_n (pc := 48) C.1 dX12_law_48 rfl hl 0 rfl ?_
    refine g_10_11 (pc := 49) C hW2 kr0 q_1394 dX12_law_49 ?_
    refine m_iast (pc := 52) C.1 C.2.1 hW2 hS (k_10_1 kr0) (by decide : okI 2) (hW2.2.1 _ _) (by decide) (by decide) dX12_law_52 (fun S3 H locs e3 hW3 hS => ?_)
    replace h := h S3 e3
    refine m_iconst (pc := 53) C.1 dX12_law_53 ?_
    refine m_istore_n (pc := 54) C.1 dX12_law_54 rfl hl (by decide) (fun v => [(2, .int v), (0, .ref (b + r0)), (1, .int (mI x1))]) (fun _ => rfl) (by decide : okI 0) (fun v4 ls ev4 ov4 hl => ?_)
    replace h := h v4 ev4
    refine W_X12_law_55 C N ?_ N r0 kr0 x1 ox1 v4 ov4 S3 _ _ _ (lv_sub hl [1, 2, 0] rfl) hW3 hS h
    · intro r0_5 kr0_5 x1_5 ox1_5 S_5 H locs ls hl hW_5 hS h
      refine m_aload_n (pc := 85) C.1 dX12_law_85 rfl hl 0 rfl ?_
      refine m_iconst (pc := 86) C.1 dX12_law_86 ?_
      refine p_10_7 (pc := 87) C hW_5 hS kr0_5 q_1390 (by decide : okI 0) dX12_law_87 (fun S6 H locs e6 hW6 hS => ?_)
      replace h := h S6 e6
      refine m_iload_n (pc := 90) C.1 dX12_law_90 rfl hl 1 rfl ?_
      exact m_iret (pc := 91) C.1 C.2.2.2.1 C.2.2.2.2.1 hW6 hS ox1_5 h (by decide) (by decide) dX12_law_91
  · replace h := h.2 hc
    refine m_iconst (pc := 34) C.1 dX12_law_34 ?_
    exact m_iret (pc := 35) C.1 C.2.2.2.1 C.2.2.2.2.1 hW1 hS (by decide : okI 0) h (by decide) (by decide) dX12_law_35
end
def w_X12_law (N : Nat) (r0 : Nat) (S : mSt) (Q : mSt → Int → Prop) : Prop :=
  w_X12_begins N r0 S (fun (S1 : mSt) => w_X12_read N r0 1 S1 (fun (S2 : mSt) (v2 : Int) => ∀ v3 : Int, v3 = v2 → (((S2 r0 13) = (-1) → w_X12_law_24 N Q  r0 v3 0 r0 S2) ∧ ((S2 r0 13) ≠ (-1) → w_X12_law_24 N Q  r0 v3 1 r0 S2))))
theorem T_X12_law {l : Launch} (hl0 : l.stackTraces = false) {g : mG} {b : Nat} (N : Nat) (r0 : Nat) (kr0 : KM r0 = (0, 10, 0)) {S : mSt} {Q : mSt → Int → Prop} (h : w_X12_law N r0 S Q) (sz : Nat) : vx_Met l yX12_law (Cond.code yX12_law cX12_law 3 (some FieldType.int) :: wsG) { frames := 118, cells := 0, slots := 0, locals := 3119 } (mPc g b KM S [.ref (b + r0)] sz) (mQi g b KM Q (mA b KM sz)) (mEx g b KM (fun _ _ => False) (mA b KM sz)) 0 0 (mA b KM sz) :=
  m_of (av := [.ref (b + r0)]) (Qf := fun A => mQi g b KM Q A) (Xf := fun A => mEx g b KM (fun _ _ => False) A) (by decide) (Nat.le_of_ble_eq_true rfl) (fun p e s m args below meth c ls X hK hml hr hlk hout hnm hW hl => by
    have C : mC p l s m args meth c cX12_law "MoonWashModel" 3 (some FieldType.int) g := ⟨X, hK, hml, hr, hlk, hout, hl0⟩
    have hS : va_S (mA b KM s.heap.size) s.heap s.heap [] := va_S.rf
    have hl : lv_has ls 3 [(0, .ref (b + r0))] := hl
    unfold w_X12_law at h
    refine m_aload_n (pc := 0) C.1 dX12_law_0 rfl hl 0 rfl ?_
    refine m_callVv (pc := 1) C.1 C.2.2.1 hl.1 C.2.1 hW hS (As := []) (rest := []) (r := r0) (T_X12_begins C.2.2.2.2.2.2 N r0 kr0 h) kr0 rfl q_1486 q_1488 q_24 q_92 q_1489 pl_X12_begins (by decide) (Nat.le_of_ble_eq_true rfl) dX12_law_1 (fun S1 H locs h hW1 hS => ?_)
    refine m_aload_n (pc := 4) C.1 dX12_law_4 rfl hl 0 rfl ?_
    refine m_iconst (pc := 5) C.1 dX12_law_5 ?_
    refine m_callVi (pc := 6) C.1 C.2.2.1 hl.1 C.2.1 hW1 hS (As := [.int (mI 1)]) (rest := []) (r := r0) (T_X12_read C.2.2.2.2.2.2 N r0 kr0 1 (by decide : okI 1) h) kr0 rfl q_1490 q_1492 q_25 q_92 q_1493 pl_X12_read (by decide) (Nat.le_of_ble_eq_true rfl) dX12_law_6 (fun v2 S2 H locs ov2 h hW2 hS => ?_)
    refine m_istore_n (pc := 9) C.1 dX12_law_9 rfl hl (by decide) (fun v => [(1, .int v), (0, .ref (b + r0))]) (fun _ => rfl) ov2 (fun v3 ls ev3 ov3 hl => ?_)
    replace h := h v3 ev3
    refine m_aload_n (pc := 10) C.1 dX12_law_10 rfl hl 1 rfl ?_
    refine m_aload_n (pc := 11) C.1 dX12_law_11 rfl hl 1 rfl ?_
    refine g_10_13 (pc := 12) C hW2 kr0 q_1396 dX12_law_12 ?_
    refine m_iconst (pc := 15) C.1 dX12_law_15 ?_
    refine m_icmp_eq (pc := 16) (tgt := 23) C.1 (hW2.2.1 _ _) (by decide : okI (-1)) dX12_law_16 (by decide) (fun hc => ?_) (fun hc => ?_)
    · replace h := h.1 hc
      refine m_iconst (pc := 23) C.1 dX12_law_23 ?_
      exact W_X12_law_24 C N  r0 kr0 v3 ov3 0 (by decide : okI 0) r0 kr0 S2 _ _ _ (lv_sub hl [1, 0] rfl) hW2 hS h
    · replace h := h.2 hc
      refine m_iconst (pc := 19) C.1 dX12_law_19 ?_
      refine m_goto (pc := 20) (tgt := 24) C.1 dX12_law_20 (by decide) ?_
      exact W_X12_law_24 C N  r0 kr0 v3 ov3 1 (by decide : okI 1) r0 kr0 S2 _ _ _ (lv_sub hl [1, 0] rfl) hW2 hS h) sz
section
variable {p : Program} {l : Launch} {e : Env} {s : State} {m : MethodId} {args : Array Value} {below : List Frame} {meth : Method} {c : Code} {g : mG} {b : Nat}
end
def w_X12_fault (N : Nat) (r0 : Nat) (S : mSt) (Q : mSt → Int → Prop) : Prop :=
  ∀ S1 : mSt, S1 = mup S r0 0 0 → Q S1 (S1 r0 13)
theorem T_X12_fault {l : Launch} (hl0 : l.stackTraces = false) {g : mG} {b : Nat} (N : Nat) (r0 : Nat) (kr0 : KM r0 = (0, 10, 0)) {S : mSt} {Q : mSt → Int → Prop} (h : w_X12_fault N r0 S Q) (sz : Nat) : vx_Met l yX12_fault (Cond.code yX12_fault cX12_fault 1 (some FieldType.int) :: wsG) { frames := 0, cells := 0, slots := 0, locals := 0 } (mPc g b KM S [.ref (b + r0)] sz) (mQi g b KM Q (mA b KM sz)) (mEx g b KM (fun _ _ => False) (mA b KM sz)) 0 0 (mA b KM sz) :=
  m_of (av := [.ref (b + r0)]) (Qf := fun A => mQi g b KM Q A) (Xf := fun A => mEx g b KM (fun _ _ => False) A) (by decide) (Nat.le_of_ble_eq_true rfl) (fun p e s m args below meth c ls X hK hml hr hlk hout hnm hW hl => by
    have C : mC p l s m args meth c cX12_fault "MoonWashModel" 1 (some FieldType.int) g := ⟨X, hK, hml, hr, hlk, hout, hl0⟩
    have hS : va_S (mA b KM s.heap.size) s.heap s.heap [] := va_S.rf
    have hl : lv_has ls 1 [(0, .ref (b + r0))] := hl
    unfold w_X12_fault at h
    refine m_aload_n (pc := 0) C.1 dX12_fault_0 rfl hl 0 rfl ?_
    refine m_iconst (pc := 1) C.1 dX12_fault_1 ?_
    refine p_10_0 (pc := 2) C hW hS kr0 q_1383 (by decide : okI 0) dX12_fault_2 (fun S1 H locs e1 hW1 hS => ?_)
    replace h := h S1 e1
    refine m_aload_n (pc := 5) C.1 dX12_fault_5 rfl hl 0 rfl ?_
    refine g_10_13 (pc := 6) C hW1 kr0 q_1396 dX12_fault_6 ?_
    exact m_iret (pc := 9) C.1 C.2.2.2.1 C.2.2.2.2.1 hW1 hS (hW1.2.1 _ _) h (by decide) (by decide) dX12_fault_9) sz
section
variable {p : Program} {l : Launch} {e : Env} {s : State} {m : MethodId} {args : Array Value} {below : List Frame} {meth : Method} {c : Code} {g : mG} {b : Nat}
def w_X12_asks_28b (N : Nat) (Q : mSt → Prop) (ko28 : Nat → Int → Int → mSt → Prop) (ko53 : Nat → Int → mSt → Prop) (r0 : Nat) (x1 : Int) (x2 : Int) (S : mSt) : Prop :=
  ((3 ≤ x2 → ko53 r0 x1 S) ∧ (x2 < 3 → w_X12_of N r0 x1 x2 S (fun (S1 : mSt) (v1 : Int) => (0 ≤ (nm (1 + x2)) ∧ (nm (1 + x2)) < 8 ∧ ∀ S3 : mSt, S3 = mup S1 (r0 + 7) (nm (1 + x2)) v1 → ∀ v4 : Int, v4 = nm (x2 + 1) → ko28 r0 x1 v4 S3))))
theorem W_X12_asks_28b (C : mC p l s m args meth c cX12_asks "MoonWashModel" 4 none g) (N : Nat) {Q : mSt → Prop} {ko28 : Nat → Int → Int → mSt → Prop} {ko53 : Nat → Int → mSt → Prop} (hko28 : ∀ (r0 : Nat) (kr0 : KM r0 = (0, 10, 0)) (x1 : Int) (ox1 : okI x1) (x2 : Int) (ox2 : okI x2) (S : mSt) (H : Heap) (locs : List Loc) (ls : Array Slot), lv_has ls 4 [(0, .ref (b + r0)), (1, .int (mI x1)), (2, .int (mI x2))] → mW g b KM S H → va_S (mA b KM s.heap.size) s.heap H locs → ko28 r0 x1 x2 S → W p l e { frames := 118, cells := 0, slots := 0, locals := 3119 } s m args below meth c H locs 0 0 (vx_MQ below (mQv g b KM Q (mA b KM s.heap.size)) (mEx g b KM (fun _ _ => False) (mA b KM s.heap.size)) args s 0 0 (mA b KM s.heap.size)) (F0 m 28 ls [])) (hko53 : ∀ (r0 : Nat) (kr0 : KM r0 = (0, 10, 0)) (x1 : Int) (ox1 : okI x1) (S : mSt) (H : Heap) (locs : List Loc) (ls : Array Slot), lv_has ls 4 [(0, .ref (b + r0)), (1, .int (mI x1))] → mW g b KM S H → va_S (mA b KM s.heap.size) s.heap H locs → ko53 r0 x1 S → W p l e { frames := 118, cells := 0, slots := 0, locals := 3119 } s m args below meth c H locs 0 0 (vx_MQ below (mQv g b KM Q (mA b KM s.heap.size)) (mEx g b KM (fun _ _ => False) (mA b KM s.heap.size)) args s 0 0 (mA b KM s.heap.size)) (F0 m 53 ls [])) (r0 : Nat) (kr0 : KM r0 = (0, 10, 0)) (x1 : Int) (ox1 : okI x1) (x2 : Int) (ox2 : okI x2) (S : mSt) (H : Heap) (locs : List Loc) (ls : Array Slot) (hl : lv_has ls 4 [(0, .ref (b + r0)), (1, .int (mI x1)), (2, .int (mI x2))]) (hW : mW g b KM S H) (hS : va_S (mA b KM s.heap.size) s.heap H locs) (h : w_X12_asks_28b N Q ko28 ko53 r0 x1 x2 S) : W p l e { frames := 118, cells := 0, slots := 0, locals := 3119 } s m args below meth c H locs 0 0 (vx_MQ below (mQv g b KM Q (mA b KM s.heap.size)) (mEx g b KM (fun _ _ => False) (mA b KM s.heap.size)) args s 0 0 (mA b KM s.heap.size)) (F0 m 28 ls []) := by
  unfold w_X12_asks_28b at h
  refine m_iload_n (pc := 28) C.1 dX12_asks_28 rfl hl 2 rfl ?_
  refine m_iconst (pc := 29) C.1 dX12_asks_29 ?_
  refine m_icmp_ge (pc := 30) (tgt := 53) C.1 ox2 (by decide : okI 3) dX12_asks_30 (by decide) (fun hc => ?_) (fun hc => ?_)
  · replace h := h.1 hc
    exact hko53 r0 kr0 x1 ox1 S _ _ _ (lv_sub hl [0, 1] rfl) hW hS h
  · replace h := h.2 hc
    refine m_aload_n (pc := 33) C.1 dX12_asks_33 rfl hl 0 rfl ?_
    refine g_10_15 (pc := 34) C hW kr0 q_1398 dX12_asks_34 ?_
    refine m_iconst (pc := 37) C.1 dX12_asks_37 ?_
    refine m_iload_n (pc := 38) C.1 dX12_asks_38 rfl hl 2 rfl ?_
    refine m_iadd (pc := 39) C.1 dX12_asks_39 ?_
    refine m_aload_n (pc := 40) C.1 dX12_asks_40 rfl hl 0 rfl ?_
    refine m_iload_n (pc := 41) C.1 dX12_asks_41 rfl hl 1 rfl ?_
    refine m_iload_n (pc := 42) C.1 dX12_asks_42 rfl hl 2 rfl ?_
    refine m_callVi (pc := 43) C.1 C.2.2.1 hl.1 C.2.1 hW hS (As := [.int (mI x1), .int (mI x2)]) (rest := [.int (mI (nm (1 + x2))), .ref (b + (r0 + 7))]) (r := r0) (T_X12_of C.2.2.2.2.2.2 N r0 kr0 x1 ox1 x2 ox2 h) kr0 rfl q_1630 q_1632 q_48 q_92 q_1633 pl_X12_of (by decide) (Nat.le_of_ble_eq_true rfl) dX12_asks_43 (fun v1 S1 H locs ov1 h hW1 hS => ?_)
    obtain ⟨hb2a, hb2b, h⟩ := h
    refine m_iast (pc := 46) C.1 C.2.1 hW1 hS (k_10_15 kr0) (nm_ok _) ov1 hb2a hb2b dX12_asks_46 (fun S3 H locs e3 hW3 hS => ?_)
    replace h := h S3 e3
    refine m_iinc (pc := 47) C.1 dX12_asks_47 hl (by decide) (q0 := 2) rfl (fun v => [(2, .int v), (0, .ref (b + r0)), (1, .int (mI x1))]) (fun _ => rfl) (fun v4 ls ev4 ov4 hl => ?_)
    replace h := h v4 ev4
    refine m_goto (pc := 50) (tgt := 28) C.1 dX12_asks_50 (by decide) ?_
    exact hko28 r0 kr0 x1 ox1 v4 ov4 S3 _ _ _ (lv_sub hl [1, 2, 0] rfl) hW3 hS h
def w_X12_asks_28 (N : Nat) (Q : mSt → Prop) (ko53 : Nat → Int → mSt → Prop) : Nat → Nat → Int → Int → mSt → Prop
  | 0 => fun _ _ _ _ => False
  | k + 1 => w_X12_asks_28b N Q (w_X12_asks_28 N Q ko53 k) ko53
theorem W_X12_asks_28 (C : mC p l s m args meth c cX12_asks "MoonWashModel" 4 none g) (N : Nat) {Q : mSt → Prop} {ko53 : Nat → Int → mSt → Prop} (hko53 : ∀ (r0 : Nat) (kr0 : KM r0 = (0, 10, 0)) (x1 : Int) (ox1 : okI x1) (S : mSt) (H : Heap) (locs : List Loc) (ls : Array Slot), lv_has ls 4 [(0, .ref (b + r0)), (1, .int (mI x1))] → mW g b KM S H → va_S (mA b KM s.heap.size) s.heap H locs → ko53 r0 x1 S → W p l e { frames := 118, cells := 0, slots := 0, locals := 3119 } s m args below meth c H locs 0 0 (vx_MQ below (mQv g b KM Q (mA b KM s.heap.size)) (mEx g b KM (fun _ _ => False) (mA b KM s.heap.size)) args s 0 0 (mA b KM s.heap.size)) (F0 m 53 ls [])) : ∀ (k : Nat) (r0 : Nat) (kr0 : KM r0 = (0, 10, 0)) (x1 : Int) (ox1 : okI x1) (x2 : Int) (ox2 : okI x2) (S : mSt) (H : Heap) (locs : List Loc) (ls : Array Slot) (hl : lv_has ls 4 [(0, .ref (b + r0)), (1, .int (mI x1)), (2, .int (mI x2))]) (hW : mW g b KM S H) (hS : va_S (mA b KM s.heap.size) s.heap H locs) (h : w_X12_asks_28 N Q ko53 k r0 x1 x2 S), W p l e { frames := 118, cells := 0, slots := 0, locals := 3119 } s m args below meth c H locs 0 0 (vx_MQ below (mQv g b KM Q (mA b KM s.heap.size)) (mEx g b KM (fun _ _ => False) (mA b KM s.heap.size)) args s 0 0 (mA b KM s.heap.size)) (F0 m 28 ls []) := by
  intro k
  induction k with
  | zero => intro r0 kr0 x1 ox1 x2 ox2 S H locs ls hl hW hS h; exact False.elim h
  | succ k ih => intro r0 kr0 x1 ox1 x2 ox2 S H locs ls hl hW hS h; exact W_X12_asks_28b C N ih hko53 r0 kr0 x1 ox1 x2 ox2 S H locs ls hl hW hS h
def w_X12_asks_163 (N : Nat) (Q : mSt → Prop)  (r0 : Nat) (xs0 : Int) (rs1 : Nat) (S : mSt) : Prop :=
  ((xs0 = 0 ∨ xs0 = 1) ∧ ∀ S1 : mSt, S1 = mup S rs1 17 xs0 → ∀ v2 : Int, v2 = (S1 r0 13) → ∀ S3 : mSt, S3 = mup S1 r0 13 (-1) → ∀ S4 : mSt, S4 = mup S3 r0 10 350 → ∀ S5 : mSt, S5 = mup S4 r0 11 (S4 (r0 + 1) 2) → ∀ S6 : mSt, S6 = mup S5 r0 12 0 → ∀ S7 : mSt, S7 = mup S6 r0 14 0 → w_X12_read N r0 1 S7 (fun (S8 : mSt) (v8 : Int) => ∀ v9 : Int, v9 = v8 → ∀ S10 : mSt, S10 = mup S8 r0 13 v2 → Q S10))
theorem W_X12_asks_163 (C : mC p l s m args meth c cX12_asks "MoonWashModel" 4 none g) (N : Nat) {Q : mSt → Prop}   (r0 : Nat) (kr0 : KM r0 = (0, 10, 0)) (xs0 : Int) (oxs0 : okI xs0) (rs1 : Nat) (krs1 : KM rs1 = (0, 10, 0)) (S : mSt) (H : Heap) (locs : List Loc) (ls : Array Slot) (hl : lv_has ls 4 [(0, .ref (b + r0))]) (hW : mW g b KM S H) (hS : va_S (mA b KM s.heap.size) s.heap H locs) (h : w_X12_asks_163 N Q  r0 xs0 rs1 S) : W p l e { frames := 118, cells := 0, slots := 0, locals := 3119 } s m args below meth c H locs 0 0 (vx_MQ below (mQv g b KM Q (mA b KM s.heap.size)) (mEx g b KM (fun _ _ => False) (mA b KM s.heap.size)) args s 0 0 (mA b KM s.heap.size)) (F0 m 163 ls [.int (mI xs0), .ref (b + rs1)]) := by
  unfold w_X12_asks_163 at h
  obtain ⟨hz1, h⟩ := h
  refine p_10_17 (pc := 163) C hW hS krs1 q_1400 hz1 dX12_asks_163 (fun S1 H locs e1 hW1 hS => ?_)
  replace h := h S1 e1
  refine m_aload_n (pc := 166) C.1 dX12_asks_166 rfl hl 0 rfl ?_
  refine g_10_13 (pc := 167) C hW1 kr0 q_1396 dX12_asks_167 ?_
  refine m_istore_n (pc := 170) C.1 dX12_asks_170 rfl hl (by decide) (fun v => [(2, .int v), (0, .ref (b + r0))]) (fun _ => rfl) (hW1.2.1 _ _) (fun v2 ls ev2 ov2 hl => ?_)
  replace h := h v2 ev2
  refine m_aload_n (pc := 171) C.1 dX12_asks_171 rfl hl 1 rfl ?_
  refine m_iconst (pc := 172) C.1 dX12_asks_172 ?_
  refine p_10_13 (pc := 173) C hW1 hS kr0 q_1396 (by decide : okI (-1)) dX12_asks_173 (fun S3 H locs e3 hW3 hS => ?_)
  replace h := h S3 e3
  refine m_aload_n (pc := 176) C.1 dX12_asks_176 rfl hl 1 rfl ?_
  refine m_sipush (pc := 177) C.1 dX12_asks_177 rfl ?_
  refine p_10_10 (pc := 180) C hW3 hS kr0 q_1393 (by decide : okI 350) dX12_asks_180 (fun S4 H locs e4 hW4 hS => ?_)
  replace h := h S4 e4
  refine m_aload_n (pc := 183) C.1 dX12_asks_183 rfl hl 1 rfl ?_
  refine m_aload_n (pc := 184) C.1 dX12_asks_184 rfl hl 1 rfl ?_
  refine g_10_1 (pc := 185) C hW4 kr0 q_1384 dX12_asks_185 ?_
  refine m_iconst (pc := 188) C.1 dX12_asks_188 ?_
  refine m_iald (pc := 189) C.1 C.2.1 hW4 (k_10_1 kr0) (by decide : okI 2) (by decide) (by decide) dX12_asks_189 ?_
  refine p_10_11 (pc := 190) C hW4 hS kr0 q_1394 (hW4.2.1 _ _) dX12_asks_190 (fun S5 H locs e5 hW5 hS => ?_)
  replace h := h S5 e5
  refine m_aload_n (pc := 193) C.1 dX12_asks_193 rfl hl 1 rfl ?_
  refine m_iconst (pc := 194) C.1 dX12_asks_194 ?_
  refine p_10_12 (pc := 195) C hW5 hS kr0 q_1395 (by decide : okI 0) dX12_asks_195 (fun S6 H locs e6 hW6 hS => ?_)
  replace h := h S6 e6
  refine m_aload_n (pc := 198) C.1 dX12_asks_198 rfl hl 1 rfl ?_
  refine m_iconst (pc := 199) C.1 dX12_asks_199 ?_
  refine p_10_14 (pc := 200) C hW6 hS kr0 q_1397 (by decide : okI 0) dX12_asks_200 (fun S7 H locs e7 hW7 hS => ?_)
  replace h := h S7 e7
  refine m_aload_n (pc := 203) C.1 dX12_asks_203 rfl hl 1 rfl ?_
  refine m_iconst (pc := 204) C.1 dX12_asks_204 ?_
  refine m_callVi (pc := 205) C.1 C.2.2.1 hl.1 C.2.1 hW7 hS (As := [.int (mI 1)]) (rest := []) (r := r0) (T_X12_read C.2.2.2.2.2.2 N r0 kr0 1 (by decide : okI 1) h) kr0 rfl q_1490 q_1492 q_25 q_92 q_1493 pl_X12_read (by decide) (Nat.le_of_ble_eq_true rfl) dX12_asks_205 (fun v8 S8 H locs ov8 h hW8 hS => ?_)
  refine m_istore_n (pc := 208) C.1 dX12_asks_208 rfl hl (by decide) (fun v => [(3, .int v), (2, .int (mI v2)), (0, .ref (b + r0))]) (fun _ => rfl) ov8 (fun v9 ls ev9 ov9 hl => ?_)
  replace h := h v9 ev9
  refine m_aload_n (pc := 209) C.1 dX12_asks_209 rfl hl 2 rfl ?_
  refine m_iload_n (pc := 210) C.1 dX12_asks_210 rfl hl 1 rfl ?_
  refine p_10_13 (pc := 211) C hW8 hS kr0 q_1396 ov2 dX12_asks_211 (fun S10 H locs e10 hW10 hS => ?_)
  replace h := h S10 e10
  exact m_vret (pc := 214) C.1 C.2.2.2.1 C.2.2.2.2.1 hW10 hS h (by decide) (by decide) dX12_asks_214
def w_X12_asks_144 (N : Nat) (Q : mSt → Prop)  (r0 : Nat) (x1 : Int) (xs0 : Int) (rs1 : Nat) (S : mSt) : Prop :=
  ((xs0 = 0 ∨ xs0 = 1) ∧ ∀ S1 : mSt, S1 = mup S rs1 16 xs0 → w_X12_of N r0 x1 4 S1 (fun (S2 : mSt) (v2 : Int) => ((v2 ≠ 1 → w_X12_asks_163 N Q  r0 0 r0 S2) ∧ (v2 = 1 → w_X12_asks_163 N Q  r0 1 r0 S2))))
theorem W_X12_asks_144 (C : mC p l s m args meth c cX12_asks "MoonWashModel" 4 none g) (N : Nat) {Q : mSt → Prop}   (r0 : Nat) (kr0 : KM r0 = (0, 10, 0)) (x1 : Int) (ox1 : okI x1) (xs0 : Int) (oxs0 : okI xs0) (rs1 : Nat) (krs1 : KM rs1 = (0, 10, 0)) (S : mSt) (H : Heap) (locs : List Loc) (ls : Array Slot) (hl : lv_has ls 4 [(0, .ref (b + r0)), (1, .int (mI x1))]) (hW : mW g b KM S H) (hS : va_S (mA b KM s.heap.size) s.heap H locs) (h : w_X12_asks_144 N Q  r0 x1 xs0 rs1 S) : W p l e { frames := 118, cells := 0, slots := 0, locals := 3119 } s m args below meth c H locs 0 0 (vx_MQ below (mQv g b KM Q (mA b KM s.heap.size)) (mEx g b KM (fun _ _ => False) (mA b KM s.heap.size)) args s 0 0 (mA b KM s.heap.size)) (F0 m 144 ls [.int (mI xs0), .ref (b + rs1)]) := by
  unfold w_X12_asks_144 at h
  obtain ⟨hz1, h⟩ := h
  refine p_10_16 (pc := 144) C hW hS krs1 q_1399 hz1 dX12_asks_144 (fun S1 H locs e1 hW1 hS => ?_)
  replace h := h S1 e1
  refine m_aload_n (pc := 147) C.1 dX12_asks_147 rfl hl 0 rfl ?_
  refine m_aload_n (pc := 148) C.1 dX12_asks_148 rfl hl 0 rfl ?_
  refine m_iload_n (pc := 149) C.1 dX12_asks_149 rfl hl 1 rfl ?_
  refine m_iconst (pc := 150) C.1 dX12_asks_150 ?_
  refine m_callVi (pc := 151) C.1 C.2.2.1 hl.1 C.2.1 hW1 hS (As := [.int (mI x1), .int (mI 4)]) (rest := [.ref (b + r0)]) (r := r0) (T_X12_of C.2.2.2.2.2.2 N r0 kr0 x1 ox1 4 (by decide : okI 4) h) kr0 rfl q_1630 q_1632 q_48 q_92 q_1633 pl_X12_of (by decide) (Nat.le_of_ble_eq_true rfl) dX12_asks_151 (fun v2 S2 H locs ov2 h hW2 hS => ?_)
  refine m_iconst (pc := 154) C.1 dX12_asks_154 ?_
  refine m_icmp_ne (pc := 155) (tgt := 162) C.1 ov2 (by decide : okI 1) dX12_asks_155 (by decide) (fun hc => ?_) (fun hc => ?_)
  · replace h := h.1 hc
    refine m_iconst (pc := 162) C.1 dX12_asks_162 ?_
    exact W_X12_asks_163 C N  r0 kr0 0 (by decide : okI 0) r0 kr0 S2 _ _ _ (lv_sub hl [0] rfl) hW2 hS h
  · replace h := h.2 hc
    refine m_iconst (pc := 158) C.1 dX12_asks_158 ?_
    refine m_goto (pc := 159) (tgt := 163) C.1 dX12_asks_159 (by decide) ?_
    exact W_X12_asks_163 C N  r0 kr0 1 (by decide : okI 1) r0 kr0 S2 _ _ _ (lv_sub hl [0] rfl) hW2 hS h
end
def w_X12_asks (N : Nat) (r0 : Nat) (x1 : Int) (S : mSt) (Q : mSt → Prop) : Prop :=
  ∀ S1 : mSt, S1 = mup S r0 18 0 → ∀ S2 : mSt, S2 = mup S1 r0 19 0 → ∀ S3 : mSt, S3 = mup S2 r0 20 0 → ((1 ≤ (S3 (r0 + 1) 1) → ∀ v4 : Int, v4 = 0 → w_X12_asks_28 N Q (fun (r0_5 : Nat) (x1_5 : Int) (S_5 : mSt) => ∀ S6 : mSt, S6 = mup S_5 (r0_5 + 7) 0 x1_5 → w_X12_of N r0_5 x1_5 3 S6 (fun (S7 : mSt) (v7 : Int) => w_X12_bits N v7 S7 (fun (S8 : mSt) (v8 : Int) => ∀ S9 : mSt, S9 = mup S8 (r0_5 + 7) 4 v8 → w_X12_of N r0_5 x1_5 5 S9 (fun (S10 : mSt) (v10 : Int) => (0 ≤ (nm (62 + v10)) ∧ (nm (62 + v10)) < 750 ∧ ∀ S12 : mSt, S12 = mup S10 (r0_5 + 7) 5 (S10 (r0_5 + 1) (nm (62 + v10))) → ∀ S13 : mSt, S13 = mup S12 (r0_5 + 7) 6 (S12 (r0_5 + 1) 10) → ∀ S14 : mSt, S14 = mup S13 (r0_5 + 7) 7 (S13 (r0_5 + 1) 9) → (((iRem (S14 (r0_5 + 1) 9) 28) ≠ 14 → w_X12_asks_144 N Q  r0_5 x1_5 0 r0_5 S14) ∧ ((iRem (S14 (r0_5 + 1) 9) 28) = 14 → w_X12_asks_144 N Q  r0_5 x1_5 1 r0_5 S14))))))) N r0 x1 v4 S3) ∧ ((S3 (r0 + 1) 1) < 1 → Q S3))
theorem T_X12_asks {l : Launch} (hl0 : l.stackTraces = false) {g : mG} {b : Nat} (N : Nat) (r0 : Nat) (kr0 : KM r0 = (0, 10, 0)) (x1 : Int) (ox1 : okI x1) {S : mSt} {Q : mSt → Prop} (h : w_X12_asks N r0 x1 S Q) (sz : Nat) : vx_Met l yX12_asks (Cond.code yX12_asks cX12_asks 4 none :: wsG) { frames := 118, cells := 0, slots := 0, locals := 3119 } (mPc g b KM S [.ref (b + r0), .int (mI x1)] sz) (mQv g b KM Q (mA b KM sz)) (mEx g b KM (fun _ _ => False) (mA b KM sz)) 0 0 (mA b KM sz) :=
  m_of (av := [.ref (b + r0), .int (mI x1)]) (Qf := fun A => mQv g b KM Q A) (Xf := fun A => mEx g b KM (fun _ _ => False) A) (by decide) (Nat.le_of_ble_eq_true rfl) (fun p e s m args below meth c ls X hK hml hr hlk hout hnm hW hl => by
    have C : mC p l s m args meth c cX12_asks "MoonWashModel" 4 none g := ⟨X, hK, hml, hr, hlk, hout, hl0⟩
    have hS : va_S (mA b KM s.heap.size) s.heap s.heap [] := va_S.rf
    have hl : lv_has ls 4 [(0, .ref (b + r0)), (1, .int (mI x1))] := hl
    unfold w_X12_asks at h
    refine m_aload_n (pc := 0) C.1 dX12_asks_0 rfl hl 0 rfl ?_
    refine m_iconst (pc := 1) C.1 dX12_asks_1 ?_
    refine p_10_18 (pc := 2) C hW hS kr0 q_1401 (by decide : okI 0) dX12_asks_2 (fun S1 H locs e1 hW1 hS => ?_)
    replace h := h S1 e1
    refine m_aload_n (pc := 5) C.1 dX12_asks_5 rfl hl 0 rfl ?_
    refine m_iconst (pc := 6) C.1 dX12_asks_6 ?_
    refine p_10_19 (pc := 7) C hW1 hS kr0 q_1402 (by decide : okI 0) dX12_asks_7 (fun S2 H locs e2 hW2 hS => ?_)
    replace h := h S2 e2
    refine m_aload_n (pc := 10) C.1 dX12_asks_10 rfl hl 0 rfl ?_
    refine m_iconst (pc := 11) C.1 dX12_asks_11 ?_
    refine p_10_20 (pc := 12) C hW2 hS kr0 q_1403 (by decide : okI 0) dX12_asks_12 (fun S3 H locs e3 hW3 hS => ?_)
    replace h := h S3 e3
    refine m_aload_n (pc := 15) C.1 dX12_asks_15 rfl hl 0 rfl ?_
    refine g_10_1 (pc := 16) C hW3 kr0 q_1384 dX12_asks_16 ?_
    refine m_iconst (pc := 19) C.1 dX12_asks_19 ?_
    refine m_iald (pc := 20) C.1 C.2.1 hW3 (k_10_1 kr0) (by decide : okI 1) (by decide) (by decide) dX12_asks_20 ?_
    refine m_iconst (pc := 21) C.1 dX12_asks_21 ?_
    refine m_icmp_ge (pc := 22) (tgt := 26) C.1 (hW3.2.1 _ _) (by decide : okI 1) dX12_asks_22 (by decide) (fun hc => ?_) (fun hc => ?_)
    · replace h := h.1 hc
      refine m_iconst (pc := 26) C.1 dX12_asks_26 ?_
      refine m_istore_n (pc := 27) C.1 dX12_asks_27 rfl hl (by decide) (fun v => [(2, .int v), (0, .ref (b + r0)), (1, .int (mI x1))]) (fun _ => rfl) (by decide : okI 0) (fun v4 ls ev4 ov4 hl => ?_)
      replace h := h v4 ev4
      refine W_X12_asks_28 C N ?_ N r0 kr0 x1 ox1 v4 ov4 S3 _ _ _ (lv_sub hl [1, 2, 0] rfl) hW3 hS h
      · intro r0_5 kr0_5 x1_5 ox1_5 S_5 H locs ls hl hW_5 hS h
        refine m_aload_n (pc := 53) C.1 dX12_asks_53 rfl hl 0 rfl ?_
        refine g_10_15 (pc := 54) C hW_5 kr0_5 q_1398 dX12_asks_54 ?_
        refine m_iconst (pc := 57) C.1 dX12_asks_57 ?_
        refine m_iload_n (pc := 58) C.1 dX12_asks_58 rfl hl 1 rfl ?_
        refine m_iast (pc := 59) C.1 C.2.1 hW_5 hS (k_10_15 kr0_5) (by decide : okI 0) ox1_5 (by decide) (by decide) dX12_asks_59 (fun S6 H locs e6 hW6 hS => ?_)
        replace h := h S6 e6
        refine m_aload_n (pc := 60) C.1 dX12_asks_60 rfl hl 0 rfl ?_
        refine g_10_15 (pc := 61) C hW6 kr0_5 q_1398 dX12_asks_61 ?_
        refine m_iconst (pc := 64) C.1 dX12_asks_64 ?_
        refine m_aload_n (pc := 65) C.1 dX12_asks_65 rfl hl 0 rfl ?_
        refine m_iload_n (pc := 66) C.1 dX12_asks_66 rfl hl 1 rfl ?_
        refine m_iconst (pc := 67) C.1 dX12_asks_67 ?_
        refine m_callVi (pc := 68) C.1 C.2.2.1 hl.1 C.2.1 hW6 hS (As := [.int (mI x1_5), .int (mI 3)]) (rest := [.int (mI 4), .ref (b + (r0_5 + 7))]) (r := r0_5) (T_X12_of C.2.2.2.2.2.2 N r0_5 kr0_5 x1_5 ox1_5 3 (by decide : okI 3) h) kr0_5 rfl q_1630 q_1632 q_48 q_92 q_1633 pl_X12_of (by decide) (Nat.le_of_ble_eq_true rfl) dX12_asks_68 (fun v7 S7 H locs ov7 h hW7 hS => ?_)
        refine m_callSi (pc := 71) C.1 C.2.2.1 hl.1 C.2.1 hW7 hS (As := [.int (mI v7)]) (rest := [.int (mI 4), .ref (b + (r0_5 + 7))]) (T_X12_bits C.2.2.2.2.2.2 N v7 ov7 h) q_1646 q_1647 q_92 q_1648 pl_X12_bits (by decide) (Nat.le_of_ble_eq_true rfl) dX12_asks_71 (fun v8 S8 H locs ov8 h hW8 hS => ?_)
        refine m_iast (pc := 74) C.1 C.2.1 hW8 hS (k_10_15 kr0_5) (by decide : okI 4) ov8 (by decide) (by decide) dX12_asks_74 (fun S9 H locs e9 hW9 hS => ?_)
        replace h := h S9 e9
        refine m_aload_n (pc := 75) C.1 dX12_asks_75 rfl hl 0 rfl ?_
        refine g_10_15 (pc := 76) C hW9 kr0_5 q_1398 dX12_asks_76 ?_
        refine m_iconst (pc := 79) C.1 dX12_asks_79 ?_
        refine m_aload_n (pc := 80) C.1 dX12_asks_80 rfl hl 0 rfl ?_
        refine g_10_1 (pc := 81) C hW9 kr0_5 q_1384 dX12_asks_81 ?_
        refine m_bipush (pc := 84) C.1 dX12_asks_84 rfl ?_
        refine m_aload_n (pc := 86) C.1 dX12_asks_86 rfl hl 0 rfl ?_
        refine m_iload_n (pc := 87) C.1 dX12_asks_87 rfl hl 1 rfl ?_
        refine m_iconst (pc := 88) C.1 dX12_asks_88 ?_
        refine m_callVi (pc := 89) C.1 C.2.2.1 hl.1 C.2.1 hW9 hS (As := [.int (mI x1_5), .int (mI 5)]) (rest := [.int (mI 62), .ref (b + (r0_5 + 1)), .int (mI 5), .ref (b + (r0_5 + 7))]) (r := r0_5) (T_X12_of C.2.2.2.2.2.2 N r0_5 kr0_5 x1_5 ox1_5 5 (by decide : okI 5) h) kr0_5 rfl q_1630 q_1632 q_48 q_92 q_1633 pl_X12_of (by decide) (Nat.le_of_ble_eq_true rfl) dX12_asks_89 (fun v10 S10 H locs ov10 h hW10 hS => ?_)
        refine m_iadd (pc := 92) C.1 dX12_asks_92 ?_
        obtain ⟨hb11a, hb11b, h⟩ := h
        refine m_iald (pc := 93) C.1 C.2.1 hW10 (k_10_1 kr0_5) (nm_ok _) hb11a hb11b dX12_asks_93 ?_
        refine m_iast (pc := 94) C.1 C.2.1 hW10 hS (k_10_15 kr0_5) (by decide : okI 5) (hW10.2.1 _ _) (by decide) (by decide) dX12_asks_94 (fun S12 H locs e12 hW12 hS => ?_)
        replace h := h S12 e12
        refine m_aload_n (pc := 95) C.1 dX12_asks_95 rfl hl 0 rfl ?_
        refine g_10_15 (pc := 96) C hW12 kr0_5 q_1398 dX12_asks_96 ?_
        refine m_bipush (pc := 99) C.1 dX12_asks_99 rfl ?_
        refine m_aload_n (pc := 101) C.1 dX12_asks_101 rfl hl 0 rfl ?_
        refine g_10_1 (pc := 102) C hW12 kr0_5 q_1384 dX12_asks_102 ?_
        refine m_bipush (pc := 105) C.1 dX12_asks_105 rfl ?_
        refine m_iald (pc := 107) C.1 C.2.1 hW12 (k_10_1 kr0_5) (by decide : okI 10) (by decide) (by decide) dX12_asks_107 ?_
        refine m_iast (pc := 108) C.1 C.2.1 hW12 hS (k_10_15 kr0_5) (by decide : okI 6) (hW12.2.1 _ _) (by decide) (by decide) dX12_asks_108 (fun S13 H locs e13 hW13 hS => ?_)
        replace h := h S13 e13
        refine m_aload_n (pc := 109) C.1 dX12_asks_109 rfl hl 0 rfl ?_
        refine g_10_15 (pc := 110) C hW13 kr0_5 q_1398 dX12_asks_110 ?_
        refine m_bipush (pc := 113) C.1 dX12_asks_113 rfl ?_
        refine m_aload_n (pc := 115) C.1 dX12_asks_115 rfl hl 0 rfl ?_
        refine g_10_1 (pc := 116) C hW13 kr0_5 q_1384 dX12_asks_116 ?_
        refine m_bipush (pc := 119) C.1 dX12_asks_119 rfl ?_
        refine m_iald (pc := 121) C.1 C.2.1 hW13 (k_10_1 kr0_5) (by decide : okI 9) (by decide) (by decide) dX12_asks_121 ?_
        refine m_iast (pc := 122) C.1 C.2.1 hW13 hS (k_10_15 kr0_5) (by decide : okI 7) (hW13.2.1 _ _) (by decide) (by decide) dX12_asks_122 (fun S14 H locs e14 hW14 hS => ?_)
        replace h := h S14 e14
        refine m_aload_n (pc := 123) C.1 dX12_asks_123 rfl hl 0 rfl ?_
        refine m_aload_n (pc := 124) C.1 dX12_asks_124 rfl hl 0 rfl ?_
        refine g_10_1 (pc := 125) C hW14 kr0_5 q_1384 dX12_asks_125 ?_
        refine m_bipush (pc := 128) C.1 dX12_asks_128 rfl ?_
        refine m_iald (pc := 130) C.1 C.2.1 hW14 (k_10_1 kr0_5) (by decide : okI 9) (by decide) (by decide) dX12_asks_130 ?_
        refine m_bipush (pc := 131) C.1 dX12_asks_131 rfl ?_
        refine m_irem (pc := 133) C.1 (by decide : okI 28) (by decide) dX12_asks_133 ?_
        refine m_bipush (pc := 134) C.1 dX12_asks_134 rfl ?_
        refine m_icmp_ne (pc := 136) (tgt := 143) C.1 (iRem_ok _ _) (by decide : okI 14) dX12_asks_136 (by decide) (fun hc => ?_) (fun hc => ?_)
        · replace h := h.1 hc
          refine m_iconst (pc := 143) C.1 dX12_asks_143 ?_
          exact W_X12_asks_144 C N  r0_5 kr0_5 x1_5 ox1_5 0 (by decide : okI 0) r0_5 kr0_5 S14 _ _ _ (lv_sub hl [0, 1] rfl) hW14 hS h
        · replace h := h.2 hc
          refine m_iconst (pc := 139) C.1 dX12_asks_139 ?_
          refine m_goto (pc := 140) (tgt := 144) C.1 dX12_asks_140 (by decide) ?_
          exact W_X12_asks_144 C N  r0_5 kr0_5 x1_5 ox1_5 1 (by decide : okI 1) r0_5 kr0_5 S14 _ _ _ (lv_sub hl [0, 1] rfl) hW14 hS h
    · replace h := h.2 hc
      exact m_vret (pc := 25) C.1 C.2.2.2.1 C.2.2.2.2.1 hW3 hS h (by decide) (by decide) dX12_asks_25) sz
section
variable {p : Program} {l : Launch} {e : Env} {s : State} {m : MethodId} {args : Array Value} {below : List Frame} {meth : Method} {c : Code} {g : mG} {b : Nat}
end
def w_X12_whiteOf (N : Nat) (r0 : Nat) (x1 : Int) (S : mSt) (Q : mSt → Int → Prop) : Prop :=
  w_X12_asks N r0 x1 S (fun (S1 : mSt) => w_X12_of N r0 x1 0 S1 (fun (S2 : mSt) (v2 : Int) => w_X12_of N r0 x1 3 S2 (fun (S3 : mSt) (v3 : Int) => w_X12_bits N v3 S3 (fun (S4 : mSt) (v4 : Int) => w_X12_lesser N 20 (nm ((nm ((nm (9 + (S1 r0 18))) - v2)) - v4)) S4 (fun (S5 : mSt) (v5 : Int) => w_X12_greater N 0 v5 S5 (fun (S6 : mSt) (v6 : Int) => Q S6 v6))))))
theorem T_X12_whiteOf {l : Launch} (hl0 : l.stackTraces = false) {g : mG} {b : Nat} (N : Nat) (r0 : Nat) (kr0 : KM r0 = (0, 10, 0)) (x1 : Int) (ox1 : okI x1) {S : mSt} {Q : mSt → Int → Prop} (h : w_X12_whiteOf N r0 x1 S Q) (sz : Nat) : vx_Met l yX12_whiteOf (Cond.code yX12_whiteOf cX12_whiteOf 2 (some FieldType.int) :: wsG) { frames := 119, cells := 0, slots := 0, locals := 3142 } (mPc g b KM S [.ref (b + r0), .int (mI x1)] sz) (mQi g b KM Q (mA b KM sz)) (mEx g b KM (fun _ _ => False) (mA b KM sz)) 0 0 (mA b KM sz) :=
  m_of (av := [.ref (b + r0), .int (mI x1)]) (Qf := fun A => mQi g b KM Q A) (Xf := fun A => mEx g b KM (fun _ _ => False) A) (by decide) (Nat.le_of_ble_eq_true rfl) (fun p e s m args below meth c ls X hK hml hr hlk hout hnm hW hl => by
    have C : mC p l s m args meth c cX12_whiteOf "MoonWashModel" 2 (some FieldType.int) g := ⟨X, hK, hml, hr, hlk, hout, hl0⟩
    have hS : va_S (mA b KM s.heap.size) s.heap s.heap [] := va_S.rf
    have hl : lv_has ls 2 [(0, .ref (b + r0)), (1, .int (mI x1))] := hl
    unfold w_X12_whiteOf at h
    refine m_aload_n (pc := 0) C.1 dX12_whiteOf_0 rfl hl 0 rfl ?_
    refine m_iload_n (pc := 1) C.1 dX12_whiteOf_1 rfl hl 1 rfl ?_
    refine m_callVv (pc := 2) C.1 C.2.2.1 hl.1 C.2.1 hW hS (As := [.int (mI x1)]) (rest := []) (r := r0) (T_X12_asks C.2.2.2.2.2.2 N r0 kr0 x1 ox1 h) kr0 rfl q_1642 q_1644 q_51 q_92 q_1645 pl_X12_asks (by decide) (Nat.le_of_ble_eq_true rfl) dX12_whiteOf_2 (fun S1 H locs h hW1 hS => ?_)
    refine m_iconst (pc := 5) C.1 dX12_whiteOf_5 ?_
    refine m_bipush (pc := 6) C.1 dX12_whiteOf_6 rfl ?_
    refine m_bipush (pc := 8) C.1 dX12_whiteOf_8 rfl ?_
    refine m_aload_n (pc := 10) C.1 dX12_whiteOf_10 rfl hl 0 rfl ?_
    refine g_10_18 (pc := 11) C hW1 kr0 q_1401 dX12_whiteOf_11 ?_
    refine m_iadd (pc := 14) C.1 dX12_whiteOf_14 ?_
    refine m_aload_n (pc := 15) C.1 dX12_whiteOf_15 rfl hl 0 rfl ?_
    refine m_iload_n (pc := 16) C.1 dX12_whiteOf_16 rfl hl 1 rfl ?_
    refine m_iconst (pc := 17) C.1 dX12_whiteOf_17 ?_
    refine m_callVi (pc := 18) C.1 C.2.2.1 hl.1 C.2.1 hW1 hS (As := [.int (mI x1), .int (mI 0)]) (rest := [.int (mI (nm (9 + (S1 r0 18)))), .int (mI 20), .int (mI 0)]) (r := r0) (T_X12_of C.2.2.2.2.2.2 N r0 kr0 x1 ox1 0 (by decide : okI 0) h) kr0 rfl q_1630 q_1632 q_48 q_92 q_1633 pl_X12_of (by decide) (Nat.le_of_ble_eq_true rfl) dX12_whiteOf_18 (fun v2 S2 H locs ov2 h hW2 hS => ?_)
    refine m_isub (pc := 21) C.1 dX12_whiteOf_21 ?_
    refine m_aload_n (pc := 22) C.1 dX12_whiteOf_22 rfl hl 0 rfl ?_
    refine m_iload_n (pc := 23) C.1 dX12_whiteOf_23 rfl hl 1 rfl ?_
    refine m_iconst (pc := 24) C.1 dX12_whiteOf_24 ?_
    refine m_callVi (pc := 25) C.1 C.2.2.1 hl.1 C.2.1 hW2 hS (As := [.int (mI x1), .int (mI 3)]) (rest := [.int (mI (nm ((nm (9 + (S1 r0 18))) - v2))), .int (mI 20), .int (mI 0)]) (r := r0) (T_X12_of C.2.2.2.2.2.2 N r0 kr0 x1 ox1 3 (by decide : okI 3) h) kr0 rfl q_1630 q_1632 q_48 q_92 q_1633 pl_X12_of (by decide) (Nat.le_of_ble_eq_true rfl) dX12_whiteOf_25 (fun v3 S3 H locs ov3 h hW3 hS => ?_)
    refine m_callSi (pc := 28) C.1 C.2.2.1 hl.1 C.2.1 hW3 hS (As := [.int (mI v3)]) (rest := [.int (mI (nm ((nm (9 + (S1 r0 18))) - v2))), .int (mI 20), .int (mI 0)]) (T_X12_bits C.2.2.2.2.2.2 N v3 ov3 h) q_1646 q_1647 q_92 q_1648 pl_X12_bits (by decide) (Nat.le_of_ble_eq_true rfl) dX12_whiteOf_28 (fun v4 S4 H locs ov4 h hW4 hS => ?_)
    refine m_isub (pc := 31) C.1 dX12_whiteOf_31 ?_
    refine m_callSi (pc := 32) C.1 C.2.2.1 hl.1 C.2.1 hW4 hS (As := [.int (mI 20), .int (mI (nm ((nm ((nm (9 + (S1 r0 18))) - v2)) - v4)))]) (rest := [.int (mI 0)]) (T_X12_lesser C.2.2.2.2.2.2 N 20 (by decide : okI 20) (nm ((nm ((nm (9 + (S1 r0 18))) - v2)) - v4)) (nm_ok _) h) q_1649 q_1650 q_92 q_1651 pl_X12_lesser (by decide) (Nat.le_of_ble_eq_true rfl) dX12_whiteOf_32 (fun v5 S5 H locs ov5 h hW5 hS => ?_)
    refine m_callSi (pc := 35) C.1 C.2.2.1 hl.1 C.2.1 hW5 hS (As := [.int (mI 0), .int (mI v5)]) (rest := []) (T_X12_greater C.2.2.2.2.2.2 N 0 (by decide : okI 0) v5 ov5 h) q_1652 q_1653 q_92 q_1654 pl_X12_greater (by decide) (Nat.le_of_ble_eq_true rfl) dX12_whiteOf_35 (fun v6 S6 H locs ov6 h hW6 hS => ?_)
    exact m_iret (pc := 38) C.1 C.2.2.2.1 C.2.2.2.2.1 hW6 hS ov6 h (by decide) (by decide) dX12_whiteOf_38) sz
section
variable {p : Program} {l : Launch} {e : Env} {s : State} {m : MethodId} {args : Array Value} {below : List Frame} {meth : Method} {c : Code} {g : mG} {b : Nat}
end
def w_X12_lightOf (N : Nat) (r0 : Nat) (x1 : Int) (S : mSt) (Q : mSt → Int → Prop) : Prop :=
  w_X12_of N r0 x1 4 S (fun (S1 : mSt) (v1 : Int) => ((v1 ≠ 1 → Q S1 0) ∧ (v1 = 1 → w_X12_of N r0 x1 2 S1 (fun (S2 : mSt) (v2 : Int) => ((v2 ≠ 0 → Q S2 0) ∧ (v2 = 0 → w_X12_whiteOf N r0 x1 S2 (fun (S3 : mSt) (v3 : Int) => Q S3 v3)))))))
theorem T_X12_lightOf {l : Launch} (hl0 : l.stackTraces = false) {g : mG} {b : Nat} (N : Nat) (r0 : Nat) (kr0 : KM r0 = (0, 10, 0)) (x1 : Int) (ox1 : okI x1) {S : mSt} {Q : mSt → Int → Prop} (h : w_X12_lightOf N r0 x1 S Q) (sz : Nat) : vx_Met l yX12_lightOf (Cond.code yX12_lightOf cX12_lightOf 2 (some FieldType.int) :: wsG) { frames := 120, cells := 0, slots := 0, locals := 3163 } (mPc g b KM S [.ref (b + r0), .int (mI x1)] sz) (mQi g b KM Q (mA b KM sz)) (mEx g b KM (fun _ _ => False) (mA b KM sz)) 0 0 (mA b KM sz) :=
  m_of (av := [.ref (b + r0), .int (mI x1)]) (Qf := fun A => mQi g b KM Q A) (Xf := fun A => mEx g b KM (fun _ _ => False) A) (by decide) (Nat.le_of_ble_eq_true rfl) (fun p e s m args below meth c ls X hK hml hr hlk hout hnm hW hl => by
    have C : mC p l s m args meth c cX12_lightOf "MoonWashModel" 2 (some FieldType.int) g := ⟨X, hK, hml, hr, hlk, hout, hl0⟩
    have hS : va_S (mA b KM s.heap.size) s.heap s.heap [] := va_S.rf
    have hl : lv_has ls 2 [(0, .ref (b + r0)), (1, .int (mI x1))] := hl
    unfold w_X12_lightOf at h
    refine m_aload_n (pc := 0) C.1 dX12_lightOf_0 rfl hl 0 rfl ?_
    refine m_iload_n (pc := 1) C.1 dX12_lightOf_1 rfl hl 1 rfl ?_
    refine m_iconst (pc := 2) C.1 dX12_lightOf_2 ?_
    refine m_callVi (pc := 3) C.1 C.2.2.1 hl.1 C.2.1 hW hS (As := [.int (mI x1), .int (mI 4)]) (rest := []) (r := r0) (T_X12_of C.2.2.2.2.2.2 N r0 kr0 x1 ox1 4 (by decide : okI 4) h) kr0 rfl q_1630 q_1632 q_48 q_92 q_1633 pl_X12_of (by decide) (Nat.le_of_ble_eq_true rfl) dX12_lightOf_3 (fun v1 S1 H locs ov1 h hW1 hS => ?_)
    refine m_iconst (pc := 6) C.1 dX12_lightOf_6 ?_
    refine m_icmp_ne (pc := 7) (tgt := 27) C.1 ov1 (by decide : okI 1) dX12_lightOf_7 (by decide) (fun hc => ?_) (fun hc => ?_)
    · replace h := h.1 hc
      refine m_iconst (pc := 27) C.1 dX12_lightOf_27 ?_
      exact m_iret (pc := 28) C.1 C.2.2.2.1 C.2.2.2.2.1 hW1 hS (by decide : okI 0) h (by decide) (by decide) dX12_lightOf_28
    · replace h := h.2 hc
      refine m_aload_n (pc := 10) C.1 dX12_lightOf_10 rfl hl 0 rfl ?_
      refine m_iload_n (pc := 11) C.1 dX12_lightOf_11 rfl hl 1 rfl ?_
      refine m_iconst (pc := 12) C.1 dX12_lightOf_12 ?_
      refine m_callVi (pc := 13) C.1 C.2.2.1 hl.1 C.2.1 hW1 hS (As := [.int (mI x1), .int (mI 2)]) (rest := []) (r := r0) (T_X12_of C.2.2.2.2.2.2 N r0 kr0 x1 ox1 2 (by decide : okI 2) h) kr0 rfl q_1630 q_1632 q_48 q_92 q_1633 pl_X12_of (by decide) (Nat.le_of_ble_eq_true rfl) dX12_lightOf_13 (fun v2 S2 H locs ov2 h hW2 hS => ?_)
      refine m_if_ne (pc := 16) (tgt := 27) C.1 ov2 dX12_lightOf_16 (by decide) (fun hc => ?_) (fun hc => ?_)
      · replace h := h.1 hc
        refine m_iconst (pc := 27) C.1 dX12_lightOf_27 ?_
        exact m_iret (pc := 28) C.1 C.2.2.2.1 C.2.2.2.2.1 hW2 hS (by decide : okI 0) h (by decide) (by decide) dX12_lightOf_28
      · replace h := h.2 hc
        refine m_aload_n (pc := 19) C.1 dX12_lightOf_19 rfl hl 0 rfl ?_
        refine m_iload_n (pc := 20) C.1 dX12_lightOf_20 rfl hl 1 rfl ?_
        refine m_callVi (pc := 21) C.1 C.2.2.1 hl.1 C.2.1 hW2 hS (As := [.int (mI x1)]) (rest := []) (r := r0) (T_X12_whiteOf C.2.2.2.2.2.2 N r0 kr0 x1 ox1 h) kr0 rfl q_1638 q_1640 q_50 q_92 q_1641 pl_X12_whiteOf (by decide) (Nat.le_of_ble_eq_true rfl) dX12_lightOf_21 (fun v3 S3 H locs ov3 h hW3 hS => ?_)
        refine m_goto (pc := 24) (tgt := 28) C.1 dX12_lightOf_24 (by decide) ?_
        exact m_iret (pc := 28) C.1 C.2.2.2.1 C.2.2.2.2.1 hW3 hS ov3 h (by decide) (by decide) dX12_lightOf_28) sz
section
variable {p : Program} {l : Launch} {e : Env} {s : State} {m : MethodId} {args : Array Value} {below : List Frame} {meth : Method} {c : Code} {g : mG} {b : Nat}
def w_X12_lightOfAll_4b (N : Nat) (Q : mSt → Int → Prop) (ko4 : Nat → Int → Int → mSt → Prop) (ko24 : Int → mSt → Prop) (r0 : Nat) (x1 : Int) (x2 : Int) (S : mSt) : Prop :=
  ((8 ≤ x2 → ko24 x1 S) ∧ (x2 < 8 → w_X12_lightOf N r0 x2 S (fun (S1 : mSt) (v1 : Int) => ∀ v2 : Int, v2 = (nm (x1 + v1)) → ∀ v3 : Int, v3 = nm (x2 + 1) → ko4 r0 v2 v3 S1)))
theorem W_X12_lightOfAll_4b (C : mC p l s m args meth c cX12_lightOfAll "MoonWashModel" 3 (some FieldType.int) g) (N : Nat) {Q : mSt → Int → Prop} {ko4 : Nat → Int → Int → mSt → Prop} {ko24 : Int → mSt → Prop} (hko4 : ∀ (r0 : Nat) (kr0 : KM r0 = (0, 10, 0)) (x1 : Int) (ox1 : okI x1) (x2 : Int) (ox2 : okI x2) (S : mSt) (H : Heap) (locs : List Loc) (ls : Array Slot), lv_has ls 3 [(0, .ref (b + r0)), (1, .int (mI x1)), (2, .int (mI x2))] → mW g b KM S H → va_S (mA b KM s.heap.size) s.heap H locs → ko4 r0 x1 x2 S → W p l e { frames := 121, cells := 0, slots := 0, locals := 3184 } s m args below meth c H locs 0 0 (vx_MQ below (mQi g b KM Q (mA b KM s.heap.size)) (mEx g b KM (fun _ _ => False) (mA b KM s.heap.size)) args s 0 0 (mA b KM s.heap.size)) (F0 m 4 ls [])) (hko24 : ∀ (x1 : Int) (ox1 : okI x1) (S : mSt) (H : Heap) (locs : List Loc) (ls : Array Slot), lv_has ls 3 [(1, .int (mI x1))] → mW g b KM S H → va_S (mA b KM s.heap.size) s.heap H locs → ko24 x1 S → W p l e { frames := 121, cells := 0, slots := 0, locals := 3184 } s m args below meth c H locs 0 0 (vx_MQ below (mQi g b KM Q (mA b KM s.heap.size)) (mEx g b KM (fun _ _ => False) (mA b KM s.heap.size)) args s 0 0 (mA b KM s.heap.size)) (F0 m 24 ls [])) (r0 : Nat) (kr0 : KM r0 = (0, 10, 0)) (x1 : Int) (ox1 : okI x1) (x2 : Int) (ox2 : okI x2) (S : mSt) (H : Heap) (locs : List Loc) (ls : Array Slot) (hl : lv_has ls 3 [(0, .ref (b + r0)), (1, .int (mI x1)), (2, .int (mI x2))]) (hW : mW g b KM S H) (hS : va_S (mA b KM s.heap.size) s.heap H locs) (h : w_X12_lightOfAll_4b N Q ko4 ko24 r0 x1 x2 S) : W p l e { frames := 121, cells := 0, slots := 0, locals := 3184 } s m args below meth c H locs 0 0 (vx_MQ below (mQi g b KM Q (mA b KM s.heap.size)) (mEx g b KM (fun _ _ => False) (mA b KM s.heap.size)) args s 0 0 (mA b KM s.heap.size)) (F0 m 4 ls []) := by
  unfold w_X12_lightOfAll_4b at h
  refine m_iload_n (pc := 4) C.1 dX12_lightOfAll_4 rfl hl 2 rfl ?_
  refine m_bipush (pc := 5) C.1 dX12_lightOfAll_5 rfl ?_
  refine m_icmp_ge (pc := 7) (tgt := 24) C.1 ox2 (by decide : okI 8) dX12_lightOfAll_7 (by decide) (fun hc => ?_) (fun hc => ?_)
  · replace h := h.1 hc
    exact hko24 x1 ox1 S _ _ _ (lv_sub hl [1] rfl) hW hS h
  · replace h := h.2 hc
    refine m_iload_n (pc := 10) C.1 dX12_lightOfAll_10 rfl hl 1 rfl ?_
    refine m_aload_n (pc := 11) C.1 dX12_lightOfAll_11 rfl hl 0 rfl ?_
    refine m_iload_n (pc := 12) C.1 dX12_lightOfAll_12 rfl hl 2 rfl ?_
    refine m_callVi (pc := 13) C.1 C.2.2.1 hl.1 C.2.1 hW hS (As := [.int (mI x2)]) (rest := [.int (mI x1)]) (r := r0) (T_X12_lightOf C.2.2.2.2.2.2 N r0 kr0 x2 ox2 h) kr0 rfl q_1634 q_1636 q_49 q_92 q_1637 pl_X12_lightOf (by decide) (Nat.le_of_ble_eq_true rfl) dX12_lightOfAll_13 (fun v1 S1 H locs ov1 h hW1 hS => ?_)
    refine m_iadd (pc := 16) C.1 dX12_lightOfAll_16 ?_
    refine m_istore_n (pc := 17) C.1 dX12_lightOfAll_17 rfl hl (by decide) (fun v => [(1, .int v), (0, .ref (b + r0)), (2, .int (mI x2))]) (fun _ => rfl) (nm_ok _) (fun v2 ls ev2 ov2 hl => ?_)
    replace h := h v2 ev2
    refine m_iinc (pc := 18) C.1 dX12_lightOfAll_18 hl (by decide) (q0 := 2) rfl (fun v => [(2, .int v), (1, .int (mI v2)), (0, .ref (b + r0))]) (fun _ => rfl) (fun v3 ls ev3 ov3 hl => ?_)
    replace h := h v3 ev3
    refine m_goto (pc := 21) (tgt := 4) C.1 dX12_lightOfAll_21 (by decide) ?_
    exact hko4 r0 kr0 v2 ov2 v3 ov3 S1 _ _ _ (lv_sub hl [2, 1, 0] rfl) hW1 hS h
def w_X12_lightOfAll_4 (N : Nat) (Q : mSt → Int → Prop) (ko24 : Int → mSt → Prop) : Nat → Nat → Int → Int → mSt → Prop
  | 0 => fun _ _ _ _ => False
  | k + 1 => w_X12_lightOfAll_4b N Q (w_X12_lightOfAll_4 N Q ko24 k) ko24
theorem W_X12_lightOfAll_4 (C : mC p l s m args meth c cX12_lightOfAll "MoonWashModel" 3 (some FieldType.int) g) (N : Nat) {Q : mSt → Int → Prop} {ko24 : Int → mSt → Prop} (hko24 : ∀ (x1 : Int) (ox1 : okI x1) (S : mSt) (H : Heap) (locs : List Loc) (ls : Array Slot), lv_has ls 3 [(1, .int (mI x1))] → mW g b KM S H → va_S (mA b KM s.heap.size) s.heap H locs → ko24 x1 S → W p l e { frames := 121, cells := 0, slots := 0, locals := 3184 } s m args below meth c H locs 0 0 (vx_MQ below (mQi g b KM Q (mA b KM s.heap.size)) (mEx g b KM (fun _ _ => False) (mA b KM s.heap.size)) args s 0 0 (mA b KM s.heap.size)) (F0 m 24 ls [])) : ∀ (k : Nat) (r0 : Nat) (kr0 : KM r0 = (0, 10, 0)) (x1 : Int) (ox1 : okI x1) (x2 : Int) (ox2 : okI x2) (S : mSt) (H : Heap) (locs : List Loc) (ls : Array Slot) (hl : lv_has ls 3 [(0, .ref (b + r0)), (1, .int (mI x1)), (2, .int (mI x2))]) (hW : mW g b KM S H) (hS : va_S (mA b KM s.heap.size) s.heap H locs) (h : w_X12_lightOfAll_4 N Q ko24 k r0 x1 x2 S), W p l e { frames := 121, cells := 0, slots := 0, locals := 3184 } s m args below meth c H locs 0 0 (vx_MQ below (mQi g b KM Q (mA b KM s.heap.size)) (mEx g b KM (fun _ _ => False) (mA b KM s.heap.size)) args s 0 0 (mA b KM s.heap.size)) (F0 m 4 ls []) := by
  intro k
  induction k with
  | zero => intro r0 kr0 x1 ox1 x2 ox2 S H locs ls hl hW hS h; exact False.elim h
  | succ k ih => intro r0 kr0 x1 ox1 x2 ox2 S H locs ls hl hW hS h; exact W_X12_lightOfAll_4b C N ih hko24 r0 kr0 x1 ox1 x2 ox2 S H locs ls hl hW hS h
end
def w_X12_lightOfAll (N : Nat) (r0 : Nat) (S : mSt) (Q : mSt → Int → Prop) : Prop :=
  ∀ v1 : Int, v1 = 0 → ∀ v2 : Int, v2 = 0 → w_X12_lightOfAll_4 N Q (fun (x1_3 : Int) (S_3 : mSt) => Q S_3 x1_3) N r0 v1 v2 S
theorem T_X12_lightOfAll {l : Launch} (hl0 : l.stackTraces = false) {g : mG} {b : Nat} (N : Nat) (r0 : Nat) (kr0 : KM r0 = (0, 10, 0)) {S : mSt} {Q : mSt → Int → Prop} (h : w_X12_lightOfAll N r0 S Q) (sz : Nat) : vx_Met l yX12_lightOfAll (Cond.code yX12_lightOfAll cX12_lightOfAll 3 (some FieldType.int) :: wsG) { frames := 121, cells := 0, slots := 0, locals := 3184 } (mPc g b KM S [.ref (b + r0)] sz) (mQi g b KM Q (mA b KM sz)) (mEx g b KM (fun _ _ => False) (mA b KM sz)) 0 0 (mA b KM sz) :=
  m_of (av := [.ref (b + r0)]) (Qf := fun A => mQi g b KM Q A) (Xf := fun A => mEx g b KM (fun _ _ => False) A) (by decide) (Nat.le_of_ble_eq_true rfl) (fun p e s m args below meth c ls X hK hml hr hlk hout hnm hW hl => by
    have C : mC p l s m args meth c cX12_lightOfAll "MoonWashModel" 3 (some FieldType.int) g := ⟨X, hK, hml, hr, hlk, hout, hl0⟩
    have hS : va_S (mA b KM s.heap.size) s.heap s.heap [] := va_S.rf
    have hl : lv_has ls 3 [(0, .ref (b + r0))] := hl
    unfold w_X12_lightOfAll at h
    refine m_iconst (pc := 0) C.1 dX12_lightOfAll_0 ?_
    refine m_istore_n (pc := 1) C.1 dX12_lightOfAll_1 rfl hl (by decide) (fun v => [(1, .int v), (0, .ref (b + r0))]) (fun _ => rfl) (by decide : okI 0) (fun v1 ls ev1 ov1 hl => ?_)
    replace h := h v1 ev1
    refine m_iconst (pc := 2) C.1 dX12_lightOfAll_2 ?_
    refine m_istore_n (pc := 3) C.1 dX12_lightOfAll_3 rfl hl (by decide) (fun v => [(2, .int v), (1, .int (mI v1)), (0, .ref (b + r0))]) (fun _ => rfl) (by decide : okI 0) (fun v2 ls ev2 ov2 hl => ?_)
    replace h := h v2 ev2
    refine W_X12_lightOfAll_4 C N ?_ N r0 kr0 v1 ov1 v2 ov2 S _ _ _ (lv_sub hl [2, 1, 0] rfl) hW hS h
    · intro x1_3 ox1_3 S_3 H locs ls hl hW_3 hS h
      refine m_iload_n (pc := 24) C.1 dX12_lightOfAll_24 rfl hl 0 rfl ?_
      exact m_iret (pc := 25) C.1 C.2.2.2.1 C.2.2.2.2.1 hW_3 hS ox1_3 h (by decide) (by decide) dX12_lightOfAll_25) sz
section
variable {p : Program} {l : Launch} {e : Env} {s : State} {m : MethodId} {args : Array Value} {below : List Frame} {meth : Method} {c : Code} {g : mG} {b : Nat}
end
def w_X12_driesBy (N : Nat) (r0 : Nat) (x1 : Int) (S : mSt) (Q : mSt → Int → Prop) : Prop :=
  w_X12_asks N r0 x1 S (fun (S1 : mSt) => w_X12_of N r0 x1 5 S1 (fun (S2 : mSt) (v2 : Int) => (0 ≤ (nm (62 + v2)) ∧ (nm (62 + v2)) < 750 ∧ w_X12_greater N 0 (nm ((nm ((S2 (r0 + 1) (nm (62 + v2))) + (S2 r0 19))) - (iDiv (S2 (r0 + 1) 10) 3))) S2 (fun (S4 : mSt) (v4 : Int) => Q S4 v4))))
theorem T_X12_driesBy {l : Launch} (hl0 : l.stackTraces = false) {g : mG} {b : Nat} (N : Nat) (r0 : Nat) (kr0 : KM r0 = (0, 10, 0)) (x1 : Int) (ox1 : okI x1) {S : mSt} {Q : mSt → Int → Prop} (h : w_X12_driesBy N r0 x1 S Q) (sz : Nat) : vx_Met l yX12_driesBy (Cond.code yX12_driesBy cX12_driesBy 2 (some FieldType.int) :: wsG) { frames := 119, cells := 0, slots := 0, locals := 3142 } (mPc g b KM S [.ref (b + r0), .int (mI x1)] sz) (mQi g b KM Q (mA b KM sz)) (mEx g b KM (fun _ _ => False) (mA b KM sz)) 0 0 (mA b KM sz) :=
  m_of (av := [.ref (b + r0), .int (mI x1)]) (Qf := fun A => mQi g b KM Q A) (Xf := fun A => mEx g b KM (fun _ _ => False) A) (by decide) (Nat.le_of_ble_eq_true rfl) (fun p e s m args below meth c ls X hK hml hr hlk hout hnm hW hl => by
    have C : mC p l s m args meth c cX12_driesBy "MoonWashModel" 2 (some FieldType.int) g := ⟨X, hK, hml, hr, hlk, hout, hl0⟩
    have hS : va_S (mA b KM s.heap.size) s.heap s.heap [] := va_S.rf
    have hl : lv_has ls 2 [(0, .ref (b + r0)), (1, .int (mI x1))] := hl
    unfold w_X12_driesBy at h
    refine m_aload_n (pc := 0) C.1 dX12_driesBy_0 rfl hl 0 rfl ?_
    refine m_iload_n (pc := 1) C.1 dX12_driesBy_1 rfl hl 1 rfl ?_
    refine m_callVv (pc := 2) C.1 C.2.2.1 hl.1 C.2.1 hW hS (As := [.int (mI x1)]) (rest := []) (r := r0) (T_X12_asks C.2.2.2.2.2.2 N r0 kr0 x1 ox1 h) kr0 rfl q_1642 q_1644 q_51 q_92 q_1645 pl_X12_asks (by decide) (Nat.le_of_ble_eq_true rfl) dX12_driesBy_2 (fun S1 H locs h hW1 hS => ?_)
    refine m_iconst (pc := 5) C.1 dX12_driesBy_5 ?_
    refine m_aload_n (pc := 6) C.1 dX12_driesBy_6 rfl hl 0 rfl ?_
    refine g_10_1 (pc := 7) C hW1 kr0 q_1384 dX12_driesBy_7 ?_
    refine m_bipush (pc := 10) C.1 dX12_driesBy_10 rfl ?_
    refine m_aload_n (pc := 12) C.1 dX12_driesBy_12 rfl hl 0 rfl ?_
    refine m_iload_n (pc := 13) C.1 dX12_driesBy_13 rfl hl 1 rfl ?_
    refine m_iconst (pc := 14) C.1 dX12_driesBy_14 ?_
    refine m_callVi (pc := 15) C.1 C.2.2.1 hl.1 C.2.1 hW1 hS (As := [.int (mI x1), .int (mI 5)]) (rest := [.int (mI 62), .ref (b + (r0 + 1)), .int (mI 0)]) (r := r0) (T_X12_of C.2.2.2.2.2.2 N r0 kr0 x1 ox1 5 (by decide : okI 5) h) kr0 rfl q_1630 q_1632 q_48 q_92 q_1633 pl_X12_of (by decide) (Nat.le_of_ble_eq_true rfl) dX12_driesBy_15 (fun v2 S2 H locs ov2 h hW2 hS => ?_)
    refine m_iadd (pc := 18) C.1 dX12_driesBy_18 ?_
    obtain ⟨hb3a, hb3b, h⟩ := h
    refine m_iald (pc := 19) C.1 C.2.1 hW2 (k_10_1 kr0) (nm_ok _) hb3a hb3b dX12_driesBy_19 ?_
    refine m_aload_n (pc := 20) C.1 dX12_driesBy_20 rfl hl 0 rfl ?_
    refine g_10_19 (pc := 21) C hW2 kr0 q_1402 dX12_driesBy_21 ?_
    refine m_iadd (pc := 24) C.1 dX12_driesBy_24 ?_
    refine m_aload_n (pc := 25) C.1 dX12_driesBy_25 rfl hl 0 rfl ?_
    refine g_10_1 (pc := 26) C hW2 kr0 q_1384 dX12_driesBy_26 ?_
    refine m_bipush (pc := 29) C.1 dX12_driesBy_29 rfl ?_
    refine m_iald (pc := 31) C.1 C.2.1 hW2 (k_10_1 kr0) (by decide : okI 10) (by decide) (by decide) dX12_driesBy_31 ?_
    refine m_iconst (pc := 32) C.1 dX12_driesBy_32 ?_
    refine m_idiv (pc := 33) C.1 (by decide : okI 3) (by decide) dX12_driesBy_33 ?_
    refine m_isub (pc := 34) C.1 dX12_driesBy_34 ?_
    refine m_callSi (pc := 35) C.1 C.2.2.1 hl.1 C.2.1 hW2 hS (As := [.int (mI 0), .int (mI (nm ((nm ((S2 (r0 + 1) (nm (62 + v2))) + (S2 r0 19))) - (iDiv (S2 (r0 + 1) 10) 3))))]) (rest := []) (T_X12_greater C.2.2.2.2.2.2 N 0 (by decide : okI 0) (nm ((nm ((S2 (r0 + 1) (nm (62 + v2))) + (S2 r0 19))) - (iDiv (S2 (r0 + 1) 10) 3))) (nm_ok _) h) q_1652 q_1653 q_92 q_1654 pl_X12_greater (by decide) (Nat.le_of_ble_eq_true rfl) dX12_driesBy_35 (fun v4 S4 H locs ov4 h hW4 hS => ?_)
    exact m_iret (pc := 38) C.1 C.2.2.2.1 C.2.2.2.2.1 hW4 hS ov4 h (by decide) (by decide) dX12_driesBy_38) sz
section
variable {p : Program} {l : Launch} {e : Env} {s : State} {m : MethodId} {args : Array Value} {below : List Frame} {meth : Method} {c : Code} {g : mG} {b : Nat}
end
def w_X12_draw (N : Nat) (r0 : Nat) (x1 : Int) (S : mSt) (Q : mSt → Int → Prop) : Prop :=
  ∀ S1 : mSt, S1 = mup S (r0 + 1) 12 (nm ((nm (1103515245 * (S (r0 + 1) 12))) + 12345)) → (x1 ≠ 0 ∧ Q S1 (iRem (bAnd (bUsh (S1 (r0 + 1) 12) 16) 32767) x1))
theorem T_X12_draw {l : Launch} (hl0 : l.stackTraces = false) {g : mG} {b : Nat} (N : Nat) (r0 : Nat) (kr0 : KM r0 = (0, 10, 0)) (x1 : Int) (ox1 : okI x1) {S : mSt} {Q : mSt → Int → Prop} (h : w_X12_draw N r0 x1 S Q) (sz : Nat) : vx_Met l yX12_draw (Cond.code yX12_draw cX12_draw 2 (some FieldType.int) :: wsG) { frames := 0, cells := 0, slots := 0, locals := 0 } (mPc g b KM S [.ref (b + r0), .int (mI x1)] sz) (mQi g b KM Q (mA b KM sz)) (mEx g b KM (fun _ _ => False) (mA b KM sz)) 0 0 (mA b KM sz) :=
  m_of (av := [.ref (b + r0), .int (mI x1)]) (Qf := fun A => mQi g b KM Q A) (Xf := fun A => mEx g b KM (fun _ _ => False) A) (by decide) (Nat.le_of_ble_eq_true rfl) (fun p e s m args below meth c ls X hK hml hr hlk hout hnm hW hl => by
    have C : mC p l s m args meth c cX12_draw "MoonWashModel" 2 (some FieldType.int) g := ⟨X, hK, hml, hr, hlk, hout, hl0⟩
    have hS : va_S (mA b KM s.heap.size) s.heap s.heap [] := va_S.rf
    have hl : lv_has ls 2 [(0, .ref (b + r0)), (1, .int (mI x1))] := hl
    unfold w_X12_draw at h
    refine m_aload_n (pc := 0) C.1 dX12_draw_0 rfl hl 0 rfl ?_
    refine g_10_1 (pc := 1) C hW kr0 q_1384 dX12_draw_1 ?_
    refine m_bipush (pc := 4) C.1 dX12_draw_4 rfl ?_
    refine m_ldcw (pc := 6) (n := 1103515245) C.1 q_1739 rfl dX12_draw_6 ?_
    refine m_aload_n (pc := 9) C.1 dX12_draw_9 rfl hl 0 rfl ?_
    refine g_10_1 (pc := 10) C hW kr0 q_1384 dX12_draw_10 ?_
    refine m_bipush (pc := 13) C.1 dX12_draw_13 rfl ?_
    refine m_iald (pc := 15) C.1 C.2.1 hW (k_10_1 kr0) (by decide : okI 12) (by decide) (by decide) dX12_draw_15 ?_
    refine m_imul (pc := 16) C.1 dX12_draw_16 ?_
    refine m_sipush (pc := 17) C.1 dX12_draw_17 rfl ?_
    refine m_iadd (pc := 20) C.1 dX12_draw_20 ?_
    refine m_iast (pc := 21) C.1 C.2.1 hW hS (k_10_1 kr0) (by decide : okI 12) (nm_ok _) (by decide) (by decide) dX12_draw_21 (fun S1 H locs e1 hW1 hS => ?_)
    replace h := h S1 e1
    refine m_aload_n (pc := 22) C.1 dX12_draw_22 rfl hl 0 rfl ?_
    refine g_10_1 (pc := 23) C hW1 kr0 q_1384 dX12_draw_23 ?_
    refine m_bipush (pc := 26) C.1 dX12_draw_26 rfl ?_
    refine m_iald (pc := 28) C.1 C.2.1 hW1 (k_10_1 kr0) (by decide : okI 12) (by decide) (by decide) dX12_draw_28 ?_
    refine m_bipush (pc := 29) C.1 dX12_draw_29 rfl ?_
    refine m_iushr (pc := 31) C.1 dX12_draw_31 ?_
    refine m_sipush (pc := 32) C.1 dX12_draw_32 rfl ?_
    refine m_iand (pc := 35) C.1 dX12_draw_35 ?_
    refine m_iload_n (pc := 36) C.1 dX12_draw_36 rfl hl 1 rfl ?_
    obtain ⟨hz2, h⟩ := h
    refine m_irem (pc := 37) C.1 ox1 hz2 dX12_draw_37 ?_
    exact m_iret (pc := 38) C.1 C.2.2.2.1 C.2.2.2.2.1 hW1 hS (iRem_ok _ _) h (by decide) (by decide) dX12_draw_38) sz
section
variable {p : Program} {l : Launch} {e : Env} {s : State} {m : MethodId} {args : Array Value} {below : List Frame} {meth : Method} {c : Code} {g : mG} {b : Nat}
end
def w_X12_dries (N : Nat) (r0 : Nat) (x1 : Int) (S : mSt) (Q : mSt → Int → Prop) : Prop :=
  w_X12_of N r0 x1 4 S (fun (S1 : mSt) (v1 : Int) => ((v1 ≠ 0 → w_X12_of N r0 x1 2 S1 (fun (S2 : mSt) (v2 : Int) => ((v2 ≠ 0 → w_X12_of N r0 x1 2 S2 (fun (S3 : mSt) (v3 : Int) => w_X12_driesBy N r0 x1 S3 (fun (S4 : mSt) (v4 : Int) => w_X12_greater N 0 (nm (v3 - v4)) S4 (fun (S5 : mSt) (v5 : Int) => w_X12_has N r0 x1 2 v5 S5 (fun (S6 : mSt) => w_X12_of N r0 x1 2 S6 (fun (S7 : mSt) (v7 : Int) => ((v7 ≠ 0 → Q S7 0) ∧ (v7 = 0 → Q S7 1)))))))) ∧ (v2 = 0 → w_X12_asks N r0 x1 S2 (fun (S8 : mSt) => w_X12_of N r0 x1 0 S8 (fun (S9 : mSt) (v9 : Int) => w_X12_lesser N 9 (nm (v9 + (S9 r0 20))) S9 (fun (S10 : mSt) (v10 : Int) => w_X12_has N r0 x1 0 v10 S10 (fun (S11 : mSt) => Q S11 0)))))))) ∧ (v1 = 0 → Q S1 0)))
theorem T_X12_dries {l : Launch} (hl0 : l.stackTraces = false) {g : mG} {b : Nat} (N : Nat) (r0 : Nat) (kr0 : KM r0 = (0, 10, 0)) (x1 : Int) (ox1 : okI x1) {S : mSt} {Q : mSt → Int → Prop} (h : w_X12_dries N r0 x1 S Q) (sz : Nat) : vx_Met l yX12_dries (Cond.code yX12_dries cX12_dries 2 (some FieldType.boolean) :: wsG) { frames := 120, cells := 0, slots := 0, locals := 3163 } (mPc g b KM S [.ref (b + r0), .int (mI x1)] sz) (mQi g b KM Q (mA b KM sz)) (mEx g b KM (fun _ _ => False) (mA b KM sz)) 0 0 (mA b KM sz) :=
  m_of (av := [.ref (b + r0), .int (mI x1)]) (Qf := fun A => mQi g b KM Q A) (Xf := fun A => mEx g b KM (fun _ _ => False) A) (by decide) (Nat.le_of_ble_eq_true rfl) (fun p e s m args below meth c ls X hK hml hr hlk hout hnm hW hl => by
    have C : mC p l s m args meth c cX12_dries "MoonWashModel" 2 (some FieldType.boolean) g := ⟨X, hK, hml, hr, hlk, hout, hl0⟩
    have hS : va_S (mA b KM s.heap.size) s.heap s.heap [] := va_S.rf
    have hl : lv_has ls 2 [(0, .ref (b + r0)), (1, .int (mI x1))] := hl
    unfold w_X12_dries at h
    refine m_aload_n (pc := 0) C.1 dX12_dries_0 rfl hl 0 rfl ?_
    refine m_iload_n (pc := 1) C.1 dX12_dries_1 rfl hl 1 rfl ?_
    refine m_iconst (pc := 2) C.1 dX12_dries_2 ?_
    refine m_callVi (pc := 3) C.1 C.2.2.1 hl.1 C.2.1 hW hS (As := [.int (mI x1), .int (mI 4)]) (rest := []) (r := r0) (T_X12_of C.2.2.2.2.2.2 N r0 kr0 x1 ox1 4 (by decide : okI 4) h) kr0 rfl q_1630 q_1632 q_48 q_92 q_1633 pl_X12_of (by decide) (Nat.le_of_ble_eq_true rfl) dX12_dries_3 (fun v1 S1 H locs ov1 h hW1 hS => ?_)
    refine m_if_ne (pc := 6) (tgt := 11) C.1 ov1 dX12_dries_6 (by decide) (fun hc => ?_) (fun hc => ?_)
    · replace h := h.1 hc
      refine m_aload_n (pc := 11) C.1 dX12_dries_11 rfl hl 0 rfl ?_
      refine m_iload_n (pc := 12) C.1 dX12_dries_12 rfl hl 1 rfl ?_
      refine m_iconst (pc := 13) C.1 dX12_dries_13 ?_
      refine m_callVi (pc := 14) C.1 C.2.2.1 hl.1 C.2.1 hW1 hS (As := [.int (mI x1), .int (mI 2)]) (rest := []) (r := r0) (T_X12_of C.2.2.2.2.2.2 N r0 kr0 x1 ox1 2 (by decide : okI 2) h) kr0 rfl q_1630 q_1632 q_48 q_92 q_1633 pl_X12_of (by decide) (Nat.le_of_ble_eq_true rfl) dX12_dries_14 (fun v2 S2 H locs ov2 h hW2 hS => ?_)
      refine m_if_ne (pc := 17) (tgt := 49) C.1 ov2 dX12_dries_17 (by decide) (fun hc => ?_) (fun hc => ?_)
      · replace h := h.1 hc
        refine m_aload_n (pc := 49) C.1 dX12_dries_49 rfl hl 0 rfl ?_
        refine m_iload_n (pc := 50) C.1 dX12_dries_50 rfl hl 1 rfl ?_
        refine m_iconst (pc := 51) C.1 dX12_dries_51 ?_
        refine m_iconst (pc := 52) C.1 dX12_dries_52 ?_
        refine m_aload_n (pc := 53) C.1 dX12_dries_53 rfl hl 0 rfl ?_
        refine m_iload_n (pc := 54) C.1 dX12_dries_54 rfl hl 1 rfl ?_
        refine m_iconst (pc := 55) C.1 dX12_dries_55 ?_
        refine m_callVi (pc := 56) C.1 C.2.2.1 hl.1 C.2.1 hW2 hS (As := [.int (mI x1), .int (mI 2)]) (rest := [.int (mI 0), .int (mI 2), .int (mI x1), .ref (b + r0)]) (r := r0) (T_X12_of C.2.2.2.2.2.2 N r0 kr0 x1 ox1 2 (by decide : okI 2) h) kr0 rfl q_1630 q_1632 q_48 q_92 q_1633 pl_X12_of (by decide) (Nat.le_of_ble_eq_true rfl) dX12_dries_56 (fun v3 S3 H locs ov3 h hW3 hS => ?_)
        refine m_aload_n (pc := 59) C.1 dX12_dries_59 rfl hl 0 rfl ?_
        refine m_iload_n (pc := 60) C.1 dX12_dries_60 rfl hl 1 rfl ?_
        refine m_callVi (pc := 61) C.1 C.2.2.1 hl.1 C.2.1 hW3 hS (As := [.int (mI x1)]) (rest := [.int (mI v3), .int (mI 0), .int (mI 2), .int (mI x1), .ref (b + r0)]) (r := r0) (T_X12_driesBy C.2.2.2.2.2.2 N r0 kr0 x1 ox1 h) kr0 rfl q_1655 q_1657 q_52 q_92 q_1658 pl_X12_driesBy (by decide) (Nat.le_of_ble_eq_true rfl) dX12_dries_61 (fun v4 S4 H locs ov4 h hW4 hS => ?_)
        refine m_isub (pc := 64) C.1 dX12_dries_64 ?_
        refine m_callSi (pc := 65) C.1 C.2.2.1 hl.1 C.2.1 hW4 hS (As := [.int (mI 0), .int (mI (nm (v3 - v4)))]) (rest := [.int (mI 2), .int (mI x1), .ref (b + r0)]) (T_X12_greater C.2.2.2.2.2.2 N 0 (by decide : okI 0) (nm (v3 - v4)) (nm_ok _) h) q_1652 q_1653 q_92 q_1654 pl_X12_greater (by decide) (Nat.le_of_ble_eq_true rfl) dX12_dries_65 (fun v5 S5 H locs ov5 h hW5 hS => ?_)
        refine m_callVv (pc := 68) C.1 C.2.2.1 hl.1 C.2.1 hW5 hS (As := [.int (mI x1), .int (mI 2), .int (mI v5)]) (rest := []) (r := r0) (T_X12_has C.2.2.2.2.2.2 N r0 kr0 x1 ox1 2 (by decide : okI 2) v5 ov5 h) kr0 rfl q_1379 q_1381 q_22 q_92 q_1382 pl_X12_has (by decide) (Nat.le_of_ble_eq_true rfl) dX12_dries_68 (fun S6 H locs h hW6 hS => ?_)
        refine m_aload_n (pc := 71) C.1 dX12_dries_71 rfl hl 0 rfl ?_
        refine m_iload_n (pc := 72) C.1 dX12_dries_72 rfl hl 1 rfl ?_
        refine m_iconst (pc := 73) C.1 dX12_dries_73 ?_
        refine m_callVi (pc := 74) C.1 C.2.2.1 hl.1 C.2.1 hW6 hS (As := [.int (mI x1), .int (mI 2)]) (rest := []) (r := r0) (T_X12_of C.2.2.2.2.2.2 N r0 kr0 x1 ox1 2 (by decide : okI 2) h) kr0 rfl q_1630 q_1632 q_48 q_92 q_1633 pl_X12_of (by decide) (Nat.le_of_ble_eq_true rfl) dX12_dries_74 (fun v7 S7 H locs ov7 h hW7 hS => ?_)
        refine m_if_ne (pc := 77) (tgt := 84) C.1 ov7 dX12_dries_77 (by decide) (fun hc => ?_) (fun hc => ?_)
        · replace h := h.1 hc
          refine m_iconst (pc := 84) C.1 dX12_dries_84 ?_
          exact m_zret (pc := 85) C.1 C.2.2.2.1 C.2.2.2.2.1 hW7 hS (by decide) h (by decide) (by decide) dX12_dries_85
        · replace h := h.2 hc
          refine m_iconst (pc := 80) C.1 dX12_dries_80 ?_
          refine m_goto (pc := 81) (tgt := 85) C.1 dX12_dries_81 (by decide) ?_
          exact m_zret (pc := 85) C.1 C.2.2.2.1 C.2.2.2.2.1 hW7 hS (by decide) h (by decide) (by decide) dX12_dries_85
      · replace h := h.2 hc
        refine m_aload_n (pc := 20) C.1 dX12_dries_20 rfl hl 0 rfl ?_
        refine m_iload_n (pc := 21) C.1 dX12_dries_21 rfl hl 1 rfl ?_
        refine m_callVv (pc := 22) C.1 C.2.2.1 hl.1 C.2.1 hW2 hS (As := [.int (mI x1)]) (rest := []) (r := r0) (T_X12_asks C.2.2.2.2.2.2 N r0 kr0 x1 ox1 h) kr0 rfl q_1642 q_1644 q_51 q_92 q_1645 pl_X12_asks (by decide) (Nat.le_of_ble_eq_true rfl) dX12_dries_22 (fun S8 H locs h hW8 hS => ?_)
        refine m_aload_n (pc := 25) C.1 dX12_dries_25 rfl hl 0 rfl ?_
        refine m_iload_n (pc := 26) C.1 dX12_dries_26 rfl hl 1 rfl ?_
        refine m_iconst (pc := 27) C.1 dX12_dries_27 ?_
        refine m_bipush (pc := 28) C.1 dX12_dries_28 rfl ?_
        refine m_aload_n (pc := 30) C.1 dX12_dries_30 rfl hl 0 rfl ?_
        refine m_iload_n (pc := 31) C.1 dX12_dries_31 rfl hl 1 rfl ?_
        refine m_iconst (pc := 32) C.1 dX12_dries_32 ?_
        refine m_callVi (pc := 33) C.1 C.2.2.1 hl.1 C.2.1 hW8 hS (As := [.int (mI x1), .int (mI 0)]) (rest := [.int (mI 9), .int (mI 0), .int (mI x1), .ref (b + r0)]) (r := r0) (T_X12_of C.2.2.2.2.2.2 N r0 kr0 x1 ox1 0 (by decide : okI 0) h) kr0 rfl q_1630 q_1632 q_48 q_92 q_1633 pl_X12_of (by decide) (Nat.le_of_ble_eq_true rfl) dX12_dries_33 (fun v9 S9 H locs ov9 h hW9 hS => ?_)
        refine m_aload_n (pc := 36) C.1 dX12_dries_36 rfl hl 0 rfl ?_
        refine g_10_20 (pc := 37) C hW9 kr0 q_1403 dX12_dries_37 ?_
        refine m_iadd (pc := 40) C.1 dX12_dries_40 ?_
        refine m_callSi (pc := 41) C.1 C.2.2.1 hl.1 C.2.1 hW9 hS (As := [.int (mI 9), .int (mI (nm (v9 + (S9 r0 20))))]) (rest := [.int (mI 0), .int (mI x1), .ref (b + r0)]) (T_X12_lesser C.2.2.2.2.2.2 N 9 (by decide : okI 9) (nm (v9 + (S9 r0 20))) (nm_ok _) h) q_1649 q_1650 q_92 q_1651 pl_X12_lesser (by decide) (Nat.le_of_ble_eq_true rfl) dX12_dries_41 (fun v10 S10 H locs ov10 h hW10 hS => ?_)
        refine m_callVv (pc := 44) C.1 C.2.2.1 hl.1 C.2.1 hW10 hS (As := [.int (mI x1), .int (mI 0), .int (mI v10)]) (rest := []) (r := r0) (T_X12_has C.2.2.2.2.2.2 N r0 kr0 x1 ox1 0 (by decide : okI 0) v10 ov10 h) kr0 rfl q_1379 q_1381 q_22 q_92 q_1382 pl_X12_has (by decide) (Nat.le_of_ble_eq_true rfl) dX12_dries_44 (fun S11 H locs h hW11 hS => ?_)
        refine m_iconst (pc := 47) C.1 dX12_dries_47 ?_
        exact m_zret (pc := 48) C.1 C.2.2.2.1 C.2.2.2.2.1 hW11 hS (by decide) h (by decide) (by decide) dX12_dries_48
    · replace h := h.2 hc
      refine m_iconst (pc := 9) C.1 dX12_dries_9 ?_
      exact m_zret (pc := 10) C.1 C.2.2.2.1 C.2.2.2.2.1 hW1 hS (by decide) h (by decide) (by decide) dX12_dries_10) sz
section
variable {p : Program} {l : Launch} {e : Env} {s : State} {m : MethodId} {args : Array Value} {below : List Frame} {meth : Method} {c : Code} {g : mG} {b : Nat}
def w_X12_driesAll_24 (N : Nat) (Q : mSt → Int → Prop) (ko4 : Nat → Int → Int → mSt → Prop) (r0 : Nat) (x2 : Int) (xs0 : Int) (xs1 : Int) (S : mSt) : Prop :=
  ∀ v1 : Int, v1 = (nm (xs1 + xs0)) → ∀ v2 : Int, v2 = nm (x2 + 1) → ko4 r0 v1 v2 S
theorem W_X12_driesAll_24 (C : mC p l s m args meth c cX12_driesAll "MoonWashModel" 3 (some FieldType.int) g) (N : Nat) {Q : mSt → Int → Prop} {ko4 : Nat → Int → Int → mSt → Prop} (hko4 : ∀ (r0 : Nat) (kr0 : KM r0 = (0, 10, 0)) (x1 : Int) (ox1 : okI x1) (x2 : Int) (ox2 : okI x2) (S : mSt) (H : Heap) (locs : List Loc) (ls : Array Slot), lv_has ls 3 [(0, .ref (b + r0)), (1, .int (mI x1)), (2, .int (mI x2))] → mW g b KM S H → va_S (mA b KM s.heap.size) s.heap H locs → ko4 r0 x1 x2 S → W p l e { frames := 121, cells := 0, slots := 0, locals := 3184 } s m args below meth c H locs 0 0 (vx_MQ below (mQi g b KM Q (mA b KM s.heap.size)) (mEx g b KM (fun _ _ => False) (mA b KM s.heap.size)) args s 0 0 (mA b KM s.heap.size)) (F0 m 4 ls [])) (r0 : Nat) (kr0 : KM r0 = (0, 10, 0)) (x2 : Int) (ox2 : okI x2) (xs0 : Int) (oxs0 : okI xs0) (xs1 : Int) (oxs1 : okI xs1) (S : mSt) (H : Heap) (locs : List Loc) (ls : Array Slot) (hl : lv_has ls 3 [(0, .ref (b + r0)), (2, .int (mI x2))]) (hW : mW g b KM S H) (hS : va_S (mA b KM s.heap.size) s.heap H locs) (h : w_X12_driesAll_24 N Q ko4 r0 x2 xs0 xs1 S) : W p l e { frames := 121, cells := 0, slots := 0, locals := 3184 } s m args below meth c H locs 0 0 (vx_MQ below (mQi g b KM Q (mA b KM s.heap.size)) (mEx g b KM (fun _ _ => False) (mA b KM s.heap.size)) args s 0 0 (mA b KM s.heap.size)) (F0 m 24 ls [.int (mI xs0), .int (mI xs1)]) := by
  unfold w_X12_driesAll_24 at h
  refine m_iadd (pc := 24) C.1 dX12_driesAll_24 ?_
  refine m_istore_n (pc := 25) C.1 dX12_driesAll_25 rfl hl (by decide) (fun v => [(1, .int v), (0, .ref (b + r0)), (2, .int (mI x2))]) (fun _ => rfl) (nm_ok _) (fun v1 ls ev1 ov1 hl => ?_)
  replace h := h v1 ev1
  refine m_iinc (pc := 26) C.1 dX12_driesAll_26 hl (by decide) (q0 := 2) rfl (fun v => [(2, .int v), (1, .int (mI v1)), (0, .ref (b + r0))]) (fun _ => rfl) (fun v2 ls ev2 ov2 hl => ?_)
  replace h := h v2 ev2
  refine m_goto (pc := 29) (tgt := 4) C.1 dX12_driesAll_29 (by decide) ?_
  exact hko4 r0 kr0 v1 ov1 v2 ov2 S _ _ _ (lv_sub hl [2, 1, 0] rfl) hW hS h
def w_X12_driesAll_4b (N : Nat) (Q : mSt → Int → Prop) (ko4 : Nat → Int → Int → mSt → Prop) (ko32 : Int → mSt → Prop) (r0 : Nat) (x1 : Int) (x2 : Int) (S : mSt) : Prop :=
  ((8 ≤ x2 → ko32 x1 S) ∧ (x2 < 8 → w_X12_dries N r0 x2 S (fun (S1 : mSt) (v1 : Int) => ((v1 = 0 → w_X12_driesAll_24 N Q ko4 r0 x2 0 x1 S1) ∧ (v1 ≠ 0 → w_X12_driesAll_24 N Q ko4 r0 x2 1 x1 S1)))))
theorem W_X12_driesAll_4b (C : mC p l s m args meth c cX12_driesAll "MoonWashModel" 3 (some FieldType.int) g) (N : Nat) {Q : mSt → Int → Prop} {ko4 : Nat → Int → Int → mSt → Prop} {ko32 : Int → mSt → Prop} (hko4 : ∀ (r0 : Nat) (kr0 : KM r0 = (0, 10, 0)) (x1 : Int) (ox1 : okI x1) (x2 : Int) (ox2 : okI x2) (S : mSt) (H : Heap) (locs : List Loc) (ls : Array Slot), lv_has ls 3 [(0, .ref (b + r0)), (1, .int (mI x1)), (2, .int (mI x2))] → mW g b KM S H → va_S (mA b KM s.heap.size) s.heap H locs → ko4 r0 x1 x2 S → W p l e { frames := 121, cells := 0, slots := 0, locals := 3184 } s m args below meth c H locs 0 0 (vx_MQ below (mQi g b KM Q (mA b KM s.heap.size)) (mEx g b KM (fun _ _ => False) (mA b KM s.heap.size)) args s 0 0 (mA b KM s.heap.size)) (F0 m 4 ls [])) (hko32 : ∀ (x1 : Int) (ox1 : okI x1) (S : mSt) (H : Heap) (locs : List Loc) (ls : Array Slot), lv_has ls 3 [(1, .int (mI x1))] → mW g b KM S H → va_S (mA b KM s.heap.size) s.heap H locs → ko32 x1 S → W p l e { frames := 121, cells := 0, slots := 0, locals := 3184 } s m args below meth c H locs 0 0 (vx_MQ below (mQi g b KM Q (mA b KM s.heap.size)) (mEx g b KM (fun _ _ => False) (mA b KM s.heap.size)) args s 0 0 (mA b KM s.heap.size)) (F0 m 32 ls [])) (r0 : Nat) (kr0 : KM r0 = (0, 10, 0)) (x1 : Int) (ox1 : okI x1) (x2 : Int) (ox2 : okI x2) (S : mSt) (H : Heap) (locs : List Loc) (ls : Array Slot) (hl : lv_has ls 3 [(0, .ref (b + r0)), (1, .int (mI x1)), (2, .int (mI x2))]) (hW : mW g b KM S H) (hS : va_S (mA b KM s.heap.size) s.heap H locs) (h : w_X12_driesAll_4b N Q ko4 ko32 r0 x1 x2 S) : W p l e { frames := 121, cells := 0, slots := 0, locals := 3184 } s m args below meth c H locs 0 0 (vx_MQ below (mQi g b KM Q (mA b KM s.heap.size)) (mEx g b KM (fun _ _ => False) (mA b KM s.heap.size)) args s 0 0 (mA b KM s.heap.size)) (F0 m 4 ls []) := by
  unfold w_X12_driesAll_4b at h
  refine m_iload_n (pc := 4) C.1 dX12_driesAll_4 rfl hl 2 rfl ?_
  refine m_bipush (pc := 5) C.1 dX12_driesAll_5 rfl ?_
  refine m_icmp_ge (pc := 7) (tgt := 32) C.1 ox2 (by decide : okI 8) dX12_driesAll_7 (by decide) (fun hc => ?_) (fun hc => ?_)
  · replace h := h.1 hc
    exact hko32 x1 ox1 S _ _ _ (lv_sub hl [1] rfl) hW hS h
  · replace h := h.2 hc
    refine m_iload_n (pc := 10) C.1 dX12_driesAll_10 rfl hl 1 rfl ?_
    refine m_aload_n (pc := 11) C.1 dX12_driesAll_11 rfl hl 0 rfl ?_
    refine m_iload_n (pc := 12) C.1 dX12_driesAll_12 rfl hl 2 rfl ?_
    refine m_callVi (pc := 13) C.1 C.2.2.1 hl.1 C.2.1 hW hS (As := [.int (mI x2)]) (rest := [.int (mI x1)]) (r := r0) (T_X12_dries C.2.2.2.2.2.2 N r0 kr0 x2 ox2 h) kr0 rfl q_1744 q_1746 q_65 q_92 q_1747 pl_X12_dries (by decide) (Nat.le_of_ble_eq_true rfl) dX12_driesAll_13 (fun v1 S1 H locs ov1 h hW1 hS => ?_)
    refine m_if_eq (pc := 16) (tgt := 23) C.1 ov1 dX12_driesAll_16 (by decide) (fun hc => ?_) (fun hc => ?_)
    · replace h := h.1 hc
      refine m_iconst (pc := 23) C.1 dX12_driesAll_23 ?_
      exact W_X12_driesAll_24 C N hko4 r0 kr0 x2 ox2 0 (by decide : okI 0) x1 ox1 S1 _ _ _ (lv_sub hl [0, 2] rfl) hW1 hS h
    · replace h := h.2 hc
      refine m_iconst (pc := 19) C.1 dX12_driesAll_19 ?_
      refine m_goto (pc := 20) (tgt := 24) C.1 dX12_driesAll_20 (by decide) ?_
      exact W_X12_driesAll_24 C N hko4 r0 kr0 x2 ox2 1 (by decide : okI 1) x1 ox1 S1 _ _ _ (lv_sub hl [0, 2] rfl) hW1 hS h
def w_X12_driesAll_4 (N : Nat) (Q : mSt → Int → Prop) (ko32 : Int → mSt → Prop) : Nat → Nat → Int → Int → mSt → Prop
  | 0 => fun _ _ _ _ => False
  | k + 1 => w_X12_driesAll_4b N Q (w_X12_driesAll_4 N Q ko32 k) ko32
theorem W_X12_driesAll_4 (C : mC p l s m args meth c cX12_driesAll "MoonWashModel" 3 (some FieldType.int) g) (N : Nat) {Q : mSt → Int → Prop} {ko32 : Int → mSt → Prop} (hko32 : ∀ (x1 : Int) (ox1 : okI x1) (S : mSt) (H : Heap) (locs : List Loc) (ls : Array Slot), lv_has ls 3 [(1, .int (mI x1))] → mW g b KM S H → va_S (mA b KM s.heap.size) s.heap H locs → ko32 x1 S → W p l e { frames := 121, cells := 0, slots := 0, locals := 3184 } s m args below meth c H locs 0 0 (vx_MQ below (mQi g b KM Q (mA b KM s.heap.size)) (mEx g b KM (fun _ _ => False) (mA b KM s.heap.size)) args s 0 0 (mA b KM s.heap.size)) (F0 m 32 ls [])) : ∀ (k : Nat) (r0 : Nat) (kr0 : KM r0 = (0, 10, 0)) (x1 : Int) (ox1 : okI x1) (x2 : Int) (ox2 : okI x2) (S : mSt) (H : Heap) (locs : List Loc) (ls : Array Slot) (hl : lv_has ls 3 [(0, .ref (b + r0)), (1, .int (mI x1)), (2, .int (mI x2))]) (hW : mW g b KM S H) (hS : va_S (mA b KM s.heap.size) s.heap H locs) (h : w_X12_driesAll_4 N Q ko32 k r0 x1 x2 S), W p l e { frames := 121, cells := 0, slots := 0, locals := 3184 } s m args below meth c H locs 0 0 (vx_MQ below (mQi g b KM Q (mA b KM s.heap.size)) (mEx g b KM (fun _ _ => False) (mA b KM s.heap.size)) args s 0 0 (mA b KM s.heap.size)) (F0 m 4 ls []) := by
  intro k
  induction k with
  | zero => intro r0 kr0 x1 ox1 x2 ox2 S H locs ls hl hW hS h; exact False.elim h
  | succ k ih => intro r0 kr0 x1 ox1 x2 ox2 S H locs ls hl hW hS h; exact W_X12_driesAll_4b C N ih hko32 r0 kr0 x1 ox1 x2 ox2 S H locs ls hl hW hS h
end
def w_X12_driesAll (N : Nat) (r0 : Nat) (S : mSt) (Q : mSt → Int → Prop) : Prop :=
  ∀ v1 : Int, v1 = 0 → ∀ v2 : Int, v2 = 0 → w_X12_driesAll_4 N Q (fun (x1_3 : Int) (S_3 : mSt) => Q S_3 x1_3) N r0 v1 v2 S
theorem T_X12_driesAll {l : Launch} (hl0 : l.stackTraces = false) {g : mG} {b : Nat} (N : Nat) (r0 : Nat) (kr0 : KM r0 = (0, 10, 0)) {S : mSt} {Q : mSt → Int → Prop} (h : w_X12_driesAll N r0 S Q) (sz : Nat) : vx_Met l yX12_driesAll (Cond.code yX12_driesAll cX12_driesAll 3 (some FieldType.int) :: wsG) { frames := 121, cells := 0, slots := 0, locals := 3184 } (mPc g b KM S [.ref (b + r0)] sz) (mQi g b KM Q (mA b KM sz)) (mEx g b KM (fun _ _ => False) (mA b KM sz)) 0 0 (mA b KM sz) :=
  m_of (av := [.ref (b + r0)]) (Qf := fun A => mQi g b KM Q A) (Xf := fun A => mEx g b KM (fun _ _ => False) A) (by decide) (Nat.le_of_ble_eq_true rfl) (fun p e s m args below meth c ls X hK hml hr hlk hout hnm hW hl => by
    have C : mC p l s m args meth c cX12_driesAll "MoonWashModel" 3 (some FieldType.int) g := ⟨X, hK, hml, hr, hlk, hout, hl0⟩
    have hS : va_S (mA b KM s.heap.size) s.heap s.heap [] := va_S.rf
    have hl : lv_has ls 3 [(0, .ref (b + r0))] := hl
    unfold w_X12_driesAll at h
    refine m_iconst (pc := 0) C.1 dX12_driesAll_0 ?_
    refine m_istore_n (pc := 1) C.1 dX12_driesAll_1 rfl hl (by decide) (fun v => [(1, .int v), (0, .ref (b + r0))]) (fun _ => rfl) (by decide : okI 0) (fun v1 ls ev1 ov1 hl => ?_)
    replace h := h v1 ev1
    refine m_iconst (pc := 2) C.1 dX12_driesAll_2 ?_
    refine m_istore_n (pc := 3) C.1 dX12_driesAll_3 rfl hl (by decide) (fun v => [(2, .int v), (1, .int (mI v1)), (0, .ref (b + r0))]) (fun _ => rfl) (by decide : okI 0) (fun v2 ls ev2 ov2 hl => ?_)
    replace h := h v2 ev2
    refine W_X12_driesAll_4 C N ?_ N r0 kr0 v1 ov1 v2 ov2 S _ _ _ (lv_sub hl [2, 1, 0] rfl) hW hS h
    · intro x1_3 ox1_3 S_3 H locs ls hl hW_3 hS h
      refine m_iload_n (pc := 32) C.1 dX12_driesAll_32 rfl hl 0 rfl ?_
      exact m_iret (pc := 33) C.1 C.2.2.2.1 C.2.2.2.2.1 hW_3 hS ox1_3 h (by decide) (by decide) dX12_driesAll_33) sz
section
variable {p : Program} {l : Launch} {e : Env} {s : State} {m : MethodId} {args : Array Value} {below : List Frame} {meth : Method} {c : Code} {g : mG} {b : Nat}
end
def w_X12_passes (N : Nat) (r0 : Nat) (S : mSt) (Q : mSt → Prop) : Prop :=
  w_X12_lesser N 99 (nm ((S (r0 + 1) 5) + (S (r0 + 1) 6))) S (fun (S1 : mSt) (v1 : Int) => ∀ S2 : mSt, S2 = mup S1 (r0 + 1) 5 v1 → ∀ S3 : mSt, S3 = mup S2 (r0 + 1) 9 (nm ((S2 (r0 + 1) 9) + 1)) → Q S3)
theorem T_X12_passes {l : Launch} (hl0 : l.stackTraces = false) {g : mG} {b : Nat} (N : Nat) (r0 : Nat) (kr0 : KM r0 = (0, 10, 0)) {S : mSt} {Q : mSt → Prop} (h : w_X12_passes N r0 S Q) (sz : Nat) : vx_Met l yX12_passes (Cond.code yX12_passes cX12_passes 1 none :: wsG) { frames := 1, cells := 0, slots := 0, locals := 21 } (mPc g b KM S [.ref (b + r0)] sz) (mQv g b KM Q (mA b KM sz)) (mEx g b KM (fun _ _ => False) (mA b KM sz)) 0 0 (mA b KM sz) :=
  m_of (av := [.ref (b + r0)]) (Qf := fun A => mQv g b KM Q A) (Xf := fun A => mEx g b KM (fun _ _ => False) A) (by decide) (Nat.le_of_ble_eq_true rfl) (fun p e s m args below meth c ls X hK hml hr hlk hout hnm hW hl => by
    have C : mC p l s m args meth c cX12_passes "MoonWashModel" 1 none g := ⟨X, hK, hml, hr, hlk, hout, hl0⟩
    have hS : va_S (mA b KM s.heap.size) s.heap s.heap [] := va_S.rf
    have hl : lv_has ls 1 [(0, .ref (b + r0))] := hl
    unfold w_X12_passes at h
    refine m_aload_n (pc := 0) C.1 dX12_passes_0 rfl hl 0 rfl ?_
    refine g_10_1 (pc := 1) C hW kr0 q_1384 dX12_passes_1 ?_
    refine m_iconst (pc := 4) C.1 dX12_passes_4 ?_
    refine m_bipush (pc := 5) C.1 dX12_passes_5 rfl ?_
    refine m_aload_n (pc := 7) C.1 dX12_passes_7 rfl hl 0 rfl ?_
    refine g_10_1 (pc := 8) C hW kr0 q_1384 dX12_passes_8 ?_
    refine m_iconst (pc := 11) C.1 dX12_passes_11 ?_
    refine m_iald (pc := 12) C.1 C.2.1 hW (k_10_1 kr0) (by decide : okI 5) (by decide) (by decide) dX12_passes_12 ?_
    refine m_aload_n (pc := 13) C.1 dX12_passes_13 rfl hl 0 rfl ?_
    refine g_10_1 (pc := 14) C hW kr0 q_1384 dX12_passes_14 ?_
    refine m_bipush (pc := 17) C.1 dX12_passes_17 rfl ?_
    refine m_iald (pc := 19) C.1 C.2.1 hW (k_10_1 kr0) (by decide : okI 6) (by decide) (by decide) dX12_passes_19 ?_
    refine m_iadd (pc := 20) C.1 dX12_passes_20 ?_
    refine m_callSi (pc := 21) C.1 C.2.2.1 hl.1 C.2.1 hW hS (As := [.int (mI 99), .int (mI (nm ((S (r0 + 1) 5) + (S (r0 + 1) 6))))]) (rest := [.int (mI 5), .ref (b + (r0 + 1))]) (T_X12_lesser C.2.2.2.2.2.2 N 99 (by decide : okI 99) (nm ((S (r0 + 1) 5) + (S (r0 + 1) 6))) (nm_ok _) h) q_1649 q_1650 q_92 q_1651 pl_X12_lesser (by decide) (Nat.le_of_ble_eq_true rfl) dX12_passes_21 (fun v1 S1 H locs ov1 h hW1 hS => ?_)
    refine m_iast (pc := 24) C.1 C.2.1 hW1 hS (k_10_1 kr0) (by decide : okI 5) ov1 (by decide) (by decide) dX12_passes_24 (fun S2 H locs e2 hW2 hS => ?_)
    replace h := h S2 e2
    refine m_aload_n (pc := 25) C.1 dX12_passes_25 rfl hl 0 rfl ?_
    refine g_10_1 (pc := 26) C hW2 kr0 q_1384 dX12_passes_26 ?_
    refine m_bipush (pc := 29) C.1 dX12_passes_29 rfl ?_
    refine lv_dup2_11 (pc := 31) C.1.1 C.1.2.1 dX12_passes_31 rfl rfl ?_
    refine m_iald (pc := 32) C.1 C.2.1 hW2 (k_10_1 kr0) (by decide : okI 9) (by decide) (by decide) dX12_passes_32 ?_
    refine m_iconst (pc := 33) C.1 dX12_passes_33 ?_
    refine m_iadd (pc := 34) C.1 dX12_passes_34 ?_
    refine m_iast (pc := 35) C.1 C.2.1 hW2 hS (k_10_1 kr0) (by decide : okI 9) (nm_ok _) (by decide) (by decide) dX12_passes_35 (fun S3 H locs e3 hW3 hS => ?_)
    replace h := h S3 e3
    exact m_vret (pc := 36) C.1 C.2.2.2.1 C.2.2.2.2.1 hW3 hS h (by decide) (by decide) dX12_passes_36) sz
section
variable {p : Program} {l : Launch} {e : Env} {s : State} {m : MethodId} {args : Array Value} {below : List Frame} {meth : Method} {c : Code} {g : mG} {b : Nat}
def w_X12_night_121 (N : Nat) (Q : mSt → Int → Prop)  (r0 : Nat) (x1 : Int) (S : mSt) : Prop :=
  w_X12_passes N r0 S (fun (S1 : mSt) => Q S1 x1)
theorem W_X12_night_121 (C : mC p l s m args meth c cX12_night "MoonWashModel" 4 (some FieldType.int) g) (N : Nat) {Q : mSt → Int → Prop}   (r0 : Nat) (kr0 : KM r0 = (0, 10, 0)) (x1 : Int) (ox1 : okI x1) (S : mSt) (H : Heap) (locs : List Loc) (ls : Array Slot) (hl : lv_has ls 4 [(0, .ref (b + r0)), (1, .int (mI x1))]) (hW : mW g b KM S H) (hS : va_S (mA b KM s.heap.size) s.heap H locs) (h : w_X12_night_121 N Q  r0 x1 S) : W p l e { frames := 122, cells := 0, slots := 0, locals := 3206 } s m args below meth c H locs 0 0 (vx_MQ below (mQi g b KM Q (mA b KM s.heap.size)) (mEx g b KM (fun _ _ => False) (mA b KM s.heap.size)) args s 0 0 (mA b KM s.heap.size)) (F0 m 121 ls []) := by
  unfold w_X12_night_121 at h
  refine m_aload_n (pc := 121) C.1 dX12_night_121 rfl hl 0 rfl ?_
  refine m_callVv (pc := 122) C.1 C.2.2.1 hl.1 C.2.1 hW hS (As := []) (rest := []) (r := r0) (T_X12_passes C.2.2.2.2.2.2 N r0 kr0 h) kr0 rfl q_1748 q_1750 q_66 q_92 q_1751 pl_X12_passes (by decide) (Nat.le_of_ble_eq_true rfl) dX12_night_122 (fun S1 H locs h hW1 hS => ?_)
  refine m_iload_n (pc := 125) C.1 dX12_night_125 rfl hl 1 rfl ?_
  exact m_iret (pc := 126) C.1 C.2.2.2.1 C.2.2.2.2.1 hW1 hS ox1 h (by decide) (by decide) dX12_night_126
def w_X12_night_73 (N : Nat) (Q : mSt → Int → Prop)  (r0 : Nat) (x1 : Int) (S : mSt) : Prop :=
  w_X12_draw N r0 100 S (fun (S1 : mSt) (v1 : Int) => (((S1 (r0 + 1) 8) ≤ v1 → w_X12_night_121 N Q  r0 x1 S1) ∧ (v1 < (S1 (r0 + 1) 8) → w_X12_draw N r0 8 S1 (fun (S2 : mSt) (v2 : Int) => ∀ v3 : Int, v3 = v2 → w_X12_of N r0 v3 4 S2 (fun (S4 : mSt) (v4 : Int) => ((v4 ≠ 1 → w_X12_night_121 N Q  r0 x1 S4) ∧ (v4 = 1 → w_X12_has N r0 v3 4 0 S4 (fun (S5 : mSt) => w_X12_has N r0 v3 0 9 S5 (fun (S6 : mSt) => w_X12_night_121 N Q  r0 x1 S6)))))))))
theorem W_X12_night_73 (C : mC p l s m args meth c cX12_night "MoonWashModel" 4 (some FieldType.int) g) (N : Nat) {Q : mSt → Int → Prop}   (r0 : Nat) (kr0 : KM r0 = (0, 10, 0)) (x1 : Int) (ox1 : okI x1) (S : mSt) (H : Heap) (locs : List Loc) (ls : Array Slot) (hl : lv_has ls 4 [(0, .ref (b + r0)), (1, .int (mI x1))]) (hW : mW g b KM S H) (hS : va_S (mA b KM s.heap.size) s.heap H locs) (h : w_X12_night_73 N Q  r0 x1 S) : W p l e { frames := 122, cells := 0, slots := 0, locals := 3206 } s m args below meth c H locs 0 0 (vx_MQ below (mQi g b KM Q (mA b KM s.heap.size)) (mEx g b KM (fun _ _ => False) (mA b KM s.heap.size)) args s 0 0 (mA b KM s.heap.size)) (F0 m 73 ls []) := by
  unfold w_X12_night_73 at h
  refine m_aload_n (pc := 73) C.1 dX12_night_73 rfl hl 0 rfl ?_
  refine m_bipush (pc := 74) C.1 dX12_night_74 rfl ?_
  refine m_callVi (pc := 76) C.1 C.2.2.1 hl.1 C.2.1 hW hS (As := [.int (mI 100)]) (rest := []) (r := r0) (T_X12_draw C.2.2.2.2.2.2 N r0 kr0 100 (by decide : okI 100) h) kr0 rfl q_1735 q_1737 q_63 q_92 q_1738 pl_X12_draw (by decide) (Nat.le_of_ble_eq_true rfl) dX12_night_76 (fun v1 S1 H locs ov1 h hW1 hS => ?_)
  refine m_aload_n (pc := 79) C.1 dX12_night_79 rfl hl 0 rfl ?_
  refine g_10_1 (pc := 80) C hW1 kr0 q_1384 dX12_night_80 ?_
  refine m_bipush (pc := 83) C.1 dX12_night_83 rfl ?_
  refine m_iald (pc := 85) C.1 C.2.1 hW1 (k_10_1 kr0) (by decide : okI 8) (by decide) (by decide) dX12_night_85 ?_
  refine m_icmp_ge (pc := 86) (tgt := 121) C.1 ov1 (hW1.2.1 _ _) dX12_night_86 (by decide) (fun hc => ?_) (fun hc => ?_)
  · replace h := h.1 hc
    exact W_X12_night_121 C N  r0 kr0 x1 ox1 S1 _ _ _ (lv_sub hl [0, 1] rfl) hW1 hS h
  · replace h := h.2 hc
    refine m_aload_n (pc := 89) C.1 dX12_night_89 rfl hl 0 rfl ?_
    refine m_bipush (pc := 90) C.1 dX12_night_90 rfl ?_
    refine m_callVi (pc := 92) C.1 C.2.2.1 hl.1 C.2.1 hW1 hS (As := [.int (mI 8)]) (rest := []) (r := r0) (T_X12_draw C.2.2.2.2.2.2 N r0 kr0 8 (by decide : okI 8) h) kr0 rfl q_1735 q_1737 q_63 q_92 q_1738 pl_X12_draw (by decide) (Nat.le_of_ble_eq_true rfl) dX12_night_92 (fun v2 S2 H locs ov2 h hW2 hS => ?_)
    refine m_istore_n (pc := 95) C.1 dX12_night_95 rfl hl (by decide) (fun v => [(2, .int v), (0, .ref (b + r0)), (1, .int (mI x1))]) (fun _ => rfl) ov2 (fun v3 ls ev3 ov3 hl => ?_)
    replace h := h v3 ev3
    refine m_aload_n (pc := 96) C.1 dX12_night_96 rfl hl 1 rfl ?_
    refine m_iload_n (pc := 97) C.1 dX12_night_97 rfl hl 0 rfl ?_
    refine m_iconst (pc := 98) C.1 dX12_night_98 ?_
    refine m_callVi (pc := 99) C.1 C.2.2.1 hl.1 C.2.1 hW2 hS (As := [.int (mI v3), .int (mI 4)]) (rest := []) (r := r0) (T_X12_of C.2.2.2.2.2.2 N r0 kr0 v3 ov3 4 (by decide : okI 4) h) kr0 rfl q_1630 q_1632 q_48 q_92 q_1633 pl_X12_of (by decide) (Nat.le_of_ble_eq_true rfl) dX12_night_99 (fun v4 S4 H locs ov4 h hW4 hS => ?_)
    refine m_iconst (pc := 102) C.1 dX12_night_102 ?_
    refine m_icmp_ne (pc := 103) (tgt := 121) C.1 ov4 (by decide : okI 1) dX12_night_103 (by decide) (fun hc => ?_) (fun hc => ?_)
    · replace h := h.1 hc
      exact W_X12_night_121 C N  r0 kr0 x1 ox1 S4 _ _ _ (lv_sub hl [1, 2] rfl) hW4 hS h
    · replace h := h.2 hc
      refine m_aload_n (pc := 106) C.1 dX12_night_106 rfl hl 1 rfl ?_
      refine m_iload_n (pc := 107) C.1 dX12_night_107 rfl hl 0 rfl ?_
      refine m_iconst (pc := 108) C.1 dX12_night_108 ?_
      refine m_iconst (pc := 109) C.1 dX12_night_109 ?_
      refine m_callVv (pc := 110) C.1 C.2.2.1 hl.1 C.2.1 hW4 hS (As := [.int (mI v3), .int (mI 4), .int (mI 0)]) (rest := []) (r := r0) (T_X12_has C.2.2.2.2.2.2 N r0 kr0 v3 ov3 4 (by decide : okI 4) 0 (by decide : okI 0) h) kr0 rfl q_1379 q_1381 q_22 q_92 q_1382 pl_X12_has (by decide) (Nat.le_of_ble_eq_true rfl) dX12_night_110 (fun S5 H locs h hW5 hS => ?_)
      refine m_aload_n (pc := 113) C.1 dX12_night_113 rfl hl 1 rfl ?_
      refine m_iload_n (pc := 114) C.1 dX12_night_114 rfl hl 0 rfl ?_
      refine m_iconst (pc := 115) C.1 dX12_night_115 ?_
      refine m_bipush (pc := 116) C.1 dX12_night_116 rfl ?_
      refine m_callVv (pc := 118) C.1 C.2.2.1 hl.1 C.2.1 hW5 hS (As := [.int (mI v3), .int (mI 0), .int (mI 9)]) (rest := []) (r := r0) (T_X12_has C.2.2.2.2.2.2 N r0 kr0 v3 ov3 0 (by decide : okI 0) 9 (by decide : okI 9) h) kr0 rfl q_1379 q_1381 q_22 q_92 q_1382 pl_X12_has (by decide) (Nat.le_of_ble_eq_true rfl) dX12_night_118 (fun S6 H locs h hW6 hS => ?_)
      exact W_X12_night_121 C N  r0 kr0 x1 ox1 S6 _ _ _ (lv_sub hl [1, 2] rfl) hW6 hS h
end
def w_X12_night (N : Nat) (r0 : Nat) (S : mSt) (Q : mSt → Int → Prop) : Prop :=
  w_X12_draw N r0 10 S (fun (S1 : mSt) (v1 : Int) => ∀ S2 : mSt, S2 = mup S1 (r0 + 1) 10 v1 → w_X12_driesAll N r0 S2 (fun (S3 : mSt) (v3 : Int) => ∀ v4 : Int, v4 = v3 → w_X12_draw N r0 100 S3 (fun (S5 : mSt) (v5 : Int) => (((S5 (r0 + 1) 7) ≤ v5 → w_X12_night_73 N Q  r0 v4 S5) ∧ (v5 < (S5 (r0 + 1) 7) → w_X12_draw N r0 8 S5 (fun (S6 : mSt) (v6 : Int) => ∀ v7 : Int, v7 = v6 → w_X12_draw N r0 5 S6 (fun (S8 : mSt) (v8 : Int) => ∀ v9 : Int, v9 = v8 → w_X12_of N r0 v7 4 S8 (fun (S10 : mSt) (v10 : Int) => ((v10 ≠ 1 → w_X12_night_73 N Q  r0 v4 S10) ∧ (v10 = 1 → w_X12_of N r0 v7 3 S10 (fun (S11 : mSt) (v11 : Int) => w_X12_has N r0 v7 3 (bOr v11 (bShl 1 v9)) S11 (fun (S12 : mSt) => w_X12_night_73 N Q  r0 v4 S12))))))))))))
theorem T_X12_night {l : Launch} (hl0 : l.stackTraces = false) {g : mG} {b : Nat} (N : Nat) (r0 : Nat) (kr0 : KM r0 = (0, 10, 0)) {S : mSt} {Q : mSt → Int → Prop} (h : w_X12_night N r0 S Q) (sz : Nat) : vx_Met l yX12_night (Cond.code yX12_night cX12_night 4 (some FieldType.int) :: wsG) { frames := 122, cells := 0, slots := 0, locals := 3206 } (mPc g b KM S [.ref (b + r0)] sz) (mQi g b KM Q (mA b KM sz)) (mEx g b KM (fun _ _ => False) (mA b KM sz)) 0 0 (mA b KM sz) :=
  m_of (av := [.ref (b + r0)]) (Qf := fun A => mQi g b KM Q A) (Xf := fun A => mEx g b KM (fun _ _ => False) A) (by decide) (Nat.le_of_ble_eq_true rfl) (fun p e s m args below meth c ls X hK hml hr hlk hout hnm hW hl => by
    have C : mC p l s m args meth c cX12_night "MoonWashModel" 4 (some FieldType.int) g := ⟨X, hK, hml, hr, hlk, hout, hl0⟩
    have hS : va_S (mA b KM s.heap.size) s.heap s.heap [] := va_S.rf
    have hl : lv_has ls 4 [(0, .ref (b + r0))] := hl
    unfold w_X12_night at h
    refine m_aload_n (pc := 0) C.1 dX12_night_0 rfl hl 0 rfl ?_
    refine g_10_1 (pc := 1) C hW kr0 q_1384 dX12_night_1 ?_
    refine m_bipush (pc := 4) C.1 dX12_night_4 rfl ?_
    refine m_aload_n (pc := 6) C.1 dX12_night_6 rfl hl 0 rfl ?_
    refine m_bipush (pc := 7) C.1 dX12_night_7 rfl ?_
    refine m_callVi (pc := 9) C.1 C.2.2.1 hl.1 C.2.1 hW hS (As := [.int (mI 10)]) (rest := [.int (mI 10), .ref (b + (r0 + 1))]) (r := r0) (T_X12_draw C.2.2.2.2.2.2 N r0 kr0 10 (by decide : okI 10) h) kr0 rfl q_1735 q_1737 q_63 q_92 q_1738 pl_X12_draw (by decide) (Nat.le_of_ble_eq_true rfl) dX12_night_9 (fun v1 S1 H locs ov1 h hW1 hS => ?_)
    refine m_iast (pc := 12) C.1 C.2.1 hW1 hS (k_10_1 kr0) (by decide : okI 10) ov1 (by decide) (by decide) dX12_night_12 (fun S2 H locs e2 hW2 hS => ?_)
    replace h := h S2 e2
    refine m_aload_n (pc := 13) C.1 dX12_night_13 rfl hl 0 rfl ?_
    refine m_callVi (pc := 14) C.1 C.2.2.1 hl.1 C.2.1 hW2 hS (As := []) (rest := []) (r := r0) (T_X12_driesAll C.2.2.2.2.2.2 N r0 kr0 h) kr0 rfl q_1740 q_1742 q_64 q_92 q_1743 pl_X12_driesAll (by decide) (Nat.le_of_ble_eq_true rfl) dX12_night_14 (fun v3 S3 H locs ov3 h hW3 hS => ?_)
    refine m_istore_n (pc := 17) C.1 dX12_night_17 rfl hl (by decide) (fun v => [(1, .int v), (0, .ref (b + r0))]) (fun _ => rfl) ov3 (fun v4 ls ev4 ov4 hl => ?_)
    replace h := h v4 ev4
    refine m_aload_n (pc := 18) C.1 dX12_night_18 rfl hl 1 rfl ?_
    refine m_bipush (pc := 19) C.1 dX12_night_19 rfl ?_
    refine m_callVi (pc := 21) C.1 C.2.2.1 hl.1 C.2.1 hW3 hS (As := [.int (mI 100)]) (rest := []) (r := r0) (T_X12_draw C.2.2.2.2.2.2 N r0 kr0 100 (by decide : okI 100) h) kr0 rfl q_1735 q_1737 q_63 q_92 q_1738 pl_X12_draw (by decide) (Nat.le_of_ble_eq_true rfl) dX12_night_21 (fun v5 S5 H locs ov5 h hW5 hS => ?_)
    refine m_aload_n (pc := 24) C.1 dX12_night_24 rfl hl 1 rfl ?_
    refine g_10_1 (pc := 25) C hW5 kr0 q_1384 dX12_night_25 ?_
    refine m_bipush (pc := 28) C.1 dX12_night_28 rfl ?_
    refine m_iald (pc := 30) C.1 C.2.1 hW5 (k_10_1 kr0) (by decide : okI 7) (by decide) (by decide) dX12_night_30 ?_
    refine m_icmp_ge (pc := 31) (tgt := 73) C.1 ov5 (hW5.2.1 _ _) dX12_night_31 (by decide) (fun hc => ?_) (fun hc => ?_)
    · replace h := h.1 hc
      exact W_X12_night_73 C N  r0 kr0 v4 ov4 S5 _ _ _ (lv_sub hl [1, 0] rfl) hW5 hS h
    · replace h := h.2 hc
      refine m_aload_n (pc := 34) C.1 dX12_night_34 rfl hl 1 rfl ?_
      refine m_bipush (pc := 35) C.1 dX12_night_35 rfl ?_
      refine m_callVi (pc := 37) C.1 C.2.2.1 hl.1 C.2.1 hW5 hS (As := [.int (mI 8)]) (rest := []) (r := r0) (T_X12_draw C.2.2.2.2.2.2 N r0 kr0 8 (by decide : okI 8) h) kr0 rfl q_1735 q_1737 q_63 q_92 q_1738 pl_X12_draw (by decide) (Nat.le_of_ble_eq_true rfl) dX12_night_37 (fun v6 S6 H locs ov6 h hW6 hS => ?_)
      refine m_istore_n (pc := 40) C.1 dX12_night_40 rfl hl (by decide) (fun v => [(2, .int v), (1, .int (mI v4)), (0, .ref (b + r0))]) (fun _ => rfl) ov6 (fun v7 ls ev7 ov7 hl => ?_)
      replace h := h v7 ev7
      refine m_aload_n (pc := 41) C.1 dX12_night_41 rfl hl 2 rfl ?_
      refine m_iconst (pc := 42) C.1 dX12_night_42 ?_
      refine m_callVi (pc := 43) C.1 C.2.2.1 hl.1 C.2.1 hW6 hS (As := [.int (mI 5)]) (rest := []) (r := r0) (T_X12_draw C.2.2.2.2.2.2 N r0 kr0 5 (by decide : okI 5) h) kr0 rfl q_1735 q_1737 q_63 q_92 q_1738 pl_X12_draw (by decide) (Nat.le_of_ble_eq_true rfl) dX12_night_43 (fun v8 S8 H locs ov8 h hW8 hS => ?_)
      refine m_istore_n (pc := 46) C.1 dX12_night_46 rfl hl (by decide) (fun v => [(3, .int v), (2, .int (mI v7)), (1, .int (mI v4)), (0, .ref (b + r0))]) (fun _ => rfl) ov8 (fun v9 ls ev9 ov9 hl => ?_)
      replace h := h v9 ev9
      refine m_aload_n (pc := 47) C.1 dX12_night_47 rfl hl 3 rfl ?_
      refine m_iload_n (pc := 48) C.1 dX12_night_48 rfl hl 1 rfl ?_
      refine m_iconst (pc := 49) C.1 dX12_night_49 ?_
      refine m_callVi (pc := 50) C.1 C.2.2.1 hl.1 C.2.1 hW8 hS (As := [.int (mI v7), .int (mI 4)]) (rest := []) (r := r0) (T_X12_of C.2.2.2.2.2.2 N r0 kr0 v7 ov7 4 (by decide : okI 4) h) kr0 rfl q_1630 q_1632 q_48 q_92 q_1633 pl_X12_of (by decide) (Nat.le_of_ble_eq_true rfl) dX12_night_50 (fun v10 S10 H locs ov10 h hW10 hS => ?_)
      refine m_iconst (pc := 53) C.1 dX12_night_53 ?_
      refine m_icmp_ne (pc := 54) (tgt := 73) C.1 ov10 (by decide : okI 1) dX12_night_54 (by decide) (fun hc => ?_) (fun hc => ?_)
      · replace h := h.1 hc
        exact W_X12_night_73 C N  r0 kr0 v4 ov4 S10 _ _ _ (lv_sub hl [3, 2] rfl) hW10 hS h
      · replace h := h.2 hc
        refine m_aload_n (pc := 57) C.1 dX12_night_57 rfl hl 3 rfl ?_
        refine m_iload_n (pc := 58) C.1 dX12_night_58 rfl hl 1 rfl ?_
        refine m_iconst (pc := 59) C.1 dX12_night_59 ?_
        refine m_aload_n (pc := 60) C.1 dX12_night_60 rfl hl 3 rfl ?_
        refine m_iload_n (pc := 61) C.1 dX12_night_61 rfl hl 1 rfl ?_
        refine m_iconst (pc := 62) C.1 dX12_night_62 ?_
        refine m_callVi (pc := 63) C.1 C.2.2.1 hl.1 C.2.1 hW10 hS (As := [.int (mI v7), .int (mI 3)]) (rest := [.int (mI 3), .int (mI v7), .ref (b + r0)]) (r := r0) (T_X12_of C.2.2.2.2.2.2 N r0 kr0 v7 ov7 3 (by decide : okI 3) h) kr0 rfl q_1630 q_1632 q_48 q_92 q_1633 pl_X12_of (by decide) (Nat.le_of_ble_eq_true rfl) dX12_night_63 (fun v11 S11 H locs ov11 h hW11 hS => ?_)
        refine m_iconst (pc := 66) C.1 dX12_night_66 ?_
        refine m_iload_n (pc := 67) C.1 dX12_night_67 rfl hl 0 rfl ?_
        refine m_ishl (pc := 68) C.1 dX12_night_68 ?_
        refine m_ior (pc := 69) C.1 dX12_night_69 ?_
        refine m_callVv (pc := 70) C.1 C.2.2.1 hl.1 C.2.1 hW11 hS (As := [.int (mI v7), .int (mI 3), .int (mI (bOr v11 (bShl 1 v9)))]) (rest := []) (r := r0) (T_X12_has C.2.2.2.2.2.2 N r0 kr0 v7 ov7 3 (by decide : okI 3) (bOr v11 (bShl 1 v9)) (bOr_ok _ _) h) kr0 rfl q_1379 q_1381 q_22 q_92 q_1382 pl_X12_has (by decide) (Nat.le_of_ble_eq_true rfl) dX12_night_70 (fun S12 H locs h hW12 hS => ?_)
        exact W_X12_night_73 C N  r0 kr0 v4 ov4 S12 _ _ _ (lv_sub hl [3, 2] rfl) hW12 hS h) sz
section
variable {p : Program} {l : Launch} {e : Env} {s : State} {m : MethodId} {args : Array Value} {below : List Frame} {meth : Method} {c : Code} {g : mG} {b : Nat}
def w_X12_goes_4b (N : Nat) (Q : mSt → Int → Prop) (ko4 : Nat → Int → Int → Int → mSt → Prop) (ko22 : Int → mSt → Prop) (r0 : Nat) (x1 : Int) (x2 : Int) (x3 : Int) (S : mSt) : Prop :=
  ((x1 ≤ x3 → ko22 x2 S) ∧ (x3 < x1 → w_X12_night N r0 S (fun (S1 : mSt) (v1 : Int) => ∀ v2 : Int, v2 = (nm (x2 + v1)) → ∀ v3 : Int, v3 = nm (x3 + 1) → ko4 r0 x1 v2 v3 S1)))
theorem W_X12_goes_4b (C : mC p l s m args meth c cX12_goes "MoonWashModel" 4 (some FieldType.int) g) (N : Nat) {Q : mSt → Int → Prop} {ko4 : Nat → Int → Int → Int → mSt → Prop} {ko22 : Int → mSt → Prop} (hko4 : ∀ (r0 : Nat) (kr0 : KM r0 = (0, 10, 0)) (x1 : Int) (ox1 : okI x1) (x2 : Int) (ox2 : okI x2) (x3 : Int) (ox3 : okI x3) (S : mSt) (H : Heap) (locs : List Loc) (ls : Array Slot), lv_has ls 4 [(0, .ref (b + r0)), (1, .int (mI x1)), (2, .int (mI x2)), (3, .int (mI x3))] → mW g b KM S H → va_S (mA b KM s.heap.size) s.heap H locs → ko4 r0 x1 x2 x3 S → W p l e { frames := 123, cells := 0, slots := 0, locals := 3229 } s m args below meth c H locs 0 0 (vx_MQ below (mQi g b KM Q (mA b KM s.heap.size)) (mEx g b KM (fun _ _ => False) (mA b KM s.heap.size)) args s 0 0 (mA b KM s.heap.size)) (F0 m 4 ls [])) (hko22 : ∀ (x2 : Int) (ox2 : okI x2) (S : mSt) (H : Heap) (locs : List Loc) (ls : Array Slot), lv_has ls 4 [(2, .int (mI x2))] → mW g b KM S H → va_S (mA b KM s.heap.size) s.heap H locs → ko22 x2 S → W p l e { frames := 123, cells := 0, slots := 0, locals := 3229 } s m args below meth c H locs 0 0 (vx_MQ below (mQi g b KM Q (mA b KM s.heap.size)) (mEx g b KM (fun _ _ => False) (mA b KM s.heap.size)) args s 0 0 (mA b KM s.heap.size)) (F0 m 22 ls [])) (r0 : Nat) (kr0 : KM r0 = (0, 10, 0)) (x1 : Int) (ox1 : okI x1) (x2 : Int) (ox2 : okI x2) (x3 : Int) (ox3 : okI x3) (S : mSt) (H : Heap) (locs : List Loc) (ls : Array Slot) (hl : lv_has ls 4 [(0, .ref (b + r0)), (1, .int (mI x1)), (2, .int (mI x2)), (3, .int (mI x3))]) (hW : mW g b KM S H) (hS : va_S (mA b KM s.heap.size) s.heap H locs) (h : w_X12_goes_4b N Q ko4 ko22 r0 x1 x2 x3 S) : W p l e { frames := 123, cells := 0, slots := 0, locals := 3229 } s m args below meth c H locs 0 0 (vx_MQ below (mQi g b KM Q (mA b KM s.heap.size)) (mEx g b KM (fun _ _ => False) (mA b KM s.heap.size)) args s 0 0 (mA b KM s.heap.size)) (F0 m 4 ls []) := by
  unfold w_X12_goes_4b at h
  refine m_iload_n (pc := 4) C.1 dX12_goes_4 rfl hl 3 rfl ?_
  refine m_iload_n (pc := 5) C.1 dX12_goes_5 rfl hl 1 rfl ?_
  refine m_icmp_ge (pc := 6) (tgt := 22) C.1 ox3 ox1 dX12_goes_6 (by decide) (fun hc => ?_) (fun hc => ?_)
  · replace h := h.1 hc
    exact hko22 x2 ox2 S _ _ _ (lv_sub hl [2] rfl) hW hS h
  · replace h := h.2 hc
    refine m_iload_n (pc := 9) C.1 dX12_goes_9 rfl hl 2 rfl ?_
    refine m_aload_n (pc := 10) C.1 dX12_goes_10 rfl hl 0 rfl ?_
    refine m_callVi (pc := 11) C.1 C.2.2.1 hl.1 C.2.1 hW hS (As := []) (rest := [.int (mI x2)]) (r := r0) (T_X12_night C.2.2.2.2.2.2 N r0 kr0 h) kr0 rfl q_1731 q_1733 q_62 q_92 q_1734 pl_X12_night (by decide) (Nat.le_of_ble_eq_true rfl) dX12_goes_11 (fun v1 S1 H locs ov1 h hW1 hS => ?_)
    refine m_iadd (pc := 14) C.1 dX12_goes_14 ?_
    refine m_istore_n (pc := 15) C.1 dX12_goes_15 rfl hl (by decide) (fun v => [(2, .int v), (0, .ref (b + r0)), (1, .int (mI x1)), (3, .int (mI x3))]) (fun _ => rfl) (nm_ok _) (fun v2 ls ev2 ov2 hl => ?_)
    replace h := h v2 ev2
    refine m_iinc (pc := 16) C.1 dX12_goes_16 hl (by decide) (q0 := 3) rfl (fun v => [(3, .int v), (2, .int (mI v2)), (0, .ref (b + r0)), (1, .int (mI x1))]) (fun _ => rfl) (fun v3 ls ev3 ov3 hl => ?_)
    replace h := h v3 ev3
    refine m_goto (pc := 19) (tgt := 4) C.1 dX12_goes_19 (by decide) ?_
    exact hko4 r0 kr0 x1 ox1 v2 ov2 v3 ov3 S1 _ _ _ (lv_sub hl [2, 3, 1, 0] rfl) hW1 hS h
def w_X12_goes_4 (N : Nat) (Q : mSt → Int → Prop) (ko22 : Int → mSt → Prop) : Nat → Nat → Int → Int → Int → mSt → Prop
  | 0 => fun _ _ _ _ _ => False
  | k + 1 => w_X12_goes_4b N Q (w_X12_goes_4 N Q ko22 k) ko22
theorem W_X12_goes_4 (C : mC p l s m args meth c cX12_goes "MoonWashModel" 4 (some FieldType.int) g) (N : Nat) {Q : mSt → Int → Prop} {ko22 : Int → mSt → Prop} (hko22 : ∀ (x2 : Int) (ox2 : okI x2) (S : mSt) (H : Heap) (locs : List Loc) (ls : Array Slot), lv_has ls 4 [(2, .int (mI x2))] → mW g b KM S H → va_S (mA b KM s.heap.size) s.heap H locs → ko22 x2 S → W p l e { frames := 123, cells := 0, slots := 0, locals := 3229 } s m args below meth c H locs 0 0 (vx_MQ below (mQi g b KM Q (mA b KM s.heap.size)) (mEx g b KM (fun _ _ => False) (mA b KM s.heap.size)) args s 0 0 (mA b KM s.heap.size)) (F0 m 22 ls [])) : ∀ (k : Nat) (r0 : Nat) (kr0 : KM r0 = (0, 10, 0)) (x1 : Int) (ox1 : okI x1) (x2 : Int) (ox2 : okI x2) (x3 : Int) (ox3 : okI x3) (S : mSt) (H : Heap) (locs : List Loc) (ls : Array Slot) (hl : lv_has ls 4 [(0, .ref (b + r0)), (1, .int (mI x1)), (2, .int (mI x2)), (3, .int (mI x3))]) (hW : mW g b KM S H) (hS : va_S (mA b KM s.heap.size) s.heap H locs) (h : w_X12_goes_4 N Q ko22 k r0 x1 x2 x3 S), W p l e { frames := 123, cells := 0, slots := 0, locals := 3229 } s m args below meth c H locs 0 0 (vx_MQ below (mQi g b KM Q (mA b KM s.heap.size)) (mEx g b KM (fun _ _ => False) (mA b KM s.heap.size)) args s 0 0 (mA b KM s.heap.size)) (F0 m 4 ls []) := by
  intro k
  induction k with
  | zero => intro r0 kr0 x1 ox1 x2 ox2 x3 ox3 S H locs ls hl hW hS h; exact False.elim h
  | succ k ih => intro r0 kr0 x1 ox1 x2 ox2 x3 ox3 S H locs ls hl hW hS h; exact W_X12_goes_4b C N ih hko22 r0 kr0 x1 ox1 x2 ox2 x3 ox3 S H locs ls hl hW hS h
end
def w_X12_goes (N : Nat) (r0 : Nat) (x1 : Int) (S : mSt) (Q : mSt → Int → Prop) : Prop :=
  ∀ v1 : Int, v1 = 0 → ∀ v2 : Int, v2 = 0 → w_X12_goes_4 N Q (fun (x2_3 : Int) (S_3 : mSt) => Q S_3 x2_3) N r0 x1 v1 v2 S
theorem T_X12_goes {l : Launch} (hl0 : l.stackTraces = false) {g : mG} {b : Nat} (N : Nat) (r0 : Nat) (kr0 : KM r0 = (0, 10, 0)) (x1 : Int) (ox1 : okI x1) {S : mSt} {Q : mSt → Int → Prop} (h : w_X12_goes N r0 x1 S Q) (sz : Nat) : vx_Met l yX12_goes (Cond.code yX12_goes cX12_goes 4 (some FieldType.int) :: wsG) { frames := 123, cells := 0, slots := 0, locals := 3229 } (mPc g b KM S [.ref (b + r0), .int (mI x1)] sz) (mQi g b KM Q (mA b KM sz)) (mEx g b KM (fun _ _ => False) (mA b KM sz)) 0 0 (mA b KM sz) :=
  m_of (av := [.ref (b + r0), .int (mI x1)]) (Qf := fun A => mQi g b KM Q A) (Xf := fun A => mEx g b KM (fun _ _ => False) A) (by decide) (Nat.le_of_ble_eq_true rfl) (fun p e s m args below meth c ls X hK hml hr hlk hout hnm hW hl => by
    have C : mC p l s m args meth c cX12_goes "MoonWashModel" 4 (some FieldType.int) g := ⟨X, hK, hml, hr, hlk, hout, hl0⟩
    have hS : va_S (mA b KM s.heap.size) s.heap s.heap [] := va_S.rf
    have hl : lv_has ls 4 [(0, .ref (b + r0)), (1, .int (mI x1))] := hl
    unfold w_X12_goes at h
    refine m_iconst (pc := 0) C.1 dX12_goes_0 ?_
    refine m_istore_n (pc := 1) C.1 dX12_goes_1 rfl hl (by decide) (fun v => [(2, .int v), (0, .ref (b + r0)), (1, .int (mI x1))]) (fun _ => rfl) (by decide : okI 0) (fun v1 ls ev1 ov1 hl => ?_)
    replace h := h v1 ev1
    refine m_iconst (pc := 2) C.1 dX12_goes_2 ?_
    refine m_istore_n (pc := 3) C.1 dX12_goes_3 rfl hl (by decide) (fun v => [(3, .int v), (2, .int (mI v1)), (0, .ref (b + r0)), (1, .int (mI x1))]) (fun _ => rfl) (by decide : okI 0) (fun v2 ls ev2 ov2 hl => ?_)
    replace h := h v2 ev2
    refine W_X12_goes_4 C N ?_ N r0 kr0 x1 ox1 v1 ov1 v2 ov2 S _ _ _ (lv_sub hl [2, 3, 1, 0] rfl) hW hS h
    · intro x2_3 ox2_3 S_3 H locs ls hl hW_3 hS h
      refine m_iload_n (pc := 22) C.1 dX12_goes_22 rfl hl 0 rfl ?_
      exact m_iret (pc := 23) C.1 C.2.2.2.1 C.2.2.2.2.1 hW_3 hS ox2_3 h (by decide) (by decide) dX12_goes_23) sz
section
variable {p : Program} {l : Launch} {e : Env} {s : State} {m : MethodId} {args : Array Value} {below : List Frame} {meth : Method} {c : Code} {g : mG} {b : Nat}
end
def w_X12_ahead (N : Nat) (r0 : Nat) (x1 : Int) (S : mSt) (Q : mSt → Prop) : Prop :=
  ∀ S1 : mSt, S1 = mup S (r0 + 1) 10 x1 → w_X12_driesAll N r0 S1 (fun (S2 : mSt) (v2 : Int) => ∀ v3 : Int, v3 = v2 → w_X12_passes N r0 S2 (fun (S4 : mSt) => Q S4))
theorem T_X12_ahead {l : Launch} (hl0 : l.stackTraces = false) {g : mG} {b : Nat} (N : Nat) (r0 : Nat) (kr0 : KM r0 = (0, 10, 0)) (x1 : Int) (ox1 : okI x1) {S : mSt} {Q : mSt → Prop} (h : w_X12_ahead N r0 x1 S Q) (sz : Nat) : vx_Met l yX12_ahead (Cond.code yX12_ahead cX12_ahead 3 none :: wsG) { frames := 122, cells := 0, slots := 0, locals := 3206 } (mPc g b KM S [.ref (b + r0), .int (mI x1)] sz) (mQv g b KM Q (mA b KM sz)) (mEx g b KM (fun _ _ => False) (mA b KM sz)) 0 0 (mA b KM sz) :=
  m_of (av := [.ref (b + r0), .int (mI x1)]) (Qf := fun A => mQv g b KM Q A) (Xf := fun A => mEx g b KM (fun _ _ => False) A) (by decide) (Nat.le_of_ble_eq_true rfl) (fun p e s m args below meth c ls X hK hml hr hlk hout hnm hW hl => by
    have C : mC p l s m args meth c cX12_ahead "MoonWashModel" 3 none g := ⟨X, hK, hml, hr, hlk, hout, hl0⟩
    have hS : va_S (mA b KM s.heap.size) s.heap s.heap [] := va_S.rf
    have hl : lv_has ls 3 [(0, .ref (b + r0)), (1, .int (mI x1))] := hl
    unfold w_X12_ahead at h
    refine m_aload_n (pc := 0) C.1 dX12_ahead_0 rfl hl 0 rfl ?_
    refine g_10_1 (pc := 1) C hW kr0 q_1384 dX12_ahead_1 ?_
    refine m_bipush (pc := 4) C.1 dX12_ahead_4 rfl ?_
    refine m_iload_n (pc := 6) C.1 dX12_ahead_6 rfl hl 1 rfl ?_
    refine m_iast (pc := 7) C.1 C.2.1 hW hS (k_10_1 kr0) (by decide : okI 10) ox1 (by decide) (by decide) dX12_ahead_7 (fun S1 H locs e1 hW1 hS => ?_)
    replace h := h S1 e1
    refine m_aload_n (pc := 8) C.1 dX12_ahead_8 rfl hl 0 rfl ?_
    refine m_callVi (pc := 9) C.1 C.2.2.1 hl.1 C.2.1 hW1 hS (As := []) (rest := []) (r := r0) (T_X12_driesAll C.2.2.2.2.2.2 N r0 kr0 h) kr0 rfl q_1740 q_1742 q_64 q_92 q_1743 pl_X12_driesAll (by decide) (Nat.le_of_ble_eq_true rfl) dX12_ahead_9 (fun v2 S2 H locs ov2 h hW2 hS => ?_)
    refine m_istore_n (pc := 12) C.1 dX12_ahead_12 rfl hl (by decide) (fun v => [(2, .int v), (0, .ref (b + r0)), (1, .int (mI x1))]) (fun _ => rfl) ov2 (fun v3 ls ev3 ov3 hl => ?_)
    replace h := h v3 ev3
    refine m_aload_n (pc := 13) C.1 dX12_ahead_13 rfl hl 1 rfl ?_
    refine m_callVv (pc := 14) C.1 C.2.2.1 hl.1 C.2.1 hW2 hS (As := []) (rest := []) (r := r0) (T_X12_passes C.2.2.2.2.2.2 N r0 kr0 h) kr0 rfl q_1748 q_1750 q_66 q_92 q_1751 pl_X12_passes (by decide) (Nat.le_of_ble_eq_true rfl) dX12_ahead_14 (fun S4 H locs h hW4 hS => ?_)
    exact m_vret (pc := 17) C.1 C.2.2.2.1 C.2.2.2.2.1 hW4 hS h (by decide) (by decide) dX12_ahead_17) sz
section
variable {p : Program} {l : Launch} {e : Env} {s : State} {m : MethodId} {args : Array Value} {below : List Frame} {meth : Method} {c : Code} {g : mG} {b : Nat}
def w_X12_never_9b (N : Nat) (Q : mSt → Int → Prop) (ko9 : Nat → Int → Int → mSt → Prop) (ko36 : Int → mSt → Prop) (r0 : Nat) (x2 : Int) (x3 : Int) (S : mSt) : Prop :=
  (((S (r0 + 1) 3) ≤ x3 → ko36 x2 S) ∧ (x3 < (S (r0 + 1) 3) → w_X12_ofSoap N r0 x3 3 S (fun (S1 : mSt) (v1 : Int) => ∀ v2 : Int, v2 = (bAnd x2 (bXor v1 (-1))) → ∀ v3 : Int, v3 = nm (x3 + 1) → ko9 r0 v2 v3 S1)))
theorem W_X12_never_9b (C : mC p l s m args meth c cX12_never "MoonWashModel" 4 (some FieldType.int) g) (N : Nat) {Q : mSt → Int → Prop} {ko9 : Nat → Int → Int → mSt → Prop} {ko36 : Int → mSt → Prop} (hko9 : ∀ (r0 : Nat) (kr0 : KM r0 = (0, 10, 0)) (x2 : Int) (ox2 : okI x2) (x3 : Int) (ox3 : okI x3) (S : mSt) (H : Heap) (locs : List Loc) (ls : Array Slot), lv_has ls 4 [(0, .ref (b + r0)), (2, .int (mI x2)), (3, .int (mI x3))] → mW g b KM S H → va_S (mA b KM s.heap.size) s.heap H locs → ko9 r0 x2 x3 S → W p l e { frames := 1, cells := 0, slots := 0, locals := 22 } s m args below meth c H locs 0 0 (vx_MQ below (mQi g b KM Q (mA b KM s.heap.size)) (mEx g b KM (fun _ _ => False) (mA b KM s.heap.size)) args s 0 0 (mA b KM s.heap.size)) (F0 m 9 ls [])) (hko36 : ∀ (x2 : Int) (ox2 : okI x2) (S : mSt) (H : Heap) (locs : List Loc) (ls : Array Slot), lv_has ls 4 [(2, .int (mI x2))] → mW g b KM S H → va_S (mA b KM s.heap.size) s.heap H locs → ko36 x2 S → W p l e { frames := 1, cells := 0, slots := 0, locals := 22 } s m args below meth c H locs 0 0 (vx_MQ below (mQi g b KM Q (mA b KM s.heap.size)) (mEx g b KM (fun _ _ => False) (mA b KM s.heap.size)) args s 0 0 (mA b KM s.heap.size)) (F0 m 36 ls [])) (r0 : Nat) (kr0 : KM r0 = (0, 10, 0)) (x2 : Int) (ox2 : okI x2) (x3 : Int) (ox3 : okI x3) (S : mSt) (H : Heap) (locs : List Loc) (ls : Array Slot) (hl : lv_has ls 4 [(0, .ref (b + r0)), (2, .int (mI x2)), (3, .int (mI x3))]) (hW : mW g b KM S H) (hS : va_S (mA b KM s.heap.size) s.heap H locs) (h : w_X12_never_9b N Q ko9 ko36 r0 x2 x3 S) : W p l e { frames := 1, cells := 0, slots := 0, locals := 22 } s m args below meth c H locs 0 0 (vx_MQ below (mQi g b KM Q (mA b KM s.heap.size)) (mEx g b KM (fun _ _ => False) (mA b KM s.heap.size)) args s 0 0 (mA b KM s.heap.size)) (F0 m 9 ls []) := by
  unfold w_X12_never_9b at h
  refine m_iload_n (pc := 9) C.1 dX12_never_9 rfl hl 2 rfl ?_
  refine m_aload_n (pc := 10) C.1 dX12_never_10 rfl hl 0 rfl ?_
  refine g_10_1 (pc := 11) C hW kr0 q_1384 dX12_never_11 ?_
  refine m_iconst (pc := 14) C.1 dX12_never_14 ?_
  refine m_iald (pc := 15) C.1 C.2.1 hW (k_10_1 kr0) (by decide : okI 3) (by decide) (by decide) dX12_never_15 ?_
  refine m_icmp_ge (pc := 16) (tgt := 36) C.1 ox3 (hW.2.1 _ _) dX12_never_16 (by decide) (fun hc => ?_) (fun hc => ?_)
  · replace h := h.1 hc
    exact hko36 x2 ox2 S _ _ _ (lv_sub hl [1] rfl) hW hS h
  · replace h := h.2 hc
    refine m_iload_n (pc := 19) C.1 dX12_never_19 rfl hl 1 rfl ?_
    refine m_aload_n (pc := 20) C.1 dX12_never_20 rfl hl 0 rfl ?_
    refine m_iload_n (pc := 21) C.1 dX12_never_21 rfl hl 2 rfl ?_
    refine m_iconst (pc := 22) C.1 dX12_never_22 ?_
    refine m_callVi (pc := 23) C.1 C.2.2.1 hl.1 C.2.1 hW hS (As := [.int (mI x3), .int (mI 3)]) (rest := [.int (mI x2)]) (r := r0) (T_X12_ofSoap C.2.2.2.2.2.2 N r0 kr0 x3 ox3 3 (by decide : okI 3) h) kr0 rfl q_1671 q_1673 q_56 q_92 q_1674 pl_X12_ofSoap (by decide) (Nat.le_of_ble_eq_true rfl) dX12_never_23 (fun v1 S1 H locs ov1 h hW1 hS => ?_)
    refine m_iconst (pc := 26) C.1 dX12_never_26 ?_
    refine m_ixor (pc := 27) C.1 dX12_never_27 ?_
    refine m_iand (pc := 28) C.1 dX12_never_28 ?_
    refine m_istore_n (pc := 29) C.1 dX12_never_29 rfl hl (by decide) (fun v => [(2, .int v), (0, .ref (b + r0)), (3, .int (mI x3))]) (fun _ => rfl) (bAnd_ok _ _) (fun v2 ls ev2 ov2 hl => ?_)
    replace h := h v2 ev2
    refine m_iinc (pc := 30) C.1 dX12_never_30 hl (by decide) (q0 := 2) rfl (fun v => [(3, .int v), (2, .int (mI v2)), (0, .ref (b + r0))]) (fun _ => rfl) (fun v3 ls ev3 ov3 hl => ?_)
    replace h := h v3 ev3
    refine m_goto (pc := 33) (tgt := 9) C.1 dX12_never_33 (by decide) ?_
    exact hko9 r0 kr0 v2 ov2 v3 ov3 S1 _ _ _ (lv_sub hl [2, 1, 0] rfl) hW1 hS h
def w_X12_never_9 (N : Nat) (Q : mSt → Int → Prop) (ko36 : Int → mSt → Prop) : Nat → Nat → Int → Int → mSt → Prop
  | 0 => fun _ _ _ _ => False
  | k + 1 => w_X12_never_9b N Q (w_X12_never_9 N Q ko36 k) ko36
theorem W_X12_never_9 (C : mC p l s m args meth c cX12_never "MoonWashModel" 4 (some FieldType.int) g) (N : Nat) {Q : mSt → Int → Prop} {ko36 : Int → mSt → Prop} (hko36 : ∀ (x2 : Int) (ox2 : okI x2) (S : mSt) (H : Heap) (locs : List Loc) (ls : Array Slot), lv_has ls 4 [(2, .int (mI x2))] → mW g b KM S H → va_S (mA b KM s.heap.size) s.heap H locs → ko36 x2 S → W p l e { frames := 1, cells := 0, slots := 0, locals := 22 } s m args below meth c H locs 0 0 (vx_MQ below (mQi g b KM Q (mA b KM s.heap.size)) (mEx g b KM (fun _ _ => False) (mA b KM s.heap.size)) args s 0 0 (mA b KM s.heap.size)) (F0 m 36 ls [])) : ∀ (k : Nat) (r0 : Nat) (kr0 : KM r0 = (0, 10, 0)) (x2 : Int) (ox2 : okI x2) (x3 : Int) (ox3 : okI x3) (S : mSt) (H : Heap) (locs : List Loc) (ls : Array Slot) (hl : lv_has ls 4 [(0, .ref (b + r0)), (2, .int (mI x2)), (3, .int (mI x3))]) (hW : mW g b KM S H) (hS : va_S (mA b KM s.heap.size) s.heap H locs) (h : w_X12_never_9 N Q ko36 k r0 x2 x3 S), W p l e { frames := 1, cells := 0, slots := 0, locals := 22 } s m args below meth c H locs 0 0 (vx_MQ below (mQi g b KM Q (mA b KM s.heap.size)) (mEx g b KM (fun _ _ => False) (mA b KM s.heap.size)) args s 0 0 (mA b KM s.heap.size)) (F0 m 9 ls []) := by
  intro k
  induction k with
  | zero => intro r0 kr0 x2 ox2 x3 ox3 S H locs ls hl hW hS h; exact False.elim h
  | succ k ih => intro r0 kr0 x2 ox2 x3 ox3 S H locs ls hl hW hS h; exact W_X12_never_9b C N ih hko36 r0 kr0 x2 ox2 x3 ox3 S H locs ls hl hW hS h
end
def w_X12_never (N : Nat) (r0 : Nat) (x1 : Int) (S : mSt) (Q : mSt → Int → Prop) : Prop :=
  w_X12_of N r0 x1 3 S (fun (S1 : mSt) (v1 : Int) => ∀ v2 : Int, v2 = v1 → ∀ v3 : Int, v3 = 0 → w_X12_never_9 N Q (fun (x2_4 : Int) (S_4 : mSt) => Q S_4 x2_4) N r0 v2 v3 S1)
theorem T_X12_never {l : Launch} (hl0 : l.stackTraces = false) {g : mG} {b : Nat} (N : Nat) (r0 : Nat) (kr0 : KM r0 = (0, 10, 0)) (x1 : Int) (ox1 : okI x1) {S : mSt} {Q : mSt → Int → Prop} (h : w_X12_never N r0 x1 S Q) (sz : Nat) : vx_Met l yX12_never (Cond.code yX12_never cX12_never 4 (some FieldType.int) :: wsG) { frames := 1, cells := 0, slots := 0, locals := 22 } (mPc g b KM S [.ref (b + r0), .int (mI x1)] sz) (mQi g b KM Q (mA b KM sz)) (mEx g b KM (fun _ _ => False) (mA b KM sz)) 0 0 (mA b KM sz) :=
  m_of (av := [.ref (b + r0), .int (mI x1)]) (Qf := fun A => mQi g b KM Q A) (Xf := fun A => mEx g b KM (fun _ _ => False) A) (by decide) (Nat.le_of_ble_eq_true rfl) (fun p e s m args below meth c ls X hK hml hr hlk hout hnm hW hl => by
    have C : mC p l s m args meth c cX12_never "MoonWashModel" 4 (some FieldType.int) g := ⟨X, hK, hml, hr, hlk, hout, hl0⟩
    have hS : va_S (mA b KM s.heap.size) s.heap s.heap [] := va_S.rf
    have hl : lv_has ls 4 [(0, .ref (b + r0)), (1, .int (mI x1))] := hl
    unfold w_X12_never at h
    refine m_aload_n (pc := 0) C.1 dX12_never_0 rfl hl 0 rfl ?_
    refine m_iload_n (pc := 1) C.1 dX12_never_1 rfl hl 1 rfl ?_
    refine m_iconst (pc := 2) C.1 dX12_never_2 ?_
    refine m_callVi (pc := 3) C.1 C.2.2.1 hl.1 C.2.1 hW hS (As := [.int (mI x1), .int (mI 3)]) (rest := []) (r := r0) (T_X12_of C.2.2.2.2.2.2 N r0 kr0 x1 ox1 3 (by decide : okI 3) h) kr0 rfl q_1630 q_1632 q_48 q_92 q_1633 pl_X12_of (by decide) (Nat.le_of_ble_eq_true rfl) dX12_never_3 (fun v1 S1 H locs ov1 h hW1 hS => ?_)
    refine m_istore_n (pc := 6) C.1 dX12_never_6 rfl hl (by decide) (fun v => [(2, .int v), (0, .ref (b + r0)), (1, .int (mI x1))]) (fun _ => rfl) ov1 (fun v2 ls ev2 ov2 hl => ?_)
    replace h := h v2 ev2
    refine m_iconst (pc := 7) C.1 dX12_never_7 ?_
    refine m_istore_n (pc := 8) C.1 dX12_never_8 rfl hl (by decide) (fun v => [(3, .int v), (2, .int (mI v2)), (0, .ref (b + r0)), (1, .int (mI x1))]) (fun _ => rfl) (by decide : okI 0) (fun v3 ls ev3 ov3 hl => ?_)
    replace h := h v3 ev3
    refine W_X12_never_9 C N ?_ N r0 kr0 v2 ov2 v3 ov3 S1 _ _ _ (lv_sub hl [2, 1, 0] rfl) hW1 hS h
    · intro x2_4 ox2_4 S_4 H locs ls hl hW_4 hS h
      refine m_iload_n (pc := 36) C.1 dX12_never_36 rfl hl 0 rfl ?_
      exact m_iret (pc := 37) C.1 C.2.2.2.1 C.2.2.2.2.1 hW_4 hS ox2_4 h (by decide) (by decide) dX12_never_37) sz
section
variable {p : Program} {l : Launch} {e : Env} {s : State} {m : MethodId} {args : Array Value} {below : List Frame} {meth : Method} {c : Code} {g : mG} {b : Nat}
end
def w_X12_share (N : Nat) (r0 : Nat) (x1 : Int) (S : mSt) (Q : mSt → Int → Prop) : Prop :=
  w_X12_lightOfAll N r0 S (fun (S1 : mSt) (v1 : Int) => ∀ v2 : Int, v2 = v1 → ((v2 ≠ 0 → w_X12_lightOf N r0 x1 S1 (fun (S3 : mSt) (v3 : Int) => (v2 ≠ 0 ∧ Q S3 (iDiv (nm (100 * v3)) v2)))) ∧ (v2 = 0 → Q S1 0)))
theorem T_X12_share {l : Launch} (hl0 : l.stackTraces = false) {g : mG} {b : Nat} (N : Nat) (r0 : Nat) (kr0 : KM r0 = (0, 10, 0)) (x1 : Int) (ox1 : okI x1) {S : mSt} {Q : mSt → Int → Prop} (h : w_X12_share N r0 x1 S Q) (sz : Nat) : vx_Met l yX12_share (Cond.code yX12_share cX12_share 3 (some FieldType.int) :: wsG) { frames := 122, cells := 0, slots := 0, locals := 3206 } (mPc g b KM S [.ref (b + r0), .int (mI x1)] sz) (mQi g b KM Q (mA b KM sz)) (mEx g b KM (fun _ _ => False) (mA b KM sz)) 0 0 (mA b KM sz) :=
  m_of (av := [.ref (b + r0), .int (mI x1)]) (Qf := fun A => mQi g b KM Q A) (Xf := fun A => mEx g b KM (fun _ _ => False) A) (by decide) (Nat.le_of_ble_eq_true rfl) (fun p e s m args below meth c ls X hK hml hr hlk hout hnm hW hl => by
    have C : mC p l s m args meth c cX12_share "MoonWashModel" 3 (some FieldType.int) g := ⟨X, hK, hml, hr, hlk, hout, hl0⟩
    have hS : va_S (mA b KM s.heap.size) s.heap s.heap [] := va_S.rf
    have hl : lv_has ls 3 [(0, .ref (b + r0)), (1, .int (mI x1))] := hl
    unfold w_X12_share at h
    refine m_aload_n (pc := 0) C.1 dX12_share_0 rfl hl 0 rfl ?_
    refine m_callVi (pc := 1) C.1 C.2.2.1 hl.1 C.2.1 hW hS (As := []) (rest := []) (r := r0) (T_X12_lightOfAll C.2.2.2.2.2.2 N r0 kr0 h) kr0 rfl q_1663 q_1665 q_54 q_92 q_1666 pl_X12_lightOfAll (by decide) (Nat.le_of_ble_eq_true rfl) dX12_share_1 (fun v1 S1 H locs ov1 h hW1 hS => ?_)
    refine m_istore_n (pc := 4) C.1 dX12_share_4 rfl hl (by decide) (fun v => [(2, .int v), (0, .ref (b + r0)), (1, .int (mI x1))]) (fun _ => rfl) ov1 (fun v2 ls ev2 ov2 hl => ?_)
    replace h := h v2 ev2
    refine m_iload_n (pc := 5) C.1 dX12_share_5 rfl hl 0 rfl ?_
    refine m_if_ne (pc := 6) (tgt := 13) C.1 ov2 dX12_share_6 (by decide) (fun hc => ?_) (fun hc => ?_)
    · replace h := h.1 hc
      refine m_bipush (pc := 13) C.1 dX12_share_13 rfl ?_
      refine m_aload_n (pc := 15) C.1 dX12_share_15 rfl hl 1 rfl ?_
      refine m_iload_n (pc := 16) C.1 dX12_share_16 rfl hl 2 rfl ?_
      refine m_callVi (pc := 17) C.1 C.2.2.1 hl.1 C.2.1 hW1 hS (As := [.int (mI x1)]) (rest := [.int (mI 100)]) (r := r0) (T_X12_lightOf C.2.2.2.2.2.2 N r0 kr0 x1 ox1 h) kr0 rfl q_1634 q_1636 q_49 q_92 q_1637 pl_X12_lightOf (by decide) (Nat.le_of_ble_eq_true rfl) dX12_share_17 (fun v3 S3 H locs ov3 h hW3 hS => ?_)
      refine m_imul (pc := 20) C.1 dX12_share_20 ?_
      refine m_iload_n (pc := 21) C.1 dX12_share_21 rfl hl 0 rfl ?_
      obtain ⟨hz4, h⟩ := h
      refine m_idiv (pc := 22) C.1 ov2 hz4 dX12_share_22 ?_
      exact m_iret (pc := 23) C.1 C.2.2.2.1 C.2.2.2.2.1 hW3 hS (iDiv_ok _ _) h (by decide) (by decide) dX12_share_23
    · replace h := h.2 hc
      refine m_iconst (pc := 9) C.1 dX12_share_9 ?_
      refine m_goto (pc := 10) (tgt := 23) C.1 dX12_share_10 (by decide) ?_
      exact m_iret (pc := 23) C.1 C.2.2.2.1 C.2.2.2.2.1 hW1 hS (by decide : okI 0) h (by decide) (by decide) dX12_share_23) sz
section
variable {p : Program} {l : Launch} {e : Env} {s : State} {m : MethodId} {args : Array Value} {below : List Frame} {meth : Method} {c : Code} {g : mG} {b : Nat}
def w_X12_part__27 (N : Nat) (Q : mSt → Int → Prop)  (r0 : Nat) (x1 : Int) (x2 : Int) (xs0 : Int) (rs1 : Nat) (S : mSt) : Prop :=
  ∀ S1 : mSt, S1 = mup S rs1 0 xs0 → (((S1 r0 0) ≤ 0 → ((6 ≤ x2 → ((x2 ≠ 6 → ((x2 ≠ 7 → ((x2 ≠ 8 → ((x2 ≠ 9 → w_X12_never N r0 x1 S1 (fun (S2 : mSt) (v2 : Int) => Q S2 v2)) ∧ (x2 = 9 → w_X12_share N r0 x1 S1 (fun (S3 : mSt) (v3 : Int) => Q S3 v3)))) ∧ (x2 = 8 → w_X12_driesBy N r0 x1 S1 (fun (S4 : mSt) (v4 : Int) => Q S4 v4)))) ∧ (x2 = 7 → w_X12_whiteOf N r0 x1 S1 (fun (S5 : mSt) (v5 : Int) => Q S5 v5)))) ∧ (x2 = 6 → w_X12_lightOf N r0 x1 S1 (fun (S6 : mSt) (v6 : Int) => Q S6 v6)))) ∧ (x2 < 6 → w_X12_of N r0 x1 x2 S1 (fun (S7 : mSt) (v7 : Int) => Q S7 v7)))) ∧ (0 < (S1 r0 0) → Q S1 0))
theorem W_X12_part__27 (C : mC p l s m args meth c cX12_part_ "MoonWashModel" 3 (some FieldType.int) g) (N : Nat) {Q : mSt → Int → Prop}   (r0 : Nat) (kr0 : KM r0 = (0, 10, 0)) (x1 : Int) (ox1 : okI x1) (x2 : Int) (ox2 : okI x2) (xs0 : Int) (oxs0 : okI xs0) (rs1 : Nat) (krs1 : KM rs1 = (0, 10, 0)) (S : mSt) (H : Heap) (locs : List Loc) (ls : Array Slot) (hl : lv_has ls 3 [(0, .ref (b + r0)), (1, .int (mI x1)), (2, .int (mI x2))]) (hW : mW g b KM S H) (hS : va_S (mA b KM s.heap.size) s.heap H locs) (h : w_X12_part__27 N Q  r0 x1 x2 xs0 rs1 S) : W p l e { frames := 123, cells := 0, slots := 0, locals := 3228 } s m args below meth c H locs 0 0 (vx_MQ below (mQi g b KM Q (mA b KM s.heap.size)) (mEx g b KM (fun _ _ => False) (mA b KM s.heap.size)) args s 0 0 (mA b KM s.heap.size)) (F0 m 27 ls [.int (mI xs0), .ref (b + rs1)]) := by
  unfold w_X12_part__27 at h
  refine p_10_0 (pc := 27) C hW hS krs1 q_1383 oxs0 dX12_part__27 (fun S1 H locs e1 hW1 hS => ?_)
  replace h := h S1 e1
  refine m_aload_n (pc := 30) C.1 dX12_part__30 rfl hl 0 rfl ?_
  refine g_10_0 (pc := 31) C hW1 kr0 q_1383 dX12_part__31 ?_
  refine m_if_le (pc := 34) (tgt := 39) C.1 (hW1.2.1 _ _) dX12_part__34 (by decide) (fun hc => ?_) (fun hc => ?_)
  · replace h := h.1 hc
    refine m_iload_n (pc := 39) C.1 dX12_part__39 rfl hl 2 rfl ?_
    refine m_bipush (pc := 40) C.1 dX12_part__40 rfl ?_
    refine m_icmp_ge (pc := 42) (tgt := 52) C.1 ox2 (by decide : okI 6) dX12_part__42 (by decide) (fun hc => ?_) (fun hc => ?_)
    · replace h := h.1 hc
      refine m_iload_n (pc := 52) C.1 dX12_part__52 rfl hl 2 rfl ?_
      refine m_bipush (pc := 53) C.1 dX12_part__53 rfl ?_
      refine m_icmp_ne (pc := 55) (tgt := 64) C.1 ox2 (by decide : okI 6) dX12_part__55 (by decide) (fun hc => ?_) (fun hc => ?_)
      · replace h := h.1 hc
        refine m_iload_n (pc := 64) C.1 dX12_part__64 rfl hl 2 rfl ?_
        refine m_bipush (pc := 65) C.1 dX12_part__65 rfl ?_
        refine m_icmp_ne (pc := 67) (tgt := 76) C.1 ox2 (by decide : okI 7) dX12_part__67 (by decide) (fun hc => ?_) (fun hc => ?_)
        · replace h := h.1 hc
          refine m_iload_n (pc := 76) C.1 dX12_part__76 rfl hl 2 rfl ?_
          refine m_bipush (pc := 77) C.1 dX12_part__77 rfl ?_
          refine m_icmp_ne (pc := 79) (tgt := 90) C.1 ox2 (by decide : okI 8) dX12_part__79 (by decide) (fun hc => ?_) (fun hc => ?_)
          · replace h := h.1 hc
            refine m_iload_n (pc := 90) C.1 dX12_part__90 rfl hl 2 rfl ?_
            refine m_bipush (pc := 91) C.1 dX12_part__91 rfl ?_
            refine m_icmp_ne (pc := 93) (tgt := 104) C.1 ox2 (by decide : okI 9) dX12_part__93 (by decide) (fun hc => ?_) (fun hc => ?_)
            · replace h := h.1 hc
              refine m_aload_n (pc := 104) C.1 dX12_part__104 rfl hl 0 rfl ?_
              refine m_iload_n (pc := 105) C.1 dX12_part__105 rfl hl 1 rfl ?_
              refine m_callVi (pc := 106) C.1 C.2.2.1 hl.1 C.2.1 hW1 hS (As := [.int (mI x1)]) (rest := []) (r := r0) (T_X12_never C.2.2.2.2.2.2 N r0 kr0 x1 ox1 h) kr0 rfl q_1667 q_1669 q_55 q_92 q_1670 pl_X12_never (by decide) (Nat.le_of_ble_eq_true rfl) dX12_part__106 (fun v2 S2 H locs ov2 h hW2 hS => ?_)
              exact m_iret (pc := 109) C.1 C.2.2.2.1 C.2.2.2.2.1 hW2 hS ov2 h (by decide) (by decide) dX12_part__109
            · replace h := h.2 hc
              refine m_aload_n (pc := 96) C.1 dX12_part__96 rfl hl 0 rfl ?_
              refine m_iload_n (pc := 97) C.1 dX12_part__97 rfl hl 1 rfl ?_
              refine m_callVi (pc := 98) C.1 C.2.2.1 hl.1 C.2.1 hW1 hS (As := [.int (mI x1)]) (rest := []) (r := r0) (T_X12_share C.2.2.2.2.2.2 N r0 kr0 x1 ox1 h) kr0 rfl q_1659 q_1661 q_53 q_92 q_1662 pl_X12_share (by decide) (Nat.le_of_ble_eq_true rfl) dX12_part__98 (fun v3 S3 H locs ov3 h hW3 hS => ?_)
              refine m_goto (pc := 101) (tgt := 109) C.1 dX12_part__101 (by decide) ?_
              exact m_iret (pc := 109) C.1 C.2.2.2.1 C.2.2.2.2.1 hW3 hS ov3 h (by decide) (by decide) dX12_part__109
          · replace h := h.2 hc
            refine m_aload_n (pc := 82) C.1 dX12_part__82 rfl hl 0 rfl ?_
            refine m_iload_n (pc := 83) C.1 dX12_part__83 rfl hl 1 rfl ?_
            refine m_callVi (pc := 84) C.1 C.2.2.1 hl.1 C.2.1 hW1 hS (As := [.int (mI x1)]) (rest := []) (r := r0) (T_X12_driesBy C.2.2.2.2.2.2 N r0 kr0 x1 ox1 h) kr0 rfl q_1655 q_1657 q_52 q_92 q_1658 pl_X12_driesBy (by decide) (Nat.le_of_ble_eq_true rfl) dX12_part__84 (fun v4 S4 H locs ov4 h hW4 hS => ?_)
            refine m_goto (pc := 87) (tgt := 109) C.1 dX12_part__87 (by decide) ?_
            exact m_iret (pc := 109) C.1 C.2.2.2.1 C.2.2.2.2.1 hW4 hS ov4 h (by decide) (by decide) dX12_part__109
        · replace h := h.2 hc
          refine m_aload_n (pc := 70) C.1 dX12_part__70 rfl hl 0 rfl ?_
          refine m_iload_n (pc := 71) C.1 dX12_part__71 rfl hl 1 rfl ?_
          refine m_callVi (pc := 72) C.1 C.2.2.1 hl.1 C.2.1 hW1 hS (As := [.int (mI x1)]) (rest := []) (r := r0) (T_X12_whiteOf C.2.2.2.2.2.2 N r0 kr0 x1 ox1 h) kr0 rfl q_1638 q_1640 q_50 q_92 q_1641 pl_X12_whiteOf (by decide) (Nat.le_of_ble_eq_true rfl) dX12_part__72 (fun v5 S5 H locs ov5 h hW5 hS => ?_)
          exact m_iret (pc := 75) C.1 C.2.2.2.1 C.2.2.2.2.1 hW5 hS ov5 h (by decide) (by decide) dX12_part__75
      · replace h := h.2 hc
        refine m_aload_n (pc := 58) C.1 dX12_part__58 rfl hl 0 rfl ?_
        refine m_iload_n (pc := 59) C.1 dX12_part__59 rfl hl 1 rfl ?_
        refine m_callVi (pc := 60) C.1 C.2.2.1 hl.1 C.2.1 hW1 hS (As := [.int (mI x1)]) (rest := []) (r := r0) (T_X12_lightOf C.2.2.2.2.2.2 N r0 kr0 x1 ox1 h) kr0 rfl q_1634 q_1636 q_49 q_92 q_1637 pl_X12_lightOf (by decide) (Nat.le_of_ble_eq_true rfl) dX12_part__60 (fun v6 S6 H locs ov6 h hW6 hS => ?_)
        exact m_iret (pc := 63) C.1 C.2.2.2.1 C.2.2.2.2.1 hW6 hS ov6 h (by decide) (by decide) dX12_part__63
    · replace h := h.2 hc
      refine m_aload_n (pc := 45) C.1 dX12_part__45 rfl hl 0 rfl ?_
      refine m_iload_n (pc := 46) C.1 dX12_part__46 rfl hl 1 rfl ?_
      refine m_iload_n (pc := 47) C.1 dX12_part__47 rfl hl 2 rfl ?_
      refine m_callVi (pc := 48) C.1 C.2.2.1 hl.1 C.2.1 hW1 hS (As := [.int (mI x1), .int (mI x2)]) (rest := []) (r := r0) (T_X12_of C.2.2.2.2.2.2 N r0 kr0 x1 ox1 x2 ox2 h) kr0 rfl q_1630 q_1632 q_48 q_92 q_1633 pl_X12_of (by decide) (Nat.le_of_ble_eq_true rfl) dX12_part__48 (fun v7 S7 H locs ov7 h hW7 hS => ?_)
      exact m_iret (pc := 51) C.1 C.2.2.2.1 C.2.2.2.2.1 hW7 hS ov7 h (by decide) (by decide) dX12_part__51
  · replace h := h.2 hc
    refine m_iconst (pc := 37) C.1 dX12_part__37 ?_
    exact m_iret (pc := 38) C.1 C.2.2.2.1 C.2.2.2.2.1 hW1 hS (by decide : okI 0) h (by decide) (by decide) dX12_part__38
end
def w_X12_part_ (N : Nat) (r0 : Nat) (x1 : Int) (x2 : Int) (S : mSt) (Q : mSt → Int → Prop) : Prop :=
  w_X12_isPart N x1 S (fun (S1 : mSt) (v1 : Int) => ((v1 ≠ 0 → w_X12_isIn N x2 0 10 S1 (fun (S2 : mSt) (v2 : Int) => ((v2 ≠ 0 → w_X12_part__27 N Q  r0 x1 x2 0 r0 S2) ∧ (v2 = 0 → w_X12_part__27 N Q  r0 x1 x2 2 r0 S2)))) ∧ (v1 = 0 → w_X12_part__27 N Q  r0 x1 x2 1 r0 S1)))
theorem T_X12_part_ {l : Launch} (hl0 : l.stackTraces = false) {g : mG} {b : Nat} (N : Nat) (r0 : Nat) (kr0 : KM r0 = (0, 10, 0)) (x1 : Int) (ox1 : okI x1) (x2 : Int) (ox2 : okI x2) {S : mSt} {Q : mSt → Int → Prop} (h : w_X12_part_ N r0 x1 x2 S Q) (sz : Nat) : vx_Met l yX12_part_ (Cond.code yX12_part_ cX12_part_ 3 (some FieldType.int) :: wsG) { frames := 123, cells := 0, slots := 0, locals := 3228 } (mPc g b KM S [.ref (b + r0), .int (mI x1), .int (mI x2)] sz) (mQi g b KM Q (mA b KM sz)) (mEx g b KM (fun _ _ => False) (mA b KM sz)) 0 0 (mA b KM sz) :=
  m_of (av := [.ref (b + r0), .int (mI x1), .int (mI x2)]) (Qf := fun A => mQi g b KM Q A) (Xf := fun A => mEx g b KM (fun _ _ => False) A) (by decide) (Nat.le_of_ble_eq_true rfl) (fun p e s m args below meth c ls X hK hml hr hlk hout hnm hW hl => by
    have C : mC p l s m args meth c cX12_part_ "MoonWashModel" 3 (some FieldType.int) g := ⟨X, hK, hml, hr, hlk, hout, hl0⟩
    have hS : va_S (mA b KM s.heap.size) s.heap s.heap [] := va_S.rf
    have hl : lv_has ls 3 [(0, .ref (b + r0)), (1, .int (mI x1)), (2, .int (mI x2))] := hl
    unfold w_X12_part_ at h
    refine m_aload_n (pc := 0) C.1 dX12_part__0 rfl hl 0 rfl ?_
    refine m_iload_n (pc := 1) C.1 dX12_part__1 rfl hl 1 rfl ?_
    refine m_callSi (pc := 2) C.1 C.2.2.1 hl.1 C.2.1 hW hS (As := [.int (mI x1)]) (rest := [.ref (b + r0)]) (T_X12_isPart C.2.2.2.2.2.2 N x1 ox1 h) q_1627 q_1628 q_92 q_1629 pl_X12_isPart (by decide) (Nat.le_of_ble_eq_true rfl) dX12_part__2 (fun v1 S1 H locs ov1 h hW1 hS => ?_)
    refine m_if_ne (pc := 5) (tgt := 12) C.1 ov1 dX12_part__5 (by decide) (fun hc => ?_) (fun hc => ?_)
    · replace h := h.1 hc
      refine m_iload_n (pc := 12) C.1 dX12_part__12 rfl hl 2 rfl ?_
      refine m_iconst (pc := 13) C.1 dX12_part__13 ?_
      refine m_bipush (pc := 14) C.1 dX12_part__14 rfl ?_
      refine m_callSi (pc := 16) C.1 C.2.2.1 hl.1 C.2.1 hW1 hS (As := [.int (mI x2), .int (mI 0), .int (mI 10)]) (rest := [.ref (b + r0)]) (T_X12_isIn C.2.2.2.2.2.2 N x2 ox2 0 (by decide : okI 0) 10 (by decide : okI 10) h) q_1475 q_1476 q_92 q_1477 pl_X12_isIn (by decide) (Nat.le_of_ble_eq_true rfl) dX12_part__16 (fun v2 S2 H locs ov2 h hW2 hS => ?_)
      refine m_if_ne (pc := 19) (tgt := 26) C.1 ov2 dX12_part__19 (by decide) (fun hc => ?_) (fun hc => ?_)
      · replace h := h.1 hc
        refine m_iconst (pc := 26) C.1 dX12_part__26 ?_
        exact W_X12_part__27 C N  r0 kr0 x1 ox1 x2 ox2 0 (by decide : okI 0) r0 kr0 S2 _ _ _ (lv_sub hl [0, 1, 2] rfl) hW2 hS h
      · replace h := h.2 hc
        refine m_iconst (pc := 22) C.1 dX12_part__22 ?_
        refine m_goto (pc := 23) (tgt := 27) C.1 dX12_part__23 (by decide) ?_
        exact W_X12_part__27 C N  r0 kr0 x1 ox1 x2 ox2 2 (by decide : okI 2) r0 kr0 S2 _ _ _ (lv_sub hl [0, 1, 2] rfl) hW2 hS h
    · replace h := h.2 hc
      refine m_iconst (pc := 8) C.1 dX12_part__8 ?_
      refine m_goto (pc := 9) (tgt := 27) C.1 dX12_part__9 (by decide) ?_
      exact W_X12_part__27 C N  r0 kr0 x1 ox1 x2 ox2 1 (by decide : okI 1) r0 kr0 S1 _ _ _ (lv_sub hl [0, 1, 2] rfl) hW1 hS h) sz
