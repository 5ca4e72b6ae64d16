set_option maxHeartbeats 4000000
set_option maxRecDepth 20000
section
variable {p : Program} {l : Launch} {e : Env} {s : State} {m : MethodId} {args : Array Value} {below : List Frame} {meth : Method} {c : Code} {g : mG} {b : Nat}
def w_X3_sumOf_85 (N : Nat) (Q : mSt → Int → Prop) (ko12 : Nat → Int → Nat → Int → Int → Int → Int → Int → mSt → Prop) (r0 : Nat) (x1 : Int) (r2 : Nat) (x3 : Int) (x4 : Int) (x6 : Int) (x7 : Int) (S : mSt) : Prop :=
  (0 ≤ x7 ∧ x7 < 12 ∧ ∀ v2 : Int, v2 = (S (r0 + 3) x7) → ∀ v3 : Int, v3 = nm (x7 + 1) → ko12 r0 x1 r2 x3 x4 v2 x6 v3 S)
theorem W_X3_sumOf_85 (C : mC p l s m args meth c cX3_sumOf "MoonWash$Law" 8 (some FieldType.int) g) (N : Nat) {Q : mSt → Int → Prop} {ko12 : Nat → Int → Nat → Int → Int → Int → Int → Int → mSt → Prop} (hko12 : ∀ (r0 : Nat) (kr0 : KX r0 = (0, 2, 0)) (x1 : Int) (ox1 : okI x1) (r2 : Nat) (kr2 : KX r2 = (0, 3, 0)) (x3 : Int) (ox3 : okI x3) (x4 : Int) (ox4 : okI x4) (x5 : Int) (ox5 : okI x5) (x6 : Int) (ox6 : okI x6) (x7 : Int) (ox7 : okI x7) (S : mSt) (H : Heap) (locs : List Loc) (ls : Array Slot), lv_has ls 8 [(0, .ref (b + r0)), (1, .int (mI x1)), (2, .ref (b + r2)), (3, .int (mI x3)), (4, .int (mI x4)), (5, .int (mI x5)), (6, .int (mI x6)), (7, .int (mI x7))] → mW g b KX S H → va_S (mA b KX s.heap.size) s.heap H locs → ko12 r0 x1 r2 x3 x4 x5 x6 x7 S → W p l e { frames := 2, cells := 0, slots := 0, locals := 47 } s m args below meth c H locs 0 0 (vx_MQ below (mQi g b KX Q (mA b KX s.heap.size)) (mEx g b KX (fun _ _ => False) (mA b KX s.heap.size)) args s 0 0 (mA b KX s.heap.size)) (F0 m 12 ls [])) (r0 : Nat) (kr0 : KX r0 = (0, 2, 0)) (x1 : Int) (ox1 : okI x1) (r2 : Nat) (kr2 : KX r2 = (0, 3, 0)) (x3 : Int) (ox3 : okI x3) (x4 : Int) (ox4 : okI x4) (x6 : Int) (ox6 : okI x6) (x7 : Int) (ox7 : okI x7) (S : mSt) (H : Heap) (locs : List Loc) (ls : Array Slot) (hl : lv_has ls 8 [(0, .ref (b + r0)), (1, .int (mI x1)), (2, .ref (b + r2)), (3, .int (mI x3)), (4, .int (mI x4)), (6, .int (mI x6)), (7, .int (mI x7))]) (hW : mW g b KX S H) (hS : va_S (mA b KX s.heap.size) s.heap H locs) (h : w_X3_sumOf_85 N Q ko12 r0 x1 r2 x3 x4 x6 x7 S) : W p l e { frames := 2, cells := 0, slots := 0, locals := 47 } s m args below meth c H locs 0 0 (vx_MQ below (mQi g b KX Q (mA b KX s.heap.size)) (mEx g b KX (fun _ _ => False) (mA b KX s.heap.size)) args s 0 0 (mA b KX s.heap.size)) (F0 m 85 ls []) := by
  unfold w_X3_sumOf_85 at h
  refine m_aload_n (pc := 85) C.1 dX3_sumOf_85 rfl hl 0 rfl ?_
  refine g_2_3 (pc := 86) C hW kr0 q_252 dX3_sumOf_86 ?_
  refine m_iload (pc := 89) C.1 dX3_sumOf_89 hl 6 rfl ?_
  obtain ⟨hb1a, hb1b, h⟩ := h
  refine m_iald (pc := 91) C.1 C.2.1 hW (k_2_3 kr0) ox7 hb1a hb1b dX3_sumOf_91 ?_
  refine m_istore (pc := 92) C.1 dX3_sumOf_92 hl (by decide) (fun v => [(5, .int v), (0, .ref (b + r0)), (1, .int (mI x1)), (2, .ref (b + r2)), (3, .int (mI x3)), (4, .int (mI x4)), (6, .int (mI x6)), (7, .int (mI x7))]) (fun _ => rfl) (hW.2.1 _ _) (fun v2 ls ev2 ov2 hl => ?_)
  replace h := h v2 ev2
  refine m_iinc (pc := 94) C.1 dX3_sumOf_94 hl (by decide) (q0 := 7) rfl (fun v => [(7, .int v), (5, .int (mI v2)), (0, .ref (b + r0)), (1, .int (mI x1)), (2, .ref (b + r2)), (3, .int (mI x3)), (4, .int (mI x4)), (6, .int (mI x6))]) (fun _ => rfl) (fun v3 ls ev3 ov3 hl => ?_)
  replace h := h v3 ev3
  refine m_goto (pc := 97) (tgt := 12) C.1 dX3_sumOf_97 (by decide) ?_
  exact hko12 r0 kr0 x1 ox1 r2 kr2 x3 ox3 x4 ox4 v2 ov2 x6 ox6 v3 ov3 S _ _ _ (lv_sub hl [2, 3, 4, 5, 6, 1, 7, 0] rfl) hW hS h
def w_X3_sumOf_82 (N : Nat) (Q : mSt → Int → Prop) (ko12 : Nat → Int → Nat → Int → Int → Int → Int → Int → mSt → Prop) (r0 : Nat) (x1 : Int) (r2 : Nat) (x3 : Int) (x6 : Int) (x7 : Int) (xs0 : Int) (xs1 : Int) (S : mSt) : Prop :=
  ∀ v1 : Int, v1 = (nm (xs1 + xs0)) → w_X3_sumOf_85 N Q ko12 r0 x1 r2 x3 v1 x6 x7 S
theorem W_X3_sumOf_82 (C : mC p l s m args meth c cX3_sumOf "MoonWash$Law" 8 (some FieldType.int) g) (N : Nat) {Q : mSt → Int → Prop} {ko12 : Nat → Int → Nat → Int → Int → Int → Int → Int → mSt → Prop} (hko12 : ∀ (r0 : Nat) (kr0 : KX r0 = (0, 2, 0)) (x1 : Int) (ox1 : okI x1) (r2 : Nat) (kr2 : KX r2 = (0, 3, 0)) (x3 : Int) (ox3 : okI x3) (x4 : Int) (ox4 : okI x4) (x5 : Int) (ox5 : okI x5) (x6 : Int) (ox6 : okI x6) (x7 : Int) (ox7 : okI x7) (S : mSt) (H : Heap) (locs : List Loc) (ls : Array Slot), lv_has ls 8 [(0, .ref (b + r0)), (1, .int (mI x1)), (2, .ref (b + r2)), (3, .int (mI x3)), (4, .int (mI x4)), (5, .int (mI x5)), (6, .int (mI x6)), (7, .int (mI x7))] → mW g b KX S H → va_S (mA b KX s.heap.size) s.heap H locs → ko12 r0 x1 r2 x3 x4 x5 x6 x7 S → W p l e { frames := 2, cells := 0, slots := 0, locals := 47 } s m args below meth c H locs 0 0 (vx_MQ below (mQi g b KX Q (mA b KX s.heap.size)) (mEx g b KX (fun _ _ => False) (mA b KX s.heap.size)) args s 0 0 (mA b KX s.heap.size)) (F0 m 12 ls [])) (r0 : Nat) (kr0 : KX r0 = (0, 2, 0)) (x1 : Int) (ox1 : okI x1) (r2 : Nat) (kr2 : KX r2 = (0, 3, 0)) (x3 : Int) (ox3 : okI x3) (x6 : Int) (ox6 : okI x6) (x7 : Int) (ox7 : okI x7) (xs0 : Int) (oxs0 : okI xs0) (xs1 : Int) (oxs1 : okI xs1) (S : mSt) (H : Heap) (locs : List Loc) (ls : Array Slot) (hl : lv_has ls 8 [(0, .ref (b + r0)), (1, .int (mI x1)), (2, .ref (b + r2)), (3, .int (mI x3)), (6, .int (mI x6)), (7, .int (mI x7))]) (hW : mW g b KX S H) (hS : va_S (mA b KX s.heap.size) s.heap H locs) (h : w_X3_sumOf_82 N Q ko12 r0 x1 r2 x3 x6 x7 xs0 xs1 S) : W p l e { frames := 2, cells := 0, slots := 0, locals := 47 } s m args below meth c H locs 0 0 (vx_MQ below (mQi g b KX Q (mA b KX s.heap.size)) (mEx g b KX (fun _ _ => False) (mA b KX s.heap.size)) args s 0 0 (mA b KX s.heap.size)) (F0 m 82 ls [.int (mI xs0), .int (mI xs1)]) := by
  unfold w_X3_sumOf_82 at h
  refine m_iadd (pc := 82) C.1 dX3_sumOf_82 ?_
  refine m_istore (pc := 83) C.1 dX3_sumOf_83 hl (by decide) (fun v => [(4, .int v), (0, .ref (b + r0)), (1, .int (mI x1)), (2, .ref (b + r2)), (3, .int (mI x3)), (6, .int (mI x6)), (7, .int (mI x7))]) (fun _ => rfl) (nm_ok _) (fun v1 ls ev1 ov1 hl => ?_)
  replace h := h v1 ev1
  exact W_X3_sumOf_85 C N hko12 r0 kr0 x1 ox1 r2 kr2 x3 ox3 v1 ov1 x6 ox6 x7 ox7 S _ _ _ (lv_sub hl [1, 2, 3, 4, 0, 5, 6] rfl) hW hS h
def w_X3_sumOf_53 (N : Nat) (Q : mSt → Int → Prop) (ko12 : Nat → Int → Nat → Int → Int → Int → Int → Int → mSt → Prop) (r0 : Nat) (x1 : Int) (r2 : Nat) (x3 : Int) (x4 : Int) (x5 : Int) (x6 : Int) (x7 : Int) (S : mSt) : Prop :=
  (0 ≤ x7 ∧ x7 < 12 ∧ w_X3_holds N r0 x5 (S (r0 + 3) x7) S (fun (S2 : mSt) (v2 : Int) => ((v2 = 0 → w_X3_sumOf_82 N Q ko12 r0 x1 r2 x3 x6 x7 0 x4 S2) ∧ (v2 ≠ 0 → (0 ≤ x7 ∧ x7 < 12 ∧ w_X3_sumOf_82 N Q ko12 r0 x1 r2 x3 x6 x7 (S2 (r0 + 2) x7) x4 S2)))))
theorem W_X3_sumOf_53 (C : mC p l s m args meth c cX3_sumOf "MoonWash$Law" 8 (some FieldType.int) g) (N : Nat) {Q : mSt → Int → Prop} {ko12 : Nat → Int → Nat → Int → Int → Int → Int → Int → mSt → Prop} (hko12 : ∀ (r0 : Nat) (kr0 : KX r0 = (0, 2, 0)) (x1 : Int) (ox1 : okI x1) (r2 : Nat) (kr2 : KX r2 = (0, 3, 0)) (x3 : Int) (ox3 : okI x3) (x4 : Int) (ox4 : okI x4) (x5 : Int) (ox5 : okI x5) (x6 : Int) (ox6 : okI x6) (x7 : Int) (ox7 : okI x7) (S : mSt) (H : Heap) (locs : List Loc) (ls : Array Slot), lv_has ls 8 [(0, .ref (b + r0)), (1, .int (mI x1)), (2, .ref (b + r2)), (3, .int (mI x3)), (4, .int (mI x4)), (5, .int (mI x5)), (6, .int (mI x6)), (7, .int (mI x7))] → mW g b KX S H → va_S (mA b KX s.heap.size) s.heap H locs → ko12 r0 x1 r2 x3 x4 x5 x6 x7 S → W p l e { frames := 2, cells := 0, slots := 0, locals := 47 } s m args below meth c H locs 0 0 (vx_MQ below (mQi g b KX Q (mA b KX s.heap.size)) (mEx g b KX (fun _ _ => False) (mA b KX s.heap.size)) args s 0 0 (mA b KX s.heap.size)) (F0 m 12 ls [])) (r0 : Nat) (kr0 : KX r0 = (0, 2, 0)) (x1 : Int) (ox1 : okI x1) (r2 : Nat) (kr2 : KX r2 = (0, 3, 0)) (x3 : Int) (ox3 : okI x3) (x4 : Int) (ox4 : okI x4) (x5 : Int) (ox5 : okI x5) (x6 : Int) (ox6 : okI x6) (x7 : Int) (ox7 : okI x7) (S : mSt) (H : Heap) (locs : List Loc) (ls : Array Slot) (hl : lv_has ls 8 [(0, .ref (b + r0)), (1, .int (mI x1)), (2, .ref (b + r2)), (3, .int (mI x3)), (4, .int (mI x4)), (5, .int (mI x5)), (6, .int (mI x6)), (7, .int (mI x7))]) (hW : mW g b KX S H) (hS : va_S (mA b KX s.heap.size) s.heap H locs) (h : w_X3_sumOf_53 N Q ko12 r0 x1 r2 x3 x4 x5 x6 x7 S) : W p l e { frames := 2, cells := 0, slots := 0, locals := 47 } s m args below meth c H locs 0 0 (vx_MQ below (mQi g b KX Q (mA b KX s.heap.size)) (mEx g b KX (fun _ _ => False) (mA b KX s.heap.size)) args s 0 0 (mA b KX s.heap.size)) (F0 m 53 ls []) := by
  unfold w_X3_sumOf_53 at h
  refine m_iload (pc := 53) C.1 dX3_sumOf_53 hl 4 rfl ?_
  refine m_aload_n (pc := 55) C.1 dX3_sumOf_55 rfl hl 0 rfl ?_
  refine m_iload (pc := 56) C.1 dX3_sumOf_56 hl 5 rfl ?_
  refine m_aload_n (pc := 58) C.1 dX3_sumOf_58 rfl hl 0 rfl ?_
  refine g_2_3 (pc := 59) C hW kr0 q_252 dX3_sumOf_59 ?_
  refine m_iload (pc := 62) C.1 dX3_sumOf_62 hl 7 rfl ?_
  obtain ⟨hb1a, hb1b, h⟩ := h
  refine m_iald (pc := 64) C.1 C.2.1 hW (k_2_3 kr0) ox7 hb1a hb1b dX3_sumOf_64 ?_
  refine m_callVi (pc := 65) C.1 C.2.2.1 hl.1 C.2.1 hW hS (As := [.int (mI x5), .int (mI (S (r0 + 3) x7))]) (rest := [.int (mI x4)]) (r := r0) (T_X3_holds C.2.2.2.2.2.2 N r0 kr0 x5 ox5 (S (r0 + 3) x7) (hW.2.1 _ _) h) kr0 rfl q_512 q_514 q_3 q_84 q_515 pl_X3_holds (by decide) (Nat.le_of_ble_eq_true rfl) dX3_sumOf_65 (fun v2 S2 H locs ov2 h hW2 hS => ?_)
  refine m_if_eq (pc := 68) (tgt := 81) C.1 ov2 dX3_sumOf_68 (by decide) (fun hc => ?_) (fun hc => ?_)
  · replace h := h.1 hc
    refine m_iconst (pc := 81) C.1 dX3_sumOf_81 ?_
    exact W_X3_sumOf_82 C N hko12 r0 kr0 x1 ox1 r2 kr2 x3 ox3 x6 ox6 x7 ox7 0 (by decide : okI 0) x4 ox4 S2 _ _ _ (lv_sub hl [0, 1, 2, 3, 6, 7] rfl) hW2 hS h
  · replace h := h.2 hc
    refine m_aload_n (pc := 71) C.1 dX3_sumOf_71 rfl hl 0 rfl ?_
    refine g_2_2 (pc := 72) C hW2 kr0 q_251 dX3_sumOf_72 ?_
    refine m_iload (pc := 75) C.1 dX3_sumOf_75 hl 7 rfl ?_
    obtain ⟨hb3a, hb3b, h⟩ := h
    refine m_iald (pc := 77) C.1 C.2.1 hW2 (k_2_2 kr0) ox7 hb3a hb3b dX3_sumOf_77 ?_
    refine m_goto (pc := 78) (tgt := 82) C.1 dX3_sumOf_78 (by decide) ?_
    exact W_X3_sumOf_82 C N hko12 r0 kr0 x1 ox1 r2 kr2 x3 ox3 x6 ox6 x7 ox7 (S2 (r0 + 2) x7) (hW2.2.1 _ _) x4 ox4 S2 _ _ _ (lv_sub hl [0, 1, 2, 3, 6, 7] rfl) hW2 hS h
def w_X3_sumOf_12b (N : Nat) (Q : mSt → Int → Prop) (ko12 : Nat → Int → Nat → Int → Int → Int → Int → Int → mSt → Prop) (ko100 : Int → mSt → Prop) (r0 : Nat) (x1 : Int) (r2 : Nat) (x3 : Int) (x4 : Int) (x5 : Int) (x6 : Int) (x7 : Int) (S : mSt) : Prop :=
  (((S r0 0) ≤ x7 → ko100 x4 S) ∧ (x7 < (S r0 0) → ((12 ≤ x7 → ko100 x4 S) ∧ (x7 < 12 → (0 ≤ x7 ∧ x7 < 12 ∧ (((S (r0 + 1) x7) ≠ x1 → w_X3_sumOf_85 N Q ko12 r0 x1 r2 x3 x4 x6 x7 S) ∧ ((S (r0 + 1) x7) = x1 → ((x6 ≠ 0 → w_X3_sumOf_53 N Q ko12 r0 x1 r2 x3 x4 x5 x6 x7 S) ∧ (x6 = 0 → w_X3_look N r0 r2 x3 S (fun (S2 : mSt) => ∀ v3 : Int, v3 = 1 → w_X3_sumOf_53 N Q ko12 r0 x1 r2 x3 x4 x5 v3 x7 S2))))))))))
theorem W_X3_sumOf_12b (C : mC p l s m args meth c cX3_sumOf "MoonWash$Law" 8 (some FieldType.int) g) (N : Nat) {Q : mSt → Int → Prop} {ko12 : Nat → Int → Nat → Int → Int → Int → Int → Int → mSt → Prop} {ko100 : Int → mSt → Prop} (hko12 : ∀ (r0 : Nat) (kr0 : KX r0 = (0, 2, 0)) (x1 : Int) (ox1 : okI x1) (r2 : Nat) (kr2 : KX r2 = (0, 3, 0)) (x3 : Int) (ox3 : okI x3) (x4 : Int) (ox4 : okI x4) (x5 : Int) (ox5 : okI x5) (x6 : Int) (ox6 : okI x6) (x7 : Int) (ox7 : okI x7) (S : mSt) (H : Heap) (locs : List Loc) (ls : Array Slot), lv_has ls 8 [(0, .ref (b + r0)), (1, .int (mI x1)), (2, .ref (b + r2)), (3, .int (mI x3)), (4, .int (mI x4)), (5, .int (mI x5)), (6, .int (mI x6)), (7, .int (mI x7))] → mW g b KX S H → va_S (mA b KX s.heap.size) s.heap H locs → ko12 r0 x1 r2 x3 x4 x5 x6 x7 S → W p l e { frames := 2, cells := 0, slots := 0, locals := 47 } s m args below meth c H locs 0 0 (vx_MQ below (mQi g b KX Q (mA b KX s.heap.size)) (mEx g b KX (fun _ _ => False) (mA b KX s.heap.size)) args s 0 0 (mA b KX s.heap.size)) (F0 m 12 ls [])) (hko100 : ∀ (x4 : Int) (ox4 : okI x4) (S : mSt) (H : Heap) (locs : List Loc) (ls : Array Slot), lv_has ls 8 [(4, .int (mI x4))] → mW g b KX S H → va_S (mA b KX s.heap.size) s.heap H locs → ko100 x4 S → W p l e { frames := 2, cells := 0, slots := 0, locals := 47 } s m args below meth c H locs 0 0 (vx_MQ below (mQi g b KX Q (mA b KX s.heap.size)) (mEx g b KX (fun _ _ => False) (mA b KX s.heap.size)) args s 0 0 (mA b KX s.heap.size)) (F0 m 100 ls [])) (r0 : Nat) (kr0 : KX r0 = (0, 2, 0)) (x1 : Int) (ox1 : okI x1) (r2 : Nat) (kr2 : KX r2 = (0, 3, 0)) (x3 : Int) (ox3 : okI x3) (x4 : Int) (ox4 : okI x4) (x5 : Int) (ox5 : okI x5) (x6 : Int) (ox6 : okI x6) (x7 : Int) (ox7 : okI x7) (S : mSt) (H : Heap) (locs : List Loc) (ls : Array Slot) (hl : lv_has ls 8 [(0, .ref (b + r0)), (1, .int (mI x1)), (2, .ref (b + r2)), (3, .int (mI x3)), (4, .int (mI x4)), (5, .int (mI x5)), (6, .int (mI x6)), (7, .int (mI x7))]) (hW : mW g b KX S H) (hS : va_S (mA b KX s.heap.size) s.heap H locs) (h : w_X3_sumOf_12b N Q ko12 ko100 r0 x1 r2 x3 x4 x5 x6 x7 S) : W p l e { frames := 2, cells := 0, slots := 0, locals := 47 } s m args below meth c H locs 0 0 (vx_MQ below (mQi g b KX Q (mA b KX s.heap.size)) (mEx g b KX (fun _ _ => False) (mA b KX s.heap.size)) args s 0 0 (mA b KX s.heap.size)) (F0 m 12 ls []) := by
  unfold w_X3_sumOf_12b at h
  refine m_iload (pc := 12) C.1 dX3_sumOf_12 hl 7 rfl ?_
  refine m_aload_n (pc := 14) C.1 dX3_sumOf_14 rfl hl 0 rfl ?_
  refine g_2_0 (pc := 15) C hW kr0 q_248 dX3_sumOf_15 ?_
  refine m_icmp_ge (pc := 18) (tgt := 100) C.1 ox7 (hW.2.1 _ _) dX3_sumOf_18 (by decide) (fun hc => ?_) (fun hc => ?_)
  · replace h := h.1 hc
    exact hko100 x4 ox4 S _ _ _ (lv_sub hl [4] rfl) hW hS h
  · replace h := h.2 hc
    refine m_iload (pc := 21) C.1 dX3_sumOf_21 hl 7 rfl ?_
    refine m_bipush (pc := 23) C.1 dX3_sumOf_23 rfl ?_
    refine m_icmp_ge (pc := 25) (tgt := 100) C.1 ox7 (by decide : okI 12) dX3_sumOf_25 (by decide) (fun hc => ?_) (fun hc => ?_)
    · replace h := h.1 hc
      exact hko100 x4 ox4 S _ _ _ (lv_sub hl [4] rfl) hW hS h
    · replace h := h.2 hc
      refine m_aload_n (pc := 28) C.1 dX3_sumOf_28 rfl hl 0 rfl ?_
      refine g_2_1 (pc := 29) C hW kr0 q_250 dX3_sumOf_29 ?_
      refine m_iload (pc := 32) C.1 dX3_sumOf_32 hl 7 rfl ?_
      obtain ⟨hb1a, hb1b, h⟩ := h
      refine m_iald (pc := 34) C.1 C.2.1 hW (k_2_1 kr0) ox7 hb1a hb1b dX3_sumOf_34 ?_
      refine m_iload_n (pc := 35) C.1 dX3_sumOf_35 rfl hl 1 rfl ?_
      refine m_icmp_ne (pc := 36) (tgt := 85) C.1 (hW.2.1 _ _) ox1 dX3_sumOf_36 (by decide) (fun hc => ?_) (fun hc => ?_)
      · replace h := h.1 hc
        exact W_X3_sumOf_85 C N hko12 r0 kr0 x1 ox1 r2 kr2 x3 ox3 x4 ox4 x6 ox6 x7 ox7 S _ _ _ (lv_sub hl [0, 1, 2, 3, 4, 6, 7] rfl) hW hS h
      · replace h := h.2 hc
        refine m_iload (pc := 39) C.1 dX3_sumOf_39 hl 6 rfl ?_
        refine m_if_ne (pc := 41) (tgt := 53) C.1 ox6 dX3_sumOf_41 (by decide) (fun hc => ?_) (fun hc => ?_)
        · replace h := h.1 hc
          exact W_X3_sumOf_53 C N hko12 r0 kr0 x1 ox1 r2 kr2 x3 ox3 x4 ox4 x5 ox5 x6 ox6 x7 ox7 S _ _ _ (lv_sub hl [0, 1, 2, 3, 4, 5, 6, 7] rfl) hW hS h
        · replace h := h.2 hc
          refine m_aload_n (pc := 44) C.1 dX3_sumOf_44 rfl hl 0 rfl ?_
          refine m_aload_n (pc := 45) C.1 dX3_sumOf_45 rfl hl 2 rfl ?_
          refine m_iload_n (pc := 46) C.1 dX3_sumOf_46 rfl hl 3 rfl ?_
          refine m_callVv (pc := 47) C.1 C.2.2.1 hl.1 C.2.1 hW hS (As := [.ref (b + r2), .int (mI x3)]) (rest := []) (r := r0) (T_X3_look C.2.2.2.2.2.2 N r0 kr0 r2 kr2 x3 ox3 h) kr0 rfl q_502 q_504 q_2 q_84 q_505 pl_X3_look (by decide) (Nat.le_of_ble_eq_true rfl) dX3_sumOf_47 (fun S2 H locs h hW2 hS => ?_)
          refine m_iconst (pc := 50) C.1 dX3_sumOf_50 ?_
          refine m_istore (pc := 51) C.1 dX3_sumOf_51 hl (by decide) (fun v => [(6, .int v), (0, .ref (b + r0)), (1, .int (mI x1)), (2, .ref (b + r2)), (3, .int (mI x3)), (4, .int (mI x4)), (5, .int (mI x5)), (7, .int (mI x7))]) (fun _ => rfl) (by decide : okI 1) (fun v3 ls ev3 ov3 hl => ?_)
          replace h := h v3 ev3
          exact W_X3_sumOf_53 C N hko12 r0 kr0 x1 ox1 r2 kr2 x3 ox3 x4 ox4 x5 ox5 v3 ov3 x7 ox7 S2 _ _ _ (lv_sub hl [1, 2, 3, 4, 5, 6, 0, 7] rfl) hW2 hS h
def w_X3_sumOf_12 (N : Nat) (Q : mSt → Int → Prop) (ko100 : Int → mSt → Prop) : Nat → Nat → Int → Nat → Int → Int → Int → Int → Int → mSt → Prop
  | 0 => fun _ _ _ _ _ _ _ _ _ => False
  | k + 1 => w_X3_sumOf_12b N Q (w_X3_sumOf_12 N Q ko100 k) ko100
theorem W_X3_sumOf_12 (C : mC p l s m args meth c cX3_sumOf "MoonWash$Law" 8 (some FieldType.int) g) (N : Nat) {Q : mSt → Int → Prop} {ko100 : Int → mSt → Prop} (hko100 : ∀ (x4 : Int) (ox4 : okI x4) (S : mSt) (H : Heap) (locs : List Loc) (ls : Array Slot), lv_has ls 8 [(4, .int (mI x4))] → mW g b KX S H → va_S (mA b KX s.heap.size) s.heap H locs → ko100 x4 S → W p l e { frames := 2, cells := 0, slots := 0, locals := 47 } s m args below meth c H locs 0 0 (vx_MQ below (mQi g b KX Q (mA b KX s.heap.size)) (mEx g b KX (fun _ _ => False) (mA b KX s.heap.size)) args s 0 0 (mA b KX s.heap.size)) (F0 m 100 ls [])) : ∀ (k : Nat) (r0 : Nat) (kr0 : KX r0 = (0, 2, 0)) (x1 : Int) (ox1 : okI x1) (r2 : Nat) (kr2 : KX r2 = (0, 3, 0)) (x3 : Int) (ox3 : okI x3) (x4 : Int) (ox4 : okI x4) (x5 : Int) (ox5 : okI x5) (x6 : Int) (ox6 : okI x6) (x7 : Int) (ox7 : okI x7) (S : mSt) (H : Heap) (locs : List Loc) (ls : Array Slot) (hl : lv_has ls 8 [(0, .ref (b + r0)), (1, .int (mI x1)), (2, .ref (b + r2)), (3, .int (mI x3)), (4, .int (mI x4)), (5, .int (mI x5)), (6, .int (mI x6)), (7, .int (mI x7))]) (hW : mW g b KX S H) (hS : va_S (mA b KX s.heap.size) s.heap H locs) (h : w_X3_sumOf_12 N Q ko100 k r0 x1 r2 x3 x4 x5 x6 x7 S), W p l e { frames := 2, cells := 0, slots := 0, locals := 47 } s m args below meth c H locs 0 0 (vx_MQ below (mQi g b KX Q (mA b KX s.heap.size)) (mEx g b KX (fun _ _ => False) (mA b KX s.heap.size)) args s 0 0 (mA b KX s.heap.size)) (F0 m 12 ls []) := by
  intro k
  induction k with
  | zero => intro r0 kr0 x1 ox1 r2 kr2 x3 ox3 x4 ox4 x5 ox5 x6 ox6 x7 ox7 S H locs ls hl hW hS h; exact False.elim h
  | succ k ih => intro r0 kr0 x1 ox1 r2 kr2 x3 ox3 x4 ox4 x5 ox5 x6 ox6 x7 ox7 S H locs ls hl hW hS h; exact W_X3_sumOf_12b C N ih hko100 r0 kr0 x1 ox1 r2 kr2 x3 ox3 x4 ox4 x5 ox5 x6 ox6 x7 ox7 S H locs ls hl hW hS h
end
def w_X3_sumOf (N : Nat) (r0 : Nat) (x1 : Int) (r2 : Nat) (x3 : Int) (S : mSt) (Q : mSt → Int → Prop) : Prop :=
  ∀ v1 : Int, v1 = 0 → ∀ v2 : Int, v2 = 0 → ∀ v3 : Int, v3 = 0 → ∀ v4 : Int, v4 = 0 → w_X3_sumOf_12 N Q (fun (x4_5 : Int) (S_5 : mSt) => Q S_5 x4_5) N r0 x1 r2 x3 v1 v2 v3 v4 S
theorem T_X3_sumOf {l : Launch} (hl0 : l.stackTraces = false) {g : mG} {b : Nat} (N : Nat) (r0 : Nat) (kr0 : KX r0 = (0, 2, 0)) (x1 : Int) (ox1 : okI x1) (r2 : Nat) (kr2 : KX r2 = (0, 3, 0)) (x3 : Int) (ox3 : okI x3) {S : mSt} {Q : mSt → Int → Prop} (h : w_X3_sumOf N r0 x1 r2 x3 S Q) (sz : Nat) : vx_Met l yX3_sumOf (Cond.code yX3_sumOf cX3_sumOf 8 (some FieldType.int) :: wsG) { frames := 2, cells := 0, slots := 0, locals := 47 } (mPc g b KX S [.ref (b + r0), .int (mI x1), .ref (b + r2), .int (mI x3)] sz) (mQi g b KX Q (mA b KX sz)) (mEx g b KX (fun _ _ => False) (mA b KX sz)) 0 0 (mA b KX sz) :=
  m_of (av := [.ref (b + r0), .int (mI x1), .ref (b + r2), .int (mI x3)]) (Qf := fun A => mQi g b KX Q A) (Xf := fun A => mEx g b KX (fun _ _ => False) A) (by decide) (Nat.le_of_ble_eq_true rfl) (fun p e s m args below meth c ls X hK hml hr hlk hout hnm hW hl => by
    have C : mC p l s m args meth c cX3_sumOf "MoonWash$Law" 8 (some FieldType.int) g := ⟨X, hK, hml, hr, hlk, hout, hl0⟩
    have hS : va_S (mA b KX s.heap.size) s.heap s.heap [] := va_S.rf
    have hl : lv_has ls 8 [(0, .ref (b + r0)), (1, .int (mI x1)), (2, .ref (b + r2)), (3, .int (mI x3))] := hl
    unfold w_X3_sumOf at h
    refine m_iconst (pc := 0) C.1 dX3_sumOf_0 ?_
    refine m_istore (pc := 1) C.1 dX3_sumOf_1 hl (by decide) (fun v => [(4, .int v), (0, .ref (b + r0)), (1, .int (mI x1)), (2, .ref (b + r2)), (3, .int (mI x3))]) (fun _ => rfl) (by decide : okI 0) (fun v1 ls ev1 ov1 hl => ?_)
    replace h := h v1 ev1
    refine m_iconst (pc := 3) C.1 dX3_sumOf_3 ?_
    refine m_istore (pc := 4) C.1 dX3_sumOf_4 hl (by decide) (fun v => [(5, .int v), (4, .int (mI v1)), (0, .ref (b + r0)), (1, .int (mI x1)), (2, .ref (b + r2)), (3, .int (mI x3))]) (fun _ => rfl) (by decide : okI 0) (fun v2 ls ev2 ov2 hl => ?_)
    replace h := h v2 ev2
    refine m_iconst (pc := 6) C.1 dX3_sumOf_6 ?_
    refine m_istore (pc := 7) C.1 dX3_sumOf_7 hl (by decide) (fun v => [(6, .int v), (5, .int (mI v2)), (4, .int (mI v1)), (0, .ref (b + r0)), (1, .int (mI x1)), (2, .ref (b + r2)), (3, .int (mI x3))]) (fun _ => rfl) (by decide : okI 0) (fun v3 ls ev3 ov3 hl => ?_)
    replace h := h v3 ev3
    refine m_iconst (pc := 9) C.1 dX3_sumOf_9 ?_
    refine m_istore (pc := 10) C.1 dX3_sumOf_10 hl (by decide) (fun v => [(7, .int v), (6, .int (mI v3)), (5, .int (mI v2)), (4, .int (mI v1)), (0, .ref (b + r0)), (1, .int (mI x1)), (2, .ref (b + r2)), (3, .int (mI x3))]) (fun _ => rfl) (by decide : okI 0) (fun v4 ls ev4 ov4 hl => ?_)
    replace h := h v4 ev4
    refine W_X3_sumOf_12 C N ?_ N r0 kr0 x1 ox1 r2 kr2 x3 ox3 v1 ov1 v2 ov2 v3 ov3 v4 ov4 S _ _ _ (lv_sub hl [4, 5, 6, 7, 3, 2, 1, 0] rfl) hW hS h
    · intro x4_5 ox4_5 S_5 H locs ls hl hW_5 hS h
      refine m_iload (pc := 100) C.1 dX3_sumOf_100 hl 0 rfl ?_
      exact m_iret (pc := 102) C.1 C.2.2.2.1 C.2.2.2.2.1 hW_5 hS ox4_5 h (by decide) (by decide) dX3_sumOf_102) sz
section
variable {p : Program} {l : Launch} {e : Env} {s : State} {m : MethodId} {args : Array Value} {below : List Frame} {meth : Method} {c : Code} {g : mG} {b : Nat}
end
def w_X3_whiteOf (N : Nat) (r0 : Nat) (r1 : Nat) (x2 : Int) (S : mSt) (Q : mSt → Int → Prop) : Prop :=
  w_X3_sumOf N r0 0 r1 x2 S (fun (S1 : mSt) (v1 : Int) => w_X3_sumOf N r0 1 r1 x2 S1 (fun (S2 : mSt) (v2 : Int) => (0 ≤ x2 ∧ x2 < 8 ∧ (0 ≤ x2 ∧ x2 < 8 ∧ w_J6_bitCount_0f7a4 N (S2 (r1 + 4) x2) S2 (fun (S5 : mSt) (v5 : Int) => ∀ v6 : Int, v6 = (nm ((nm ((nm ((nm (9 + v1)) - v2)) - (S2 (r1 + 1) x2))) - v5)) → Q S5 (iMax 0 (iMin 20 v6)))))))
theorem T_X3_whiteOf {l : Launch} (hl0 : l.stackTraces = false) {g : mG} {b : Nat} (N : Nat) (r0 : Nat) (kr0 : KX r0 = (0, 2, 0)) (r1 : Nat) (kr1 : KX r1 = (0, 3, 0)) (x2 : Int) (ox2 : okI x2) {S : mSt} {Q : mSt → Int → Prop} (h : w_X3_whiteOf N r0 r1 x2 S Q) (sz : Nat) : vx_Met l yX3_whiteOf (Cond.code yX3_whiteOf cX3_whiteOf 4 (some FieldType.int) :: wsG) { frames := 3, cells := 0, slots := 0, locals := 74 } (mPc g b KX S [.ref (b + r0), .ref (b + r1), .int (mI x2)] sz) (mQi g b KX Q (mA b KX sz)) (mEx g b KX (fun _ _ => False) (mA b KX sz)) 0 0 (mA b KX sz) :=
  m_of (av := [.ref (b + r0), .ref (b + r1), .int (mI x2)]) (Qf := fun A => mQi g b KX Q A) (Xf := fun A => mEx g b KX (fun _ _ => False) A) (by decide) (Nat.le_of_ble_eq_true rfl) (fun p e s m args below meth c ls X hK hml hr hlk hout hnm hW hl => by
    have C : mC p l s m args meth c cX3_whiteOf "MoonWash$Law" 4 (some FieldType.int) g := ⟨X, hK, hml, hr, hlk, hout, hl0⟩
    have hS : va_S (mA b KX s.heap.size) s.heap s.heap [] := va_S.rf
    have hl : lv_has ls 4 [(0, .ref (b + r0)), (1, .ref (b + r1)), (2, .int (mI x2))] := hl
    unfold w_X3_whiteOf at h
    refine m_bipush (pc := 0) C.1 dX3_whiteOf_0 rfl ?_
    refine m_aload_n (pc := 2) C.1 dX3_whiteOf_2 rfl hl 0 rfl ?_
    refine m_iconst (pc := 3) C.1 dX3_whiteOf_3 ?_
    refine m_aload_n (pc := 4) C.1 dX3_whiteOf_4 rfl hl 1 rfl ?_
    refine m_iload_n (pc := 5) C.1 dX3_whiteOf_5 rfl hl 2 rfl ?_
    refine m_callVi (pc := 6) C.1 C.2.2.1 hl.1 C.2.1 hW hS (As := [.int (mI 0), .ref (b + r1), .int (mI x2)]) (rest := [.int (mI 9)]) (r := r0) (T_X3_sumOf C.2.2.2.2.2.2 N r0 kr0 0 (by decide : okI 0) r1 kr1 x2 ox2 h) kr0 rfl q_498 q_500 q_1 q_84 q_501 pl_X3_sumOf (by decide) (Nat.le_of_ble_eq_true rfl) dX3_whiteOf_6 (fun v1 S1 H locs ov1 h hW1 hS => ?_)
    refine m_iadd (pc := 9) C.1 dX3_whiteOf_9 ?_
    refine m_aload_n (pc := 10) C.1 dX3_whiteOf_10 rfl hl 0 rfl ?_
    refine m_iconst (pc := 11) C.1 dX3_whiteOf_11 ?_
    refine m_aload_n (pc := 12) C.1 dX3_whiteOf_12 rfl hl 1 rfl ?_
    refine m_iload_n (pc := 13) C.1 dX3_whiteOf_13 rfl hl 2 rfl ?_
    refine m_callVi (pc := 14) C.1 C.2.2.1 hl.1 C.2.1 hW1 hS (As := [.int (mI 1), .ref (b + r1), .int (mI x2)]) (rest := [.int (mI (nm (9 + v1)))]) (r := r0) (T_X3_sumOf C.2.2.2.2.2.2 N r0 kr0 1 (by decide : okI 1) r1 kr1 x2 ox2 h) kr0 rfl q_498 q_500 q_1 q_84 q_501 pl_X3_sumOf (by decide) (Nat.le_of_ble_eq_true rfl) dX3_whiteOf_14 (fun v2 S2 H locs ov2 h hW2 hS => ?_)
    refine m_isub (pc := 17) C.1 dX3_whiteOf_17 ?_
    refine m_aload_n (pc := 18) C.1 dX3_whiteOf_18 rfl hl 1 rfl ?_
    refine g_3_0 (pc := 19) C hW2 kr1 q_132 dX3_whiteOf_19 ?_
    refine m_iload_n (pc := 22) C.1 dX3_whiteOf_22 rfl hl 2 rfl ?_
    obtain ⟨hb3a, hb3b, h⟩ := h
    refine m_iald (pc := 23) C.1 C.2.1 hW2 (k_3_0 kr1) ox2 hb3a hb3b dX3_whiteOf_23 ?_
    refine m_isub (pc := 24) C.1 dX3_whiteOf_24 ?_
    refine m_aload_n (pc := 25) C.1 dX3_whiteOf_25 rfl hl 1 rfl ?_
    refine g_3_3 (pc := 26) C hW2 kr1 q_143 dX3_whiteOf_26 ?_
    refine m_iload_n (pc := 29) C.1 dX3_whiteOf_29 rfl hl 2 rfl ?_
    obtain ⟨hb4a, hb4b, h⟩ := h
    refine m_iald (pc := 30) C.1 C.2.1 hW2 (k_3_3 kr1) ox2 hb4a hb4b dX3_whiteOf_30 ?_
    refine m_callSi (pc := 31) C.1 C.2.2.1 hl.1 C.2.1 hW2 hS (As := [.int (mI (S2 (r1 + 4) x2))]) (rest := [.int (mI (nm ((nm ((nm (9 + v1)) - v2)) - (S2 (r1 + 1) x2))))]) (T_J6_bitCount_0f7a4 C.2.2.2.2.2.2 N (S2 (r1 + 4) x2) (hW2.2.1 _ _) h) q_506 q_507 q_107 q_508 pl_J6_bitCount_0f7a4 (by decide) (Nat.le_of_ble_eq_true rfl) dX3_whiteOf_31 (fun v5 S5 H locs ov5 h hW5 hS => ?_)
    refine m_isub (pc := 34) C.1 dX3_whiteOf_34 ?_
    refine m_istore_n (pc := 35) C.1 dX3_whiteOf_35 rfl hl (by decide) (fun v => [(3, .int v), (0, .ref (b + r0)), (1, .ref (b + r1)), (2, .int (mI x2))]) (fun _ => rfl) (nm_ok _) (fun v6 ls ev6 ov6 hl => ?_)
    replace h := h v6 ev6
    refine m_iconst (pc := 36) C.1 dX3_whiteOf_36 ?_
    refine m_bipush (pc := 37) C.1 dX3_whiteOf_37 rfl ?_
    refine m_iload_n (pc := 39) C.1 dX3_whiteOf_39 rfl hl 0 rfl ?_
    refine m_min (pc := 40) C.1 C.2.2.1 hl.1 (by decide : okI 20) ov6 q_519 q_520 q_93 q_521 (by refine ⟨?_, Nat.le_of_ble_eq_true rfl, ?_, ?_⟩ <;> decide) dX3_whiteOf_40 ?_
    refine m_max (pc := 43) C.1 C.2.2.1 hl.1 (by decide : okI 0) (iMin_ok (by decide : okI 20) ov6) q_522 q_523 q_93 q_524 (by refine ⟨?_, Nat.le_of_ble_eq_true rfl, ?_, ?_⟩ <;> decide) dX3_whiteOf_43 ?_
    exact m_iret (pc := 46) C.1 C.2.2.2.1 C.2.2.2.2.1 hW5 hS (iMax_ok (by decide : okI 0) (iMin_ok (by decide : okI 20) ov6)) h (by decide) (by decide) dX3_whiteOf_46) sz
section
variable {p : Program} {l : Launch} {e : Env} {s : State} {m : MethodId} {args : Array Value} {below : List Frame} {meth : Method} {c : Code} {g : mG} {b : Nat}
end
def w_X3_lightOf (N : Nat) (r0 : Nat) (r1 : Nat) (x2 : Int) (S : mSt) (Q : mSt → Int → Prop) : Prop :=
  w_X5_isHung N r1 x2 S (fun (S1 : mSt) (v1 : Int) => ((v1 = 0 → Q S1 0) ∧ (v1 ≠ 0 → (0 ≤ x2 ∧ x2 < 8 ∧ (((S1 (r1 + 3) x2) ≠ 0 → Q S1 0) ∧ ((S1 (r1 + 3) x2) = 0 → w_X3_whiteOf N r0 r1 x2 S1 (fun (S3 : mSt) (v3 : Int) => Q S3 v3)))))))
theorem T_X3_lightOf {l : Launch} (hl0 : l.stackTraces = false) {g : mG} {b : Nat} (N : Nat) (r0 : Nat) (kr0 : KX r0 = (0, 2, 0)) (r1 : Nat) (kr1 : KX r1 = (0, 3, 0)) (x2 : Int) (ox2 : okI x2) {S : mSt} {Q : mSt → Int → Prop} (h : w_X3_lightOf N r0 r1 x2 S Q) (sz : Nat) : vx_Met l yX3_lightOf (Cond.code yX3_lightOf cX3_lightOf 3 (some FieldType.int) :: wsG) { frames := 4, cells := 0, slots := 0, locals := 97 } (mPc g b KX S [.ref (b + r0), .ref (b + r1), .int (mI x2)] sz) (mQi g b KX Q (mA b KX sz)) (mEx g b KX (fun _ _ => False) (mA b KX sz)) 0 0 (mA b KX sz) :=
  m_of (av := [.ref (b + r0), .ref (b + r1), .int (mI x2)]) (Qf := fun A => mQi g b KX Q A) (Xf := fun A => mEx g b KX (fun _ _ => False) A) (by decide) (Nat.le_of_ble_eq_true rfl) (fun p e s m args below meth c ls X hK hml hr hlk hout hnm hW hl => by
    have C : mC p l s m args meth c cX3_lightOf "MoonWash$Law" 3 (some FieldType.int) g := ⟨X, hK, hml, hr, hlk, hout, hl0⟩
    have hS : va_S (mA b KX s.heap.size) s.heap s.heap [] := va_S.rf
    have hl : lv_has ls 3 [(0, .ref (b + r0)), (1, .ref (b + r1)), (2, .int (mI x2))] := hl
    unfold w_X3_lightOf at h
    refine m_aload_n (pc := 0) C.1 dX3_lightOf_0 rfl hl 1 rfl ?_
    refine m_iload_n (pc := 1) C.1 dX3_lightOf_1 rfl hl 2 rfl ?_
    refine m_callVi (pc := 2) C.1 C.2.2.1 hl.1 C.2.1 hW hS (As := [.int (mI x2)]) (rest := []) (r := r1) (T_X5_isHung C.2.2.2.2.2.2 N r1 kr1 x2 ox2 h) kr1 rfl q_490 q_491 q_492 q_83 q_493 pl_X5_isHung (by decide) (Nat.le_of_ble_eq_true rfl) dX3_lightOf_2 (fun v1 S1 H locs ov1 h hW1 hS => ?_)
    refine m_if_eq (pc := 5) (tgt := 26) C.1 ov1 dX3_lightOf_5 (by decide) (fun hc => ?_) (fun hc => ?_)
    · replace h := h.1 hc
      refine m_iconst (pc := 26) C.1 dX3_lightOf_26 ?_
      exact m_iret (pc := 27) C.1 C.2.2.2.1 C.2.2.2.2.1 hW1 hS (by decide : okI 0) h (by decide) (by decide) dX3_lightOf_27
    · replace h := h.2 hc
      refine m_aload_n (pc := 8) C.1 dX3_lightOf_8 rfl hl 1 rfl ?_
      refine g_3_2 (pc := 9) C hW1 kr1 q_140 dX3_lightOf_9 ?_
      refine m_iload_n (pc := 12) C.1 dX3_lightOf_12 rfl hl 2 rfl ?_
      obtain ⟨hb2a, hb2b, h⟩ := h
      refine m_iald (pc := 13) C.1 C.2.1 hW1 (k_3_2 kr1) ox2 hb2a hb2b dX3_lightOf_13 ?_
      refine m_if_ne (pc := 14) (tgt := 26) C.1 (hW1.2.1 _ _) dX3_lightOf_14 (by decide) (fun hc => ?_) (fun hc => ?_)
      · replace h := h.1 hc
        refine m_iconst (pc := 26) C.1 dX3_lightOf_26 ?_
        exact m_iret (pc := 27) C.1 C.2.2.2.1 C.2.2.2.2.1 hW1 hS (by decide : okI 0) h (by decide) (by decide) dX3_lightOf_27
      · replace h := h.2 hc
        refine m_aload_n (pc := 17) C.1 dX3_lightOf_17 rfl hl 0 rfl ?_
        refine m_aload_n (pc := 18) C.1 dX3_lightOf_18 rfl hl 1 rfl ?_
        refine m_iload_n (pc := 19) C.1 dX3_lightOf_19 rfl hl 2 rfl ?_
        refine m_callVi (pc := 20) C.1 C.2.2.1 hl.1 C.2.1 hW1 hS (As := [.ref (b + r1), .int (mI x2)]) (rest := []) (r := r0) (T_X3_whiteOf C.2.2.2.2.2.2 N r0 kr0 r1 kr1 x2 ox2 h) kr0 rfl q_494 q_495 q_496 q_84 q_497 pl_X3_whiteOf (by decide) (Nat.le_of_ble_eq_true rfl) dX3_lightOf_20 (fun v3 S3 H locs ov3 h hW3 hS => ?_)
        refine m_goto (pc := 23) (tgt := 27) C.1 dX3_lightOf_23 (by decide) ?_
        exact m_iret (pc := 27) C.1 C.2.2.2.1 C.2.2.2.2.1 hW3 hS ov3 h (by decide) (by decide) dX3_lightOf_27) sz
section
variable {p : Program} {l : Launch} {e : Env} {s : State} {m : MethodId} {args : Array Value} {below : List Frame} {meth : Method} {c : Code} {g : mG} {b : Nat}
def w_X1_keep_18b (N : Nat) (Q : mSt → Prop) (ko18 : Nat → Nat → Nat → Int → mSt → Prop) (ko45 : Nat → mSt → Prop) (r0 : Nat) (r1 : Nat) (r2 : Nat) (x3 : Int) (S : mSt) : Prop :=
  ((8 ≤ x3 → ko45 r0 S) ∧ (x3 < 8 → w_X3_lightOf N r2 (r1 + 1) x3 S (fun (S1 : mSt) (v1 : Int) => (0 ≤ x3 ∧ x3 < 8 ∧ ∀ S3 : mSt, S3 = mup S1 (r0 + 19) x3 v1 → ∀ v4 : Int, v4 = nm (x3 + 1) → ko18 r0 r1 r2 v4 S3))))
theorem W_X1_keep_18b (C : mC p l s m args meth c cX1_keep "MoonWash$Image" 4 none g) (N : Nat) {Q : mSt → Prop} {ko18 : Nat → Nat → Nat → Int → mSt → Prop} {ko45 : Nat → mSt → Prop} (hko18 : ∀ (r0 : Nat) (kr0 : KX r0 = (0, 0, 0)) (r1 : Nat) (kr1 : KX r1 = (0, 1, 0)) (r2 : Nat) (kr2 : KX r2 = (0, 2, 0)) (x3 : Int) (ox3 : okI x3) (S : mSt) (H : Heap) (locs : List Loc) (ls : Array Slot), lv_has ls 4 [(0, .ref (b + r0)), (1, .ref (b + r1)), (2, .ref (b + r2)), (3, .int (mI x3))] → mW g b KX S H → va_S (mA b KX s.heap.size) s.heap H locs → ko18 r0 r1 r2 x3 S → W p l e { frames := 5, cells := 0, slots := 0, locals := 162 } s m args below meth c H locs 0 0 (vx_MQ below (mQv g b KX Q (mA b KX s.heap.size)) (mEx g b KX (fun _ _ => False) (mA b KX s.heap.size)) args s 0 0 (mA b KX s.heap.size)) (F0 m 18 ls [])) (hko45 : ∀ (r0 : Nat) (kr0 : KX r0 = (0, 0, 0)) (S : mSt) (H : Heap) (locs : List Loc) (ls : Array Slot), lv_has ls 4 [(0, .ref (b + r0))] → mW g b KX S H → va_S (mA b KX s.heap.size) s.heap H locs → ko45 r0 S → W p l e { frames := 5, cells := 0, slots := 0, locals := 162 } s m args below meth c H locs 0 0 (vx_MQ below (mQv g b KX Q (mA b KX s.heap.size)) (mEx g b KX (fun _ _ => False) (mA b KX s.heap.size)) args s 0 0 (mA b KX s.heap.size)) (F0 m 45 ls [])) (r0 : Nat) (kr0 : KX r0 = (0, 0, 0)) (r1 : Nat) (kr1 : KX r1 = (0, 1, 0)) (r2 : Nat) (kr2 : KX r2 = (0, 2, 0)) (x3 : Int) (ox3 : okI x3) (S : mSt) (H : Heap) (locs : List Loc) (ls : Array Slot) (hl : lv_has ls 4 [(0, .ref (b + r0)), (1, .ref (b + r1)), (2, .ref (b + r2)), (3, .int (mI x3))]) (hW : mW g b KX S H) (hS : va_S (mA b KX s.heap.size) s.heap H locs) (h : w_X1_keep_18b N Q ko18 ko45 r0 r1 r2 x3 S) : W p l e { frames := 5, cells := 0, slots := 0, locals := 162 } s m args below meth c H locs 0 0 (vx_MQ below (mQv g b KX Q (mA b KX s.heap.size)) (mEx g b KX (fun _ _ => False) (mA b KX s.heap.size)) args s 0 0 (mA b KX s.heap.size)) (F0 m 18 ls []) := by
  unfold w_X1_keep_18b at h
  refine m_iload_n (pc := 18) C.1 dX1_keep_18 rfl hl 3 rfl ?_
  refine m_bipush (pc := 19) C.1 dX1_keep_19 rfl ?_
  refine m_icmp_ge (pc := 21) (tgt := 45) C.1 ox3 (by decide : okI 8) dX1_keep_21 (by decide) (fun hc => ?_) (fun hc => ?_)
  · replace h := h.1 hc
    exact hko45 r0 kr0 S _ _ _ (lv_sub hl [0] rfl) hW hS h
  · replace h := h.2 hc
    refine m_aload_n (pc := 24) C.1 dX1_keep_24 rfl hl 0 rfl ?_
    refine g_0_2 (pc := 25) C hW kr0 q_341 dX1_keep_25 ?_
    refine m_iload_n (pc := 28) C.1 dX1_keep_28 rfl hl 3 rfl ?_
    refine m_aload_n (pc := 29) C.1 dX1_keep_29 rfl hl 2 rfl ?_
    refine m_aload_n (pc := 30) C.1 dX1_keep_30 rfl hl 1 rfl ?_
    refine g_1_0 (pc := 31) C hW kr1 q_185 dX1_keep_31 ?_
    refine m_iload_n (pc := 34) C.1 dX1_keep_34 rfl hl 3 rfl ?_
    refine m_callVi (pc := 35) C.1 C.2.2.1 hl.1 C.2.1 hW hS (As := [.ref (b + (r1 + 1)), .int (mI x3)]) (rest := [.int (mI x3), .ref (b + (r0 + 19))]) (r := r2) (T_X3_lightOf C.2.2.2.2.2.2 N r2 kr2 (r1 + 1) (k_1_0 kr1) x3 ox3 h) kr2 rfl q_486 q_487 q_488 q_84 q_489 pl_X3_lightOf (by decide) (Nat.le_of_ble_eq_true rfl) dX1_keep_35 (fun v1 S1 H locs ov1 h hW1 hS => ?_)
    obtain ⟨hb2a, hb2b, h⟩ := h
    refine m_iast (pc := 38) C.1 C.2.1 hW1 hS (k_0_2 kr0) ox3 ov1 hb2a hb2b dX1_keep_38 (fun S3 H locs e3 hW3 hS => ?_)
    replace h := h S3 e3
    refine m_iinc (pc := 39) C.1 dX1_keep_39 hl (by decide) (q0 := 3) rfl (fun v => [(3, .int v), (0, .ref (b + r0)), (1, .ref (b + r1)), (2, .ref (b + r2))]) (fun _ => rfl) (fun v4 ls ev4 ov4 hl => ?_)
    replace h := h v4 ev4
    refine m_goto (pc := 42) (tgt := 18) C.1 dX1_keep_42 (by decide) ?_
    exact hko18 r0 kr0 r1 kr1 r2 kr2 v4 ov4 S3 _ _ _ (lv_sub hl [1, 2, 3, 0] rfl) hW3 hS h
def w_X1_keep_18 (N : Nat) (Q : mSt → Prop) (ko45 : Nat → mSt → Prop) : Nat → Nat → Nat → Nat → Int → mSt → Prop
  | 0 => fun _ _ _ _ _ => False
  | k + 1 => w_X1_keep_18b N Q (w_X1_keep_18 N Q ko45 k) ko45
theorem W_X1_keep_18 (C : mC p l s m args meth c cX1_keep "MoonWash$Image" 4 none g) (N : Nat) {Q : mSt → Prop} {ko45 : Nat → mSt → Prop} (hko45 : ∀ (r0 : Nat) (kr0 : KX r0 = (0, 0, 0)) (S : mSt) (H : Heap) (locs : List Loc) (ls : Array Slot), lv_has ls 4 [(0, .ref (b + r0))] → mW g b KX S H → va_S (mA b KX s.heap.size) s.heap H locs → ko45 r0 S → W p l e { frames := 5, cells := 0, slots := 0, locals := 162 } s m args below meth c H locs 0 0 (vx_MQ below (mQv g b KX Q (mA b KX s.heap.size)) (mEx g b KX (fun _ _ => False) (mA b KX s.heap.size)) args s 0 0 (mA b KX s.heap.size)) (F0 m 45 ls [])) : ∀ (k : Nat) (r0 : Nat) (kr0 : KX r0 = (0, 0, 0)) (r1 : Nat) (kr1 : KX r1 = (0, 1, 0)) (r2 : Nat) (kr2 : KX r2 = (0, 2, 0)) (x3 : Int) (ox3 : okI x3) (S : mSt) (H : Heap) (locs : List Loc) (ls : Array Slot) (hl : lv_has ls 4 [(0, .ref (b + r0)), (1, .ref (b + r1)), (2, .ref (b + r2)), (3, .int (mI x3))]) (hW : mW g b KX S H) (hS : va_S (mA b KX s.heap.size) s.heap H locs) (h : w_X1_keep_18 N Q ko45 k r0 r1 r2 x3 S), W p l e { frames := 5, cells := 0, slots := 0, locals := 162 } s m args below meth c H locs 0 0 (vx_MQ below (mQv g b KX Q (mA b KX s.heap.size)) (mEx g b KX (fun _ _ => False) (mA b KX s.heap.size)) args s 0 0 (mA b KX s.heap.size)) (F0 m 18 ls []) := by
  intro k
  induction k with
  | zero => intro r0 kr0 r1 kr1 r2 kr2 x3 ox3 S H locs ls hl hW hS h; exact False.elim h
  | succ k ih => intro r0 kr0 r1 kr1 r2 kr2 x3 ox3 S H locs ls hl hW hS h; exact W_X1_keep_18b C N ih hko45 r0 kr0 r1 kr1 r2 kr2 x3 ox3 S H locs ls hl hW hS h
end
def w_X1_keep (N : Nat) (r0 : Nat) (r1 : Nat) (r2 : Nat) (S : mSt) (Q : mSt → Prop) : Prop :=
  w_X2_become N (r0 + 1) r1 S (fun (S1 : mSt) => w_X3_become N (r0 + 12) r2 S1 (fun (S2 : mSt) => ∀ v3 : Int, v3 = 0 → w_X1_keep_18 N Q (fun (r0_4 : Nat) (S_4 : mSt) => ∀ S5 : mSt, S5 = mup S_4 r0_4 3 1 → Q S5) N r0 r1 r2 v3 S2))
theorem T_X1_keep {l : Launch} (hl0 : l.stackTraces = false) {g : mG} {b : Nat} (N : Nat) (r0 : Nat) (kr0 : KX r0 = (0, 0, 0)) (r1 : Nat) (kr1 : KX r1 = (0, 1, 0)) (r2 : Nat) (kr2 : KX r2 = (0, 2, 0)) {S : mSt} {Q : mSt → Prop} (h : w_X1_keep N r0 r1 r2 S Q) (sz : Nat) : vx_Met l yX1_keep (Cond.code yX1_keep cX1_keep 4 none :: wsG) { frames := 5, cells := 0, slots := 0, locals := 162 } (mPc g b KX S [.ref (b + r0), .ref (b + r1), .ref (b + r2)] sz) (mQv g b KX Q (mA b KX sz)) (mEx g b KX (fun _ _ => False) (mA b KX sz)) 0 0 (mA b KX sz) :=
  m_of (av := [.ref (b + r0), .ref (b + r1), .ref (b + r2)]) (Qf := fun A => mQv g b KX Q A) (Xf := fun A => mEx g b KX (fun _ _ => False) A) (by decide) (Nat.le_of_ble_eq_true rfl) (fun p e s m args below meth c ls X hK hml hr hlk hout hnm hW hl => by
    have C : mC p l s m args meth c cX1_keep "MoonWash$Image" 4 none g := ⟨X, hK, hml, hr, hlk, hout, hl0⟩
    have hS : va_S (mA b KX s.heap.size) s.heap s.heap [] := va_S.rf
    have hl : lv_has ls 4 [(0, .ref (b + r0)), (1, .ref (b + r1)), (2, .ref (b + r2))] := hl
    unfold w_X1_keep at h
    refine m_aload_n (pc := 0) C.1 dX1_keep_0 rfl hl 0 rfl ?_
    refine g_0_0 (pc := 1) C hW kr0 q_337 dX1_keep_1 ?_
    refine m_aload_n (pc := 4) C.1 dX1_keep_4 rfl hl 1 rfl ?_
    refine m_callVv (pc := 5) C.1 C.2.2.1 hl.1 C.2.1 hW hS (As := [.ref (b + r1)]) (rest := []) (r := (r0 + 1)) (T_X2_become C.2.2.2.2.2.2 N (r0 + 1) (k_0_0 kr0) r1 kr1 h) (k_0_0 kr0) rfl q_480 q_461 q_462 q_82 q_463 pl_X2_become (by decide) (Nat.le_of_ble_eq_true rfl) dX1_keep_5 (fun S1 H locs h hW1 hS => ?_)
    refine m_aload_n (pc := 8) C.1 dX1_keep_8 rfl hl 0 rfl ?_
    refine g_0_1 (pc := 9) C hW1 kr0 q_339 dX1_keep_9 ?_
    refine m_aload_n (pc := 12) C.1 dX1_keep_12 rfl hl 2 rfl ?_
    refine m_callVv (pc := 13) C.1 C.2.2.1 hl.1 C.2.1 hW1 hS (As := [.ref (b + r2)]) (rest := []) (r := (r0 + 12)) (T_X3_become C.2.2.2.2.2.2 N (r0 + 12) (k_0_1 kr0) r2 kr2 h) (k_0_1 kr0) rfl q_481 q_482 q_483 q_84 q_484 pl_X3_become (by decide) (Nat.le_of_ble_eq_true rfl) dX1_keep_13 (fun S2 H locs h hW2 hS => ?_)
    refine m_iconst (pc := 16) C.1 dX1_keep_16 ?_
    refine m_istore_n (pc := 17) C.1 dX1_keep_17 rfl hl (by decide) (fun v => [(3, .int v), (0, .ref (b + r0)), (1, .ref (b + r1)), (2, .ref (b + r2))]) (fun _ => rfl) (by decide : okI 0) (fun v3 ls ev3 ov3 hl => ?_)
    replace h := h v3 ev3
    refine W_X1_keep_18 C N ?_ N r0 kr0 r1 kr1 r2 kr2 v3 ov3 S2 _ _ _ (lv_sub hl [1, 2, 3, 0] rfl) hW2 hS h
    · intro r0_4 kr0_4 S_4 H locs ls hl hW_4 hS h
      refine m_aload_n (pc := 45) C.1 dX1_keep_45 rfl hl 0 rfl ?_
      refine m_iconst (pc := 46) C.1 dX1_keep_46 ?_
      refine p_0_3 (pc := 47) C hW_4 hS kr0_4 q_343 (by decide) dX1_keep_47 (fun S5 H locs e5 hW5 hS => ?_)
      replace h := h S5 e5
      exact m_vret (pc := 50) C.1 C.2.2.2.1 C.2.2.2.2.1 hW5 hS h (by decide) (by decide) dX1_keep_50) sz
section
variable {p : Program} {l : Launch} {e : Env} {s : State} {m : MethodId} {args : Array Value} {below : List Frame} {meth : Method} {c : Code} {g : mG} {b : Nat}
end
def w_X2_strength (N : Nat) (r0 : Nat) (x1 : Int) (S : mSt) (Q : mSt → Int → Prop) : Prop :=
  (0 ≤ (nm (x1 * 4)) ∧ (nm (x1 * 4)) < 24 ∧ Q S (S (r0 + 8) (nm (x1 * 4))))
theorem T_X2_strength {l : Launch} (hl0 : l.stackTraces = false) {g : mG} {b : Nat} (N : Nat) (r0 : Nat) (kr0 : KX r0 = (0, 1, 0)) (x1 : Int) (ox1 : okI x1) {S : mSt} {Q : mSt → Int → Prop} (h : w_X2_strength N r0 x1 S Q) (sz : Nat) : vx_Met l yX2_strength (Cond.code yX2_strength cX2_strength 2 (some FieldType.int) :: wsG) { frames := 0, cells := 0, slots := 0, locals := 0 } (mPc g b KX S [.ref (b + r0), .int (mI x1)] sz) (mQi g b KX Q (mA b KX sz)) (mEx g b KX (fun _ _ => False) (mA b KX sz)) 0 0 (mA b KX sz) :=
  m_of (av := [.ref (b + r0), .int (mI x1)]) (Qf := fun A => mQi g b KX Q A) (Xf := fun A => mEx g b KX (fun _ _ => False) A) (by decide) (Nat.le_of_ble_eq_true rfl) (fun p e s m args below meth c ls X hK hml hr hlk hout hnm hW hl => by
    have C : mC p l s m args meth c cX2_strength "MoonWash$Laundry" 2 (some FieldType.int) g := ⟨X, hK, hml, hr, hlk, hout, hl0⟩
    have hS : va_S (mA b KX s.heap.size) s.heap s.heap [] := va_S.rf
    have hl : lv_has ls 2 [(0, .ref (b + r0)), (1, .int (mI x1))] := hl
    unfold w_X2_strength at h
    refine m_aload_n (pc := 0) C.1 dX2_strength_0 rfl hl 0 rfl ?_
    refine g_1_1 (pc := 1) C hW kr0 q_188 dX2_strength_1 ?_
    refine m_iload_n (pc := 4) C.1 dX2_strength_4 rfl hl 1 rfl ?_
    refine m_iconst (pc := 5) C.1 dX2_strength_5 ?_
    refine m_imul (pc := 6) C.1 dX2_strength_6 ?_
    obtain ⟨hb1a, hb1b, h⟩ := h
    refine m_iald (pc := 7) C.1 C.2.1 hW (k_1_1 kr0) (nm_ok _) hb1a hb1b dX2_strength_7 ?_
    exact m_iret (pc := 8) C.1 C.2.2.2.1 C.2.2.2.2.1 hW hS (hW.2.1 _ _) h (by decide) (by decide) dX2_strength_8) sz
section
variable {p : Program} {l : Launch} {e : Env} {s : State} {m : MethodId} {args : Array Value} {below : List Frame} {meth : Method} {c : Code} {g : mG} {b : Nat}
end
def w_X2_price (N : Nat) (r0 : Nat) (x1 : Int) (S : mSt) (Q : mSt → Int → Prop) : Prop :=
  (0 ≤ (nm ((nm (x1 * 4)) + 1)) ∧ (nm ((nm (x1 * 4)) + 1)) < 24 ∧ Q S (S (r0 + 8) (nm ((nm (x1 * 4)) + 1))))
theorem T_X2_price {l : Launch} (hl0 : l.stackTraces = false) {g : mG} {b : Nat} (N : Nat) (r0 : Nat) (kr0 : KX r0 = (0, 1, 0)) (x1 : Int) (ox1 : okI x1) {S : mSt} {Q : mSt → Int → Prop} (h : w_X2_price N r0 x1 S Q) (sz : Nat) : vx_Met l yX2_price (Cond.code yX2_price cX2_price 2 (some FieldType.int) :: wsG) { frames := 0, cells := 0, slots := 0, locals := 0 } (mPc g b KX S [.ref (b + r0), .int (mI x1)] sz) (mQi g b KX Q (mA b KX sz)) (mEx g b KX (fun _ _ => False) (mA b KX sz)) 0 0 (mA b KX sz) :=
  m_of (av := [.ref (b + r0), .int (mI x1)]) (Qf := fun A => mQi g b KX Q A) (Xf := fun A => mEx g b KX (fun _ _ => False) A) (by decide) (Nat.le_of_ble_eq_true rfl) (fun p e s m args below meth c ls X hK hml hr hlk hout hnm hW hl => by
    have C : mC p l s m args meth c cX2_price "MoonWash$Laundry" 2 (some FieldType.int) g := ⟨X, hK, hml, hr, hlk, hout, hl0⟩
    have hS : va_S (mA b KX s.heap.size) s.heap s.heap [] := va_S.rf
    have hl : lv_has ls 2 [(0, .ref (b + r0)), (1, .int (mI x1))] := hl
    unfold w_X2_price at h
    refine m_aload_n (pc := 0) C.1 dX2_price_0 rfl hl 0 rfl ?_
    refine g_1_1 (pc := 1) C hW kr0 q_188 dX2_price_1 ?_
    refine m_iload_n (pc := 4) C.1 dX2_price_4 rfl hl 1 rfl ?_
    refine m_iconst (pc := 5) C.1 dX2_price_5 ?_
    refine m_imul (pc := 6) C.1 dX2_price_6 ?_
    refine m_iconst (pc := 7) C.1 dX2_price_7 ?_
    refine m_iadd (pc := 8) C.1 dX2_price_8 ?_
    obtain ⟨hb1a, hb1b, h⟩ := h
    refine m_iald (pc := 9) C.1 C.2.1 hW (k_1_1 kr0) (nm_ok _) hb1a hb1b dX2_price_9 ?_
    exact m_iret (pc := 10) C.1 C.2.2.2.1 C.2.2.2.2.1 hW hS (hW.2.1 _ _) h (by decide) (by decide) dX2_price_10) sz
section
variable {p : Program} {l : Launch} {e : Env} {s : State} {m : MethodId} {args : Array Value} {below : List Frame} {meth : Method} {c : Code} {g : mG} {b : Nat}
end
def w_X2_rough (N : Nat) (r0 : Nat) (x1 : Int) (S : mSt) (Q : mSt → Int → Prop) : Prop :=
  (0 ≤ (nm ((nm (x1 * 4)) + 2)) ∧ (nm ((nm (x1 * 4)) + 2)) < 24 ∧ Q S (S (r0 + 8) (nm ((nm (x1 * 4)) + 2))))
theorem T_X2_rough {l : Launch} (hl0 : l.stackTraces = false) {g : mG} {b : Nat} (N : Nat) (r0 : Nat) (kr0 : KX r0 = (0, 1, 0)) (x1 : Int) (ox1 : okI x1) {S : mSt} {Q : mSt → Int → Prop} (h : w_X2_rough N r0 x1 S Q) (sz : Nat) : vx_Met l yX2_rough (Cond.code yX2_rough cX2_rough 2 (some FieldType.int) :: wsG) { frames := 0, cells := 0, slots := 0, locals := 0 } (mPc g b KX S [.ref (b + r0), .int (mI x1)] sz) (mQi g b KX Q (mA b KX sz)) (mEx g b KX (fun _ _ => False) (mA b KX sz)) 0 0 (mA b KX sz) :=
  m_of (av := [.ref (b + r0), .int (mI x1)]) (Qf := fun A => mQi g b KX Q A) (Xf := fun A => mEx g b KX (fun _ _ => False) A) (by decide) (Nat.le_of_ble_eq_true rfl) (fun p e s m args below meth c ls X hK hml hr hlk hout hnm hW hl => by
    have C : mC p l s m args meth c cX2_rough "MoonWash$Laundry" 2 (some FieldType.int) g := ⟨X, hK, hml, hr, hlk, hout, hl0⟩
    have hS : va_S (mA b KX s.heap.size) s.heap s.heap [] := va_S.rf
    have hl : lv_has ls 2 [(0, .ref (b + r0)), (1, .int (mI x1))] := hl
    unfold w_X2_rough at h
    refine m_aload_n (pc := 0) C.1 dX2_rough_0 rfl hl 0 rfl ?_
    refine g_1_1 (pc := 1) C hW kr0 q_188 dX2_rough_1 ?_
    refine m_iload_n (pc := 4) C.1 dX2_rough_4 rfl hl 1 rfl ?_
    refine m_iconst (pc := 5) C.1 dX2_rough_5 ?_
    refine m_imul (pc := 6) C.1 dX2_rough_6 ?_
    refine m_iconst (pc := 7) C.1 dX2_rough_7 ?_
    refine m_iadd (pc := 8) C.1 dX2_rough_8 ?_
    obtain ⟨hb1a, hb1b, h⟩ := h
    refine m_iald (pc := 9) C.1 C.2.1 hW (k_1_1 kr0) (nm_ok _) hb1a hb1b dX2_rough_9 ?_
    exact m_iret (pc := 10) C.1 C.2.2.2.1 C.2.2.2.2.1 hW hS (hW.2.1 _ _) h (by decide) (by decide) dX2_rough_10) sz
section
variable {p : Program} {l : Launch} {e : Env} {s : State} {m : MethodId} {args : Array Value} {below : List Frame} {meth : Method} {c : Code} {g : mG} {b : Nat}
end
def w_X2_takes (N : Nat) (r0 : Nat) (x1 : Int) (S : mSt) (Q : mSt → Int → Prop) : Prop :=
  (0 ≤ (nm ((nm (x1 * 4)) + 3)) ∧ (nm ((nm (x1 * 4)) + 3)) < 24 ∧ Q S (S (r0 + 8) (nm ((nm (x1 * 4)) + 3))))
theorem T_X2_takes {l : Launch} (hl0 : l.stackTraces = false) {g : mG} {b : Nat} (N : Nat) (r0 : Nat) (kr0 : KX r0 = (0, 1, 0)) (x1 : Int) (ox1 : okI x1) {S : mSt} {Q : mSt → Int → Prop} (h : w_X2_takes N r0 x1 S Q) (sz : Nat) : vx_Met l yX2_takes (Cond.code yX2_takes cX2_takes 2 (some FieldType.int) :: wsG) { frames := 0, cells := 0, slots := 0, locals := 0 } (mPc g b KX S [.ref (b + r0), .int (mI x1)] sz) (mQi g b KX Q (mA b KX sz)) (mEx g b KX (fun _ _ => False) (mA b KX sz)) 0 0 (mA b KX sz) :=
  m_of (av := [.ref (b + r0), .int (mI x1)]) (Qf := fun A => mQi g b KX Q A) (Xf := fun A => mEx g b KX (fun _ _ => False) A) (by decide) (Nat.le_of_ble_eq_true rfl) (fun p e s m args below meth c ls X hK hml hr hlk hout hnm hW hl => by
    have C : mC p l s m args meth c cX2_takes "MoonWash$Laundry" 2 (some FieldType.int) g := ⟨X, hK, hml, hr, hlk, hout, hl0⟩
    have hS : va_S (mA b KX s.heap.size) s.heap s.heap [] := va_S.rf
    have hl : lv_has ls 2 [(0, .ref (b + r0)), (1, .int (mI x1))] := hl
    unfold w_X2_takes at h
    refine m_aload_n (pc := 0) C.1 dX2_takes_0 rfl hl 0 rfl ?_
    refine g_1_1 (pc := 1) C hW kr0 q_188 dX2_takes_1 ?_
    refine m_iload_n (pc := 4) C.1 dX2_takes_4 rfl hl 1 rfl ?_
    refine m_iconst (pc := 5) C.1 dX2_takes_5 ?_
    refine m_imul (pc := 6) C.1 dX2_takes_6 ?_
    refine m_iconst (pc := 7) C.1 dX2_takes_7 ?_
    refine m_iadd (pc := 8) C.1 dX2_takes_8 ?_
    obtain ⟨hb1a, hb1b, h⟩ := h
    refine m_iald (pc := 9) C.1 C.2.1 hW (k_1_1 kr0) (nm_ok _) hb1a hb1b dX2_takes_9 ?_
    exact m_iret (pc := 10) C.1 C.2.2.2.1 C.2.2.2.2.1 hW hS (hW.2.1 _ _) h (by decide) (by decide) dX2_takes_10) sz
section
variable {p : Program} {l : Launch} {e : Env} {s : State} {m : MethodId} {args : Array Value} {below : List Frame} {meth : Method} {c : Code} {g : mG} {b : Nat}
def w_X2_takenBy_29 (N : Nat) (Q : mSt → Int → Prop) (ko4 : Nat → Int → Int → Int → mSt → Prop) (r0 : Nat) (x1 : Int) (x2 : Int) (x3 : Int) (S : mSt) : Prop :=
  ∀ v1 : Int, v1 = nm (x3 + 1) → ko4 r0 x1 x2 v1 S
theorem W_X2_takenBy_29 (C : mC p l s m args meth c cX2_takenBy "MoonWash$Laundry" 4 (some FieldType.int) g) (N : Nat) {Q : mSt → Int → Prop} {ko4 : Nat → Int → Int → Int → mSt → Prop} (hko4 : ∀ (r0 : Nat) (kr0 : KX r0 = (0, 1, 0)) (x1 : Int) (ox1 : okI x1) (x2 : Int) (ox2 : okI x2) (x3 : Int) (ox3 : okI x3) (S : mSt) (H : Heap) (locs : List Loc) (ls : Array Slot), lv_has ls 4 [(0, .ref (b + r0)), (1, .int (mI x1)), (2, .int (mI x2)), (3, .int (mI x3))] → mW g b KX S H → va_S (mA b KX s.heap.size) s.heap H locs → ko4 r0 x1 x2 x3 S → W p l e { frames := 1, cells := 0, slots := 0, locals := 21 } s m args below meth c H locs 0 0 (vx_MQ below (mQi g b KX Q (mA b KX s.heap.size)) (mEx g b KX (fun _ _ => False) (mA b KX s.heap.size)) args s 0 0 (mA b KX s.heap.size)) (F0 m 4 ls [])) (r0 : Nat) (kr0 : KX r0 = (0, 1, 0)) (x1 : Int) (ox1 : okI x1) (x2 : Int) (ox2 : okI x2) (x3 : Int) (ox3 : okI x3) (S : mSt) (H : Heap) (locs : List Loc) (ls : Array Slot) (hl : lv_has ls 4 [(0, .ref (b + r0)), (1, .int (mI x1)), (2, .int (mI x2)), (3, .int (mI x3))]) (hW : mW g b KX S H) (hS : va_S (mA b KX s.heap.size) s.heap H locs) (h : w_X2_takenBy_29 N Q ko4 r0 x1 x2 x3 S) : W p l e { frames := 1, cells := 0, slots := 0, locals := 21 } s m args below meth c H locs 0 0 (vx_MQ below (mQi g b KX Q (mA b KX s.heap.size)) (mEx g b KX (fun _ _ => False) (mA b KX s.heap.size)) args s 0 0 (mA b KX s.heap.size)) (F0 m 29 ls []) := by
  unfold w_X2_takenBy_29 at h
  refine m_iinc (pc := 29) C.1 dX2_takenBy_29 hl (by decide) (q0 := 3) rfl (fun v => [(3, .int v), (0, .ref (b + r0)), (1, .int (mI x1)), (2, .int (mI x2))]) (fun _ => rfl) (fun v1 ls ev1 ov1 hl => ?_)
  replace h := h v1 ev1
  refine m_goto (pc := 32) (tgt := 4) C.1 dX2_takenBy_32 (by decide) ?_
  exact hko4 r0 kr0 x1 ox1 x2 ox2 v1 ov1 S _ _ _ (lv_sub hl [1, 2, 3, 0] rfl) hW hS h
def w_X2_takenBy_4b (N : Nat) (Q : mSt → Int → Prop) (ko4 : Nat → Int → Int → Int → mSt → Prop) (ko35 : Int → mSt → Prop) (r0 : Nat) (x1 : Int) (x2 : Int) (x3 : Int) (S : mSt) : Prop :=
  (((S r0 2) ≤ x3 → ko35 x2 S) ∧ (x3 < (S r0 2) → (((bAnd (bShr x1 x3) 1) ≠ 1 → w_X2_takenBy_29 N Q ko4 r0 x1 x2 x3 S) ∧ ((bAnd (bShr x1 x3) 1) = 1 → w_X2_takes N r0 x3 S (fun (S1 : mSt) (v1 : Int) => ∀ v2 : Int, v2 = (bOr x2 v1) → w_X2_takenBy_29 N Q ko4 r0 x1 v2 x3 S1)))))
theorem W_X2_takenBy_4b (C : mC p l s m args meth c cX2_takenBy "MoonWash$Laundry" 4 (some FieldType.int) g) (N : Nat) {Q : mSt → Int → Prop} {ko4 : Nat → Int → Int → Int → mSt → Prop} {ko35 : Int → mSt → Prop} (hko4 : ∀ (r0 : Nat) (kr0 : KX r0 = (0, 1, 0)) (x1 : Int) (ox1 : okI x1) (x2 : Int) (ox2 : okI x2) (x3 : Int) (ox3 : okI x3) (S : mSt) (H : Heap) (locs : List Loc) (ls : Array Slot), lv_has ls 4 [(0, .ref (b + r0)), (1, .int (mI x1)), (2, .int (mI x2)), (3, .int (mI x3))] → mW g b KX S H → va_S (mA b KX s.heap.size) s.heap H locs → ko4 r0 x1 x2 x3 S → W p l e { frames := 1, cells := 0, slots := 0, locals := 21 } s m args below meth c H locs 0 0 (vx_MQ below (mQi g b KX Q (mA b KX s.heap.size)) (mEx g b KX (fun _ _ => False) (mA b KX s.heap.size)) args s 0 0 (mA b KX s.heap.size)) (F0 m 4 ls [])) (hko35 : ∀ (x2 : Int) (ox2 : okI x2) (S : mSt) (H : Heap) (locs : List Loc) (ls : Array Slot), lv_has ls 4 [(2, .int (mI x2))] → mW g b KX S H → va_S (mA b KX s.heap.size) s.heap H locs → ko35 x2 S → W p l e { frames := 1, cells := 0, slots := 0, locals := 21 } s m args below meth c H locs 0 0 (vx_MQ below (mQi g b KX Q (mA b KX s.heap.size)) (mEx g b KX (fun _ _ => False) (mA b KX s.heap.size)) args s 0 0 (mA b KX s.heap.size)) (F0 m 35 ls [])) (r0 : Nat) (kr0 : KX r0 = (0, 1, 0)) (x1 : Int) (ox1 : okI x1) (x2 : Int) (ox2 : okI x2) (x3 : Int) (ox3 : okI x3) (S : mSt) (H : Heap) (locs : List Loc) (ls : Array Slot) (hl : lv_has ls 4 [(0, .ref (b + r0)), (1, .int (mI x1)), (2, .int (mI x2)), (3, .int (mI x3))]) (hW : mW g b KX S H) (hS : va_S (mA b KX s.heap.size) s.heap H locs) (h : w_X2_takenBy_4b N Q ko4 ko35 r0 x1 x2 x3 S) : W p l e { frames := 1, cells := 0, slots := 0, locals := 21 } s m args below meth c H locs 0 0 (vx_MQ below (mQi g b KX Q (mA b KX s.heap.size)) (mEx g b KX (fun _ _ => False) (mA b KX s.heap.size)) args s 0 0 (mA b KX s.heap.size)) (F0 m 4 ls []) := by
  unfold w_X2_takenBy_4b at h
  refine m_iload_n (pc := 4) C.1 dX2_takenBy_4 rfl hl 3 rfl ?_
  refine m_aload_n (pc := 5) C.1 dX2_takenBy_5 rfl hl 0 rfl ?_
  refine g_1_2 (pc := 6) C hW kr0 q_190 dX2_takenBy_6 ?_
  refine m_icmp_ge (pc := 9) (tgt := 35) C.1 ox3 (hW.2.1 _ _) dX2_takenBy_9 (by decide) (fun hc => ?_) (fun hc => ?_)
  · replace h := h.1 hc
    exact hko35 x2 ox2 S _ _ _ (lv_sub hl [2] rfl) hW hS h
  · replace h := h.2 hc
    refine m_iload_n (pc := 12) C.1 dX2_takenBy_12 rfl hl 1 rfl ?_
    refine m_iload_n (pc := 13) C.1 dX2_takenBy_13 rfl hl 3 rfl ?_
    refine m_ishr (pc := 14) C.1 dX2_takenBy_14 ?_
    refine m_iconst (pc := 15) C.1 dX2_takenBy_15 ?_
    refine m_iand (pc := 16) C.1 dX2_takenBy_16 ?_
    refine m_iconst (pc := 17) C.1 dX2_takenBy_17 ?_
    refine m_icmp_ne (pc := 18) (tgt := 29) C.1 (bAnd_ok _ _) (by decide : okI 1) dX2_takenBy_18 (by decide) (fun hc => ?_) (fun hc => ?_)
    · replace h := h.1 hc
      exact W_X2_takenBy_29 C N hko4 r0 kr0 x1 ox1 x2 ox2 x3 ox3 S _ _ _ (lv_sub hl [0, 1, 2, 3] rfl) hW hS h
    · replace h := h.2 hc
      refine m_iload_n (pc := 21) C.1 dX2_takenBy_21 rfl hl 2 rfl ?_
      refine m_aload_n (pc := 22) C.1 dX2_takenBy_22 rfl hl 0 rfl ?_
      refine m_iload_n (pc := 23) C.1 dX2_takenBy_23 rfl hl 3 rfl ?_
      refine m_callVi (pc := 24) C.1 C.2.2.1 hl.1 C.2.1 hW hS (As := [.int (mI x3)]) (rest := [.int (mI x2)]) (r := r0) (T_X2_takes C.2.2.2.2.2.2 N r0 kr0 x3 ox3 h) kr0 rfl q_971 q_972 q_973 q_82 q_974 pl_X2_takes (by decide) (Nat.le_of_ble_eq_true rfl) dX2_takenBy_24 (fun v1 S1 H locs ov1 h hW1 hS => ?_)
      refine m_ior (pc := 27) C.1 dX2_takenBy_27 ?_
      refine m_istore_n (pc := 28) C.1 dX2_takenBy_28 rfl hl (by decide) (fun v => [(2, .int v), (0, .ref (b + r0)), (1, .int (mI x1)), (3, .int (mI x3))]) (fun _ => rfl) (bOr_ok _ _) (fun v2 ls ev2 ov2 hl => ?_)
      replace h := h v2 ev2
      exact W_X2_takenBy_29 C N hko4 r0 kr0 x1 ox1 v2 ov2 x3 ox3 S1 _ _ _ (lv_sub hl [1, 2, 0, 3] rfl) hW1 hS h
def w_X2_takenBy_4 (N : Nat) (Q : mSt → Int → Prop) (ko35 : Int → mSt → Prop) : Nat → Nat → Int → Int → Int → mSt → Prop
  | 0 => fun _ _ _ _ _ => False
  | k + 1 => w_X2_takenBy_4b N Q (w_X2_takenBy_4 N Q ko35 k) ko35
theorem W_X2_takenBy_4 (C : mC p l s m args meth c cX2_takenBy "MoonWash$Laundry" 4 (some FieldType.int) g) (N : Nat) {Q : mSt → Int → Prop} {ko35 : Int → mSt → Prop} (hko35 : ∀ (x2 : Int) (ox2 : okI x2) (S : mSt) (H : Heap) (locs : List Loc) (ls : Array Slot), lv_has ls 4 [(2, .int (mI x2))] → mW g b KX S H → va_S (mA b KX s.heap.size) s.heap H locs → ko35 x2 S → W p l e { frames := 1, cells := 0, slots := 0, locals := 21 } s m args below meth c H locs 0 0 (vx_MQ below (mQi g b KX Q (mA b KX s.heap.size)) (mEx g b KX (fun _ _ => False) (mA b KX s.heap.size)) args s 0 0 (mA b KX s.heap.size)) (F0 m 35 ls [])) : ∀ (k : Nat) (r0 : Nat) (kr0 : KX r0 = (0, 1, 0)) (x1 : Int) (ox1 : okI x1) (x2 : Int) (ox2 : okI x2) (x3 : Int) (ox3 : okI x3) (S : mSt) (H : Heap) (locs : List Loc) (ls : Array Slot) (hl : lv_has ls 4 [(0, .ref (b + r0)), (1, .int (mI x1)), (2, .int (mI x2)), (3, .int (mI x3))]) (hW : mW g b KX S H) (hS : va_S (mA b KX s.heap.size) s.heap H locs) (h : w_X2_takenBy_4 N Q ko35 k r0 x1 x2 x3 S), W p l e { frames := 1, cells := 0, slots := 0, locals := 21 } s m args below meth c H locs 0 0 (vx_MQ below (mQi g b KX Q (mA b KX s.heap.size)) (mEx g b KX (fun _ _ => False) (mA b KX s.heap.size)) args s 0 0 (mA b KX s.heap.size)) (F0 m 4 ls []) := by
  intro k
  induction k with
  | zero => intro r0 kr0 x1 ox1 x2 ox2 x3 ox3 S H locs ls hl hW hS h; exact False.elim h
  | succ k ih => intro r0 kr0 x1 ox1 x2 ox2 x3 ox3 S H locs ls hl hW hS h; exact W_X2_takenBy_4b C N ih hko35 r0 kr0 x1 ox1 x2 ox2 x3 ox3 S H locs ls hl hW hS h
end
def w_X2_takenBy (N : Nat) (r0 : Nat) (x1 : Int) (S : mSt) (Q : mSt → Int → Prop) : Prop :=
  ∀ v1 : Int, v1 = 0 → ∀ v2 : Int, v2 = 0 → w_X2_takenBy_4 N Q (fun (x2_3 : Int) (S_3 : mSt) => Q S_3 x2_3) N r0 x1 v1 v2 S
theorem T_X2_takenBy {l : Launch} (hl0 : l.stackTraces = false) {g : mG} {b : Nat} (N : Nat) (r0 : Nat) (kr0 : KX r0 = (0, 1, 0)) (x1 : Int) (ox1 : okI x1) {S : mSt} {Q : mSt → Int → Prop} (h : w_X2_takenBy N r0 x1 S Q) (sz : Nat) : vx_Met l yX2_takenBy (Cond.code yX2_takenBy cX2_takenBy 4 (some FieldType.int) :: wsG) { frames := 1, cells := 0, slots := 0, locals := 21 } (mPc g b KX S [.ref (b + r0), .int (mI x1)] sz) (mQi g b KX Q (mA b KX sz)) (mEx g b KX (fun _ _ => False) (mA b KX sz)) 0 0 (mA b KX sz) :=
  m_of (av := [.ref (b + r0), .int (mI x1)]) (Qf := fun A => mQi g b KX Q A) (Xf := fun A => mEx g b KX (fun _ _ => False) A) (by decide) (Nat.le_of_ble_eq_true rfl) (fun p e s m args below meth c ls X hK hml hr hlk hout hnm hW hl => by
    have C : mC p l s m args meth c cX2_takenBy "MoonWash$Laundry" 4 (some FieldType.int) g := ⟨X, hK, hml, hr, hlk, hout, hl0⟩
    have hS : va_S (mA b KX s.heap.size) s.heap s.heap [] := va_S.rf
    have hl : lv_has ls 4 [(0, .ref (b + r0)), (1, .int (mI x1))] := hl
    unfold w_X2_takenBy at h
    refine m_iconst (pc := 0) C.1 dX2_takenBy_0 ?_
    refine m_istore_n (pc := 1) C.1 dX2_takenBy_1 rfl hl (by decide) (fun v => [(2, .int v), (0, .ref (b + r0)), (1, .int (mI x1))]) (fun _ => rfl) (by decide : okI 0) (fun v1 ls ev1 ov1 hl => ?_)
    replace h := h v1 ev1
    refine m_iconst (pc := 2) C.1 dX2_takenBy_2 ?_
    refine m_istore_n (pc := 3) C.1 dX2_takenBy_3 rfl hl (by decide) (fun v => [(3, .int v), (2, .int (mI v1)), (0, .ref (b + r0)), (1, .int (mI x1))]) (fun _ => rfl) (by decide : okI 0) (fun v2 ls ev2 ov2 hl => ?_)
    replace h := h v2 ev2
    refine W_X2_takenBy_4 C N ?_ N r0 kr0 x1 ox1 v1 ov1 v2 ov2 S _ _ _ (lv_sub hl [2, 3, 1, 0] rfl) hW hS h
    · intro x2_3 ox2_3 S_3 H locs ls hl hW_3 hS h
      refine m_iload_n (pc := 35) C.1 dX2_takenBy_35 rfl hl 0 rfl ?_
      exact m_iret (pc := 36) C.1 C.2.2.2.1 C.2.2.2.2.1 hW_3 hS ox2_3 h (by decide) (by decide) dX2_takenBy_36) sz
section
variable {p : Program} {l : Launch} {e : Env} {s : State} {m : MethodId} {args : Array Value} {below : List Frame} {meth : Method} {c : Code} {g : mG} {b : Nat}
end
def w_X2_takenByAny (N : Nat) (r0 : Nat) (S : mSt) (Q : mSt → Int → Prop) : Prop :=
  w_X2_takenBy N r0 63 S (fun (S1 : mSt) (v1 : Int) => Q S1 v1)
theorem T_X2_takenByAny {l : Launch} (hl0 : l.stackTraces = false) {g : mG} {b : Nat} (N : Nat) (r0 : Nat) (kr0 : KX r0 = (0, 1, 0)) {S : mSt} {Q : mSt → Int → Prop} (h : w_X2_takenByAny N r0 S Q) (sz : Nat) : vx_Met l yX2_takenByAny (Cond.code yX2_takenByAny cX2_takenByAny 1 (some FieldType.int) :: wsG) { frames := 2, cells := 0, slots := 0, locals := 44 } (mPc g b KX S [.ref (b + r0)] sz) (mQi g b KX Q (mA b KX sz)) (mEx g b KX (fun _ _ => False) (mA b KX sz)) 0 0 (mA b KX sz) :=
  m_of (av := [.ref (b + r0)]) (Qf := fun A => mQi g b KX Q A) (Xf := fun A => mEx g b KX (fun _ _ => False) A) (by decide) (Nat.le_of_ble_eq_true rfl) (fun p e s m args below meth c ls X hK hml hr hlk hout hnm hW hl => by
    have C : mC p l s m args meth c cX2_takenByAny "MoonWash$Laundry" 1 (some FieldType.int) g := ⟨X, hK, hml, hr, hlk, hout, hl0⟩
    have hS : va_S (mA b KX s.heap.size) s.heap s.heap [] := va_S.rf
    have hl : lv_has ls 1 [(0, .ref (b + r0))] := hl
    unfold w_X2_takenByAny at h
    refine m_aload_n (pc := 0) C.1 dX2_takenByAny_0 rfl hl 0 rfl ?_
    refine m_bipush (pc := 1) C.1 dX2_takenByAny_1 rfl ?_
    refine m_callVi (pc := 3) C.1 C.2.2.1 hl.1 C.2.1 hW hS (As := [.int (mI 63)]) (rest := []) (r := r0) (T_X2_takenBy C.2.2.2.2.2.2 N r0 kr0 63 (by decide : okI 63) h) kr0 rfl q_967 q_968 q_969 q_82 q_970 pl_X2_takenBy (by decide) (Nat.le_of_ble_eq_true rfl) dX2_takenByAny_3 (fun v1 S1 H locs ov1 h hW1 hS => ?_)
    exact m_iret (pc := 6) C.1 C.2.2.2.1 C.2.2.2.2.1 hW1 hS ov1 h (by decide) (by decide) dX2_takenByAny_6) sz
section
variable {p : Program} {l : Launch} {e : Env} {s : State} {m : MethodId} {args : Array Value} {below : List Frame} {meth : Method} {c : Code} {g : mG} {b : Nat}
def w_X2_removeSoap_4b (N : Nat) (Q : mSt → Prop) (ko4 : Nat → Int → mSt → Prop) (ko35 : Nat → mSt → Prop) (r0 : Nat) (x2 : Int) (S : mSt) : Prop :=
  ((24 ≤ (nm (x2 + 4)) → ko35 r0 S) ∧ ((nm (x2 + 4)) < 24 → (0 ≤ (nm (x2 + 4)) ∧ (nm (x2 + 4)) < 24 ∧ (0 ≤ x2 ∧ x2 < 24 ∧ ∀ S3 : mSt, S3 = mup S (r0 + 8) x2 (S (r0 + 8) (nm (x2 + 4))) → ∀ v4 : Int, v4 = nm (x2 + 1) → ko4 r0 v4 S3))))
theorem W_X2_removeSoap_4b (C : mC p l s m args meth c cX2_removeSoap "MoonWash$Laundry" 3 none g) (N : Nat) {Q : mSt → Prop} {ko4 : Nat → Int → mSt → Prop} {ko35 : Nat → mSt → Prop} (hko4 : ∀ (r0 : Nat) (kr0 : KX r0 = (0, 1, 0)) (x2 : Int) (ox2 : okI x2) (S : mSt) (H : Heap) (locs : List Loc) (ls : Array Slot), lv_has ls 3 [(0, .ref (b + r0)), (2, .int (mI x2))] → mW g b KX S H → va_S (mA b KX s.heap.size) s.heap H locs → ko4 r0 x2 S → W p l e { frames := 0, cells := 0, slots := 0, locals := 0 } s m args below meth c H locs 0 0 (vx_MQ below (mQv g b KX Q (mA b KX s.heap.size)) (mEx g b KX (fun _ _ => False) (mA b KX s.heap.size)) args s 0 0 (mA b KX s.heap.size)) (F0 m 4 ls [])) (hko35 : ∀ (r0 : Nat) (kr0 : KX r0 = (0, 1, 0)) (S : mSt) (H : Heap) (locs : List Loc) (ls : Array Slot), lv_has ls 3 [(0, .ref (b + r0))] → mW g b KX S H → va_S (mA b KX s.heap.size) s.heap H locs → ko35 r0 S → W p l e { frames := 0, cells := 0, slots := 0, locals := 0 } s m args below meth c H locs 0 0 (vx_MQ below (mQv g b KX Q (mA b KX s.heap.size)) (mEx g b KX (fun _ _ => False) (mA b KX s.heap.size)) args s 0 0 (mA b KX s.heap.size)) (F0 m 35 ls [])) (r0 : Nat) (kr0 : KX r0 = (0, 1, 0)) (x2 : Int) (ox2 : okI x2) (S : mSt) (H : Heap) (locs : List Loc) (ls : Array Slot) (hl : lv_has ls 3 [(0, .ref (b + r0)), (2, .int (mI x2))]) (hW : mW g b KX S H) (hS : va_S (mA b KX s.heap.size) s.heap H locs) (h : w_X2_removeSoap_4b N Q ko4 ko35 r0 x2 S) : W p l e { frames := 0, cells := 0, slots := 0, locals := 0 } s m args below meth c H locs 0 0 (vx_MQ below (mQv g b KX Q (mA b KX s.heap.size)) (mEx g b KX (fun _ _ => False) (mA b KX s.heap.size)) args s 0 0 (mA b KX s.heap.size)) (F0 m 4 ls []) := by
  unfold w_X2_removeSoap_4b at h
  refine m_iload_n (pc := 4) C.1 dX2_removeSoap_4 rfl hl 1 rfl ?_
  refine m_iconst (pc := 5) C.1 dX2_removeSoap_5 ?_
  refine m_iadd (pc := 6) C.1 dX2_removeSoap_6 ?_
  refine m_aload_n (pc := 7) C.1 dX2_removeSoap_7 rfl hl 0 rfl ?_
  refine g_1_1 (pc := 8) C hW kr0 q_188 dX2_removeSoap_8 ?_
  refine m_alen (pc := 11) C.1 C.2.1 hW (k_1_1 kr0) (Or.inl rfl) dX2_removeSoap_11 ?_
  refine m_icmp_ge (pc := 12) (tgt := 35) C.1 (nm_ok _) (by decide : okI 24) dX2_removeSoap_12 (by decide) (fun hc => ?_) (fun hc => ?_)
  · replace h := h.1 hc
    exact hko35 r0 kr0 S _ _ _ (lv_sub hl [0] rfl) hW hS h
  · replace h := h.2 hc
    refine m_aload_n (pc := 15) C.1 dX2_removeSoap_15 rfl hl 0 rfl ?_
    refine g_1_1 (pc := 16) C hW kr0 q_188 dX2_removeSoap_16 ?_
    refine m_iload_n (pc := 19) C.1 dX2_removeSoap_19 rfl hl 1 rfl ?_
    refine m_aload_n (pc := 20) C.1 dX2_removeSoap_20 rfl hl 0 rfl ?_
    refine g_1_1 (pc := 21) C hW kr0 q_188 dX2_removeSoap_21 ?_
    refine m_iload_n (pc := 24) C.1 dX2_removeSoap_24 rfl hl 1 rfl ?_
    refine m_iconst (pc := 25) C.1 dX2_removeSoap_25 ?_
    refine m_iadd (pc := 26) C.1 dX2_removeSoap_26 ?_
    obtain ⟨hb1a, hb1b, h⟩ := h
    refine m_iald (pc := 27) C.1 C.2.1 hW (k_1_1 kr0) (nm_ok _) hb1a hb1b dX2_removeSoap_27 ?_
    obtain ⟨hb2a, hb2b, h⟩ := h
    refine m_iast (pc := 28) C.1 C.2.1 hW hS (k_1_1 kr0) ox2 (hW.2.1 _ _) hb2a hb2b dX2_removeSoap_28 (fun S3 H locs e3 hW3 hS => ?_)
    replace h := h S3 e3
    refine m_iinc (pc := 29) C.1 dX2_removeSoap_29 hl (by decide) (q0 := 1) rfl (fun v => [(2, .int v), (0, .ref (b + r0))]) (fun _ => rfl) (fun v4 ls ev4 ov4 hl => ?_)
    replace h := h v4 ev4
    refine m_goto (pc := 32) (tgt := 4) C.1 dX2_removeSoap_32 (by decide) ?_
    exact hko4 r0 kr0 v4 ov4 S3 _ _ _ (lv_sub hl [1, 0] rfl) hW3 hS h
def w_X2_removeSoap_4 (N : Nat) (Q : mSt → Prop) (ko35 : Nat → mSt → Prop) : Nat → Nat → Int → mSt → Prop
  | 0 => fun _ _ _ => False
  | k + 1 => w_X2_removeSoap_4b N Q (w_X2_removeSoap_4 N Q ko35 k) ko35
theorem W_X2_removeSoap_4 (C : mC p l s m args meth c cX2_removeSoap "MoonWash$Laundry" 3 none g) (N : Nat) {Q : mSt → Prop} {ko35 : Nat → mSt → Prop} (hko35 : ∀ (r0 : Nat) (kr0 : KX r0 = (0, 1, 0)) (S : mSt) (H : Heap) (locs : List Loc) (ls : Array Slot), lv_has ls 3 [(0, .ref (b + r0))] → mW g b KX S H → va_S (mA b KX s.heap.size) s.heap H locs → ko35 r0 S → W p l e { frames := 0, cells := 0, slots := 0, locals := 0 } s m args below meth c H locs 0 0 (vx_MQ below (mQv g b KX Q (mA b KX s.heap.size)) (mEx g b KX (fun _ _ => False) (mA b KX s.heap.size)) args s 0 0 (mA b KX s.heap.size)) (F0 m 35 ls [])) : ∀ (k : Nat) (r0 : Nat) (kr0 : KX r0 = (0, 1, 0)) (x2 : Int) (ox2 : okI x2) (S : mSt) (H : Heap) (locs : List Loc) (ls : Array Slot) (hl : lv_has ls 3 [(0, .ref (b + r0)), (2, .int (mI x2))]) (hW : mW g b KX S H) (hS : va_S (mA b KX s.heap.size) s.heap H locs) (h : w_X2_removeSoap_4 N Q ko35 k r0 x2 S), W p l e { frames := 0, cells := 0, slots := 0, locals := 0 } s m args below meth c H locs 0 0 (vx_MQ below (mQv g b KX Q (mA b KX s.heap.size)) (mEx g b KX (fun _ _ => False) (mA b KX s.heap.size)) args s 0 0 (mA b KX s.heap.size)) (F0 m 4 ls []) := by
  intro k
  induction k with
  | zero => intro r0 kr0 x2 ox2 S H locs ls hl hW hS h; exact False.elim h
  | succ k ih => intro r0 kr0 x2 ox2 S H locs ls hl hW hS h; exact W_X2_removeSoap_4b C N ih hko35 r0 kr0 x2 ox2 S H locs ls hl hW hS h
end
def w_X2_removeSoap (N : Nat) (r0 : Nat) (x1 : Int) (S : mSt) (Q : mSt → Prop) : Prop :=
  ∀ v1 : Int, v1 = (nm (x1 * 4)) → w_X2_removeSoap_4 N Q (fun (r0_2 : Nat) (S_2 : mSt) => ∀ S3 : mSt, S3 = mup S_2 r0_2 2 (nm ((S_2 r0_2 2) - 1)) → Q S3) N r0 v1 S
theorem T_X2_removeSoap {l : Launch} (hl0 : l.stackTraces = false) {g : mG} {b : Nat} (N : Nat) (r0 : Nat) (kr0 : KX r0 = (0, 1, 0)) (x1 : Int) (ox1 : okI x1) {S : mSt} {Q : mSt → Prop} (h : w_X2_removeSoap N r0 x1 S Q) (sz : Nat) : vx_Met l yX2_removeSoap (Cond.code yX2_removeSoap cX2_removeSoap 3 none :: wsG) { frames := 0, cells := 0, slots := 0, locals := 0 } (mPc g b KX S [.ref (b + r0), .int (mI x1)] sz) (mQv g b KX Q (mA b KX sz)) (mEx g b KX (fun _ _ => False) (mA b KX sz)) 0 0 (mA b KX sz) :=
  m_of (av := [.ref (b + r0), .int (mI x1)]) (Qf := fun A => mQv g b KX Q A) (Xf := fun A => mEx g b KX (fun _ _ => False) A) (by decide) (Nat.le_of_ble_eq_true rfl) (fun p e s m args below meth c ls X hK hml hr hlk hout hnm hW hl => by
    have C : mC p l s m args meth c cX2_removeSoap "MoonWash$Laundry" 3 none g := ⟨X, hK, hml, hr, hlk, hout, hl0⟩
    have hS : va_S (mA b KX s.heap.size) s.heap s.heap [] := va_S.rf
    have hl : lv_has ls 3 [(0, .ref (b + r0)), (1, .int (mI x1))] := hl
    unfold w_X2_removeSoap at h
    refine m_iload_n (pc := 0) C.1 dX2_removeSoap_0 rfl hl 1 rfl ?_
    refine m_iconst (pc := 1) C.1 dX2_removeSoap_1 ?_
    refine m_imul (pc := 2) C.1 dX2_removeSoap_2 ?_
    refine m_istore_n (pc := 3) C.1 dX2_removeSoap_3 rfl hl (by decide) (fun v => [(2, .int v), (0, .ref (b + r0)), (1, .int (mI x1))]) (fun _ => rfl) (nm_ok _) (fun v1 ls ev1 ov1 hl => ?_)
    replace h := h v1 ev1
    refine W_X2_removeSoap_4 C N ?_ N r0 kr0 v1 ov1 S _ _ _ (lv_sub hl [1, 0] rfl) hW hS h
    · intro r0_2 kr0_2 S_2 H locs ls hl hW_2 hS h
      refine m_aload_n (pc := 35) C.1 dX2_removeSoap_35 rfl hl 0 rfl ?_
      refine lv_dup (pc := 36) C.1.1 C.1.2.1 dX2_removeSoap_36 rfl ?_
      refine g_1_2 (pc := 37) C hW_2 kr0_2 q_190 dX2_removeSoap_37 ?_
      refine m_iconst (pc := 40) C.1 dX2_removeSoap_40 ?_
      refine m_isub (pc := 41) C.1 dX2_removeSoap_41 ?_
      refine p_1_2 (pc := 42) C hW_2 hS kr0_2 q_190 (nm_ok _) dX2_removeSoap_42 (fun S3 H locs e3 hW3 hS => ?_)
      replace h := h S3 e3
      exact m_vret (pc := 45) C.1 C.2.2.2.1 C.2.2.2.2.1 hW3 hS h (by decide) (by decide) dX2_removeSoap_45) sz
section
variable {p : Program} {l : Launch} {e : Env} {s : State} {m : MethodId} {args : Array Value} {below : List Frame} {meth : Method} {c : Code} {g : mG} {b : Nat}
end
def w_X2_dueNight (N : Nat) (r0 : Nat) (x1 : Int) (S : mSt) (Q : mSt → Int → Prop) : Prop :=
  (0 ≤ (nm (x1 * 2)) ∧ (nm (x1 * 2)) < 16 ∧ Q S (S (r0 + 9) (nm (x1 * 2))))
theorem T_X2_dueNight {l : Launch} (hl0 : l.stackTraces = false) {g : mG} {b : Nat} (N : Nat) (r0 : Nat) (kr0 : KX r0 = (0, 1, 0)) (x1 : Int) (ox1 : okI x1) {S : mSt} {Q : mSt → Int → Prop} (h : w_X2_dueNight N r0 x1 S Q) (sz : Nat) : vx_Met l yX2_dueNight (Cond.code yX2_dueNight cX2_dueNight 2 (some FieldType.int) :: wsG) { frames := 0, cells := 0, slots := 0, locals := 0 } (mPc g b KX S [.ref (b + r0), .int (mI x1)] sz) (mQi g b KX Q (mA b KX sz)) (mEx g b KX (fun _ _ => False) (mA b KX sz)) 0 0 (mA b KX sz) :=
  m_of (av := [.ref (b + r0), .int (mI x1)]) (Qf := fun A => mQi g b KX Q A) (Xf := fun A => mEx g b KX (fun _ _ => False) A) (by decide) (Nat.le_of_ble_eq_true rfl) (fun p e s m args below meth c ls X hK hml hr hlk hout hnm hW hl => by
    have C : mC p l s m args meth c cX2_dueNight "MoonWash$Laundry" 2 (some FieldType.int) g := ⟨X, hK, hml, hr, hlk, hout, hl0⟩
    have hS : va_S (mA b KX s.heap.size) s.heap s.heap [] := va_S.rf
    have hl : lv_has ls 2 [(0, .ref (b + r0)), (1, .int (mI x1))] := hl
    unfold w_X2_dueNight at h
    refine m_aload_n (pc := 0) C.1 dX2_dueNight_0 rfl hl 0 rfl ?_
    refine g_1_3 (pc := 1) C hW kr0 q_193 dX2_dueNight_1 ?_
    refine m_iload_n (pc := 4) C.1 dX2_dueNight_4 rfl hl 1 rfl ?_
    refine m_iconst (pc := 5) C.1 dX2_dueNight_5 ?_
    refine m_imul (pc := 6) C.1 dX2_dueNight_6 ?_
    obtain ⟨hb1a, hb1b, h⟩ := h
    refine m_iald (pc := 7) C.1 C.2.1 hW (k_1_3 kr0) (nm_ok _) hb1a hb1b dX2_dueNight_7 ?_
    exact m_iret (pc := 8) C.1 C.2.2.2.1 C.2.2.2.2.1 hW hS (hW.2.1 _ _) h (by decide) (by decide) dX2_dueNight_8) sz
section
variable {p : Program} {l : Launch} {e : Env} {s : State} {m : MethodId} {args : Array Value} {below : List Frame} {meth : Method} {c : Code} {g : mG} {b : Nat}
end
def w_X2_dueLight (N : Nat) (r0 : Nat) (x1 : Int) (S : mSt) (Q : mSt → Int → Prop) : Prop :=
  (0 ≤ (nm ((nm (x1 * 2)) + 1)) ∧ (nm ((nm (x1 * 2)) + 1)) < 16 ∧ Q S (S (r0 + 9) (nm ((nm (x1 * 2)) + 1))))
theorem T_X2_dueLight {l : Launch} (hl0 : l.stackTraces = false) {g : mG} {b : Nat} (N : Nat) (r0 : Nat) (kr0 : KX r0 = (0, 1, 0)) (x1 : Int) (ox1 : okI x1) {S : mSt} {Q : mSt → Int → Prop} (h : w_X2_dueLight N r0 x1 S Q) (sz : Nat) : vx_Met l yX2_dueLight (Cond.code yX2_dueLight cX2_dueLight 2 (some FieldType.int) :: wsG) { frames := 0, cells := 0, slots := 0, locals := 0 } (mPc g b KX S [.ref (b + r0), .int (mI x1)] sz) (mQi g b KX Q (mA b KX sz)) (mEx g b KX (fun _ _ => False) (mA b KX sz)) 0 0 (mA b KX sz) :=
  m_of (av := [.ref (b + r0), .int (mI x1)]) (Qf := fun A => mQi g b KX Q A) (Xf := fun A => mEx g b KX (fun _ _ => False) A) (by decide) (Nat.le_of_ble_eq_true rfl) (fun p e s m args below meth c ls X hK hml hr hlk hout hnm hW hl => by
    have C : mC p l s m args meth c cX2_dueLight "MoonWash$Laundry" 2 (some FieldType.int) g := ⟨X, hK, hml, hr, hlk, hout, hl0⟩
    have hS : va_S (mA b KX s.heap.size) s.heap s.heap [] := va_S.rf
    have hl : lv_has ls 2 [(0, .ref (b + r0)), (1, .int (mI x1))] := hl
    unfold w_X2_dueLight at h
    refine m_aload_n (pc := 0) C.1 dX2_dueLight_0 rfl hl 0 rfl ?_
    refine g_1_3 (pc := 1) C hW kr0 q_193 dX2_dueLight_1 ?_
    refine m_iload_n (pc := 4) C.1 dX2_dueLight_4 rfl hl 1 rfl ?_
    refine m_iconst (pc := 5) C.1 dX2_dueLight_5 ?_
    refine m_imul (pc := 6) C.1 dX2_dueLight_6 ?_
    refine m_iconst (pc := 7) C.1 dX2_dueLight_7 ?_
    refine m_iadd (pc := 8) C.1 dX2_dueLight_8 ?_
    obtain ⟨hb1a, hb1b, h⟩ := h
    refine m_iald (pc := 9) C.1 C.2.1 hW (k_1_3 kr0) (nm_ok _) hb1a hb1b dX2_dueLight_9 ?_
    exact m_iret (pc := 10) C.1 C.2.2.2.1 C.2.2.2.2.1 hW hS (hW.2.1 _ _) h (by decide) (by decide) dX2_dueLight_10) sz
section
variable {p : Program} {l : Launch} {e : Env} {s : State} {m : MethodId} {args : Array Value} {below : List Frame} {meth : Method} {c : Code} {g : mG} {b : Nat}
end
def w_X2_addLog (N : Nat) (r0 : Nat) (x1 : Int) (x2 : Int) (x3 : Int) (S : mSt) (Q : mSt → Prop) : Prop :=
  ∀ v1 : Int, v1 = (nm ((iRem (S r0 12) 60) * 4)) → (0 ≤ v1 ∧ v1 < 240 ∧ ∀ S3 : mSt, S3 = mup S (r0 + 10) v1 (S (r0 + 1) 7) → (0 ≤ (nm (v1 + 1)) ∧ (nm (v1 + 1)) < 240 ∧ ∀ S5 : mSt, S5 = mup S3 (r0 + 10) (nm (v1 + 1)) x1 → (0 ≤ (nm (v1 + 2)) ∧ (nm (v1 + 2)) < 240 ∧ ∀ S7 : mSt, S7 = mup S5 (r0 + 10) (nm (v1 + 2)) x2 → (0 ≤ (nm (v1 + 3)) ∧ (nm (v1 + 3)) < 240 ∧ ∀ S9 : mSt, S9 = mup S7 (r0 + 10) (nm (v1 + 3)) x3 → ∀ S10 : mSt, S10 = mup S9 r0 12 (nm ((S9 r0 12) + 1)) → Q S10))))
theorem T_X2_addLog {l : Launch} (hl0 : l.stackTraces = false) {g : mG} {b : Nat} (N : Nat) (r0 : Nat) (kr0 : KX r0 = (0, 1, 0)) (x1 : Int) (ox1 : okI x1) (x2 : Int) (ox2 : okI x2) (x3 : Int) (ox3 : okI x3) {S : mSt} {Q : mSt → Prop} (h : w_X2_addLog N r0 x1 x2 x3 S Q) (sz : Nat) : vx_Met l yX2_addLog (Cond.code yX2_addLog cX2_addLog 5 none :: wsG) { frames := 0, cells := 0, slots := 0, locals := 0 } (mPc g b KX S [.ref (b + r0), .int (mI x1), .int (mI x2), .int (mI x3)] sz) (mQv g b KX Q (mA b KX sz)) (mEx g b KX (fun _ _ => False) (mA b KX sz)) 0 0 (mA b KX sz) :=
  m_of (av := [.ref (b + r0), .int (mI x1), .int (mI x2), .int (mI x3)]) (Qf := fun A => mQv g b KX Q A) (Xf := fun A => mEx g b KX (fun _ _ => False) A) (by decide) (Nat.le_of_ble_eq_true rfl) (fun p e s m args below meth c ls X hK hml hr hlk hout hnm hW hl => by
    have C : mC p l s m args meth c cX2_addLog "MoonWash$Laundry" 5 none g := ⟨X, hK, hml, hr, hlk, hout, hl0⟩
    have hS : va_S (mA b KX s.heap.size) s.heap s.heap [] := va_S.rf
    have hl : lv_has ls 5 [(0, .ref (b + r0)), (1, .int (mI x1)), (2, .int (mI x2)), (3, .int (mI x3))] := hl
    unfold w_X2_addLog at h
    refine m_aload_n (pc := 0) C.1 dX2_addLog_0 rfl hl 0 rfl ?_
    refine g_1_12 (pc := 1) C hW kr0 q_214 dX2_addLog_1 ?_
    refine m_bipush (pc := 4) C.1 dX2_addLog_4 rfl ?_
    refine m_irem (pc := 6) C.1 (by decide : okI 60) (by decide) dX2_addLog_6 ?_
    refine m_iconst (pc := 7) C.1 dX2_addLog_7 ?_
    refine m_imul (pc := 8) C.1 dX2_addLog_8 ?_
    refine m_istore (pc := 9) C.1 dX2_addLog_9 hl (by decide) (fun v => [(4, .int v), (0, .ref (b + r0)), (1, .int (mI x1)), (2, .int (mI x2)), (3, .int (mI x3))]) (fun _ => rfl) (nm_ok _) (fun v1 ls ev1 ov1 hl => ?_)
    replace h := h v1 ev1
    refine m_aload_n (pc := 11) C.1 dX2_addLog_11 rfl hl 1 rfl ?_
    refine g_1_11 (pc := 12) C hW kr0 q_213 dX2_addLog_12 ?_
    refine m_iload (pc := 15) C.1 dX2_addLog_15 hl 0 rfl ?_
    refine m_aload_n (pc := 17) C.1 dX2_addLog_17 rfl hl 1 rfl ?_
    refine g_1_0 (pc := 18) C hW kr0 q_184 dX2_addLog_18 ?_
    refine g_3_7 (pc := 21) C hW (k_1_0 kr0) q_158 dX2_addLog_21 ?_
    obtain ⟨hb2a, hb2b, h⟩ := h
    refine m_iast (pc := 24) C.1 C.2.1 hW hS (k_1_11 kr0) ov1 (hW.2.1 _ _) hb2a hb2b dX2_addLog_24 (fun S3 H locs e3 hW3 hS => ?_)
    replace h := h S3 e3
    refine m_aload_n (pc := 25) C.1 dX2_addLog_25 rfl hl 1 rfl ?_
    refine g_1_11 (pc := 26) C hW3 kr0 q_213 dX2_addLog_26 ?_
    refine m_iload (pc := 29) C.1 dX2_addLog_29 hl 0 rfl ?_
    refine m_iconst (pc := 31) C.1 dX2_addLog_31 ?_
    refine m_iadd (pc := 32) C.1 dX2_addLog_32 ?_
    refine m_iload_n (pc := 33) C.1 dX2_addLog_33 rfl hl 2 rfl ?_
    obtain ⟨hb4a, hb4b, h⟩ := h
    refine m_iast (pc := 34) C.1 C.2.1 hW3 hS (k_1_11 kr0) (nm_ok _) ox1 hb4a hb4b dX2_addLog_34 (fun S5 H locs e5 hW5 hS => ?_)
    replace h := h S5 e5
    refine m_aload_n (pc := 35) C.1 dX2_addLog_35 rfl hl 1 rfl ?_
    refine g_1_11 (pc := 36) C hW5 kr0 q_213 dX2_addLog_36 ?_
    refine m_iload (pc := 39) C.1 dX2_addLog_39 hl 0 rfl ?_
    refine m_iconst (pc := 41) C.1 dX2_addLog_41 ?_
    refine m_iadd (pc := 42) C.1 dX2_addLog_42 ?_
    refine m_iload_n (pc := 43) C.1 dX2_addLog_43 rfl hl 3 rfl ?_
    obtain ⟨hb6a, hb6b, h⟩ := h
    refine m_iast (pc := 44) C.1 C.2.1 hW5 hS (k_1_11 kr0) (nm_ok _) ox2 hb6a hb6b dX2_addLog_44 (fun S7 H locs e7 hW7 hS => ?_)
    replace h := h S7 e7
    refine m_aload_n (pc := 45) C.1 dX2_addLog_45 rfl hl 1 rfl ?_
    refine g_1_11 (pc := 46) C hW7 kr0 q_213 dX2_addLog_46 ?_
    refine m_iload (pc := 49) C.1 dX2_addLog_49 hl 0 rfl ?_
    refine m_iconst (pc := 51) C.1 dX2_addLog_51 ?_
    refine m_iadd (pc := 52) C.1 dX2_addLog_52 ?_
    refine m_iload_n (pc := 53) C.1 dX2_addLog_53 rfl hl 4 rfl ?_
    obtain ⟨hb8a, hb8b, h⟩ := h
    refine m_iast (pc := 54) C.1 C.2.1 hW7 hS (k_1_11 kr0) (nm_ok _) ox3 hb8a hb8b dX2_addLog_54 (fun S9 H locs e9 hW9 hS => ?_)
    replace h := h S9 e9
    refine m_aload_n (pc := 55) C.1 dX2_addLog_55 rfl hl 1 rfl ?_
    refine lv_dup (pc := 56) C.1.1 C.1.2.1 dX2_addLog_56 rfl ?_
    refine g_1_12 (pc := 57) C hW9 kr0 q_214 dX2_addLog_57 ?_
    refine m_iconst (pc := 60) C.1 dX2_addLog_60 ?_
    refine m_iadd (pc := 61) C.1 dX2_addLog_61 ?_
    refine p_1_12 (pc := 62) C hW9 hS kr0 q_214 (nm_ok _) dX2_addLog_62 (fun S10 H locs e10 hW10 hS => ?_)
    replace h := h S10 e10
    exact m_vret (pc := 65) C.1 C.2.2.2.1 C.2.2.2.2.1 hW10 hS h (by decide) (by decide) dX2_addLog_65) sz
section
variable {p : Program} {l : Launch} {e : Env} {s : State} {m : MethodId} {args : Array Value} {below : List Frame} {meth : Method} {c : Code} {g : mG} {b : Nat}
end
def w_X2_logSize (N : Nat) (r0 : Nat) (S : mSt) (Q : mSt → Int → Prop) : Prop :=
  Q S (iMin (S r0 12) 60)
theorem T_X2_logSize {l : Launch} (hl0 : l.stackTraces = false) {g : mG} {b : Nat} (N : Nat) (r0 : Nat) (kr0 : KX r0 = (0, 1, 0)) {S : mSt} {Q : mSt → Int → Prop} (h : w_X2_logSize N r0 S Q) (sz : Nat) : vx_Met l yX2_logSize (Cond.code yX2_logSize cX2_logSize 1 (some FieldType.int) :: wsG) { frames := 1, cells := 0, slots := 0, locals := 30 } (mPc g b KX S [.ref (b + r0)] sz) (mQi g b KX Q (mA b KX sz)) (mEx g b KX (fun _ _ => False) (mA b KX sz)) 0 0 (mA b KX sz) :=
  m_of (av := [.ref (b + r0)]) (Qf := fun A => mQi g b KX Q A) (Xf := fun A => mEx g b KX (fun _ _ => False) A) (by decide) (Nat.le_of_ble_eq_true rfl) (fun p e s m args below meth c ls X hK hml hr hlk hout hnm hW hl => by
    have C : mC p l s m args meth c cX2_logSize "MoonWash$Laundry" 1 (some FieldType.int) g := ⟨X, hK, hml, hr, hlk, hout, hl0⟩
    have hS : va_S (mA b KX s.heap.size) s.heap s.heap [] := va_S.rf
    have hl : lv_has ls 1 [(0, .ref (b + r0))] := hl
    unfold w_X2_logSize at h
    refine m_aload_n (pc := 0) C.1 dX2_logSize_0 rfl hl 0 rfl ?_
    refine g_1_12 (pc := 1) C hW kr0 q_214 dX2_logSize_1 ?_
    refine m_bipush (pc := 4) C.1 dX2_logSize_4 rfl ?_
    refine m_min (pc := 6) C.1 C.2.2.1 hl.1 (hW.2.1 _ _) (by decide : okI 60) q_589 q_520 q_93 q_521 (by refine ⟨?_, Nat.le_of_ble_eq_true rfl, ?_, ?_⟩ <;> decide) dX2_logSize_6 ?_
    exact m_iret (pc := 9) C.1 C.2.2.2.1 C.2.2.2.2.1 hW hS (iMin_ok (hW.2.1 _ _) (by decide : okI 60)) h (by decide) (by decide) dX2_logSize_9) sz
section
variable {p : Program} {l : Launch} {e : Env} {s : State} {m : MethodId} {args : Array Value} {below : List Frame} {meth : Method} {c : Code} {g : mG} {b : Nat}
end
def w_X2_logged (N : Nat) (r0 : Nat) (x1 : Int) (x2 : Int) (S : mSt) (Q : mSt → Int → Prop) : Prop :=
  ∀ v1 : Int, v1 = (iRem (nm ((nm ((S r0 12) - 1)) - x1)) 60) → (0 ≤ (nm ((nm (v1 * 4)) + x2)) ∧ (nm ((nm (v1 * 4)) + x2)) < 240 ∧ Q S (S (r0 + 10) (nm ((nm (v1 * 4)) + x2))))
theorem T_X2_logged {l : Launch} (hl0 : l.stackTraces = false) {g : mG} {b : Nat} (N : Nat) (r0 : Nat) (kr0 : KX r0 = (0, 1, 0)) (x1 : Int) (ox1 : okI x1) (x2 : Int) (ox2 : okI x2) {S : mSt} {Q : mSt → Int → Prop} (h : w_X2_logged N r0 x1 x2 S Q) (sz : Nat) : vx_Met l yX2_logged (Cond.code yX2_logged cX2_logged 4 (some FieldType.int) :: wsG) { frames := 0, cells := 0, slots := 0, locals := 0 } (mPc g b KX S [.ref (b + r0), .int (mI x1), .int (mI x2)] sz) (mQi g b KX Q (mA b KX sz)) (mEx g b KX (fun _ _ => False) (mA b KX sz)) 0 0 (mA b KX sz) :=
  m_of (av := [.ref (b + r0), .int (mI x1), .int (mI x2)]) (Qf := fun A => mQi g b KX Q A) (Xf := fun A => mEx g b KX (fun _ _ => False) A) (by decide) (Nat.le_of_ble_eq_true rfl) (fun p e s m args below meth c ls X hK hml hr hlk hout hnm hW hl => by
    have C : mC p l s m args meth c cX2_logged "MoonWash$Laundry" 4 (some FieldType.int) g := ⟨X, hK, hml, hr, hlk, hout, hl0⟩
    have hS : va_S (mA b KX s.heap.size) s.heap s.heap [] := va_S.rf
    have hl : lv_has ls 4 [(0, .ref (b + r0)), (1, .int (mI x1)), (2, .int (mI x2))] := hl
    unfold w_X2_logged at h
    refine m_aload_n (pc := 0) C.1 dX2_logged_0 rfl hl 0 rfl ?_
    refine g_1_12 (pc := 1) C hW kr0 q_214 dX2_logged_1 ?_
    refine m_iconst (pc := 4) C.1 dX2_logged_4 ?_
    refine m_isub (pc := 5) C.1 dX2_logged_5 ?_
    refine m_iload_n (pc := 6) C.1 dX2_logged_6 rfl hl 1 rfl ?_
    refine m_isub (pc := 7) C.1 dX2_logged_7 ?_
    refine m_bipush (pc := 8) C.1 dX2_logged_8 rfl ?_
    refine m_irem (pc := 10) C.1 (by decide : okI 60) (by decide) dX2_logged_10 ?_
    refine m_istore_n (pc := 11) C.1 dX2_logged_11 rfl hl (by decide) (fun v => [(3, .int v), (0, .ref (b + r0)), (1, .int (mI x1)), (2, .int (mI x2))]) (fun _ => rfl) (iRem_ok _ _) (fun v1 ls ev1 ov1 hl => ?_)
    replace h := h v1 ev1
    refine m_aload_n (pc := 12) C.1 dX2_logged_12 rfl hl 1 rfl ?_
    refine g_1_11 (pc := 13) C hW kr0 q_213 dX2_logged_13 ?_
    refine m_iload_n (pc := 16) C.1 dX2_logged_16 rfl hl 0 rfl ?_
    refine m_iconst (pc := 17) C.1 dX2_logged_17 ?_
    refine m_imul (pc := 18) C.1 dX2_logged_18 ?_
    refine m_iload_n (pc := 19) C.1 dX2_logged_19 rfl hl 3 rfl ?_
    refine m_iadd (pc := 20) C.1 dX2_logged_20 ?_
    obtain ⟨hb2a, hb2b, h⟩ := h
    refine m_iald (pc := 21) C.1 C.2.1 hW (k_1_11 kr0) (nm_ok _) hb2a hb2b dX2_logged_21 ?_
    exact m_iret (pc := 22) C.1 C.2.2.2.1 C.2.2.2.2.1 hW hS (hW.2.1 _ _) h (by decide) (by decide) dX2_logged_22) sz
section
variable {p : Program} {l : Launch} {e : Env} {s : State} {m : MethodId} {args : Array Value} {below : List Frame} {meth : Method} {c : Code} {g : mG} {b : Nat}
end
def w_X2_draw (N : Nat) (r0 : Nat) (S : mSt) (Q : mSt → Int → Prop) : Prop :=
  ∀ S1 : mSt, S1 = mup S r0 10 (nm ((nm (1103515245 * (S r0 10))) + 12345)) → Q S1 (bAnd (bUsh (S1 r0 10) 16) 32767)
theorem T_X2_draw {l : Launch} (hl0 : l.stackTraces = false) {g : mG} {b : Nat} (N : Nat) (r0 : Nat) (kr0 : KX r0 = (0, 1, 0)) {S : mSt} {Q : mSt → Int → Prop} (h : w_X2_draw N r0 S Q) (sz : Nat) : vx_Met l yX2_draw (Cond.code yX2_draw cX2_draw 1 (some FieldType.int) :: wsG) { frames := 0, cells := 0, slots := 0, locals := 0 } (mPc g b KX S [.ref (b + r0)] sz) (mQi g b KX Q (mA b KX sz)) (mEx g b KX (fun _ _ => False) (mA b KX sz)) 0 0 (mA b KX sz) :=
  m_of (av := [.ref (b + r0)]) (Qf := fun A => mQi g b KX Q A) (Xf := fun A => mEx g b KX (fun _ _ => False) A) (by decide) (Nat.le_of_ble_eq_true rfl) (fun p e s m args below meth c ls X hK hml hr hlk hout hnm hW hl => by
    have C : mC p l s m args meth c cX2_draw "MoonWash$Laundry" 1 (some FieldType.int) g := ⟨X, hK, hml, hr, hlk, hout, hl0⟩
    have hS : va_S (mA b KX s.heap.size) s.heap s.heap [] := va_S.rf
    have hl : lv_has ls 1 [(0, .ref (b + r0))] := hl
    unfold w_X2_draw at h
    refine m_aload_n (pc := 0) C.1 dX2_draw_0 rfl hl 0 rfl ?_
    refine m_ldc (pc := 1) (n := 1103515245) C.1 q_1133 rfl dX2_draw_1 ?_
    refine m_aload_n (pc := 3) C.1 dX2_draw_3 rfl hl 0 rfl ?_
    refine g_1_10 (pc := 4) C hW kr0 q_211 dX2_draw_4 ?_
    refine m_imul (pc := 7) C.1 dX2_draw_7 ?_
    refine m_sipush (pc := 8) C.1 dX2_draw_8 rfl ?_
    refine m_iadd (pc := 11) C.1 dX2_draw_11 ?_
    refine p_1_10 (pc := 12) C hW hS kr0 q_211 (nm_ok _) dX2_draw_12 (fun S1 H locs e1 hW1 hS => ?_)
    replace h := h S1 e1
    refine m_aload_n (pc := 15) C.1 dX2_draw_15 rfl hl 0 rfl ?_
    refine g_1_10 (pc := 16) C hW1 kr0 q_211 dX2_draw_16 ?_
    refine m_bipush (pc := 19) C.1 dX2_draw_19 rfl ?_
    refine m_iushr (pc := 21) C.1 dX2_draw_21 ?_
    refine m_sipush (pc := 22) C.1 dX2_draw_22 rfl ?_
    refine m_iand (pc := 25) C.1 dX2_draw_25 ?_
    exact m_iret (pc := 26) C.1 C.2.2.2.1 C.2.2.2.2.1 hW1 hS (bAnd_ok _ _) h (by decide) (by decide) dX2_draw_26) sz
section
variable {p : Program} {l : Launch} {e : Env} {s : State} {m : MethodId} {args : Array Value} {below : List Frame} {meth : Method} {c : Code} {g : mG} {b : Nat}
end
def w_X3_driesBy (N : Nat) (r0 : Nat) (r1 : Nat) (x2 : Int) (S : mSt) (Q : mSt → Int → Prop) : Prop :=
  (0 ≤ x2 ∧ x2 < 8 ∧ (0 ≤ (S (r1 + 5) x2) ∧ (S (r1 + 5) x2) < 8 ∧ w_X3_sumOf N r0 2 r1 x2 S (fun (S3 : mSt) (v3 : Int) => Q S3 (iMax 0 (nm ((nm ((S (r1 + 6) (S (r1 + 5) x2)) + v3)) - (iDiv (S3 r1 8) 3)))))))
theorem T_X3_driesBy {l : Launch} (hl0 : l.stackTraces = false) {g : mG} {b : Nat} (N : Nat) (r0 : Nat) (kr0 : KX r0 = (0, 2, 0)) (r1 : Nat) (kr1 : KX r1 = (0, 3, 0)) (x2 : Int) (ox2 : okI x2) {S : mSt} {Q : mSt → Int → Prop} (h : w_X3_driesBy N r0 r1 x2 S Q) (sz : Nat) : vx_Met l yX3_driesBy (Cond.code yX3_driesBy cX3_driesBy 3 (some FieldType.int) :: wsG) { frames := 3, cells := 0, slots := 0, locals := 74 } (mPc g b KX S [.ref (b + r0), .ref (b + r1), .int (mI x2)] sz) (mQi g b KX Q (mA b KX sz)) (mEx g b KX (fun _ _ => False) (mA b KX sz)) 0 0 (mA b KX sz) :=
  m_of (av := [.ref (b + r0), .ref (b + r1), .int (mI x2)]) (Qf := fun A => mQi g b KX Q A) (Xf := fun A => mEx g b KX (fun _ _ => False) A) (by decide) (Nat.le_of_ble_eq_true rfl) (fun p e s m args below meth c ls X hK hml hr hlk hout hnm hW hl => by
    have C : mC p l s m args meth c cX3_driesBy "MoonWash$Law" 3 (some FieldType.int) g := ⟨X, hK, hml, hr, hlk, hout, hl0⟩
    have hS : va_S (mA b KX s.heap.size) s.heap s.heap [] := va_S.rf
    have hl : lv_has ls 3 [(0, .ref (b + r0)), (1, .ref (b + r1)), (2, .int (mI x2))] := hl
    unfold w_X3_driesBy at h
    refine m_iconst (pc := 0) C.1 dX3_driesBy_0 ?_
    refine m_aload_n (pc := 1) C.1 dX3_driesBy_1 rfl hl 1 rfl ?_
    refine g_3_5 (pc := 2) C hW kr1 q_152 dX3_driesBy_2 ?_
    refine m_aload_n (pc := 5) C.1 dX3_driesBy_5 rfl hl 1 rfl ?_
    refine g_3_4 (pc := 6) C hW kr1 q_148 dX3_driesBy_6 ?_
    refine m_iload_n (pc := 9) C.1 dX3_driesBy_9 rfl hl 2 rfl ?_
    obtain ⟨hb1a, hb1b, h⟩ := h
    refine m_iald (pc := 10) C.1 C.2.1 hW (k_3_4 kr1) ox2 hb1a hb1b dX3_driesBy_10 ?_
    obtain ⟨hb2a, hb2b, h⟩ := h
    refine m_iald (pc := 11) C.1 C.2.1 hW (k_3_5 kr1) (hW.2.1 _ _) hb2a hb2b dX3_driesBy_11 ?_
    refine m_aload_n (pc := 12) C.1 dX3_driesBy_12 rfl hl 0 rfl ?_
    refine m_iconst (pc := 13) C.1 dX3_driesBy_13 ?_
    refine m_aload_n (pc := 14) C.1 dX3_driesBy_14 rfl hl 1 rfl ?_
    refine m_iload_n (pc := 15) C.1 dX3_driesBy_15 rfl hl 2 rfl ?_
    refine m_callVi (pc := 16) C.1 C.2.2.1 hl.1 C.2.1 hW hS (As := [.int (mI 2), .ref (b + r1), .int (mI x2)]) (rest := [.int (mI (S (r1 + 6) (S (r1 + 5) x2))), .int (mI 0)]) (r := r0) (T_X3_sumOf C.2.2.2.2.2.2 N r0 kr0 2 (by decide : okI 2) r1 kr1 x2 ox2 h) kr0 rfl q_498 q_500 q_1 q_84 q_501 pl_X3_sumOf (by decide) (Nat.le_of_ble_eq_true rfl) dX3_driesBy_16 (fun v3 S3 H locs ov3 h hW3 hS => ?_)
    refine m_iadd (pc := 19) C.1 dX3_driesBy_19 ?_
    refine m_aload_n (pc := 20) C.1 dX3_driesBy_20 rfl hl 1 rfl ?_
    refine g_3_8 (pc := 21) C hW3 kr1 q_161 dX3_driesBy_21 ?_
    refine m_iconst (pc := 24) C.1 dX3_driesBy_24 ?_
    refine m_idiv (pc := 25) C.1 (by decide : okI 3) (by decide) dX3_driesBy_25 ?_
    refine m_isub (pc := 26) C.1 dX3_driesBy_26 ?_
    refine m_max (pc := 27) C.1 C.2.2.1 hl.1 (by decide : okI 0) (nm_ok _) q_522 q_523 q_93 q_524 (by refine ⟨?_, Nat.le_of_ble_eq_true rfl, ?_, ?_⟩ <;> decide) dX3_driesBy_27 ?_
    exact m_iret (pc := 30) C.1 C.2.2.2.1 C.2.2.2.2.1 hW3 hS (iMax_ok (by decide : okI 0) (nm_ok _)) h (by decide) (by decide) dX3_driesBy_30) sz
section
variable {p : Program} {l : Launch} {e : Env} {s : State} {m : MethodId} {args : Array Value} {below : List Frame} {meth : Method} {c : Code} {g : mG} {b : Nat}
end
def w_X3_soilsBy (N : Nat) (r0 : Nat) (r1 : Nat) (x2 : Int) (S : mSt) (Q : mSt → Int → Prop) : Prop :=
  w_X3_sumOf N r0 3 r1 x2 S (fun (S1 : mSt) (v1 : Int) => Q S1 v1)
theorem T_X3_soilsBy {l : Launch} (hl0 : l.stackTraces = false) {g : mG} {b : Nat} (N : Nat) (r0 : Nat) (kr0 : KX r0 = (0, 2, 0)) (r1 : Nat) (kr1 : KX r1 = (0, 3, 0)) (x2 : Int) (ox2 : okI x2) {S : mSt} {Q : mSt → Int → Prop} (h : w_X3_soilsBy N r0 r1 x2 S Q) (sz : Nat) : vx_Met l yX3_soilsBy (Cond.code yX3_soilsBy cX3_soilsBy 3 (some FieldType.int) :: wsG) { frames := 3, cells := 0, slots := 0, locals := 74 } (mPc g b KX S [.ref (b + r0), .ref (b + r1), .int (mI x2)] sz) (mQi g b KX Q (mA b KX sz)) (mEx g b KX (fun _ _ => False) (mA b KX sz)) 0 0 (mA b KX sz) :=
  m_of (av := [.ref (b + r0), .ref (b + r1), .int (mI x2)]) (Qf := fun A => mQi g b KX Q A) (Xf := fun A => mEx g b KX (fun _ _ => False) A) (by decide) (Nat.le_of_ble_eq_true rfl) (fun p e s m args below meth c ls X hK hml hr hlk hout hnm hW hl => by
    have C : mC p l s m args meth c cX3_soilsBy "MoonWash$Law" 3 (some FieldType.int) g := ⟨X, hK, hml, hr, hlk, hout, hl0⟩
    have hS : va_S (mA b KX s.heap.size) s.heap s.heap [] := va_S.rf
    have hl : lv_has ls 3 [(0, .ref (b + r0)), (1, .ref (b + r1)), (2, .int (mI x2))] := hl
    unfold w_X3_soilsBy at h
    refine m_aload_n (pc := 0) C.1 dX3_soilsBy_0 rfl hl 0 rfl ?_
    refine m_iconst (pc := 1) C.1 dX3_soilsBy_1 ?_
    refine m_aload_n (pc := 2) C.1 dX3_soilsBy_2 rfl hl 1 rfl ?_
    refine m_iload_n (pc := 3) C.1 dX3_soilsBy_3 rfl hl 2 rfl ?_
    refine m_callVi (pc := 4) C.1 C.2.2.1 hl.1 C.2.1 hW hS (As := [.int (mI 3), .ref (b + r1), .int (mI x2)]) (rest := []) (r := r0) (T_X3_sumOf C.2.2.2.2.2.2 N r0 kr0 3 (by decide : okI 3) r1 kr1 x2 ox2 h) kr0 rfl q_498 q_500 q_1 q_84 q_501 pl_X3_sumOf (by decide) (Nat.le_of_ble_eq_true rfl) dX3_soilsBy_4 (fun v1 S1 H locs ov1 h hW1 hS => ?_)
    exact m_iret (pc := 7) C.1 C.2.2.2.1 C.2.2.2.2.1 hW1 hS ov1 h (by decide) (by decide) dX3_soilsBy_7) sz
section
variable {p : Program} {l : Launch} {e : Env} {s : State} {m : MethodId} {args : Array Value} {below : List Frame} {meth : Method} {c : Code} {g : mG} {b : Nat}
def w_X5_air_97 (N : Nat) (Q : mSt → Int → Prop) (ko4 : Nat → Nat → Int → Int → mSt → Prop) (r0 : Nat) (r1 : Nat) (x2 : Int) (x3 : Int) (S : mSt) : Prop :=
  ∀ v1 : Int, v1 = nm (x3 + 1) → ko4 r0 r1 x2 v1 S
theorem W_X5_air_97 (C : mC p l s m args meth c cX5_air "MoonWash$Moon" 4 (some FieldType.int) g) (N : Nat) {Q : mSt → Int → Prop} {ko4 : Nat → Nat → Int → Int → mSt → Prop} (hko4 : ∀ (r0 : Nat) (kr0 : KX r0 = (0, 3, 0)) (r1 : Nat) (kr1 : KX r1 = (0, 2, 0)) (x2 : Int) (ox2 : okI x2) (x3 : Int) (ox3 : okI x3) (S : mSt) (H : Heap) (locs : List Loc) (ls : Array Slot), lv_has ls 4 [(0, .ref (b + r0)), (1, .ref (b + r1)), (2, .int (mI x2)), (3, .int (mI x3))] → mW g b KX S H → va_S (mA b KX s.heap.size) s.heap H locs → ko4 r0 r1 x2 x3 S → W p l e { frames := 4, cells := 0, slots := 0, locals := 96 } s m args below meth c H locs 0 0 (vx_MQ below (mQi g b KX Q (mA b KX s.heap.size)) (mEx g b KX (fun _ _ => False) (mA b KX s.heap.size)) args s 0 0 (mA b KX s.heap.size)) (F0 m 4 ls [])) (r0 : Nat) (kr0 : KX r0 = (0, 3, 0)) (r1 : Nat) (kr1 : KX r1 = (0, 2, 0)) (x2 : Int) (ox2 : okI x2) (x3 : Int) (ox3 : okI x3) (S : mSt) (H : Heap) (locs : List Loc) (ls : Array Slot) (hl : lv_has ls 4 [(0, .ref (b + r0)), (1, .ref (b + r1)), (2, .int (mI x2)), (3, .int (mI x3))]) (hW : mW g b KX S H) (hS : va_S (mA b KX s.heap.size) s.heap H locs) (h : w_X5_air_97 N Q ko4 r0 r1 x2 x3 S) : W p l e { frames := 4, cells := 0, slots := 0, locals := 96 } s m args below meth c H locs 0 0 (vx_MQ below (mQi g b KX Q (mA b KX s.heap.size)) (mEx g b KX (fun _ _ => False) (mA b KX s.heap.size)) args s 0 0 (mA b KX s.heap.size)) (F0 m 97 ls []) := by
  unfold w_X5_air_97 at h
  refine m_iinc (pc := 97) C.1 dX5_air_97 hl (by decide) (q0 := 3) rfl (fun v => [(3, .int v), (0, .ref (b + r0)), (1, .ref (b + r1)), (2, .int (mI x2))]) (fun _ => rfl) (fun v1 ls ev1 ov1 hl => ?_)
  replace h := h v1 ev1
  refine m_goto (pc := 100) (tgt := 4) C.1 dX5_air_100 (by decide) ?_
  exact hko4 r0 kr0 r1 kr1 x2 ox2 v1 ov1 S _ _ _ (lv_sub hl [1, 2, 3, 0] rfl) hW hS h
def w_X5_air_68 (N : Nat) (Q : mSt → Int → Prop) (ko4 : Nat → Nat → Int → Int → mSt → Prop) (r0 : Nat) (r1 : Nat) (x3 : Int) (xs0 : Int) (xs1 : Int) (S : mSt) : Prop :=
  ∀ v1 : Int, v1 = (nm (xs1 + xs0)) → w_X5_air_97 N Q ko4 r0 r1 v1 x3 S
theorem W_X5_air_68 (C : mC p l s m args meth c cX5_air "MoonWash$Moon" 4 (some FieldType.int) g) (N : Nat) {Q : mSt → Int → Prop} {ko4 : Nat → Nat → Int → Int → mSt → Prop} (hko4 : ∀ (r0 : Nat) (kr0 : KX r0 = (0, 3, 0)) (r1 : Nat) (kr1 : KX r1 = (0, 2, 0)) (x2 : Int) (ox2 : okI x2) (x3 : Int) (ox3 : okI x3) (S : mSt) (H : Heap) (locs : List Loc) (ls : Array Slot), lv_has ls 4 [(0, .ref (b + r0)), (1, .ref (b + r1)), (2, .int (mI x2)), (3, .int (mI x3))] → mW g b KX S H → va_S (mA b KX s.heap.size) s.heap H locs → ko4 r0 r1 x2 x3 S → W p l e { frames := 4, cells := 0, slots := 0, locals := 96 } s m args below meth c H locs 0 0 (vx_MQ below (mQi g b KX Q (mA b KX s.heap.size)) (mEx g b KX (fun _ _ => False) (mA b KX s.heap.size)) args s 0 0 (mA b KX s.heap.size)) (F0 m 4 ls [])) (r0 : Nat) (kr0 : KX r0 = (0, 3, 0)) (r1 : Nat) (kr1 : KX r1 = (0, 2, 0)) (x3 : Int) (ox3 : okI x3) (xs0 : Int) (oxs0 : okI xs0) (xs1 : Int) (oxs1 : okI xs1) (S : mSt) (H : Heap) (locs : List Loc) (ls : Array Slot) (hl : lv_has ls 4 [(0, .ref (b + r0)), (1, .ref (b + r1)), (3, .int (mI x3))]) (hW : mW g b KX S H) (hS : va_S (mA b KX s.heap.size) s.heap H locs) (h : w_X5_air_68 N Q ko4 r0 r1 x3 xs0 xs1 S) : W p l e { frames := 4, cells := 0, slots := 0, locals := 96 } s m args below meth c H locs 0 0 (vx_MQ below (mQi g b KX Q (mA b KX s.heap.size)) (mEx g b KX (fun _ _ => False) (mA b KX s.heap.size)) args s 0 0 (mA b KX s.heap.size)) (F0 m 68 ls [.int (mI xs0), .int (mI xs1)]) := by
  unfold w_X5_air_68 at h
  refine m_iadd (pc := 68) C.1 dX5_air_68 ?_
  refine m_istore_n (pc := 69) C.1 dX5_air_69 rfl hl (by decide) (fun v => [(2, .int v), (0, .ref (b + r0)), (1, .ref (b + r1)), (3, .int (mI x3))]) (fun _ => rfl) (nm_ok _) (fun v1 ls ev1 ov1 hl => ?_)
  replace h := h v1 ev1
  refine m_goto (pc := 70) (tgt := 97) C.1 dX5_air_70 (by decide) ?_
  exact W_X5_air_97 C N hko4 r0 kr0 r1 kr1 v1 ov1 x3 ox3 S _ _ _ (lv_sub hl [1, 2, 0, 3] rfl) hW hS h
def w_X5_air_4b (N : Nat) (Q : mSt → Int → Prop) (ko4 : Nat → Nat → Int → Int → mSt → Prop) (ko103 : Int → mSt → Prop) (r0 : Nat) (r1 : Nat) (x2 : Int) (x3 : Int) (S : mSt) : Prop :=
  ((8 ≤ x3 → ko103 x2 S) ∧ (x3 < 8 → w_X5_isHung N r0 x3 S (fun (S1 : mSt) (v1 : Int) => ((v1 ≠ 0 → (0 ≤ x3 ∧ x3 < 8 ∧ (((S1 (r0 + 3) x3) ≤ 0 → (0 ≤ x3 ∧ x3 < 8 ∧ w_X3_soilsBy N r1 r0 x3 S1 (fun (S4 : mSt) (v4 : Int) => (0 ≤ x3 ∧ x3 < 8 ∧ ∀ S6 : mSt, S6 = mup S4 (r0 + 1) x3 (iMin 9 (nm ((S1 (r0 + 1) x3) + v4))) → w_X5_air_97 N Q ko4 r0 r1 x2 x3 S6)))) ∧ (0 < (S1 (r0 + 3) x3) → (0 ≤ x3 ∧ x3 < 8 ∧ w_X3_driesBy N r1 r0 x3 S1 (fun (S8 : mSt) (v8 : Int) => (0 ≤ x3 ∧ x3 < 8 ∧ ∀ S10 : mSt, S10 = mup S8 (r0 + 3) x3 (iMax 0 (nm ((S1 (r0 + 3) x3) - v8))) → (0 ≤ x3 ∧ x3 < 8 ∧ (((S10 (r0 + 3) x3) ≠ 0 → w_X5_air_68 N Q ko4 r0 r1 x3 0 x2 S10) ∧ ((S10 (r0 + 3) x3) = 0 → w_X5_air_68 N Q ko4 r0 r1 x3 1 x2 S10)))))))))) ∧ (v1 = 0 → w_X5_air_97 N Q ko4 r0 r1 x2 x3 S1)))))
theorem W_X5_air_4b (C : mC p l s m args meth c cX5_air "MoonWash$Moon" 4 (some FieldType.int) g) (N : Nat) {Q : mSt → Int → Prop} {ko4 : Nat → Nat → Int → Int → mSt → Prop} {ko103 : Int → mSt → Prop} (hko4 : ∀ (r0 : Nat) (kr0 : KX r0 = (0, 3, 0)) (r1 : Nat) (kr1 : KX r1 = (0, 2, 0)) (x2 : Int) (ox2 : okI x2) (x3 : Int) (ox3 : okI x3) (S : mSt) (H : Heap) (locs : List Loc) (ls : Array Slot), lv_has ls 4 [(0, .ref (b + r0)), (1, .ref (b + r1)), (2, .int (mI x2)), (3, .int (mI x3))] → mW g b KX S H → va_S (mA b KX s.heap.size) s.heap H locs → ko4 r0 r1 x2 x3 S → W p l e { frames := 4, cells := 0, slots := 0, locals := 96 } s m args below meth c H locs 0 0 (vx_MQ below (mQi g b KX Q (mA b KX s.heap.size)) (mEx g b KX (fun _ _ => False) (mA b KX s.heap.size)) args s 0 0 (mA b KX s.heap.size)) (F0 m 4 ls [])) (hko103 : ∀ (x2 : Int) (ox2 : okI x2) (S : mSt) (H : Heap) (locs : List Loc) (ls : Array Slot), lv_has ls 4 [(2, .int (mI x2))] → mW g b KX S H → va_S (mA b KX s.heap.size) s.heap H locs → ko103 x2 S → W p l e { frames := 4, cells := 0, slots := 0, locals := 96 } s m args below meth c H locs 0 0 (vx_MQ below (mQi g b KX Q (mA b KX s.heap.size)) (mEx g b KX (fun _ _ => False) (mA b KX s.heap.size)) args s 0 0 (mA b KX s.heap.size)) (F0 m 103 ls [])) (r0 : Nat) (kr0 : KX r0 = (0, 3, 0)) (r1 : Nat) (kr1 : KX r1 = (0, 2, 0)) (x2 : Int) (ox2 : okI x2) (x3 : Int) (ox3 : okI x3) (S : mSt) (H : Heap) (locs : List Loc) (ls : Array Slot) (hl : lv_has ls 4 [(0, .ref (b + r0)), (1, .ref (b + r1)), (2, .int (mI x2)), (3, .int (mI x3))]) (hW : mW g b KX S H) (hS : va_S (mA b KX s.heap.size) s.heap H locs) (h : w_X5_air_4b N Q ko4 ko103 r0 r1 x2 x3 S) : W p l e { frames := 4, cells := 0, slots := 0, locals := 96 } s m args below meth c H locs 0 0 (vx_MQ below (mQi g b KX Q (mA b KX s.heap.size)) (mEx g b KX (fun _ _ => False) (mA b KX s.heap.size)) args s 0 0 (mA b KX s.heap.size)) (F0 m 4 ls []) := by
  unfold w_X5_air_4b at h
  refine m_iload_n (pc := 4) C.1 dX5_air_4 rfl hl 3 rfl ?_
  refine m_bipush (pc := 5) C.1 dX5_air_5 rfl ?_
  refine m_icmp_ge (pc := 7) (tgt := 103) C.1 ox3 (by decide : okI 8) dX5_air_7 (by decide) (fun hc => ?_) (fun hc => ?_)
  · replace h := h.1 hc
    exact hko103 x2 ox2 S _ _ _ (lv_sub hl [2] rfl) hW hS h
  · replace h := h.2 hc
    refine m_aload_n (pc := 10) C.1 dX5_air_10 rfl hl 0 rfl ?_
    refine m_iload_n (pc := 11) C.1 dX5_air_11 rfl hl 3 rfl ?_
    refine m_callVi (pc := 12) C.1 C.2.2.1 hl.1 C.2.1 hW hS (As := [.int (mI x3)]) (rest := []) (r := r0) (T_X5_isHung C.2.2.2.2.2.2 N r0 kr0 x3 ox3 h) kr0 rfl q_1138 q_491 q_492 q_83 q_493 pl_X5_isHung (by decide) (Nat.le_of_ble_eq_true rfl) dX5_air_12 (fun v1 S1 H locs ov1 h hW1 hS => ?_)
    refine m_if_ne (pc := 15) (tgt := 21) C.1 ov1 dX5_air_15 (by decide) (fun hc => ?_) (fun hc => ?_)
    · replace h := h.1 hc
      refine m_aload_n (pc := 21) C.1 dX5_air_21 rfl hl 0 rfl ?_
      refine g_3_2 (pc := 22) C hW1 kr0 q_139 dX5_air_22 ?_
      refine m_iload_n (pc := 25) C.1 dX5_air_25 rfl hl 3 rfl ?_
      obtain ⟨hb2a, hb2b, h⟩ := h
      refine m_iald (pc := 26) C.1 C.2.1 hW1 (k_3_2 kr0) ox3 hb2a hb2b dX5_air_26 ?_
      refine m_if_le (pc := 27) (tgt := 73) C.1 (hW1.2.1 _ _) dX5_air_27 (by decide) (fun hc => ?_) (fun hc => ?_)
      · replace h := h.1 hc
        refine m_aload_n (pc := 73) C.1 dX5_air_73 rfl hl 0 rfl ?_
        refine g_3_0 (pc := 74) C hW1 kr0 q_130 dX5_air_74 ?_
        refine m_iload_n (pc := 77) C.1 dX5_air_77 rfl hl 3 rfl ?_
        refine m_bipush (pc := 78) C.1 dX5_air_78 rfl ?_
        refine m_aload_n (pc := 80) C.1 dX5_air_80 rfl hl 0 rfl ?_
        refine g_3_0 (pc := 81) C hW1 kr0 q_130 dX5_air_81 ?_
        refine m_iload_n (pc := 84) C.1 dX5_air_84 rfl hl 3 rfl ?_
        obtain ⟨hb3a, hb3b, h⟩ := h
        refine m_iald (pc := 85) C.1 C.2.1 hW1 (k_3_0 kr0) ox3 hb3a hb3b dX5_air_85 ?_
        refine m_aload_n (pc := 86) C.1 dX5_air_86 rfl hl 1 rfl ?_
        refine m_aload_n (pc := 87) C.1 dX5_air_87 rfl hl 0 rfl ?_
        refine m_iload_n (pc := 88) C.1 dX5_air_88 rfl hl 3 rfl ?_
        refine m_callVi (pc := 89) C.1 C.2.2.1 hl.1 C.2.1 hW1 hS (As := [.ref (b + r0), .int (mI x3)]) (rest := [.int (mI (S1 (r0 + 1) x3)), .int (mI 9), .int (mI x3), .ref (b + (r0 + 1))]) (r := r1) (T_X3_soilsBy C.2.2.2.2.2.2 N r1 kr1 r0 kr0 x3 ox3 h) kr1 rfl q_1140 q_1141 q_1142 q_84 q_1143 pl_X3_soilsBy (by decide) (Nat.le_of_ble_eq_true rfl) dX5_air_89 (fun v4 S4 H locs ov4 h hW4 hS => ?_)
        refine m_iadd (pc := 92) C.1 dX5_air_92 ?_
        refine m_min (pc := 93) C.1 C.2.2.1 hl.1 (by decide : okI 9) (nm_ok _) q_1073 q_520 q_93 q_521 (by refine ⟨?_, Nat.le_of_ble_eq_true rfl, ?_, ?_⟩ <;> decide) dX5_air_93 ?_
        obtain ⟨hb5a, hb5b, h⟩ := h
        refine m_iast (pc := 96) C.1 C.2.1 hW4 hS (k_3_0 kr0) ox3 (iMin_ok (by decide : okI 9) (nm_ok _)) hb5a hb5b dX5_air_96 (fun S6 H locs e6 hW6 hS => ?_)
        replace h := h S6 e6
        exact W_X5_air_97 C N hko4 r0 kr0 r1 kr1 x2 ox2 x3 ox3 S6 _ _ _ (lv_sub hl [0, 1, 2, 3] rfl) hW6 hS h
      · replace h := h.2 hc
        refine m_aload_n (pc := 30) C.1 dX5_air_30 rfl hl 0 rfl ?_
        refine g_3_2 (pc := 31) C hW1 kr0 q_139 dX5_air_31 ?_
        refine m_iload_n (pc := 34) C.1 dX5_air_34 rfl hl 3 rfl ?_
        refine m_iconst (pc := 35) C.1 dX5_air_35 ?_
        refine m_aload_n (pc := 36) C.1 dX5_air_36 rfl hl 0 rfl ?_
        refine g_3_2 (pc := 37) C hW1 kr0 q_139 dX5_air_37 ?_
        refine m_iload_n (pc := 40) C.1 dX5_air_40 rfl hl 3 rfl ?_
        obtain ⟨hb7a, hb7b, h⟩ := h
        refine m_iald (pc := 41) C.1 C.2.1 hW1 (k_3_2 kr0) ox3 hb7a hb7b dX5_air_41 ?_
        refine m_aload_n (pc := 42) C.1 dX5_air_42 rfl hl 1 rfl ?_
        refine m_aload_n (pc := 43) C.1 dX5_air_43 rfl hl 0 rfl ?_
        refine m_iload_n (pc := 44) C.1 dX5_air_44 rfl hl 3 rfl ?_
        refine m_callVi (pc := 45) C.1 C.2.2.1 hl.1 C.2.1 hW1 hS (As := [.ref (b + r0), .int (mI x3)]) (rest := [.int (mI (S1 (r0 + 3) x3)), .int (mI 0), .int (mI x3), .ref (b + (r0 + 3))]) (r := r1) (T_X3_driesBy C.2.2.2.2.2.2 N r1 kr1 r0 kr0 x3 ox3 h) kr1 rfl q_1139 q_956 q_957 q_84 q_958 pl_X3_driesBy (by decide) (Nat.le_of_ble_eq_true rfl) dX5_air_45 (fun v8 S8 H locs ov8 h hW8 hS => ?_)
        refine m_isub (pc := 48) C.1 dX5_air_48 ?_
        refine m_max (pc := 49) C.1 C.2.2.1 hl.1 (by decide : okI 0) (nm_ok _) q_1072 q_523 q_93 q_524 (by refine ⟨?_, Nat.le_of_ble_eq_true rfl, ?_, ?_⟩ <;> decide) dX5_air_49 ?_
        obtain ⟨hb9a, hb9b, h⟩ := h
        refine m_iast (pc := 52) C.1 C.2.1 hW8 hS (k_3_2 kr0) ox3 (iMax_ok (by decide : okI 0) (nm_ok _)) hb9a hb9b dX5_air_52 (fun S10 H locs e10 hW10 hS => ?_)
        replace h := h S10 e10
        refine m_iload_n (pc := 53) C.1 dX5_air_53 rfl hl 2 rfl ?_
        refine m_aload_n (pc := 54) C.1 dX5_air_54 rfl hl 0 rfl ?_
        refine g_3_2 (pc := 55) C hW10 kr0 q_139 dX5_air_55 ?_
        refine m_iload_n (pc := 58) C.1 dX5_air_58 rfl hl 3 rfl ?_
        obtain ⟨hb11a, hb11b, h⟩ := h
        refine m_iald (pc := 59) C.1 C.2.1 hW10 (k_3_2 kr0) ox3 hb11a hb11b dX5_air_59 ?_
        refine m_if_ne (pc := 60) (tgt := 67) C.1 (hW10.2.1 _ _) dX5_air_60 (by decide) (fun hc => ?_) (fun hc => ?_)
        · replace h := h.1 hc
          refine m_iconst (pc := 67) C.1 dX5_air_67 ?_
          exact W_X5_air_68 C N hko4 r0 kr0 r1 kr1 x3 ox3 0 (by decide : okI 0) x2 ox2 S10 _ _ _ (lv_sub hl [0, 1, 3] rfl) hW10 hS h
        · replace h := h.2 hc
          refine m_iconst (pc := 63) C.1 dX5_air_63 ?_
          refine m_goto (pc := 64) (tgt := 68) C.1 dX5_air_64 (by decide) ?_
          exact W_X5_air_68 C N hko4 r0 kr0 r1 kr1 x3 ox3 1 (by decide : okI 1) x2 ox2 S10 _ _ _ (lv_sub hl [0, 1, 3] rfl) hW10 hS h
    · replace h := h.2 hc
      refine m_goto (pc := 18) (tgt := 97) C.1 dX5_air_18 (by decide) ?_
      exact W_X5_air_97 C N hko4 r0 kr0 r1 kr1 x2 ox2 x3 ox3 S1 _ _ _ (lv_sub hl [0, 1, 2, 3] rfl) hW1 hS h
def w_X5_air_4 (N : Nat) (Q : mSt → Int → Prop) (ko103 : Int → mSt → Prop) : Nat → Nat → Nat → Int → Int → mSt → Prop
  | 0 => fun _ _ _ _ _ => False
  | k + 1 => w_X5_air_4b N Q (w_X5_air_4 N Q ko103 k) ko103
theorem W_X5_air_4 (C : mC p l s m args meth c cX5_air "MoonWash$Moon" 4 (some FieldType.int) g) (N : Nat) {Q : mSt → Int → Prop} {ko103 : Int → mSt → Prop} (hko103 : ∀ (x2 : Int) (ox2 : okI x2) (S : mSt) (H : Heap) (locs : List Loc) (ls : Array Slot), lv_has ls 4 [(2, .int (mI x2))] → mW g b KX S H → va_S (mA b KX s.heap.size) s.heap H locs → ko103 x2 S → W p l e { frames := 4, cells := 0, slots := 0, locals := 96 } s m args below meth c H locs 0 0 (vx_MQ below (mQi g b KX Q (mA b KX s.heap.size)) (mEx g b KX (fun _ _ => False) (mA b KX s.heap.size)) args s 0 0 (mA b KX s.heap.size)) (F0 m 103 ls [])) : ∀ (k : Nat) (r0 : Nat) (kr0 : KX r0 = (0, 3, 0)) (r1 : Nat) (kr1 : KX r1 = (0, 2, 0)) (x2 : Int) (ox2 : okI x2) (x3 : Int) (ox3 : okI x3) (S : mSt) (H : Heap) (locs : List Loc) (ls : Array Slot) (hl : lv_has ls 4 [(0, .ref (b + r0)), (1, .ref (b + r1)), (2, .int (mI x2)), (3, .int (mI x3))]) (hW : mW g b KX S H) (hS : va_S (mA b KX s.heap.size) s.heap H locs) (h : w_X5_air_4 N Q ko103 k r0 r1 x2 x3 S), W p l e { frames := 4, cells := 0, slots := 0, locals := 96 } s m args below meth c H locs 0 0 (vx_MQ below (mQi g b KX Q (mA b KX s.heap.size)) (mEx g b KX (fun _ _ => False) (mA b KX s.heap.size)) args s 0 0 (mA b KX s.heap.size)) (F0 m 4 ls []) := by
  intro k
  induction k with
  | zero => intro r0 kr0 r1 kr1 x2 ox2 x3 ox3 S H locs ls hl hW hS h; exact False.elim h
  | succ k ih => intro r0 kr0 r1 kr1 x2 ox2 x3 ox3 S H locs ls hl hW hS h; exact W_X5_air_4b C N ih hko103 r0 kr0 r1 kr1 x2 ox2 x3 ox3 S H locs ls hl hW hS h
end
def w_X5_air (N : Nat) (r0 : Nat) (r1 : Nat) (S : mSt) (Q : mSt → Int → Prop) : Prop :=
  ∀ v1 : Int, v1 = 0 → ∀ v2 : Int, v2 = 0 → w_X5_air_4 N Q (fun (x2_3 : Int) (S_3 : mSt) => Q S_3 x2_3) N r0 r1 v1 v2 S
theorem T_X5_air {l : Launch} (hl0 : l.stackTraces = false) {g : mG} {b : Nat} (N : Nat) (r0 : Nat) (kr0 : KX r0 = (0, 3, 0)) (r1 : Nat) (kr1 : KX r1 = (0, 2, 0)) {S : mSt} {Q : mSt → Int → Prop} (h : w_X5_air N r0 r1 S Q) (sz : Nat) : vx_Met l yX5_air (Cond.code yX5_air cX5_air 4 (some FieldType.int) :: wsG) { frames := 4, cells := 0, slots := 0, locals := 96 } (mPc g b KX S [.ref (b + r0), .ref (b + r1)] sz) (mQi g b KX Q (mA b KX sz)) (mEx g b KX (fun _ _ => False) (mA b KX sz)) 0 0 (mA b KX sz) :=
  m_of (av := [.ref (b + r0), .ref (b + r1)]) (Qf := fun A => mQi g b KX Q A) (Xf := fun A => mEx g b KX (fun _ _ => False) A) (by decide) (Nat.le_of_ble_eq_true rfl) (fun p e s m args below meth c ls X hK hml hr hlk hout hnm hW hl => by
    have C : mC p l s m args meth c cX5_air "MoonWash$Moon" 4 (some FieldType.int) g := ⟨X, hK, hml, hr, hlk, hout, hl0⟩
    have hS : va_S (mA b KX s.heap.size) s.heap s.heap [] := va_S.rf
    have hl : lv_has ls 4 [(0, .ref (b + r0)), (1, .ref (b + r1))] := hl
    unfold w_X5_air at h
    refine m_iconst (pc := 0) C.1 dX5_air_0 ?_
    refine m_istore_n (pc := 1) C.1 dX5_air_1 rfl hl (by decide) (fun v => [(2, .int v), (0, .ref (b + r0)), (1, .ref (b + r1))]) (fun _ => rfl) (by decide : okI 0) (fun v1 ls ev1 ov1 hl => ?_)
    replace h := h v1 ev1
    refine m_iconst (pc := 2) C.1 dX5_air_2 ?_
    refine m_istore_n (pc := 3) C.1 dX5_air_3 rfl hl (by decide) (fun v => [(3, .int v), (2, .int (mI v1)), (0, .ref (b + r0)), (1, .ref (b + r1))]) (fun _ => rfl) (by decide : okI 0) (fun v2 ls ev2 ov2 hl => ?_)
    replace h := h v2 ev2
    refine W_X5_air_4 C N ?_ N r0 kr0 r1 kr1 v1 ov1 v2 ov2 S _ _ _ (lv_sub hl [2, 3, 1, 0] rfl) hW hS h
    · intro x2_3 ox2_3 S_3 H locs ls hl hW_3 hS h
      refine m_iload_n (pc := 103) C.1 dX5_air_103 rfl hl 0 rfl ?_
      exact m_iret (pc := 104) C.1 C.2.2.2.1 C.2.2.2.2.1 hW_3 hS ox2_3 h (by decide) (by decide) dX5_air_104) sz
section
variable {p : Program} {l : Launch} {e : Env} {s : State} {m : MethodId} {args : Array Value} {below : List Frame} {meth : Method} {c : Code} {g : mG} {b : Nat}
end
def w_X5_setHung (N : Nat) (r0 : Nat) (x1 : Int) (x2 : Int) (S : mSt) (Q : mSt → Prop) : Prop :=
  ∀ v1 : Int, v1 = (bShl 1 x1) → ((x2 = 0 → ∀ S2 : mSt, S2 = mup S r0 6 (bAnd (S r0 6) (bXor v1 (-1))) → Q S2) ∧ (x2 ≠ 0 → ∀ S3 : mSt, S3 = mup S r0 6 (bOr (S r0 6) v1) → Q S3))
theorem T_X5_setHung {l : Launch} (hl0 : l.stackTraces = false) {g : mG} {b : Nat} (N : Nat) (r0 : Nat) (kr0 : KX r0 = (0, 3, 0)) (x1 : Int) (ox1 : okI x1) (x2 : Int) (ox2 : okI x2) {S : mSt} {Q : mSt → Prop} (h : w_X5_setHung N r0 x1 x2 S Q) (sz : Nat) : vx_Met l yX5_setHung (Cond.code yX5_setHung cX5_setHung 4 none :: wsG) { frames := 0, cells := 0, slots := 0, locals := 0 } (mPc g b KX S [.ref (b + r0), .int (mI x1), .int (mI x2)] sz) (mQv g b KX Q (mA b KX sz)) (mEx g b KX (fun _ _ => False) (mA b KX sz)) 0 0 (mA b KX sz) :=
  m_of (av := [.ref (b + r0), .int (mI x1), .int (mI x2)]) (Qf := fun A => mQv g b KX Q A) (Xf := fun A => mEx g b KX (fun _ _ => False) A) (by decide) (Nat.le_of_ble_eq_true rfl) (fun p e s m args below meth c ls X hK hml hr hlk hout hnm hW hl => by
    have C : mC p l s m args meth c cX5_setHung "MoonWash$Moon" 4 none g := ⟨X, hK, hml, hr, hlk, hout, hl0⟩
    have hS : va_S (mA b KX s.heap.size) s.heap s.heap [] := va_S.rf
    have hl : lv_has ls 4 [(0, .ref (b + r0)), (1, .int (mI x1)), (2, .int (mI x2))] := hl
    unfold w_X5_setHung at h
    refine m_iconst (pc := 0) C.1 dX5_setHung_0 ?_
    refine m_iload_n (pc := 1) C.1 dX5_setHung_1 rfl hl 1 rfl ?_
    refine m_ishl (pc := 2) C.1 dX5_setHung_2 ?_
    refine m_istore_n (pc := 3) C.1 dX5_setHung_3 rfl hl (by decide) (fun v => [(3, .int v), (0, .ref (b + r0)), (1, .int (mI x1)), (2, .int (mI x2))]) (fun _ => rfl) (bShl_ok _ _) (fun v1 ls ev1 ov1 hl => ?_)
    replace h := h v1 ev1
    refine m_aload_n (pc := 4) C.1 dX5_setHung_4 rfl hl 1 rfl ?_
    refine m_iload_n (pc := 5) C.1 dX5_setHung_5 rfl hl 3 rfl ?_
    refine m_if_eq (pc := 6) (tgt := 18) C.1 ox2 dX5_setHung_6 (by decide) (fun hc => ?_) (fun hc => ?_)
    · replace h := h.1 hc
      refine m_aload_n (pc := 18) C.1 dX5_setHung_18 rfl hl 1 rfl ?_
      refine g_3_6 (pc := 19) C hW kr0 q_154 dX5_setHung_19 ?_
      refine m_iload_n (pc := 22) C.1 dX5_setHung_22 rfl hl 0 rfl ?_
      refine m_iconst (pc := 23) C.1 dX5_setHung_23 ?_
      refine m_ixor (pc := 24) C.1 dX5_setHung_24 ?_
      refine m_iand (pc := 25) C.1 dX5_setHung_25 ?_
      refine p_3_6 (pc := 26) C hW hS kr0 q_154 (bAnd_ok _ _) dX5_setHung_26 (fun S2 H locs e2 hW2 hS => ?_)
      replace h := h S2 e2
      exact m_vret (pc := 29) C.1 C.2.2.2.1 C.2.2.2.2.1 hW2 hS h (by decide) (by decide) dX5_setHung_29
    · replace h := h.2 hc
      refine m_aload_n (pc := 9) C.1 dX5_setHung_9 rfl hl 1 rfl ?_
      refine g_3_6 (pc := 10) C hW kr0 q_154 dX5_setHung_10 ?_
      refine m_iload_n (pc := 13) C.1 dX5_setHung_13 rfl hl 0 rfl ?_
      refine m_ior (pc := 14) C.1 dX5_setHung_14 ?_
      refine m_goto (pc := 15) (tgt := 26) C.1 dX5_setHung_15 (by decide) ?_
      refine p_3_6 (pc := 26) C hW hS kr0 q_154 (bOr_ok _ _) dX5_setHung_26 (fun S3 H locs e3 hW3 hS => ?_)
      replace h := h S3 e3
      exact m_vret (pc := 29) C.1 C.2.2.2.1 C.2.2.2.2.1 hW3 hS h (by decide) (by decide) dX5_setHung_29) sz
section
variable {p : Program} {l : Launch} {e : Env} {s : State} {m : MethodId} {args : Array Value} {below : List Frame} {meth : Method} {c : Code} {g : mG} {b : Nat}
def w_X2_oneNight_133 (N : Nat) (Q : mSt → Int → Prop)  (r0 : Nat) (x2 : Int) (S : mSt) : Prop :=
  ∀ S1 : mSt, S1 = mup S r0 6 (iMin 99 (nm ((S r0 6) + (S r0 7)))) → ∀ S2 : mSt, S2 = mup S1 (r0 + 1) 7 (nm ((S1 (r0 + 1) 7) + 1)) → Q S2 x2
theorem W_X2_oneNight_133 (C : mC p l s m args meth c cX2_oneNight "MoonWash$Laundry" 5 (some FieldType.int) g) (N : Nat) {Q : mSt → Int → Prop}   (r0 : Nat) (kr0 : KX r0 = (0, 1, 0)) (x2 : Int) (ox2 : okI x2) (S : mSt) (H : Heap) (locs : List Loc) (ls : Array Slot) (hl : lv_has ls 5 [(0, .ref (b + r0)), (2, .int (mI x2))]) (hW : mW g b KX S H) (hS : va_S (mA b KX s.heap.size) s.heap H locs) (h : w_X2_oneNight_133 N Q  r0 x2 S) : W p l e { frames := 5, cells := 0, slots := 0, locals := 119 } s m args below meth c H locs 0 0 (vx_MQ below (mQi g b KX Q (mA b KX s.heap.size)) (mEx g b KX (fun _ _ => False) (mA b KX s.heap.size)) args s 0 0 (mA b KX s.heap.size)) (F0 m 133 ls []) := by
  unfold w_X2_oneNight_133 at h
  refine m_aload_n (pc := 133) C.1 dX2_oneNight_133 rfl hl 0 rfl ?_
  refine m_bipush (pc := 134) C.1 dX2_oneNight_134 rfl ?_
  refine m_aload_n (pc := 136) C.1 dX2_oneNight_136 rfl hl 0 rfl ?_
  refine g_1_6 (pc := 137) C hW kr0 q_199 dX2_oneNight_137 ?_
  refine m_aload_n (pc := 140) C.1 dX2_oneNight_140 rfl hl 0 rfl ?_
  refine g_1_7 (pc := 141) C hW kr0 q_202 dX2_oneNight_141 ?_
  refine m_iadd (pc := 144) C.1 dX2_oneNight_144 ?_
  refine m_min (pc := 145) C.1 C.2.2.1 hl.1 (by decide : okI 99) (nm_ok _) q_589 q_520 q_93 q_521 (by refine ⟨?_, Nat.le_of_ble_eq_true rfl, ?_, ?_⟩ <;> decide) dX2_oneNight_145 ?_
  refine p_1_6 (pc := 148) C hW hS kr0 q_199 (iMin_ok (by decide : okI 99) (nm_ok _)) dX2_oneNight_148 (fun S1 H locs e1 hW1 hS => ?_)
  replace h := h S1 e1
  refine m_aload_n (pc := 151) C.1 dX2_oneNight_151 rfl hl 0 rfl ?_
  refine g_1_0 (pc := 152) C hW1 kr0 q_184 dX2_oneNight_152 ?_
  refine lv_dup (pc := 155) C.1.1 C.1.2.1 dX2_oneNight_155 rfl ?_
  refine g_3_7 (pc := 156) C hW1 (k_1_0 kr0) q_158 dX2_oneNight_156 ?_
  refine m_iconst (pc := 159) C.1 dX2_oneNight_159 ?_
  refine m_iadd (pc := 160) C.1 dX2_oneNight_160 ?_
  refine p_3_7 (pc := 161) C hW1 hS (k_1_0 kr0) q_158 (nm_ok _) dX2_oneNight_161 (fun S2 H locs e2 hW2 hS => ?_)
  replace h := h S2 e2
  refine m_iload_n (pc := 164) C.1 dX2_oneNight_164 rfl hl 1 rfl ?_
  exact m_iret (pc := 165) C.1 C.2.2.2.1 C.2.2.2.2.1 hW2 hS ox2 h (by decide) (by decide) dX2_oneNight_165
def w_X2_oneNight_80 (N : Nat) (Q : mSt → Int → Prop)  (r0 : Nat) (x2 : Int) (S : mSt) : Prop :=
  w_X2_draw N r0 S (fun (S1 : mSt) (v1 : Int) => (((S1 r0 9) ≤ (iRem v1 100) → w_X2_oneNight_133 N Q  r0 x2 S1) ∧ ((iRem v1 100) < (S1 r0 9) → w_X2_draw N r0 S1 (fun (S2 : mSt) (v2 : Int) => ∀ v3 : Int, v3 = (iRem v2 8) → w_X5_isHung N (r0 + 1) v3 S2 (fun (S4 : mSt) (v4 : Int) => ((v4 = 0 → w_X2_oneNight_133 N Q  r0 x2 S4) ∧ (v4 ≠ 0 → w_X5_setHung N (r0 + 1) v3 0 S4 (fun (S5 : mSt) => (0 ≤ v3 ∧ v3 < 8 ∧ ∀ S7 : mSt, S7 = mup S5 ((r0 + 1) + 1) v3 9 → w_X2_oneNight_133 N Q  r0 x2 S7)))))))))
theorem W_X2_oneNight_80 (C : mC p l s m args meth c cX2_oneNight "MoonWash$Laundry" 5 (some FieldType.int) g) (N : Nat) {Q : mSt → Int → Prop}   (r0 : Nat) (kr0 : KX r0 = (0, 1, 0)) (x2 : Int) (ox2 : okI x2) (S : mSt) (H : Heap) (locs : List Loc) (ls : Array Slot) (hl : lv_has ls 5 [(0, .ref (b + r0)), (2, .int (mI x2))]) (hW : mW g b KX S H) (hS : va_S (mA b KX s.heap.size) s.heap H locs) (h : w_X2_oneNight_80 N Q  r0 x2 S) : W p l e { frames := 5, cells := 0, slots := 0, locals := 119 } s m args below meth c H locs 0 0 (vx_MQ below (mQi g b KX Q (mA b KX s.heap.size)) (mEx g b KX (fun _ _ => False) (mA b KX s.heap.size)) args s 0 0 (mA b KX s.heap.size)) (F0 m 80 ls []) := by
  unfold w_X2_oneNight_80 at h
  refine m_aload_n (pc := 80) C.1 dX2_oneNight_80 rfl hl 0 rfl ?_
  refine m_callVi (pc := 81) C.1 C.2.2.1 hl.1 C.2.1 hW hS (As := []) (rest := []) (r := r0) (T_X2_draw C.2.2.2.2.2.2 N r0 kr0 h) kr0 rfl q_1129 q_1131 q_12 q_82 q_1132 pl_X2_draw (by decide) (Nat.le_of_ble_eq_true rfl) dX2_oneNight_81 (fun v1 S1 H locs ov1 h hW1 hS => ?_)
  refine m_bipush (pc := 84) C.1 dX2_oneNight_84 rfl ?_
  refine m_irem (pc := 86) C.1 (by decide : okI 100) (by decide) dX2_oneNight_86 ?_
  refine m_aload_n (pc := 87) C.1 dX2_oneNight_87 rfl hl 0 rfl ?_
  refine g_1_9 (pc := 88) C hW1 kr0 q_208 dX2_oneNight_88 ?_
  refine m_icmp_ge (pc := 91) (tgt := 133) C.1 (iRem_ok _ _) (hW1.2.1 _ _) dX2_oneNight_91 (by decide) (fun hc => ?_) (fun hc => ?_)
  · replace h := h.1 hc
    exact W_X2_oneNight_133 C N  r0 kr0 x2 ox2 S1 _ _ _ (lv_sub hl [0, 1] rfl) hW1 hS h
  · replace h := h.2 hc
    refine m_aload_n (pc := 94) C.1 dX2_oneNight_94 rfl hl 0 rfl ?_
    refine m_callVi (pc := 95) C.1 C.2.2.1 hl.1 C.2.1 hW1 hS (As := []) (rest := []) (r := r0) (T_X2_draw C.2.2.2.2.2.2 N r0 kr0 h) kr0 rfl q_1129 q_1131 q_12 q_82 q_1132 pl_X2_draw (by decide) (Nat.le_of_ble_eq_true rfl) dX2_oneNight_95 (fun v2 S2 H locs ov2 h hW2 hS => ?_)
    refine m_bipush (pc := 98) C.1 dX2_oneNight_98 rfl ?_
    refine m_irem (pc := 100) C.1 (by decide : okI 8) (by decide) dX2_oneNight_100 ?_
    refine m_istore_n (pc := 101) C.1 dX2_oneNight_101 rfl hl (by decide) (fun v => [(3, .int v), (0, .ref (b + r0)), (2, .int (mI x2))]) (fun _ => rfl) (iRem_ok _ _) (fun v3 ls ev3 ov3 hl => ?_)
    replace h := h v3 ev3
    refine m_aload_n (pc := 102) C.1 dX2_oneNight_102 rfl hl 1 rfl ?_
    refine g_1_0 (pc := 103) C hW2 kr0 q_184 dX2_oneNight_103 ?_
    refine m_iload_n (pc := 106) C.1 dX2_oneNight_106 rfl hl 0 rfl ?_
    refine m_callVi (pc := 107) C.1 C.2.2.1 hl.1 C.2.1 hW2 hS (As := [.int (mI v3)]) (rest := []) (r := (r0 + 1)) (T_X5_isHung C.2.2.2.2.2.2 N (r0 + 1) (k_1_0 kr0) v3 ov3 h) (k_1_0 kr0) rfl q_1144 q_491 q_492 q_83 q_493 pl_X5_isHung (by decide) (Nat.le_of_ble_eq_true rfl) dX2_oneNight_107 (fun v4 S4 H locs ov4 h hW4 hS => ?_)
    refine m_if_eq (pc := 110) (tgt := 133) C.1 ov4 dX2_oneNight_110 (by decide) (fun hc => ?_) (fun hc => ?_)
    · replace h := h.1 hc
      exact W_X2_oneNight_133 C N  r0 kr0 x2 ox2 S4 _ _ _ (lv_sub hl [1, 2] rfl) hW4 hS h
    · replace h := h.2 hc
      refine m_aload_n (pc := 113) C.1 dX2_oneNight_113 rfl hl 1 rfl ?_
      refine g_1_0 (pc := 114) C hW4 kr0 q_184 dX2_oneNight_114 ?_
      refine m_iload_n (pc := 117) C.1 dX2_oneNight_117 rfl hl 0 rfl ?_
      refine m_iconst (pc := 118) C.1 dX2_oneNight_118 ?_
      refine m_callVv (pc := 119) C.1 C.2.2.1 hl.1 C.2.1 hW4 hS (As := [.int (mI v3), .int (mI 0)]) (rest := []) (r := (r0 + 1)) (T_X5_setHung C.2.2.2.2.2.2 N (r0 + 1) (k_1_0 kr0) v3 ov3 0 (by decide : okI 0) h) (k_1_0 kr0) rfl q_1145 q_1075 q_1076 q_83 q_1077 pl_X5_setHung (by decide) (Nat.le_of_ble_eq_true rfl) dX2_oneNight_119 (fun S5 H locs h hW5 hS => ?_)
      refine m_aload_n (pc := 122) C.1 dX2_oneNight_122 rfl hl 1 rfl ?_
      refine g_1_0 (pc := 123) C hW5 kr0 q_184 dX2_oneNight_123 ?_
      refine g_3_0 (pc := 126) C hW5 (k_1_0 kr0) q_134 dX2_oneNight_126 ?_
      refine m_iload_n (pc := 129) C.1 dX2_oneNight_129 rfl hl 0 rfl ?_
      refine m_bipush (pc := 130) C.1 dX2_oneNight_130 rfl ?_
      obtain ⟨hb6a, hb6b, h⟩ := h
      refine m_iast (pc := 132) C.1 C.2.1 hW5 hS (k_3_0 (k_1_0 kr0)) ov3 (by decide : okI 9) hb6a hb6b dX2_oneNight_132 (fun S7 H locs e7 hW7 hS => ?_)
      replace h := h S7 e7
      exact W_X2_oneNight_133 C N  r0 kr0 x2 ox2 S7 _ _ _ (lv_sub hl [1, 2] rfl) hW7 hS h
end
def w_X2_oneNight (N : Nat) (r0 : Nat) (r1 : Nat) (S : mSt) (Q : mSt → Int → Prop) : Prop :=
  w_X2_draw N r0 S (fun (S1 : mSt) (v1 : Int) => ∀ S2 : mSt, S2 = mup S1 (r0 + 1) 8 (iRem v1 10) → w_X5_air N (r0 + 1) r1 S2 (fun (S3 : mSt) (v3 : Int) => ∀ v4 : Int, v4 = v3 → w_X2_draw N r0 S3 (fun (S5 : mSt) (v5 : Int) => (((S5 r0 8) ≤ (iRem v5 100) → w_X2_oneNight_80 N Q  r0 v4 S5) ∧ ((iRem v5 100) < (S5 r0 8) → w_X2_draw N r0 S5 (fun (S6 : mSt) (v6 : Int) => ∀ v7 : Int, v7 = (iRem v6 8) → w_X2_draw N r0 S6 (fun (S8 : mSt) (v8 : Int) => ∀ v9 : Int, v9 = (iRem v8 5) → w_X5_isHung N (r0 + 1) v7 S8 (fun (S10 : mSt) (v10 : Int) => ((v10 = 0 → w_X2_oneNight_80 N Q  r0 v4 S10) ∧ (v10 ≠ 0 → (0 ≤ v7 ∧ v7 < 8 ∧ (0 ≤ v7 ∧ v7 < 8 ∧ ∀ S13 : mSt, S13 = mup S10 ((r0 + 1) + 4) v7 (bOr (S10 ((r0 + 1) + 4) v7) (bShl 1 v9)) → w_X2_oneNight_80 N Q  r0 v4 S13))))))))))))
theorem T_X2_oneNight {l : Launch} (hl0 : l.stackTraces = false) {g : mG} {b : Nat} (N : Nat) (r0 : Nat) (kr0 : KX r0 = (0, 1, 0)) (r1 : Nat) (kr1 : KX r1 = (0, 2, 0)) {S : mSt} {Q : mSt → Int → Prop} (h : w_X2_oneNight N r0 r1 S Q) (sz : Nat) : vx_Met l yX2_oneNight (Cond.code yX2_oneNight cX2_oneNight 5 (some FieldType.int) :: wsG) { frames := 5, cells := 0, slots := 0, locals := 119 } (mPc g b KX S [.ref (b + r0), .ref (b + r1)] sz) (mQi g b KX Q (mA b KX sz)) (mEx g b KX (fun _ _ => False) (mA b KX sz)) 0 0 (mA b KX sz) :=
  m_of (av := [.ref (b + r0), .ref (b + r1)]) (Qf := fun A => mQi g b KX Q A) (Xf := fun A => mEx g b KX (fun _ _ => False) A) (by decide) (Nat.le_of_ble_eq_true rfl) (fun p e s m args below meth c ls X hK hml hr hlk hout hnm hW hl => by
    have C : mC p l s m args meth c cX2_oneNight "MoonWash$Laundry" 5 (some FieldType.int) g := ⟨X, hK, hml, hr, hlk, hout, hl0⟩
    have hS : va_S (mA b KX s.heap.size) s.heap s.heap [] := va_S.rf
    have hl : lv_has ls 5 [(0, .ref (b + r0)), (1, .ref (b + r1))] := hl
    unfold w_X2_oneNight at h
    refine m_aload_n (pc := 0) C.1 dX2_oneNight_0 rfl hl 0 rfl ?_
    refine g_1_0 (pc := 1) C hW kr0 q_184 dX2_oneNight_1 ?_
    refine m_aload_n (pc := 4) C.1 dX2_oneNight_4 rfl hl 0 rfl ?_
    refine m_callVi (pc := 5) C.1 C.2.2.1 hl.1 C.2.1 hW hS (As := []) (rest := [.ref (b + (r0 + 1))]) (r := r0) (T_X2_draw C.2.2.2.2.2.2 N r0 kr0 h) kr0 rfl q_1129 q_1131 q_12 q_82 q_1132 pl_X2_draw (by decide) (Nat.le_of_ble_eq_true rfl) dX2_oneNight_5 (fun v1 S1 H locs ov1 h hW1 hS => ?_)
    refine m_bipush (pc := 8) C.1 dX2_oneNight_8 rfl ?_
    refine m_irem (pc := 10) C.1 (by decide : okI 10) (by decide) dX2_oneNight_10 ?_
    refine p_3_8 (pc := 11) C hW1 hS (k_1_0 kr0) q_162 (iRem_ok _ _) dX2_oneNight_11 (fun S2 H locs e2 hW2 hS => ?_)
    replace h := h S2 e2
    refine m_aload_n (pc := 14) C.1 dX2_oneNight_14 rfl hl 0 rfl ?_
    refine g_1_0 (pc := 15) C hW2 kr0 q_184 dX2_oneNight_15 ?_
    refine m_aload_n (pc := 18) C.1 dX2_oneNight_18 rfl hl 1 rfl ?_
    refine m_callVi (pc := 19) C.1 C.2.2.1 hl.1 C.2.1 hW2 hS (As := [.ref (b + r1)]) (rest := []) (r := (r0 + 1)) (T_X5_air C.2.2.2.2.2.2 N (r0 + 1) (k_1_0 kr0) r1 kr1 h) (k_1_0 kr0) rfl q_1134 q_1135 q_1136 q_83 q_1137 pl_X5_air (by decide) (Nat.le_of_ble_eq_true rfl) dX2_oneNight_19 (fun v3 S3 H locs ov3 h hW3 hS => ?_)
    refine m_istore_n (pc := 22) C.1 dX2_oneNight_22 rfl hl (by decide) (fun v => [(2, .int v), (0, .ref (b + r0)), (1, .ref (b + r1))]) (fun _ => rfl) ov3 (fun v4 ls ev4 ov4 hl => ?_)
    replace h := h v4 ev4
    refine m_aload_n (pc := 23) C.1 dX2_oneNight_23 rfl hl 1 rfl ?_
    refine m_callVi (pc := 24) C.1 C.2.2.1 hl.1 C.2.1 hW3 hS (As := []) (rest := []) (r := r0) (T_X2_draw C.2.2.2.2.2.2 N r0 kr0 h) kr0 rfl q_1129 q_1131 q_12 q_82 q_1132 pl_X2_draw (by decide) (Nat.le_of_ble_eq_true rfl) dX2_oneNight_24 (fun v5 S5 H locs ov5 h hW5 hS => ?_)
    refine m_bipush (pc := 27) C.1 dX2_oneNight_27 rfl ?_
    refine m_irem (pc := 29) C.1 (by decide : okI 100) (by decide) dX2_oneNight_29 ?_
    refine m_aload_n (pc := 30) C.1 dX2_oneNight_30 rfl hl 1 rfl ?_
    refine g_1_8 (pc := 31) C hW5 kr0 q_205 dX2_oneNight_31 ?_
    refine m_icmp_ge (pc := 34) (tgt := 80) C.1 (iRem_ok _ _) (hW5.2.1 _ _) dX2_oneNight_34 (by decide) (fun hc => ?_) (fun hc => ?_)
    · replace h := h.1 hc
      exact W_X2_oneNight_80 C N  r0 kr0 v4 ov4 S5 _ _ _ (lv_sub hl [1, 0] rfl) hW5 hS h
    · replace h := h.2 hc
      refine m_aload_n (pc := 37) C.1 dX2_oneNight_37 rfl hl 1 rfl ?_
      refine m_callVi (pc := 38) C.1 C.2.2.1 hl.1 C.2.1 hW5 hS (As := []) (rest := []) (r := r0) (T_X2_draw C.2.2.2.2.2.2 N r0 kr0 h) kr0 rfl q_1129 q_1131 q_12 q_82 q_1132 pl_X2_draw (by decide) (Nat.le_of_ble_eq_true rfl) dX2_oneNight_38 (fun v6 S6 H locs ov6 h hW6 hS => ?_)
      refine m_bipush (pc := 41) C.1 dX2_oneNight_41 rfl ?_
      refine m_irem (pc := 43) C.1 (by decide : okI 8) (by decide) dX2_oneNight_43 ?_
      refine m_istore_n (pc := 44) C.1 dX2_oneNight_44 rfl hl (by decide) (fun v => [(3, .int v), (2, .int (mI v4)), (0, .ref (b + r0)), (1, .ref (b + r1))]) (fun _ => rfl) (iRem_ok _ _) (fun v7 ls ev7 ov7 hl => ?_)
      replace h := h v7 ev7
      refine m_aload_n (pc := 45) C.1 dX2_oneNight_45 rfl hl 2 rfl ?_
      refine m_callVi (pc := 46) C.1 C.2.2.1 hl.1 C.2.1 hW6 hS (As := []) (rest := []) (r := r0) (T_X2_draw C.2.2.2.2.2.2 N r0 kr0 h) kr0 rfl q_1129 q_1131 q_12 q_82 q_1132 pl_X2_draw (by decide) (Nat.le_of_ble_eq_true rfl) dX2_oneNight_46 (fun v8 S8 H locs ov8 h hW8 hS => ?_)
      refine m_iconst (pc := 49) C.1 dX2_oneNight_49 ?_
      refine m_irem (pc := 50) C.1 (by decide : okI 5) (by decide) dX2_oneNight_50 ?_
      refine m_istore (pc := 51) C.1 dX2_oneNight_51 hl (by decide) (fun v => [(4, .int v), (3, .int (mI v7)), (2, .int (mI v4)), (0, .ref (b + r0)), (1, .ref (b + r1))]) (fun _ => rfl) (iRem_ok _ _) (fun v9 ls ev9 ov9 hl => ?_)
      replace h := h v9 ev9
      refine m_aload_n (pc := 53) C.1 dX2_oneNight_53 rfl hl 3 rfl ?_
      refine g_1_0 (pc := 54) C hW8 kr0 q_184 dX2_oneNight_54 ?_
      refine m_iload_n (pc := 57) C.1 dX2_oneNight_57 rfl hl 1 rfl ?_
      refine m_callVi (pc := 58) C.1 C.2.2.1 hl.1 C.2.1 hW8 hS (As := [.int (mI v7)]) (rest := []) (r := (r0 + 1)) (T_X5_isHung C.2.2.2.2.2.2 N (r0 + 1) (k_1_0 kr0) v7 ov7 h) (k_1_0 kr0) rfl q_1144 q_491 q_492 q_83 q_493 pl_X5_isHung (by decide) (Nat.le_of_ble_eq_true rfl) dX2_oneNight_58 (fun v10 S10 H locs ov10 h hW10 hS => ?_)
      refine m_if_eq (pc := 61) (tgt := 80) C.1 ov10 dX2_oneNight_61 (by decide) (fun hc => ?_) (fun hc => ?_)
      · replace h := h.1 hc
        exact W_X2_oneNight_80 C N  r0 kr0 v4 ov4 S10 _ _ _ (lv_sub hl [3, 2] rfl) hW10 hS h
      · replace h := h.2 hc
        refine m_aload_n (pc := 64) C.1 dX2_oneNight_64 rfl hl 3 rfl ?_
        refine g_1_0 (pc := 65) C hW10 kr0 q_184 dX2_oneNight_65 ?_
        refine g_3_3 (pc := 68) C hW10 (k_1_0 kr0) q_146 dX2_oneNight_68 ?_
        refine m_iload_n (pc := 71) C.1 dX2_oneNight_71 rfl hl 1 rfl ?_
        refine lv_dup2_11 (pc := 72) C.1.1 C.1.2.1 dX2_oneNight_72 rfl rfl ?_
        obtain ⟨hb11a, hb11b, h⟩ := h
        refine m_iald (pc := 73) C.1 C.2.1 hW10 (k_3_3 (k_1_0 kr0)) ov7 hb11a hb11b dX2_oneNight_73 ?_
        refine m_iconst (pc := 74) C.1 dX2_oneNight_74 ?_
        refine m_iload (pc := 75) C.1 dX2_oneNight_75 hl 0 rfl ?_
        refine m_ishl (pc := 77) C.1 dX2_oneNight_77 ?_
        refine m_ior (pc := 78) C.1 dX2_oneNight_78 ?_
        obtain ⟨hb12a, hb12b, h⟩ := h
        refine m_iast (pc := 79) C.1 C.2.1 hW10 hS (k_3_3 (k_1_0 kr0)) ov7 (bOr_ok _ _) hb12a hb12b dX2_oneNight_79 (fun S13 H locs e13 hW13 hS => ?_)
        replace h := h S13 e13
        exact W_X2_oneNight_80 C N  r0 kr0 v4 ov4 S13 _ _ _ (lv_sub hl [3, 2] rfl) hW13 hS h) sz
section
variable {p : Program} {l : Launch} {e : Env} {s : State} {m : MethodId} {args : Array Value} {below : List Frame} {meth : Method} {c : Code} {g : mG} {b : Nat}
end
def w_X3_clear (N : Nat) (r0 : Nat) (S : mSt) (Q : mSt → Prop) : Prop :=
  ∀ S1 : mSt, S1 = mup S r0 0 0 → ∀ S2 : mSt, S2 = mup S1 r0 5 0 → Q S2
theorem T_X3_clear {l : Launch} (hl0 : l.stackTraces = false) {g : mG} {b : Nat} (N : Nat) (r0 : Nat) (kr0 : KX r0 = (0, 2, 0)) {S : mSt} {Q : mSt → Prop} (h : w_X3_clear N r0 S Q) (sz : Nat) : vx_Met l yX3_clear (Cond.code yX3_clear cX3_clear 1 none :: wsG) { frames := 0, cells := 0, slots := 0, locals := 0 } (mPc g b KX S [.ref (b + r0)] sz) (mQv g b KX Q (mA b KX sz)) (mEx g b KX (fun _ _ => False) (mA b KX sz)) 0 0 (mA b KX sz) :=
  m_of (av := [.ref (b + r0)]) (Qf := fun A => mQv g b KX Q A) (Xf := fun A => mEx g b KX (fun _ _ => False) A) (by decide) (Nat.le_of_ble_eq_true rfl) (fun p e s m args below meth c ls X hK hml hr hlk hout hnm hW hl => by
    have C : mC p l s m args meth c cX3_clear "MoonWash$Law" 1 none g := ⟨X, hK, hml, hr, hlk, hout, hl0⟩
    have hS : va_S (mA b KX s.heap.size) s.heap s.heap [] := va_S.rf
    have hl : lv_has ls 1 [(0, .ref (b + r0))] := hl
    unfold w_X3_clear at h
    refine m_aload_n (pc := 0) C.1 dX3_clear_0 rfl hl 0 rfl ?_
    refine m_iconst (pc := 1) C.1 dX3_clear_1 ?_
    refine p_2_0 (pc := 2) C hW hS kr0 q_248 (by decide : okI 0) dX3_clear_2 (fun S1 H locs e1 hW1 hS => ?_)
    replace h := h S1 e1
    refine m_aload_n (pc := 5) C.1 dX3_clear_5 rfl hl 0 rfl ?_
    refine m_iconst (pc := 6) C.1 dX3_clear_6 ?_
    refine p_2_5 (pc := 7) C hW1 hS kr0 q_254 (by decide : okI 0) dX3_clear_7 (fun S2 H locs e2 hW2 hS => ?_)
    replace h := h S2 e2
    exact m_vret (pc := 10) C.1 C.2.2.2.1 C.2.2.2.2.1 hW2 hS h (by decide) (by decide) dX3_clear_10) sz
section
variable {p : Program} {l : Launch} {e : Env} {s : State} {m : MethodId} {args : Array Value} {below : List Frame} {meth : Method} {c : Code} {g : mG} {b : Nat}
end
def w_X3_addStep (N : Nat) (r0 : Nat) (x1 : Int) (S : mSt) (Q : mSt → Prop) : Prop :=
  ((400 ≤ (S r0 5) → Q S) ∧ ((S r0 5) < 400 → (0 ≤ (S r0 5) ∧ (S r0 5) < 400 ∧ ∀ S2 : mSt, S2 = mup S (r0 + 4) (S r0 5) x1 → ∀ S3 : mSt, S3 = mup S2 r0 5 (nm ((S2 r0 5) + 1)) → Q S3)))
theorem T_X3_addStep {l : Launch} (hl0 : l.stackTraces = false) {g : mG} {b : Nat} (N : Nat) (r0 : Nat) (kr0 : KX r0 = (0, 2, 0)) (x1 : Int) (ox1 : okI x1) {S : mSt} {Q : mSt → Prop} (h : w_X3_addStep N r0 x1 S Q) (sz : Nat) : vx_Met l yX3_addStep (Cond.code yX3_addStep cX3_addStep 2 none :: wsG) { frames := 0, cells := 0, slots := 0, locals := 0 } (mPc g b KX S [.ref (b + r0), .int (mI x1)] sz) (mQv g b KX Q (mA b KX sz)) (mEx g b KX (fun _ _ => False) (mA b KX sz)) 0 0 (mA b KX sz) :=
  m_of (av := [.ref (b + r0), .int (mI x1)]) (Qf := fun A => mQv g b KX Q A) (Xf := fun A => mEx g b KX (fun _ _ => False) A) (by decide) (Nat.le_of_ble_eq_true rfl) (fun p e s m args below meth c ls X hK hml hr hlk hout hnm hW hl => by
    have C : mC p l s m args meth c cX3_addStep "MoonWash$Law" 2 none g := ⟨X, hK, hml, hr, hlk, hout, hl0⟩
    have hS : va_S (mA b KX s.heap.size) s.heap s.heap [] := va_S.rf
    have hl : lv_has ls 2 [(0, .ref (b + r0)), (1, .int (mI x1))] := hl
    unfold w_X3_addStep at h
    refine m_aload_n (pc := 0) C.1 dX3_addStep_0 rfl hl 0 rfl ?_
    refine g_2_5 (pc := 1) C hW kr0 q_254 dX3_addStep_1 ?_
    refine m_aload_n (pc := 4) C.1 dX3_addStep_4 rfl hl 0 rfl ?_
    refine g_2_4 (pc := 5) C hW kr0 q_253 dX3_addStep_5 ?_
    refine m_alen (pc := 8) C.1 C.2.1 hW (k_2_4 kr0) (Or.inl rfl) dX3_addStep_8 ?_
    refine m_icmp_ge (pc := 9) (tgt := 32) C.1 (hW.2.1 _ _) (by decide : okI 400) dX3_addStep_9 (by decide) (fun hc => ?_) (fun hc => ?_)
    · replace h := h.1 hc
      exact m_vret (pc := 32) C.1 C.2.2.2.1 C.2.2.2.2.1 hW hS h (by decide) (by decide) dX3_addStep_32
    · replace h := h.2 hc
      refine m_aload_n (pc := 12) C.1 dX3_addStep_12 rfl hl 0 rfl ?_
      refine g_2_4 (pc := 13) C hW kr0 q_253 dX3_addStep_13 ?_
      refine m_aload_n (pc := 16) C.1 dX3_addStep_16 rfl hl 0 rfl ?_
      refine g_2_5 (pc := 17) C hW kr0 q_254 dX3_addStep_17 ?_
      refine m_iload_n (pc := 20) C.1 dX3_addStep_20 rfl hl 1 rfl ?_
      obtain ⟨hb1a, hb1b, h⟩ := h
      refine m_iast (pc := 21) C.1 C.2.1 hW hS (k_2_4 kr0) (hW.2.1 _ _) ox1 hb1a hb1b dX3_addStep_21 (fun S2 H locs e2 hW2 hS => ?_)
      replace h := h S2 e2
      refine m_aload_n (pc := 22) C.1 dX3_addStep_22 rfl hl 0 rfl ?_
      refine lv_dup (pc := 23) C.1.1 C.1.2.1 dX3_addStep_23 rfl ?_
      refine g_2_5 (pc := 24) C hW2 kr0 q_254 dX3_addStep_24 ?_
      refine m_iconst (pc := 27) C.1 dX3_addStep_27 ?_
      refine m_iadd (pc := 28) C.1 dX3_addStep_28 ?_
      refine p_2_5 (pc := 29) C hW2 hS kr0 q_254 (nm_ok _) dX3_addStep_29 (fun S3 H locs e3 hW3 hS => ?_)
      replace h := h S3 e3
      exact m_vret (pc := 32) C.1 C.2.2.2.1 C.2.2.2.2.1 hW3 hS h (by decide) (by decide) dX3_addStep_32) sz
section
variable {p : Program} {l : Launch} {e : Env} {s : State} {m : MethodId} {args : Array Value} {below : List Frame} {meth : Method} {c : Code} {g : mG} {b : Nat}
end
def w_X3_addLine (N : Nat) (r0 : Nat) (x1 : Int) (x2 : Int) (S : mSt) (Q : mSt → Prop) : Prop :=
  (((S r0 0) < 0 → Q S) ∧ (0 ≤ (S r0 0) → ((12 ≤ (S r0 0) → Q S) ∧ ((S r0 0) < 12 → (0 ≤ (S r0 0) ∧ (S r0 0) < 12 ∧ ∀ S2 : mSt, S2 = mup S (r0 + 1) (S r0 0) x1 → (0 ≤ (S2 r0 0) ∧ (S2 r0 0) < 12 ∧ ∀ S4 : mSt, S4 = mup S2 (r0 + 2) (S2 r0 0) x2 → (0 ≤ (S4 r0 0) ∧ (S4 r0 0) < 12 ∧ ∀ S6 : mSt, S6 = mup S4 (r0 + 3) (S4 r0 0) (S4 r0 5) → ∀ S7 : mSt, S7 = mup S6 r0 0 (nm ((S6 r0 0) + 1)) → Q S7)))))))
theorem T_X3_addLine {l : Launch} (hl0 : l.stackTraces = false) {g : mG} {b : Nat} (N : Nat) (r0 : Nat) (kr0 : KX r0 = (0, 2, 0)) (x1 : Int) (ox1 : okI x1) (x2 : Int) (ox2 : okI x2) {S : mSt} {Q : mSt → Prop} (h : w_X3_addLine N r0 x1 x2 S Q) (sz : Nat) : vx_Met l yX3_addLine (Cond.code yX3_addLine cX3_addLine 3 none :: wsG) { frames := 0, cells := 0, slots := 0, locals := 0 } (mPc g b KX S [.ref (b + r0), .int (mI x1), .int (mI x2)] sz) (mQv g b KX Q (mA b KX sz)) (mEx g b KX (fun _ _ => False) (mA b KX sz)) 0 0 (mA b KX sz) :=
  m_of (av := [.ref (b + r0), .int (mI x1), .int (mI x2)]) (Qf := fun A => mQv g b KX Q A) (Xf := fun A => mEx g b KX (fun _ _ => False) A) (by decide) (Nat.le_of_ble_eq_true rfl) (fun p e s m args below meth c ls X hK hml hr hlk hout hnm hW hl => by
    have C : mC p l s m args meth c cX3_addLine "MoonWash$Law" 3 none g := ⟨X, hK, hml, hr, hlk, hout, hl0⟩
    have hS : va_S (mA b KX s.heap.size) s.heap s.heap [] := va_S.rf
    have hl : lv_has ls 3 [(0, .ref (b + r0)), (1, .int (mI x1)), (2, .int (mI x2))] := hl
    unfold w_X3_addLine at h
    refine m_aload_n (pc := 0) C.1 dX3_addLine_0 rfl hl 0 rfl ?_
    refine g_2_0 (pc := 1) C hW kr0 q_248 dX3_addLine_1 ?_
    refine m_if_lt (pc := 4) (tgt := 59) C.1 (hW.2.1 _ _) dX3_addLine_4 (by decide) (fun hc => ?_) (fun hc => ?_)
    · replace h := h.1 hc
      exact m_vret (pc := 59) C.1 C.2.2.2.1 C.2.2.2.2.1 hW hS h (by decide) (by decide) dX3_addLine_59
    · replace h := h.2 hc
      refine m_aload_n (pc := 7) C.1 dX3_addLine_7 rfl hl 0 rfl ?_
      refine g_2_0 (pc := 8) C hW kr0 q_248 dX3_addLine_8 ?_
      refine m_bipush (pc := 11) C.1 dX3_addLine_11 rfl ?_
      refine m_icmp_ge (pc := 13) (tgt := 59) C.1 (hW.2.1 _ _) (by decide : okI 12) dX3_addLine_13 (by decide) (fun hc => ?_) (fun hc => ?_)
      · replace h := h.1 hc
        exact m_vret (pc := 59) C.1 C.2.2.2.1 C.2.2.2.2.1 hW hS h (by decide) (by decide) dX3_addLine_59
      · replace h := h.2 hc
        refine m_aload_n (pc := 16) C.1 dX3_addLine_16 rfl hl 0 rfl ?_
        refine g_2_1 (pc := 17) C hW kr0 q_250 dX3_addLine_17 ?_
        refine m_aload_n (pc := 20) C.1 dX3_addLine_20 rfl hl 0 rfl ?_
        refine g_2_0 (pc := 21) C hW kr0 q_248 dX3_addLine_21 ?_
        refine m_iload_n (pc := 24) C.1 dX3_addLine_24 rfl hl 1 rfl ?_
        obtain ⟨hb1a, hb1b, h⟩ := h
        refine m_iast (pc := 25) C.1 C.2.1 hW hS (k_2_1 kr0) (hW.2.1 _ _) ox1 hb1a hb1b dX3_addLine_25 (fun S2 H locs e2 hW2 hS => ?_)
        replace h := h S2 e2
        refine m_aload_n (pc := 26) C.1 dX3_addLine_26 rfl hl 0 rfl ?_
        refine g_2_2 (pc := 27) C hW2 kr0 q_251 dX3_addLine_27 ?_
        refine m_aload_n (pc := 30) C.1 dX3_addLine_30 rfl hl 0 rfl ?_
        refine g_2_0 (pc := 31) C hW2 kr0 q_248 dX3_addLine_31 ?_
        refine m_iload_n (pc := 34) C.1 dX3_addLine_34 rfl hl 2 rfl ?_
        obtain ⟨hb3a, hb3b, h⟩ := h
        refine m_iast (pc := 35) C.1 C.2.1 hW2 hS (k_2_2 kr0) (hW2.2.1 _ _) ox2 hb3a hb3b dX3_addLine_35 (fun S4 H locs e4 hW4 hS => ?_)
        replace h := h S4 e4
        refine m_aload_n (pc := 36) C.1 dX3_addLine_36 rfl hl 0 rfl ?_
        refine g_2_3 (pc := 37) C hW4 kr0 q_252 dX3_addLine_37 ?_
        refine m_aload_n (pc := 40) C.1 dX3_addLine_40 rfl hl 0 rfl ?_
        refine g_2_0 (pc := 41) C hW4 kr0 q_248 dX3_addLine_41 ?_
        refine m_aload_n (pc := 44) C.1 dX3_addLine_44 rfl hl 0 rfl ?_
        refine g_2_5 (pc := 45) C hW4 kr0 q_254 dX3_addLine_45 ?_
        obtain ⟨hb5a, hb5b, h⟩ := h
        refine m_iast (pc := 48) C.1 C.2.1 hW4 hS (k_2_3 kr0) (hW4.2.1 _ _) (hW4.2.1 _ _) hb5a hb5b dX3_addLine_48 (fun S6 H locs e6 hW6 hS => ?_)
        replace h := h S6 e6
        refine m_aload_n (pc := 49) C.1 dX3_addLine_49 rfl hl 0 rfl ?_
        refine lv_dup (pc := 50) C.1.1 C.1.2.1 dX3_addLine_50 rfl ?_
        refine g_2_0 (pc := 51) C hW6 kr0 q_248 dX3_addLine_51 ?_
        refine m_iconst (pc := 54) C.1 dX3_addLine_54 ?_
        refine m_iadd (pc := 55) C.1 dX3_addLine_55 ?_
        refine p_2_0 (pc := 56) C hW6 hS kr0 q_248 (nm_ok _) dX3_addLine_56 (fun S7 H locs e7 hW7 hS => ?_)
        replace h := h S7 e7
        exact m_vret (pc := 59) C.1 C.2.2.2.1 C.2.2.2.2.1 hW7 hS h (by decide) (by decide) dX3_addLine_59) sz
section
variable {p : Program} {l : Launch} {e : Env} {s : State} {m : MethodId} {args : Array Value} {below : List Frame} {meth : Method} {c : Code} {g : mG} {b : Nat}
def w_X3_allLight_4b (N : Nat) (Q : mSt → Int → Prop) (ko4 : Nat → Nat → Int → Int → mSt → Prop) (ko25 : Int → mSt → Prop) (r0 : Nat) (r1 : Nat) (x2 : Int) (x3 : Int) (S : mSt) : Prop :=
  ((8 ≤ x3 → ko25 x2 S) ∧ (x3 < 8 → w_X3_lightOf N r0 r1 x3 S (fun (S1 : mSt) (v1 : Int) => ∀ v2 : Int, v2 = (nm (x2 + v1)) → ∀ v3 : Int, v3 = nm (x3 + 1) → ko4 r0 r1 v2 v3 S1)))
theorem W_X3_allLight_4b (C : mC p l s m args meth c cX3_allLight "MoonWash$Law" 4 (some FieldType.int) g) (N : Nat) {Q : mSt → Int → Prop} {ko4 : Nat → Nat → Int → Int → mSt → Prop} {ko25 : Int → mSt → Prop} (hko4 : ∀ (r0 : Nat) (kr0 : KX r0 = (0, 2, 0)) (r1 : Nat) (kr1 : KX r1 = (0, 3, 0)) (x2 : Int) (ox2 : okI x2) (x3 : Int) (ox3 : okI x3) (S : mSt) (H : Heap) (locs : List Loc) (ls : Array Slot), lv_has ls 4 [(0, .ref (b + r0)), (1, .ref (b + r1)), (2, .int (mI x2)), (3, .int (mI x3))] → mW g b KX S H → va_S (mA b KX s.heap.size) s.heap H locs → ko4 r0 r1 x2 x3 S → W p l e { frames := 5, cells := 0, slots := 0, locals := 119 } s m args below meth c H locs 0 0 (vx_MQ below (mQi g b KX Q (mA b KX s.heap.size)) (mEx g b KX (fun _ _ => False) (mA b KX s.heap.size)) args s 0 0 (mA b KX s.heap.size)) (F0 m 4 ls [])) (hko25 : ∀ (x2 : Int) (ox2 : okI x2) (S : mSt) (H : Heap) (locs : List Loc) (ls : Array Slot), lv_has ls 4 [(2, .int (mI x2))] → mW g b KX S H → va_S (mA b KX s.heap.size) s.heap H locs → ko25 x2 S → W p l e { frames := 5, cells := 0, slots := 0, locals := 119 } s m args below meth c H locs 0 0 (vx_MQ below (mQi g b KX Q (mA b KX s.heap.size)) (mEx g b KX (fun _ _ => False) (mA b KX s.heap.size)) args s 0 0 (mA b KX s.heap.size)) (F0 m 25 ls [])) (r0 : Nat) (kr0 : KX r0 = (0, 2, 0)) (r1 : Nat) (kr1 : KX r1 = (0, 3, 0)) (x2 : Int) (ox2 : okI x2) (x3 : Int) (ox3 : okI x3) (S : mSt) (H : Heap) (locs : List Loc) (ls : Array Slot) (hl : lv_has ls 4 [(0, .ref (b + r0)), (1, .ref (b + r1)), (2, .int (mI x2)), (3, .int (mI x3))]) (hW : mW g b KX S H) (hS : va_S (mA b KX s.heap.size) s.heap H locs) (h : w_X3_allLight_4b N Q ko4 ko25 r0 r1 x2 x3 S) : W p l e { frames := 5, cells := 0, slots := 0, locals := 119 } s m args below meth c H locs 0 0 (vx_MQ below (mQi g b KX Q (mA b KX s.heap.size)) (mEx g b KX (fun _ _ => False) (mA b KX s.heap.size)) args s 0 0 (mA b KX s.heap.size)) (F0 m 4 ls []) := by
  unfold w_X3_allLight_4b at h
  refine m_iload_n (pc := 4) C.1 dX3_allLight_4 rfl hl 3 rfl ?_
  refine m_bipush (pc := 5) C.1 dX3_allLight_5 rfl ?_
  refine m_icmp_ge (pc := 7) (tgt := 25) C.1 ox3 (by decide : okI 8) dX3_allLight_7 (by decide) (fun hc => ?_) (fun hc => ?_)
  · replace h := h.1 hc
    exact hko25 x2 ox2 S _ _ _ (lv_sub hl [2] rfl) hW hS h
  · replace h := h.2 hc
    refine m_iload_n (pc := 10) C.1 dX3_allLight_10 rfl hl 2 rfl ?_
    refine m_aload_n (pc := 11) C.1 dX3_allLight_11 rfl hl 0 rfl ?_
    refine m_aload_n (pc := 12) C.1 dX3_allLight_12 rfl hl 1 rfl ?_
    refine m_iload_n (pc := 13) C.1 dX3_allLight_13 rfl hl 3 rfl ?_
    refine m_callVi (pc := 14) C.1 C.2.2.1 hl.1 C.2.1 hW hS (As := [.ref (b + r1), .int (mI x3)]) (rest := [.int (mI x2)]) (r := r0) (T_X3_lightOf C.2.2.2.2.2.2 N r0 kr0 r1 kr1 x3 ox3 h) kr0 rfl q_548 q_487 q_488 q_84 q_489 pl_X3_lightOf (by decide) (Nat.le_of_ble_eq_true rfl) dX3_allLight_14 (fun v1 S1 H locs ov1 h hW1 hS => ?_)
    refine m_iadd (pc := 17) C.1 dX3_allLight_17 ?_
    refine m_istore_n (pc := 18) C.1 dX3_allLight_18 rfl hl (by decide) (fun v => [(2, .int v), (0, .ref (b + r0)), (1, .ref (b + r1)), (3, .int (mI x3))]) (fun _ => rfl) (nm_ok _) (fun v2 ls ev2 ov2 hl => ?_)
    replace h := h v2 ev2
    refine m_iinc (pc := 19) C.1 dX3_allLight_19 hl (by decide) (q0 := 3) rfl (fun v => [(3, .int v), (2, .int (mI v2)), (0, .ref (b + r0)), (1, .ref (b + r1))]) (fun _ => rfl) (fun v3 ls ev3 ov3 hl => ?_)
    replace h := h v3 ev3
    refine m_goto (pc := 22) (tgt := 4) C.1 dX3_allLight_22 (by decide) ?_
    exact hko4 r0 kr0 r1 kr1 v2 ov2 v3 ov3 S1 _ _ _ (lv_sub hl [2, 3, 1, 0] rfl) hW1 hS h
def w_X3_allLight_4 (N : Nat) (Q : mSt → Int → Prop) (ko25 : Int → mSt → Prop) : Nat → Nat → Nat → Int → Int → mSt → Prop
  | 0 => fun _ _ _ _ _ => False
  | k + 1 => w_X3_allLight_4b N Q (w_X3_allLight_4 N Q ko25 k) ko25
theorem W_X3_allLight_4 (C : mC p l s m args meth c cX3_allLight "MoonWash$Law" 4 (some FieldType.int) g) (N : Nat) {Q : mSt → Int → Prop} {ko25 : Int → mSt → Prop} (hko25 : ∀ (x2 : Int) (ox2 : okI x2) (S : mSt) (H : Heap) (locs : List Loc) (ls : Array Slot), lv_has ls 4 [(2, .int (mI x2))] → mW g b KX S H → va_S (mA b KX s.heap.size) s.heap H locs → ko25 x2 S → W p l e { frames := 5, cells := 0, slots := 0, locals := 119 } s m args below meth c H locs 0 0 (vx_MQ below (mQi g b KX Q (mA b KX s.heap.size)) (mEx g b KX (fun _ _ => False) (mA b KX s.heap.size)) args s 0 0 (mA b KX s.heap.size)) (F0 m 25 ls [])) : ∀ (k : Nat) (r0 : Nat) (kr0 : KX r0 = (0, 2, 0)) (r1 : Nat) (kr1 : KX r1 = (0, 3, 0)) (x2 : Int) (ox2 : okI x2) (x3 : Int) (ox3 : okI x3) (S : mSt) (H : Heap) (locs : List Loc) (ls : Array Slot) (hl : lv_has ls 4 [(0, .ref (b + r0)), (1, .ref (b + r1)), (2, .int (mI x2)), (3, .int (mI x3))]) (hW : mW g b KX S H) (hS : va_S (mA b KX s.heap.size) s.heap H locs) (h : w_X3_allLight_4 N Q ko25 k r0 r1 x2 x3 S), W p l e { frames := 5, cells := 0, slots := 0, locals := 119 } s m args below meth c H locs 0 0 (vx_MQ below (mQi g b KX Q (mA b KX s.heap.size)) (mEx g b KX (fun _ _ => False) (mA b KX s.heap.size)) args s 0 0 (mA b KX s.heap.size)) (F0 m 4 ls []) := by
  intro k
  induction k with
  | zero => intro r0 kr0 r1 kr1 x2 ox2 x3 ox3 S H locs ls hl hW hS h; exact False.elim h
  | succ k ih => intro r0 kr0 r1 kr1 x2 ox2 x3 ox3 S H locs ls hl hW hS h; exact W_X3_allLight_4b C N ih hko25 r0 kr0 r1 kr1 x2 ox2 x3 ox3 S H locs ls hl hW hS h
end
def w_X3_allLight (N : Nat) (r0 : Nat) (r1 : Nat) (S : mSt) (Q : mSt → Int → Prop) : Prop :=
  ∀ v1 : Int, v1 = 0 → ∀ v2 : Int, v2 = 0 → w_X3_allLight_4 N Q (fun (x2_3 : Int) (S_3 : mSt) => Q S_3 x2_3) N r0 r1 v1 v2 S
theorem T_X3_allLight {l : Launch} (hl0 : l.stackTraces = false) {g : mG} {b : Nat} (N : Nat) (r0 : Nat) (kr0 : KX r0 = (0, 2, 0)) (r1 : Nat) (kr1 : KX r1 = (0, 3, 0)) {S : mSt} {Q : mSt → Int → Prop} (h : w_X3_allLight N r0 r1 S Q) (sz : Nat) : vx_Met l yX3_allLight (Cond.code yX3_allLight cX3_allLight 4 (some FieldType.int) :: wsG) { frames := 5, cells := 0, slots := 0, locals := 119 } (mPc g b KX S [.ref (b + r0), .ref (b + r1)] sz) (mQi g b KX Q (mA b KX sz)) (mEx g b KX (fun _ _ => False) (mA b KX sz)) 0 0 (mA b KX sz) :=
  m_of (av := [.ref (b + r0), .ref (b + r1)]) (Qf := fun A => mQi g b KX Q A) (Xf := fun A => mEx g b KX (fun _ _ => False) A) (by decide) (Nat.le_of_ble_eq_true rfl) (fun p e s m args below meth c ls X hK hml hr hlk hout hnm hW hl => by
    have C : mC p l s m args meth c cX3_allLight "MoonWash$Law" 4 (some FieldType.int) g := ⟨X, hK, hml, hr, hlk, hout, hl0⟩
    have hS : va_S (mA b KX s.heap.size) s.heap s.heap [] := va_S.rf
    have hl : lv_has ls 4 [(0, .ref (b + r0)), (1, .ref (b + r1))] := hl
    unfold w_X3_allLight at h
    refine m_iconst (pc := 0) C.1 dX3_allLight_0 ?_
    refine m_istore_n (pc := 1) C.1 dX3_allLight_1 rfl hl (by decide) (fun v => [(2, .int v), (0, .ref (b + r0)), (1, .ref (b + r1))]) (fun _ => rfl) (by decide : okI 0) (fun v1 ls ev1 ov1 hl => ?_)
    replace h := h v1 ev1
    refine m_iconst (pc := 2) C.1 dX3_allLight_2 ?_
    refine m_istore_n (pc := 3) C.1 dX3_allLight_3 rfl hl (by decide) (fun v => [(3, .int v), (2, .int (mI v1)), (0, .ref (b + r0)), (1, .ref (b + r1))]) (fun _ => rfl) (by decide : okI 0) (fun v2 ls ev2 ov2 hl => ?_)
    replace h := h v2 ev2
    refine W_X3_allLight_4 C N ?_ N r0 kr0 r1 kr1 v1 ov1 v2 ov2 S _ _ _ (lv_sub hl [2, 3, 1, 0] rfl) hW hS h
    · intro x2_3 ox2_3 S_3 H locs ls hl hW_3 hS h
      refine m_iload_n (pc := 25) C.1 dX3_allLight_25 rfl hl 0 rfl ?_
      exact m_iret (pc := 26) C.1 C.2.2.2.1 C.2.2.2.2.1 hW_3 hS ox2_3 h (by decide) (by decide) dX3_allLight_26) sz
section
variable {p : Program} {l : Launch} {e : Env} {s : State} {m : MethodId} {args : Array Value} {below : List Frame} {meth : Method} {c : Code} {g : mG} {b : Nat}
def w_X10_needTerm_21 (N : Nat) (Q : mSt → Int → Prop)  (r0 : Nat) (S : mSt) : Prop :=
  w_X10_refuse N r0 S (fun (S1 : mSt) => Q S1 0)
theorem W_X10_needTerm_21 (C : mC p l s m args meth c cX10_needTerm "MoonWash$Words" 1 (some FieldType.int) g) (N : Nat) {Q : mSt → Int → Prop}   (r0 : Nat) (kr0 : KX r0 = (0, 8, 0)) (S : mSt) (H : Heap) (locs : List Loc) (ls : Array Slot) (hl : lv_has ls 1 [(0, .ref (b + r0))]) (hW : mW g b KX S H) (hS : va_S (mA b KX s.heap.size) s.heap H locs) (h : w_X10_needTerm_21 N Q  r0 S) : W p l e { frames := 1, cells := 0, slots := 0, locals := 20 } s m args below meth c H locs 0 0 (vx_MQ below (mQi g b KX Q (mA b KX s.heap.size)) (mEx g b KX (fun _ _ => False) (mA b KX s.heap.size)) args s 0 0 (mA b KX s.heap.size)) (F0 m 21 ls []) := by
  unfold w_X10_needTerm_21 at h
  refine m_aload_n (pc := 21) C.1 dX10_needTerm_21 rfl hl 0 rfl ?_
  refine m_callVv (pc := 22) C.1 C.2.2.1 hl.1 C.2.1 hW hS (As := []) (rest := []) (r := r0) (T_X10_refuse C.2.2.2.2.2.2 N r0 kr0 h) kr0 rfl q_711 q_700 q_701 q_85 q_702 pl_X10_refuse (by decide) (Nat.le_of_ble_eq_true rfl) dX10_needTerm_22 (fun S1 H locs h hW1 hS => ?_)
  refine m_iconst (pc := 25) C.1 dX10_needTerm_25 ?_
  exact m_iret (pc := 26) C.1 C.2.2.2.1 C.2.2.2.2.1 hW1 hS (by decide : okI 0) h (by decide) (by decide) dX10_needTerm_26
end
def w_X10_needTerm (N : Nat) (r0 : Nat) (S : mSt) (Q : mSt → Int → Prop) : Prop :=
  (((S r0 6) ≠ (-1) → w_X10_needTerm_21 N Q  r0 S) ∧ ((S r0 6) = (-1) → (0 ≤ (S r0 5) ∧ (S r0 5) < 401 ∧ (((S (r0 + 5) (S r0 5)) ≠ (-1) → ∀ S2 : mSt, S2 = mup S r0 5 (nm ((S r0 5) + 1)) → (0 ≤ (nm ((S2 r0 5) - 1)) ∧ (nm ((S2 r0 5) - 1)) < 401 ∧ Q S2 (S2 (r0 + 5) (nm ((S2 r0 5) - 1))))) ∧ ((S (r0 + 5) (S r0 5)) = (-1) → w_X10_needTerm_21 N Q  r0 S)))))
theorem T_X10_needTerm {l : Launch} (hl0 : l.stackTraces = false) {g : mG} {b : Nat} (N : Nat) (r0 : Nat) (kr0 : KX r0 = (0, 8, 0)) {S : mSt} {Q : mSt → Int → Prop} (h : w_X10_needTerm N r0 S Q) (sz : Nat) : vx_Met l yX10_needTerm (Cond.code yX10_needTerm cX10_needTerm 1 (some FieldType.int) :: wsG) { frames := 1, cells := 0, slots := 0, locals := 20 } (mPc g b KX S [.ref (b + r0)] sz) (mQi g b KX Q (mA b KX sz)) (mEx g b KX (fun _ _ => False) (mA b KX sz)) 0 0 (mA b KX sz) :=
  m_of (av := [.ref (b + r0)]) (Qf := fun A => mQi g b KX Q A) (Xf := fun A => mEx g b KX (fun _ _ => False) A) (by decide) (Nat.le_of_ble_eq_true rfl) (fun p e s m args below meth c ls X hK hml hr hlk hout hnm hW hl => by
    have C : mC p l s m args meth c cX10_needTerm "MoonWash$Words" 1 (some FieldType.int) g := ⟨X, hK, hml, hr, hlk, hout, hl0⟩
    have hS : va_S (mA b KX s.heap.size) s.heap s.heap [] := va_S.rf
    have hl : lv_has ls 1 [(0, .ref (b + r0))] := hl
    unfold w_X10_needTerm at h
    refine m_aload_n (pc := 0) C.1 dX10_needTerm_0 rfl hl 0 rfl ?_
    refine g_8_6 (pc := 1) C hW kr0 q_290 dX10_needTerm_1 ?_
    refine m_iconst (pc := 4) C.1 dX10_needTerm_4 ?_
    refine m_icmp_ne (pc := 5) (tgt := 21) C.1 (hW.2.1 _ _) (by decide : okI (-1)) dX10_needTerm_5 (by decide) (fun hc => ?_) (fun hc => ?_)
    · replace h := h.1 hc
      exact W_X10_needTerm_21 C N  r0 kr0 S _ _ _ (lv_sub hl [0] rfl) hW hS h
    · replace h := h.2 hc
      refine m_aload_n (pc := 8) C.1 dX10_needTerm_8 rfl hl 0 rfl ?_
      refine g_8_4 (pc := 9) C hW kr0 q_288 dX10_needTerm_9 ?_
      refine m_aload_n (pc := 12) C.1 dX10_needTerm_12 rfl hl 0 rfl ?_
      refine g_8_5 (pc := 13) C hW kr0 q_289 dX10_needTerm_13 ?_
      obtain ⟨hb1a, hb1b, h⟩ := h
      refine m_iald (pc := 16) C.1 C.2.1 hW (k_8_4 kr0) (hW.2.1 _ _) hb1a hb1b dX10_needTerm_16 ?_
      refine m_iconst (pc := 17) C.1 dX10_needTerm_17 ?_
      refine m_icmp_ne (pc := 18) (tgt := 27) C.1 (hW.2.1 _ _) (by decide : okI (-1)) dX10_needTerm_18 (by decide) (fun hc => ?_) (fun hc => ?_)
      · replace h := h.1 hc
        refine m_aload_n (pc := 27) C.1 dX10_needTerm_27 rfl hl 0 rfl ?_
        refine lv_dup (pc := 28) C.1.1 C.1.2.1 dX10_needTerm_28 rfl ?_
        refine g_8_5 (pc := 29) C hW kr0 q_289 dX10_needTerm_29 ?_
        refine m_iconst (pc := 32) C.1 dX10_needTerm_32 ?_
        refine m_iadd (pc := 33) C.1 dX10_needTerm_33 ?_
        refine p_8_5 (pc := 34) C hW hS kr0 q_289 (nm_ok _) dX10_needTerm_34 (fun S2 H locs e2 hW2 hS => ?_)
        replace h := h S2 e2
        refine m_aload_n (pc := 37) C.1 dX10_needTerm_37 rfl hl 0 rfl ?_
        refine g_8_4 (pc := 38) C hW2 kr0 q_288 dX10_needTerm_38 ?_
        refine m_aload_n (pc := 41) C.1 dX10_needTerm_41 rfl hl 0 rfl ?_
        refine g_8_5 (pc := 42) C hW2 kr0 q_289 dX10_needTerm_42 ?_
        refine m_iconst (pc := 45) C.1 dX10_needTerm_45 ?_
        refine m_isub (pc := 46) C.1 dX10_needTerm_46 ?_
        obtain ⟨hb3a, hb3b, h⟩ := h
        refine m_iald (pc := 47) C.1 C.2.1 hW2 (k_8_4 kr0) (nm_ok _) hb3a hb3b dX10_needTerm_47 ?_
        exact m_iret (pc := 48) C.1 C.2.2.2.1 C.2.2.2.2.1 hW2 hS (hW2.2.1 _ _) h (by decide) (by decide) dX10_needTerm_48
      · replace h := h.2 hc
        exact W_X10_needTerm_21 C N  r0 kr0 S _ _ _ (lv_sub hl [0] rfl) hW hS h) sz
section
variable {p : Program} {l : Launch} {e : Env} {s : State} {m : MethodId} {args : Array Value} {below : List Frame} {meth : Method} {c : Code} {g : mG} {b : Nat}
def w_X4_readSum_34 (N : Nat) (Q : mSt → Prop) (ko4 : Nat → Nat → Int → Int → mSt → Prop) (r0 : Nat) (r1 : Nat) (x3 : Int) (S : mSt) : Prop :=
  w_X10_takes N r0 6 S (fun (S1 : mSt) (v1 : Int) => ∀ v2 : Int, v2 = v1 → ∀ v3 : Int, v3 = nm (x3 + 1) → ko4 r0 r1 v2 v3 S1)
theorem W_X4_readSum_34 (C : mC p l s m args meth c cX4_readSum "MoonWash$LawText" 4 none g) (N : Nat) {Q : mSt → Prop} {ko4 : Nat → Nat → Int → Int → mSt → Prop} (hko4 : ∀ (r0 : Nat) (kr0 : KX r0 = (0, 8, 0)) (r1 : Nat) (kr1 : KX r1 = (0, 2, 0)) (x2 : Int) (ox2 : okI x2) (x3 : Int) (ox3 : okI x3) (S : mSt) (H : Heap) (locs : List Loc) (ls : Array Slot), lv_has ls 4 [(0, .ref (b + r0)), (1, .ref (b + r1)), (2, .int (mI x2)), (3, .int (mI x3))] → mW g b KX S H → va_S (mA b KX s.heap.size) s.heap H locs → ko4 r0 r1 x2 x3 S → W p l e { frames := 2, cells := 0, slots := 0, locals := 40 } s m args below meth c H locs 0 0 (vx_MQ below (mQv g b KX Q (mA b KX s.heap.size)) (mEx g b KX (fun _ _ => False) (mA b KX s.heap.size)) args s 0 0 (mA b KX s.heap.size)) (F0 m 4 ls [])) (r0 : Nat) (kr0 : KX r0 = (0, 8, 0)) (r1 : Nat) (kr1 : KX r1 = (0, 2, 0)) (x3 : Int) (ox3 : okI x3) (S : mSt) (H : Heap) (locs : List Loc) (ls : Array Slot) (hl : lv_has ls 4 [(0, .ref (b + r0)), (1, .ref (b + r1)), (3, .int (mI x3))]) (hW : mW g b KX S H) (hS : va_S (mA b KX s.heap.size) s.heap H locs) (h : w_X4_readSum_34 N Q ko4 r0 r1 x3 S) : W p l e { frames := 2, cells := 0, slots := 0, locals := 40 } s m args below meth c H locs 0 0 (vx_MQ below (mQv g b KX Q (mA b KX s.heap.size)) (mEx g b KX (fun _ _ => False) (mA b KX s.heap.size)) args s 0 0 (mA b KX s.heap.size)) (F0 m 34 ls []) := by
  unfold w_X4_readSum_34 at h
  refine m_aload_n (pc := 34) C.1 dX4_readSum_34 rfl hl 0 rfl ?_
  refine m_token (pc := 35) C.1 C.2.1 hW hS 6 (by decide) rfl q_911 dX4_readSum_35 ?_
  refine m_callVi (pc := 38) C.1 C.2.2.1 hl.1 C.2.1 hW hS (As := [.ref (g.ad 6)]) (rest := []) (r := r0) (T_X10_takes C.2.2.2.2.2.2 N r0 kr0 6 (by decide : 6 < 36) h) kr0 rfl q_872 q_708 q_709 q_85 q_710 pl_X10_takes (by decide) (Nat.le_of_ble_eq_true rfl) dX4_readSum_38 (fun v1 S1 H locs ov1 h hW1 hS => ?_)
  refine m_istore_n (pc := 41) C.1 dX4_readSum_41 rfl hl (by decide) (fun v => [(2, .int v), (0, .ref (b + r0)), (1, .ref (b + r1)), (3, .int (mI x3))]) (fun _ => rfl) ov1 (fun v2 ls ev2 ov2 hl => ?_)
  replace h := h v2 ev2
  refine m_iinc (pc := 42) C.1 dX4_readSum_42 hl (by decide) (q0 := 3) rfl (fun v => [(3, .int v), (2, .int (mI v2)), (0, .ref (b + r0)), (1, .ref (b + r1))]) (fun _ => rfl) (fun v3 ls ev3 ov3 hl => ?_)
  replace h := h v3 ev3
  refine m_goto (pc := 45) (tgt := 4) C.1 dX4_readSum_45 (by decide) ?_
  exact hko4 r0 kr0 r1 kr1 v2 ov2 v3 ov3 S1 _ _ _ (lv_sub hl [2, 3, 1, 0] rfl) hW1 hS h
def w_X4_readSum_4b (N : Nat) (Q : mSt → Prop) (ko4 : Nat → Nat → Int → Int → mSt → Prop) (ko48 : mSt → Prop) (r0 : Nat) (r1 : Nat) (x2 : Int) (x3 : Int) (S : mSt) : Prop :=
  ((x2 = 0 → ko48 S) ∧ (x2 ≠ 0 → ((400 ≤ x3 → ko48 S) ∧ (x3 < 400 → w_X10_needTerm N r0 S (fun (S1 : mSt) (v1 : Int) => w_X3_addStep N r1 v1 S1 (fun (S2 : mSt) => ((x3 ≤ 0 → w_X4_readSum_34 N Q ko4 r0 r1 x3 S2) ∧ (0 < x3 → w_X3_addStep N r1 1011 S2 (fun (S3 : mSt) => w_X4_readSum_34 N Q ko4 r0 r1 x3 S3)))))))))
theorem W_X4_readSum_4b (C : mC p l s m args meth c cX4_readSum "MoonWash$LawText" 4 none g) (N : Nat) {Q : mSt → Prop} {ko4 : Nat → Nat → Int → Int → mSt → Prop} {ko48 : mSt → Prop} (hko4 : ∀ (r0 : Nat) (kr0 : KX r0 = (0, 8, 0)) (r1 : Nat) (kr1 : KX r1 = (0, 2, 0)) (x2 : Int) (ox2 : okI x2) (x3 : Int) (ox3 : okI x3) (S : mSt) (H : Heap) (locs : List Loc) (ls : Array Slot), lv_has ls 4 [(0, .ref (b + r0)), (1, .ref (b + r1)), (2, .int (mI x2)), (3, .int (mI x3))] → mW g b KX S H → va_S (mA b KX s.heap.size) s.heap H locs → ko4 r0 r1 x2 x3 S → W p l e { frames := 2, cells := 0, slots := 0, locals := 40 } s m args below meth c H locs 0 0 (vx_MQ below (mQv g b KX Q (mA b KX s.heap.size)) (mEx g b KX (fun _ _ => False) (mA b KX s.heap.size)) args s 0 0 (mA b KX s.heap.size)) (F0 m 4 ls [])) (hko48 : ∀  (S : mSt) (H : Heap) (locs : List Loc) (ls : Array Slot), lv_has ls 4 [] → mW g b KX S H → va_S (mA b KX s.heap.size) s.heap H locs → ko48 S → W p l e { frames := 2, cells := 0, slots := 0, locals := 40 } s m args below meth c H locs 0 0 (vx_MQ below (mQv g b KX Q (mA b KX s.heap.size)) (mEx g b KX (fun _ _ => False) (mA b KX s.heap.size)) args s 0 0 (mA b KX s.heap.size)) (F0 m 48 ls [])) (r0 : Nat) (kr0 : KX r0 = (0, 8, 0)) (r1 : Nat) (kr1 : KX r1 = (0, 2, 0)) (x2 : Int) (ox2 : okI x2) (x3 : Int) (ox3 : okI x3) (S : mSt) (H : Heap) (locs : List Loc) (ls : Array Slot) (hl : lv_has ls 4 [(0, .ref (b + r0)), (1, .ref (b + r1)), (2, .int (mI x2)), (3, .int (mI x3))]) (hW : mW g b KX S H) (hS : va_S (mA b KX s.heap.size) s.heap H locs) (h : w_X4_readSum_4b N Q ko4 ko48 r0 r1 x2 x3 S) : W p l e { frames := 2, cells := 0, slots := 0, locals := 40 } s m args below meth c H locs 0 0 (vx_MQ below (mQv g b KX Q (mA b KX s.heap.size)) (mEx g b KX (fun _ _ => False) (mA b KX s.heap.size)) args s 0 0 (mA b KX s.heap.size)) (F0 m 4 ls []) := by
  unfold w_X4_readSum_4b at h
  refine m_iload_n (pc := 4) C.1 dX4_readSum_4 rfl hl 2 rfl ?_
  refine m_if_eq (pc := 5) (tgt := 48) C.1 ox2 dX4_readSum_5 (by decide) (fun hc => ?_) (fun hc => ?_)
  · replace h := h.1 hc
    exact hko48  S _ _ _ (lv_sub hl [] rfl) hW hS h
  · replace h := h.2 hc
    refine m_iload_n (pc := 8) C.1 dX4_readSum_8 rfl hl 3 rfl ?_
    refine m_sipush (pc := 9) C.1 dX4_readSum_9 rfl ?_
    refine m_icmp_ge (pc := 12) (tgt := 48) C.1 ox3 (by decide : okI 400) dX4_readSum_12 (by decide) (fun hc => ?_) (fun hc => ?_)
    · replace h := h.1 hc
      exact hko48  S _ _ _ (lv_sub hl [] rfl) hW hS h
    · replace h := h.2 hc
      refine m_aload_n (pc := 15) C.1 dX4_readSum_15 rfl hl 1 rfl ?_
      refine m_aload_n (pc := 16) C.1 dX4_readSum_16 rfl hl 0 rfl ?_
      refine m_callVi (pc := 17) C.1 C.2.2.1 hl.1 C.2.1 hW hS (As := []) (rest := [.ref (b + r1)]) (r := r0) (T_X10_needTerm C.2.2.2.2.2.2 N r0 kr0 h) kr0 rfl q_907 q_908 q_909 q_85 q_910 pl_X10_needTerm (by decide) (Nat.le_of_ble_eq_true rfl) dX4_readSum_17 (fun v1 S1 H locs ov1 h hW1 hS => ?_)
      refine m_callVv (pc := 20) C.1 C.2.2.1 hl.1 C.2.1 hW1 hS (As := [.int (mI v1)]) (rest := []) (r := r1) (T_X3_addStep C.2.2.2.2.2.2 N r1 kr1 v1 ov1 h) kr1 rfl q_894 q_895 q_896 q_84 q_897 pl_X3_addStep (by decide) (Nat.le_of_ble_eq_true rfl) dX4_readSum_20 (fun S2 H locs h hW2 hS => ?_)
      refine m_iload_n (pc := 23) C.1 dX4_readSum_23 rfl hl 3 rfl ?_
      refine m_if_le (pc := 24) (tgt := 34) C.1 ox3 dX4_readSum_24 (by decide) (fun hc => ?_) (fun hc => ?_)
      · replace h := h.1 hc
        exact W_X4_readSum_34 C N hko4 r0 kr0 r1 kr1 x3 ox3 S2 _ _ _ (lv_sub hl [0, 1, 3] rfl) hW2 hS h
      · replace h := h.2 hc
        refine m_aload_n (pc := 27) C.1 dX4_readSum_27 rfl hl 1 rfl ?_
        refine m_sipush (pc := 28) C.1 dX4_readSum_28 rfl ?_
        refine m_callVv (pc := 31) C.1 C.2.2.1 hl.1 C.2.1 hW2 hS (As := [.int (mI 1011)]) (rest := []) (r := r1) (T_X3_addStep C.2.2.2.2.2.2 N r1 kr1 1011 (by decide : okI 1011) h) kr1 rfl q_894 q_895 q_896 q_84 q_897 pl_X3_addStep (by decide) (Nat.le_of_ble_eq_true rfl) dX4_readSum_31 (fun S3 H locs h hW3 hS => ?_)
        exact W_X4_readSum_34 C N hko4 r0 kr0 r1 kr1 x3 ox3 S3 _ _ _ (lv_sub hl [0, 1, 3] rfl) hW3 hS h
def w_X4_readSum_4 (N : Nat) (Q : mSt → Prop) (ko48 : mSt → Prop) : Nat → Nat → Nat → Int → Int → mSt → Prop
  | 0 => fun _ _ _ _ _ => False
  | k + 1 => w_X4_readSum_4b N Q (w_X4_readSum_4 N Q ko48 k) ko48
theorem W_X4_readSum_4 (C : mC p l s m args meth c cX4_readSum "MoonWash$LawText" 4 none g) (N : Nat) {Q : mSt → Prop} {ko48 : mSt → Prop} (hko48 : ∀  (S : mSt) (H : Heap) (locs : List Loc) (ls : Array Slot), lv_has ls 4 [] → mW g b KX S H → va_S (mA b KX s.heap.size) s.heap H locs → ko48 S → W p l e { frames := 2, cells := 0, slots := 0, locals := 40 } s m args below meth c H locs 0 0 (vx_MQ below (mQv g b KX Q (mA b KX s.heap.size)) (mEx g b KX (fun _ _ => False) (mA b KX s.heap.size)) args s 0 0 (mA b KX s.heap.size)) (F0 m 48 ls [])) : ∀ (k : Nat) (r0 : Nat) (kr0 : KX r0 = (0, 8, 0)) (r1 : Nat) (kr1 : KX r1 = (0, 2, 0)) (x2 : Int) (ox2 : okI x2) (x3 : Int) (ox3 : okI x3) (S : mSt) (H : Heap) (locs : List Loc) (ls : Array Slot) (hl : lv_has ls 4 [(0, .ref (b + r0)), (1, .ref (b + r1)), (2, .int (mI x2)), (3, .int (mI x3))]) (hW : mW g b KX S H) (hS : va_S (mA b KX s.heap.size) s.heap H locs) (h : w_X4_readSum_4 N Q ko48 k r0 r1 x2 x3 S), W p l e { frames := 2, cells := 0, slots := 0, locals := 40 } s m args below meth c H locs 0 0 (vx_MQ below (mQv g b KX Q (mA b KX s.heap.size)) (mEx g b KX (fun _ _ => False) (mA b KX s.heap.size)) args s 0 0 (mA b KX s.heap.size)) (F0 m 4 ls []) := by
  intro k
  induction k with
  | zero => intro r0 kr0 r1 kr1 x2 ox2 x3 ox3 S H locs ls hl hW hS h; exact False.elim h
  | succ k ih => intro r0 kr0 r1 kr1 x2 ox2 x3 ox3 S H locs ls hl hW hS h; exact W_X4_readSum_4b C N ih hko48 r0 kr0 r1 kr1 x2 ox2 x3 ox3 S H locs ls hl hW hS h
end
def w_X4_readSum (N : Nat) (r0 : Nat) (r1 : Nat) (S : mSt) (Q : mSt → Prop) : Prop :=
  ∀ v1 : Int, v1 = 1 → ∀ v2 : Int, v2 = 0 → w_X4_readSum_4 N Q (fun  (S_3 : mSt) => Q S_3) N r0 r1 v1 v2 S
theorem T_X4_readSum {l : Launch} (hl0 : l.stackTraces = false) {g : mG} {b : Nat} (N : Nat) (r0 : Nat) (kr0 : KX r0 = (0, 8, 0)) (r1 : Nat) (kr1 : KX r1 = (0, 2, 0)) {S : mSt} {Q : mSt → Prop} (h : w_X4_readSum N r0 r1 S Q) (sz : Nat) : vx_Met l yX4_readSum (Cond.code yX4_readSum cX4_readSum 4 none :: wsG) { frames := 2, cells := 0, slots := 0, locals := 40 } (mPc g b KX S [.ref (b + r0), .ref (b + r1)] sz) (mQv g b KX Q (mA b KX sz)) (mEx g b KX (fun _ _ => False) (mA b KX sz)) 0 0 (mA b KX sz) :=
  m_of (av := [.ref (b + r0), .ref (b + r1)]) (Qf := fun A => mQv g b KX Q A) (Xf := fun A => mEx g b KX (fun _ _ => False) A) (by decide) (Nat.le_of_ble_eq_true rfl) (fun p e s m args below meth c ls X hK hml hr hlk hout hnm hW hl => by
    have C : mC p l s m args meth c cX4_readSum "MoonWash$LawText" 4 none g := ⟨X, hK, hml, hr, hlk, hout, hl0⟩
    have hS : va_S (mA b KX s.heap.size) s.heap s.heap [] := va_S.rf
    have hl : lv_has ls 4 [(0, .ref (b + r0)), (1, .ref (b + r1))] := hl
    unfold w_X4_readSum at h
    refine m_iconst (pc := 0) C.1 dX4_readSum_0 ?_
    refine m_istore_n (pc := 1) C.1 dX4_readSum_1 rfl hl (by decide) (fun v => [(2, .int v), (0, .ref (b + r0)), (1, .ref (b + r1))]) (fun _ => rfl) (by decide : okI 1) (fun v1 ls ev1 ov1 hl => ?_)
    replace h := h v1 ev1
    refine m_iconst (pc := 2) C.1 dX4_readSum_2 ?_
    refine m_istore_n (pc := 3) C.1 dX4_readSum_3 rfl hl (by decide) (fun v => [(3, .int v), (2, .int (mI v1)), (0, .ref (b + r0)), (1, .ref (b + r1))]) (fun _ => rfl) (by decide : okI 0) (fun v2 ls ev2 ov2 hl => ?_)
    replace h := h v2 ev2
    refine W_X4_readSum_4 C N ?_ N r0 kr0 r1 kr1 v1 ov1 v2 ov2 S _ _ _ (lv_sub hl [2, 3, 1, 0] rfl) hW hS h
    · intro S_3 H locs ls hl hW_3 hS h
      exact m_vret (pc := 48) C.1 C.2.2.2.1 C.2.2.2.2.1 hW_3 hS h (by decide) (by decide) dX4_readSum_48) sz
section
variable {p : Program} {l : Launch} {e : Env} {s : State} {m : MethodId} {args : Array Value} {below : List Frame} {meth : Method} {c : Code} {g : mG} {b : Nat}
def w_X4_readCondition_54 (N : Nat) (F : Nat → Nat → Int → mSt → (mSt → Prop) → Prop) (Q : mSt → Prop) (ko23 : Nat → Nat → Int → Int → Int → Int → mSt → Prop) (r0 : Nat) (r1 : Nat) (x2 : Int) (x4 : Int) (x6 : Int) (S : mSt) : Prop :=
  w_X10_takes N r0 32 S (fun (S1 : mSt) (v1 : Int) => ∀ v2 : Int, v2 = v1 → ∀ v3 : Int, v3 = nm (x6 + 1) → ko23 r0 r1 x2 x4 v2 v3 S1)
theorem W_X4_readCondition_54 (C : mC p l s m args meth c cX4_readCondition "MoonWash$LawText" 7 none g) (N : Nat) {fr lo : Nat} {F : Nat → Nat → Int → mSt → (mSt → Prop) → Prop} (hF : ∀ (r0 : Nat) (kr0 : KX r0 = (0, 8, 0)) (r1 : Nat) (kr1 : KX r1 = (0, 2, 0)) (x2 : Int) (ox2 : okI x2) {S : mSt} {Q : mSt → Prop}, F r0 r1 x2 S Q → ∀ sz : Nat, vx_Met l yX4_readAtom (Cond.code yX4_readAtom cX4_readAtom 5 none :: wsG) { frames := fr, cells := 0, slots := 0, locals := lo } (mPc g b KX S [.ref (b + r0), .ref (b + r1), .int (mI x2)] sz) (mQv g b KX Q (mA b KX sz)) (mEx g b KX (fun _ _ => False) (mA b KX sz)) 0 0 (mA b KX sz)) {Q : mSt → Prop} {ko23 : Nat → Nat → Int → Int → Int → Int → mSt → Prop} (hko23 : ∀ (r0 : Nat) (kr0 : KX r0 = (0, 8, 0)) (r1 : Nat) (kr1 : KX r1 = (0, 2, 0)) (x2 : Int) (ox2 : okI x2) (x4 : Int) (ox4 : okI x4) (x5 : Int) (ox5 : okI x5) (x6 : Int) (ox6 : okI x6) (S : mSt) (H : Heap) (locs : List Loc) (ls : Array Slot), lv_has ls 7 [(0, .ref (b + r0)), (1, .ref (b + r1)), (2, .int (mI x2)), (4, .int (mI x4)), (5, .int (mI x5)), (6, .int (mI x6))] → mW g b KX S H → va_S (mA b KX s.heap.size) s.heap H locs → ko23 r0 r1 x2 x4 x5 x6 S → W p l e { frames := fr + 1, cells := 0, slots := 0, locals := lo + 24 } s m args below meth c H locs 0 0 (vx_MQ below (mQv g b KX Q (mA b KX s.heap.size)) (mEx g b KX (fun _ _ => False) (mA b KX s.heap.size)) args s 0 0 (mA b KX s.heap.size)) (F0 m 23 ls [])) (r0 : Nat) (kr0 : KX r0 = (0, 8, 0)) (r1 : Nat) (kr1 : KX r1 = (0, 2, 0)) (x2 : Int) (ox2 : okI x2) (x4 : Int) (ox4 : okI x4) (x6 : Int) (ox6 : okI x6) (S : mSt) (H : Heap) (locs : List Loc) (ls : Array Slot) (hl : lv_has ls 7 [(0, .ref (b + r0)), (1, .ref (b + r1)), (2, .int (mI x2)), (4, .int (mI x4)), (6, .int (mI x6))]) (hW : mW g b KX S H) (hS : va_S (mA b KX s.heap.size) s.heap H locs) (h : w_X4_readCondition_54 N F Q ko23 r0 r1 x2 x4 x6 S) : W p l e { frames := fr + 1, cells := 0, slots := 0, locals := lo + 24 } s m args below meth c H locs 0 0 (vx_MQ below (mQv g b KX Q (mA b KX s.heap.size)) (mEx g b KX (fun _ _ => False) (mA b KX s.heap.size)) args s 0 0 (mA b KX s.heap.size)) (F0 m 54 ls []) := by
  unfold w_X4_readCondition_54 at h
  refine m_aload_n (pc := 54) C.1 dX4_readCondition_54 rfl hl 0 rfl ?_
  refine m_token (pc := 55) C.1 C.2.1 hW hS 32 (by decide) rfl q_917 dX4_readCondition_55 ?_
  refine m_callVi (pc := 58) C.1 C.2.2.1 hl.1 C.2.1 hW hS (As := [.ref (g.ad 32)]) (rest := []) (r := r0) (T_X10_takes C.2.2.2.2.2.2 N r0 kr0 32 (by decide : 32 < 36) h) kr0 rfl q_872 q_708 q_709 q_85 q_710 pl_X10_takes (by dsimp only [mRm]; omega) (Nat.le_of_ble_eq_true rfl) dX4_readCondition_58 (fun v1 S1 H locs ov1 h hW1 hS => ?_)
  refine m_istore (pc := 61) C.1 dX4_readCondition_61 hl (by decide) (fun v => [(5, .int v), (0, .ref (b + r0)), (1, .ref (b + r1)), (2, .int (mI x2)), (4, .int (mI x4)), (6, .int (mI x6))]) (fun _ => rfl) ov1 (fun v2 ls ev2 ov2 hl => ?_)
  replace h := h v2 ev2
  refine m_iinc (pc := 63) C.1 dX4_readCondition_63 hl (by decide) (q0 := 5) rfl (fun v => [(6, .int v), (5, .int (mI v2)), (0, .ref (b + r0)), (1, .ref (b + r1)), (2, .int (mI x2)), (4, .int (mI x4))]) (fun _ => rfl) (fun v3 ls ev3 ov3 hl => ?_)
  replace h := h v3 ev3
  refine m_goto (pc := 66) (tgt := 23) C.1 dX4_readCondition_66 (by decide) ?_
  exact hko23 r0 kr0 r1 kr1 x2 ox2 x4 ox4 v2 ov2 v3 ov3 S1 _ _ _ (lv_sub hl [2, 3, 4, 5, 1, 0] rfl) hW1 hS h
def w_X4_readCondition_23b (N : Nat) (F : Nat → Nat → Int → mSt → (mSt → Prop) → Prop) (Q : mSt → Prop) (ko23 : Nat → Nat → Int → Int → Int → Int → mSt → Prop) (ko69 : Nat → Nat → Int → Int → mSt → Prop) (r0 : Nat) (r1 : Nat) (x2 : Int) (x4 : Int) (x5 : Int) (x6 : Int) (S : mSt) : Prop :=
  ((x5 = 0 → ko69 r0 r1 x2 x4 S) ∧ (x5 ≠ 0 → ((400 ≤ x6 → ko69 r0 r1 x2 x4 S) ∧ (x6 < 400 → F r0 r1 x2 S (fun (S1 : mSt) => ((x6 ≤ 0 → w_X4_readCondition_54 N F Q ko23 r0 r1 x2 x4 x6 S1) ∧ (0 < x6 → w_X3_addStep N r1 1014 S1 (fun (S2 : mSt) => w_X4_readCondition_54 N F Q ko23 r0 r1 x2 x4 x6 S2))))))))
theorem W_X4_readCondition_23b (C : mC p l s m args meth c cX4_readCondition "MoonWash$LawText" 7 none g) (N : Nat) {fr lo : Nat} {F : Nat → Nat → Int → mSt → (mSt → Prop) → Prop} (hF : ∀ (r0 : Nat) (kr0 : KX r0 = (0, 8, 0)) (r1 : Nat) (kr1 : KX r1 = (0, 2, 0)) (x2 : Int) (ox2 : okI x2) {S : mSt} {Q : mSt → Prop}, F r0 r1 x2 S Q → ∀ sz : Nat, vx_Met l yX4_readAtom (Cond.code yX4_readAtom cX4_readAtom 5 none :: wsG) { frames := fr, cells := 0, slots := 0, locals := lo } (mPc g b KX S [.ref (b + r0), .ref (b + r1), .int (mI x2)] sz) (mQv g b KX Q (mA b KX sz)) (mEx g b KX (fun _ _ => False) (mA b KX sz)) 0 0 (mA b KX sz)) {Q : mSt → Prop} {ko23 : Nat → Nat → Int → Int → Int → Int → mSt → Prop} {ko69 : Nat → Nat → Int → Int → mSt → Prop} (hko23 : ∀ (r0 : Nat) (kr0 : KX r0 = (0, 8, 0)) (r1 : Nat) (kr1 : KX r1 = (0, 2, 0)) (x2 : Int) (ox2 : okI x2) (x4 : Int) (ox4 : okI x4) (x5 : Int) (ox5 : okI x5) (x6 : Int) (ox6 : okI x6) (S : mSt) (H : Heap) (locs : List Loc) (ls : Array Slot), lv_has ls 7 [(0, .ref (b + r0)), (1, .ref (b + r1)), (2, .int (mI x2)), (4, .int (mI x4)), (5, .int (mI x5)), (6, .int (mI x6))] → mW g b KX S H → va_S (mA b KX s.heap.size) s.heap H locs → ko23 r0 r1 x2 x4 x5 x6 S → W p l e { frames := fr + 1, cells := 0, slots := 0, locals := lo + 24 } s m args below meth c H locs 0 0 (vx_MQ below (mQv g b KX Q (mA b KX s.heap.size)) (mEx g b KX (fun _ _ => False) (mA b KX s.heap.size)) args s 0 0 (mA b KX s.heap.size)) (F0 m 23 ls [])) (hko69 : ∀ (r0 : Nat) (kr0 : KX r0 = (0, 8, 0)) (r1 : Nat) (kr1 : KX r1 = (0, 2, 0)) (x2 : Int) (ox2 : okI x2) (x4 : Int) (ox4 : okI x4) (S : mSt) (H : Heap) (locs : List Loc) (ls : Array Slot), lv_has ls 7 [(0, .ref (b + r0)), (1, .ref (b + r1)), (2, .int (mI x2)), (4, .int (mI x4))] → mW g b KX S H → va_S (mA b KX s.heap.size) s.heap H locs → ko69 r0 r1 x2 x4 S → W p l e { frames := fr + 1, cells := 0, slots := 0, locals := lo + 24 } s m args below meth c H locs 0 0 (vx_MQ below (mQv g b KX Q (mA b KX s.heap.size)) (mEx g b KX (fun _ _ => False) (mA b KX s.heap.size)) args s 0 0 (mA b KX s.heap.size)) (F0 m 69 ls [])) (r0 : Nat) (kr0 : KX r0 = (0, 8, 0)) (r1 : Nat) (kr1 : KX r1 = (0, 2, 0)) (x2 : Int) (ox2 : okI x2) (x4 : Int) (ox4 : okI x4) (x5 : Int) (ox5 : okI x5) (x6 : Int) (ox6 : okI x6) (S : mSt) (H : Heap) (locs : List Loc) (ls : Array Slot) (hl : lv_has ls 7 [(0, .ref (b + r0)), (1, .ref (b + r1)), (2, .int (mI x2)), (4, .int (mI x4)), (5, .int (mI x5)), (6, .int (mI x6))]) (hW : mW g b KX S H) (hS : va_S (mA b KX s.heap.size) s.heap H locs) (h : w_X4_readCondition_23b N F Q ko23 ko69 r0 r1 x2 x4 x5 x6 S) : W p l e { frames := fr + 1, cells := 0, slots := 0, locals := lo + 24 } s m args below meth c H locs 0 0 (vx_MQ below (mQv g b KX Q (mA b KX s.heap.size)) (mEx g b KX (fun _ _ => False) (mA b KX s.heap.size)) args s 0 0 (mA b KX s.heap.size)) (F0 m 23 ls []) := by
  unfold w_X4_readCondition_23b at h
  refine m_iload (pc := 23) C.1 dX4_readCondition_23 hl 4 rfl ?_
  refine m_if_eq (pc := 25) (tgt := 69) C.1 ox5 dX4_readCondition_25 (by decide) (fun hc => ?_) (fun hc => ?_)
  · replace h := h.1 hc
    exact hko69 r0 kr0 r1 kr1 x2 ox2 x4 ox4 S _ _ _ (lv_sub hl [0, 1, 2, 3] rfl) hW hS h
  · replace h := h.2 hc
    refine m_iload (pc := 28) C.1 dX4_readCondition_28 hl 5 rfl ?_
    refine m_sipush (pc := 30) C.1 dX4_readCondition_30 rfl ?_
    refine m_icmp_ge (pc := 33) (tgt := 69) C.1 ox6 (by decide : okI 400) dX4_readCondition_33 (by decide) (fun hc => ?_) (fun hc => ?_)
    · replace h := h.1 hc
      exact hko69 r0 kr0 r1 kr1 x2 ox2 x4 ox4 S _ _ _ (lv_sub hl [0, 1, 2, 3] rfl) hW hS h
    · replace h := h.2 hc
      refine m_aload_n (pc := 36) C.1 dX4_readCondition_36 rfl hl 0 rfl ?_
      refine m_aload_n (pc := 37) C.1 dX4_readCondition_37 rfl hl 1 rfl ?_
      refine m_iload_n (pc := 38) C.1 dX4_readCondition_38 rfl hl 2 rfl ?_
      refine m_callSv (pc := 39) C.1 C.2.2.1 hl.1 C.2.1 hW hS (As := [.ref (b + r0), .ref (b + r1), .int (mI x2)]) (rest := []) (hF r0 kr0 r1 kr1 x2 ox2 h) q_886 q_887 q_105 q_888 pl_X4_readAtom (by dsimp only [mRm]; omega) (Nat.le_of_ble_eq_true rfl) dX4_readCondition_39 (fun S1 H locs h hW1 hS => ?_)
      refine m_iload (pc := 42) C.1 dX4_readCondition_42 hl 5 rfl ?_
      refine m_if_le (pc := 44) (tgt := 54) C.1 ox6 dX4_readCondition_44 (by decide) (fun hc => ?_) (fun hc => ?_)
      · replace h := h.1 hc
        exact W_X4_readCondition_54 C N hF hko23 r0 kr0 r1 kr1 x2 ox2 x4 ox4 x6 ox6 S1 _ _ _ (lv_sub hl [0, 1, 2, 3, 5] rfl) hW1 hS h
      · replace h := h.2 hc
        refine m_aload_n (pc := 47) C.1 dX4_readCondition_47 rfl hl 1 rfl ?_
        refine m_sipush (pc := 48) C.1 dX4_readCondition_48 rfl ?_
        refine m_callVv (pc := 51) C.1 C.2.2.1 hl.1 C.2.1 hW1 hS (As := [.int (mI 1014)]) (rest := []) (r := r1) (T_X3_addStep C.2.2.2.2.2.2 N r1 kr1 1014 (by decide : okI 1014) h) kr1 rfl q_894 q_895 q_896 q_84 q_897 pl_X3_addStep (by dsimp only [mRm]; omega) (Nat.le_of_ble_eq_true rfl) dX4_readCondition_51 (fun S2 H locs h hW2 hS => ?_)
        exact W_X4_readCondition_54 C N hF hko23 r0 kr0 r1 kr1 x2 ox2 x4 ox4 x6 ox6 S2 _ _ _ (lv_sub hl [0, 1, 2, 3, 5] rfl) hW2 hS h
def w_X4_readCondition_23 (N : Nat) (F : Nat → Nat → Int → mSt → (mSt → Prop) → Prop) (Q : mSt → Prop) (ko69 : Nat → Nat → Int → Int → mSt → Prop) : Nat → Nat → Nat → Int → Int → Int → Int → mSt → Prop
  | 0 => fun _ _ _ _ _ _ _ => False
  | k + 1 => w_X4_readCondition_23b N F Q (w_X4_readCondition_23 N F Q ko69 k) ko69
theorem W_X4_readCondition_23 (C : mC p l s m args meth c cX4_readCondition "MoonWash$LawText" 7 none g) (N : Nat) {fr lo : Nat} {F : Nat → Nat → Int → mSt → (mSt → Prop) → Prop} (hF : ∀ (r0 : Nat) (kr0 : KX r0 = (0, 8, 0)) (r1 : Nat) (kr1 : KX r1 = (0, 2, 0)) (x2 : Int) (ox2 : okI x2) {S : mSt} {Q : mSt → Prop}, F r0 r1 x2 S Q → ∀ sz : Nat, vx_Met l yX4_readAtom (Cond.code yX4_readAtom cX4_readAtom 5 none :: wsG) { frames := fr, cells := 0, slots := 0, locals := lo } (mPc g b KX S [.ref (b + r0), .ref (b + r1), .int (mI x2)] sz) (mQv g b KX Q (mA b KX sz)) (mEx g b KX (fun _ _ => False) (mA b KX sz)) 0 0 (mA b KX sz)) {Q : mSt → Prop} {ko69 : Nat → Nat → Int → Int → mSt → Prop} (hko69 : ∀ (r0 : Nat) (kr0 : KX r0 = (0, 8, 0)) (r1 : Nat) (kr1 : KX r1 = (0, 2, 0)) (x2 : Int) (ox2 : okI x2) (x4 : Int) (ox4 : okI x4) (S : mSt) (H : Heap) (locs : List Loc) (ls : Array Slot), lv_has ls 7 [(0, .ref (b + r0)), (1, .ref (b + r1)), (2, .int (mI x2)), (4, .int (mI x4))] → mW g b KX S H → va_S (mA b KX s.heap.size) s.heap H locs → ko69 r0 r1 x2 x4 S → W p l e { frames := fr + 1, cells := 0, slots := 0, locals := lo + 24 } s m args below meth c H locs 0 0 (vx_MQ below (mQv g b KX Q (mA b KX s.heap.size)) (mEx g b KX (fun _ _ => False) (mA b KX s.heap.size)) args s 0 0 (mA b KX s.heap.size)) (F0 m 69 ls [])) : ∀ (k : Nat) (r0 : Nat) (kr0 : KX r0 = (0, 8, 0)) (r1 : Nat) (kr1 : KX r1 = (0, 2, 0)) (x2 : Int) (ox2 : okI x2) (x4 : Int) (ox4 : okI x4) (x5 : Int) (ox5 : okI x5) (x6 : Int) (ox6 : okI x6) (S : mSt) (H : Heap) (locs : List Loc) (ls : Array Slot) (hl : lv_has ls 7 [(0, .ref (b + r0)), (1, .ref (b + r1)), (2, .int (mI x2)), (4, .int (mI x4)), (5, .int (mI x5)), (6, .int (mI x6))]) (hW : mW g b KX S H) (hS : va_S (mA b KX s.heap.size) s.heap H locs) (h : w_X4_readCondition_23 N F Q ko69 k r0 r1 x2 x4 x5 x6 S), W p l e { frames := fr + 1, cells := 0, slots := 0, locals := lo + 24 } s m args below meth c H locs 0 0 (vx_MQ below (mQv g b KX Q (mA b KX s.heap.size)) (mEx g b KX (fun _ _ => False) (mA b KX s.heap.size)) args s 0 0 (mA b KX s.heap.size)) (F0 m 23 ls []) := by
  intro k
  induction k with
  | zero => intro r0 kr0 r1 kr1 x2 ox2 x4 ox4 x5 ox5 x6 ox6 S H locs ls hl hW hS h; exact False.elim h
  | succ k ih => intro r0 kr0 r1 kr1 x2 ox2 x4 ox4 x5 ox5 x6 ox6 S H locs ls hl hW hS h; exact W_X4_readCondition_23b C N hF ih hko69 r0 kr0 r1 kr1 x2 ox2 x4 ox4 x5 ox5 x6 ox6 S H locs ls hl hW hS h
def w_X4_readCondition_81 (N : Nat) (F : Nat → Nat → Int → mSt → (mSt → Prop) → Prop) (Q : mSt → Prop) (ko5 : Nat → Nat → Int → Int → Int → mSt → Prop) (r0 : Nat) (r1 : Nat) (x2 : Int) (x4 : Int) (S : mSt) : Prop :=
  w_X10_takes N r0 31 S (fun (S1 : mSt) (v1 : Int) => ∀ v2 : Int, v2 = v1 → ∀ v3 : Int, v3 = nm (x4 + 1) → ko5 r0 r1 x2 v2 v3 S1)
theorem W_X4_readCondition_81 (C : mC p l s m args meth c cX4_readCondition "MoonWash$LawText" 7 none g) (N : Nat) {fr lo : Nat} {F : Nat → Nat → Int → mSt → (mSt → Prop) → Prop} (hF : ∀ (r0 : Nat) (kr0 : KX r0 = (0, 8, 0)) (r1 : Nat) (kr1 : KX r1 = (0, 2, 0)) (x2 : Int) (ox2 : okI x2) {S : mSt} {Q : mSt → Prop}, F r0 r1 x2 S Q → ∀ sz : Nat, vx_Met l yX4_readAtom (Cond.code yX4_readAtom cX4_readAtom 5 none :: wsG) { frames := fr, cells := 0, slots := 0, locals := lo } (mPc g b KX S [.ref (b + r0), .ref (b + r1), .int (mI x2)] sz) (mQv g b KX Q (mA b KX sz)) (mEx g b KX (fun _ _ => False) (mA b KX sz)) 0 0 (mA b KX sz)) {Q : mSt → Prop} {ko5 : Nat → Nat → Int → Int → Int → mSt → Prop} (hko5 : ∀ (r0 : Nat) (kr0 : KX r0 = (0, 8, 0)) (r1 : Nat) (kr1 : KX r1 = (0, 2, 0)) (x2 : Int) (ox2 : okI x2) (x3 : Int) (ox3 : okI x3) (x4 : Int) (ox4 : okI x4) (S : mSt) (H : Heap) (locs : List Loc) (ls : Array Slot), lv_has ls 7 [(0, .ref (b + r0)), (1, .ref (b + r1)), (2, .int (mI x2)), (3, .int (mI x3)), (4, .int (mI x4))] → mW g b KX S H → va_S (mA b KX s.heap.size) s.heap H locs → ko5 r0 r1 x2 x3 x4 S → W p l e { frames := fr + 1, cells := 0, slots := 0, locals := lo + 24 } s m args below meth c H locs 0 0 (vx_MQ below (mQv g b KX Q (mA b KX s.heap.size)) (mEx g b KX (fun _ _ => False) (mA b KX s.heap.size)) args s 0 0 (mA b KX s.heap.size)) (F0 m 5 ls [])) (r0 : Nat) (kr0 : KX r0 = (0, 8, 0)) (r1 : Nat) (kr1 : KX r1 = (0, 2, 0)) (x2 : Int) (ox2 : okI x2) (x4 : Int) (ox4 : okI x4) (S : mSt) (H : Heap) (locs : List Loc) (ls : Array Slot) (hl : lv_has ls 7 [(0, .ref (b + r0)), (1, .ref (b + r1)), (2, .int (mI x2)), (4, .int (mI x4))]) (hW : mW g b KX S H) (hS : va_S (mA b KX s.heap.size) s.heap H locs) (h : w_X4_readCondition_81 N F Q ko5 r0 r1 x2 x4 S) : W p l e { frames := fr + 1, cells := 0, slots := 0, locals := lo + 24 } s m args below meth c H locs 0 0 (vx_MQ below (mQv g b KX Q (mA b KX s.heap.size)) (mEx g b KX (fun _ _ => False) (mA b KX s.heap.size)) args s 0 0 (mA b KX s.heap.size)) (F0 m 81 ls []) := by
  unfold w_X4_readCondition_81 at h
  refine m_aload_n (pc := 81) C.1 dX4_readCondition_81 rfl hl 0 rfl ?_
  refine m_token (pc := 82) C.1 C.2.1 hW hS 31 (by decide) rfl q_919 dX4_readCondition_82 ?_
  refine m_callVi (pc := 85) C.1 C.2.2.1 hl.1 C.2.1 hW hS (As := [.ref (g.ad 31)]) (rest := []) (r := r0) (T_X10_takes C.2.2.2.2.2.2 N r0 kr0 31 (by decide : 31 < 36) h) kr0 rfl q_872 q_708 q_709 q_85 q_710 pl_X10_takes (by dsimp only [mRm]; omega) (Nat.le_of_ble_eq_true rfl) dX4_readCondition_85 (fun v1 S1 H locs ov1 h hW1 hS => ?_)
  refine m_istore_n (pc := 88) C.1 dX4_readCondition_88 rfl hl (by decide) (fun v => [(3, .int v), (0, .ref (b + r0)), (1, .ref (b + r1)), (2, .int (mI x2)), (4, .int (mI x4))]) (fun _ => rfl) ov1 (fun v2 ls ev2 ov2 hl => ?_)
  replace h := h v2 ev2
  refine m_iinc (pc := 89) C.1 dX4_readCondition_89 hl (by decide) (q0 := 4) rfl (fun v => [(4, .int v), (3, .int (mI v2)), (0, .ref (b + r0)), (1, .ref (b + r1)), (2, .int (mI x2))]) (fun _ => rfl) (fun v3 ls ev3 ov3 hl => ?_)
  replace h := h v3 ev3
  refine m_goto (pc := 92) (tgt := 5) C.1 dX4_readCondition_92 (by decide) ?_
  exact hko5 r0 kr0 r1 kr1 x2 ox2 v2 ov2 v3 ov3 S1 _ _ _ (lv_sub hl [2, 3, 4, 1, 0] rfl) hW1 hS h
def w_X4_readCondition_69 (N : Nat) (F : Nat → Nat → Int → mSt → (mSt → Prop) → Prop) (Q : mSt → Prop) (ko5 : Nat → Nat → Int → Int → Int → mSt → Prop) (r0 : Nat) (r1 : Nat) (x2 : Int) (x4 : Int) (S : mSt) : Prop :=
  ((x4 ≤ 0 → w_X4_readCondition_81 N F Q ko5 r0 r1 x2 x4 S) ∧ (0 < x4 → w_X3_addStep N r1 1015 S (fun (S1 : mSt) => w_X4_readCondition_81 N F Q ko5 r0 r1 x2 x4 S1)))
theorem W_X4_readCondition_69 (C : mC p l s m args meth c cX4_readCondition "MoonWash$LawText" 7 none g) (N : Nat) {fr lo : Nat} {F : Nat → Nat → Int → mSt → (mSt → Prop) → Prop} (hF : ∀ (r0 : Nat) (kr0 : KX r0 = (0, 8, 0)) (r1 : Nat) (kr1 : KX r1 = (0, 2, 0)) (x2 : Int) (ox2 : okI x2) {S : mSt} {Q : mSt → Prop}, F r0 r1 x2 S Q → ∀ sz : Nat, vx_Met l yX4_readAtom (Cond.code yX4_readAtom cX4_readAtom 5 none :: wsG) { frames := fr, cells := 0, slots := 0, locals := lo } (mPc g b KX S [.ref (b + r0), .ref (b + r1), .int (mI x2)] sz) (mQv g b KX Q (mA b KX sz)) (mEx g b KX (fun _ _ => False) (mA b KX sz)) 0 0 (mA b KX sz)) {Q : mSt → Prop} {ko5 : Nat → Nat → Int → Int → Int → mSt → Prop} (hko5 : ∀ (r0 : Nat) (kr0 : KX r0 = (0, 8, 0)) (r1 : Nat) (kr1 : KX r1 = (0, 2, 0)) (x2 : Int) (ox2 : okI x2) (x3 : Int) (ox3 : okI x3) (x4 : Int) (ox4 : okI x4) (S : mSt) (H : Heap) (locs : List Loc) (ls : Array Slot), lv_has ls 7 [(0, .ref (b + r0)), (1, .ref (b + r1)), (2, .int (mI x2)), (3, .int (mI x3)), (4, .int (mI x4))] → mW g b KX S H → va_S (mA b KX s.heap.size) s.heap H locs → ko5 r0 r1 x2 x3 x4 S → W p l e { frames := fr + 1, cells := 0, slots := 0, locals := lo + 24 } s m args below meth c H locs 0 0 (vx_MQ below (mQv g b KX Q (mA b KX s.heap.size)) (mEx g b KX (fun _ _ => False) (mA b KX s.heap.size)) args s 0 0 (mA b KX s.heap.size)) (F0 m 5 ls [])) (r0 : Nat) (kr0 : KX r0 = (0, 8, 0)) (r1 : Nat) (kr1 : KX r1 = (0, 2, 0)) (x2 : Int) (ox2 : okI x2) (x4 : Int) (ox4 : okI x4) (S : mSt) (H : Heap) (locs : List Loc) (ls : Array Slot) (hl : lv_has ls 7 [(0, .ref (b + r0)), (1, .ref (b + r1)), (2, .int (mI x2)), (4, .int (mI x4))]) (hW : mW g b KX S H) (hS : va_S (mA b KX s.heap.size) s.heap H locs) (h : w_X4_readCondition_69 N F Q ko5 r0 r1 x2 x4 S) : W p l e { frames := fr + 1, cells := 0, slots := 0, locals := lo + 24 } s m args below meth c H locs 0 0 (vx_MQ below (mQv g b KX Q (mA b KX s.heap.size)) (mEx g b KX (fun _ _ => False) (mA b KX s.heap.size)) args s 0 0 (mA b KX s.heap.size)) (F0 m 69 ls []) := by
  unfold w_X4_readCondition_69 at h
  refine m_iload (pc := 69) C.1 dX4_readCondition_69 hl 3 rfl ?_
  refine m_if_le (pc := 71) (tgt := 81) C.1 ox4 dX4_readCondition_71 (by decide) (fun hc => ?_) (fun hc => ?_)
  · replace h := h.1 hc
    exact W_X4_readCondition_81 C N hF hko5 r0 kr0 r1 kr1 x2 ox2 x4 ox4 S _ _ _ (lv_sub hl [0, 1, 2, 3] rfl) hW hS h
  · replace h := h.2 hc
    refine m_aload_n (pc := 74) C.1 dX4_readCondition_74 rfl hl 1 rfl ?_
    refine m_sipush (pc := 75) C.1 dX4_readCondition_75 rfl ?_
    refine m_callVv (pc := 78) C.1 C.2.2.1 hl.1 C.2.1 hW hS (As := [.int (mI 1015)]) (rest := []) (r := r1) (T_X3_addStep C.2.2.2.2.2.2 N r1 kr1 1015 (by decide : okI 1015) h) kr1 rfl q_894 q_895 q_896 q_84 q_897 pl_X3_addStep (by dsimp only [mRm]; omega) (Nat.le_of_ble_eq_true rfl) dX4_readCondition_78 (fun S1 H locs h hW1 hS => ?_)
    exact W_X4_readCondition_81 C N hF hko5 r0 kr0 r1 kr1 x2 ox2 x4 ox4 S1 _ _ _ (lv_sub hl [0, 1, 2, 3] rfl) hW1 hS h
def w_X4_readCondition_5b (N : Nat) (F : Nat → Nat → Int → mSt → (mSt → Prop) → Prop) (Q : mSt → Prop) (ko5 : Nat → Nat → Int → Int → Int → mSt → Prop) (ko95 : mSt → Prop) (r0 : Nat) (r1 : Nat) (x2 : Int) (x3 : Int) (x4 : Int) (S : mSt) : Prop :=
  ((x3 = 0 → ko95 S) ∧ (x3 ≠ 0 → ((400 ≤ x4 → ko95 S) ∧ (x4 < 400 → ∀ v1 : Int, v1 = 1 → ∀ v2 : Int, v2 = 0 → w_X4_readCondition_23 N F Q (fun (r0_3 : Nat) (r1_3 : Nat) (x2_3 : Int) (x4_3 : Int) (S_3 : mSt) => w_X4_readCondition_69 N F Q ko5 r0_3 r1_3 x2_3 x4_3 S_3) N r0 r1 x2 x4 v1 v2 S))))
theorem W_X4_readCondition_5b (C : mC p l s m args meth c cX4_readCondition "MoonWash$LawText" 7 none g) (N : Nat) {fr lo : Nat} {F : Nat → Nat → Int → mSt → (mSt → Prop) → Prop} (hF : ∀ (r0 : Nat) (kr0 : KX r0 = (0, 8, 0)) (r1 : Nat) (kr1 : KX r1 = (0, 2, 0)) (x2 : Int) (ox2 : okI x2) {S : mSt} {Q : mSt → Prop}, F r0 r1 x2 S Q → ∀ sz : Nat, vx_Met l yX4_readAtom (Cond.code yX4_readAtom cX4_readAtom 5 none :: wsG) { frames := fr, cells := 0, slots := 0, locals := lo } (mPc g b KX S [.ref (b + r0), .ref (b + r1), .int (mI x2)] sz) (mQv g b KX Q (mA b KX sz)) (mEx g b KX (fun _ _ => False) (mA b KX sz)) 0 0 (mA b KX sz)) {Q : mSt → Prop} {ko5 : Nat → Nat → Int → Int → Int → mSt → Prop} {ko95 : mSt → Prop} (hko5 : ∀ (r0 : Nat) (kr0 : KX r0 = (0, 8, 0)) (r1 : Nat) (kr1 : KX r1 = (0, 2, 0)) (x2 : Int) (ox2 : okI x2) (x3 : Int) (ox3 : okI x3) (x4 : Int) (ox4 : okI x4) (S : mSt) (H : Heap) (locs : List Loc) (ls : Array Slot), lv_has ls 7 [(0, .ref (b + r0)), (1, .ref (b + r1)), (2, .int (mI x2)), (3, .int (mI x3)), (4, .int (mI x4))] → mW g b KX S H → va_S (mA b KX s.heap.size) s.heap H locs → ko5 r0 r1 x2 x3 x4 S → W p l e { frames := fr + 1, cells := 0, slots := 0, locals := lo + 24 } s m args below meth c H locs 0 0 (vx_MQ below (mQv g b KX Q (mA b KX s.heap.size)) (mEx g b KX (fun _ _ => False) (mA b KX s.heap.size)) args s 0 0 (mA b KX s.heap.size)) (F0 m 5 ls [])) (hko95 : ∀  (S : mSt) (H : Heap) (locs : List Loc) (ls : Array Slot), lv_has ls 7 [] → mW g b KX S H → va_S (mA b KX s.heap.size) s.heap H locs → ko95 S → W p l e { frames := fr + 1, cells := 0, slots := 0, locals := lo + 24 } s m args below meth c H locs 0 0 (vx_MQ below (mQv g b KX Q (mA b KX s.heap.size)) (mEx g b KX (fun _ _ => False) (mA b KX s.heap.size)) args s 0 0 (mA b KX s.heap.size)) (F0 m 95 ls [])) (r0 : Nat) (kr0 : KX r0 = (0, 8, 0)) (r1 : Nat) (kr1 : KX r1 = (0, 2, 0)) (x2 : Int) (ox2 : okI x2) (x3 : Int) (ox3 : okI x3) (x4 : Int) (ox4 : okI x4) (S : mSt) (H : Heap) (locs : List Loc) (ls : Array Slot) (hl : lv_has ls 7 [(0, .ref (b + r0)), (1, .ref (b + r1)), (2, .int (mI x2)), (3, .int (mI x3)), (4, .int (mI x4))]) (hW : mW g b KX S H) (hS : va_S (mA b KX s.heap.size) s.heap H locs) (h : w_X4_readCondition_5b N F Q ko5 ko95 r0 r1 x2 x3 x4 S) : W p l e { frames := fr + 1, cells := 0, slots := 0, locals := lo + 24 } s m args below meth c H locs 0 0 (vx_MQ below (mQv g b KX Q (mA b KX s.heap.size)) (mEx g b KX (fun _ _ => False) (mA b KX s.heap.size)) args s 0 0 (mA b KX s.heap.size)) (F0 m 5 ls []) := by
  unfold w_X4_readCondition_5b at h
  refine m_iload_n (pc := 5) C.1 dX4_readCondition_5 rfl hl 3 rfl ?_
  refine m_if_eq (pc := 6) (tgt := 95) C.1 ox3 dX4_readCondition_6 (by decide) (fun hc => ?_) (fun hc => ?_)
  · replace h := h.1 hc
    exact hko95  S _ _ _ (lv_sub hl [] rfl) hW hS h
  · replace h := h.2 hc
    refine m_iload (pc := 9) C.1 dX4_readCondition_9 hl 4 rfl ?_
    refine m_sipush (pc := 11) C.1 dX4_readCondition_11 rfl ?_
    refine m_icmp_ge (pc := 14) (tgt := 95) C.1 ox4 (by decide : okI 400) dX4_readCondition_14 (by decide) (fun hc => ?_) (fun hc => ?_)
    · replace h := h.1 hc
      exact hko95  S _ _ _ (lv_sub hl [] rfl) hW hS h
    · replace h := h.2 hc
      refine m_iconst (pc := 17) C.1 dX4_readCondition_17 ?_
      refine m_istore (pc := 18) C.1 dX4_readCondition_18 hl (by decide) (fun v => [(5, .int v), (0, .ref (b + r0)), (1, .ref (b + r1)), (2, .int (mI x2)), (3, .int (mI x3)), (4, .int (mI x4))]) (fun _ => rfl) (by decide : okI 1) (fun v1 ls ev1 ov1 hl => ?_)
      replace h := h v1 ev1
      refine m_iconst (pc := 20) C.1 dX4_readCondition_20 ?_
      refine m_istore (pc := 21) C.1 dX4_readCondition_21 hl (by decide) (fun v => [(6, .int v), (5, .int (mI v1)), (0, .ref (b + r0)), (1, .ref (b + r1)), (2, .int (mI x2)), (3, .int (mI x3)), (4, .int (mI x4))]) (fun _ => rfl) (by decide : okI 0) (fun v2 ls ev2 ov2 hl => ?_)
      replace h := h v2 ev2
      refine W_X4_readCondition_23 C N hF ?_ N r0 kr0 r1 kr1 x2 ox2 x4 ox4 v1 ov1 v2 ov2 S _ _ _ (lv_sub hl [2, 3, 4, 6, 1, 0] rfl) hW hS h
      · intro r0_3 kr0_3 r1_3 kr1_3 x2_3 ox2_3 x4_3 ox4_3 S_3 H locs ls hl hW_3 hS h
        exact W_X4_readCondition_69 C N hF hko5 r0_3 kr0_3 r1_3 kr1_3 x2_3 ox2_3 x4_3 ox4_3 S_3 _ _ _ (lv_sub hl [0, 1, 2, 3] rfl) hW_3 hS h
def w_X4_readCondition_5 (N : Nat) (F : Nat → Nat → Int → mSt → (mSt → Prop) → Prop) (Q : mSt → Prop) (ko95 : mSt → Prop) : Nat → Nat → Nat → Int → Int → Int → mSt → Prop
  | 0 => fun _ _ _ _ _ _ => False
  | k + 1 => w_X4_readCondition_5b N F Q (w_X4_readCondition_5 N F Q ko95 k) ko95
theorem W_X4_readCondition_5 (C : mC p l s m args meth c cX4_readCondition "MoonWash$LawText" 7 none g) (N : Nat) {fr lo : Nat} {F : Nat → Nat → Int → mSt → (mSt → Prop) → Prop} (hF : ∀ (r0 : Nat) (kr0 : KX r0 = (0, 8, 0)) (r1 : Nat) (kr1 : KX r1 = (0, 2, 0)) (x2 : Int) (ox2 : okI x2) {S : mSt} {Q : mSt → Prop}, F r0 r1 x2 S Q → ∀ sz : Nat, vx_Met l yX4_readAtom (Cond.code yX4_readAtom cX4_readAtom 5 none :: wsG) { frames := fr, cells := 0, slots := 0, locals := lo } (mPc g b KX S [.ref (b + r0), .ref (b + r1), .int (mI x2)] sz) (mQv g b KX Q (mA b KX sz)) (mEx g b KX (fun _ _ => False) (mA b KX sz)) 0 0 (mA b KX sz)) {Q : mSt → Prop} {ko95 : mSt → Prop} (hko95 : ∀  (S : mSt) (H : Heap) (locs : List Loc) (ls : Array Slot), lv_has ls 7 [] → mW g b KX S H → va_S (mA b KX s.heap.size) s.heap H locs → ko95 S → W p l e { frames := fr + 1, cells := 0, slots := 0, locals := lo + 24 } s m args below meth c H locs 0 0 (vx_MQ below (mQv g b KX Q (mA b KX s.heap.size)) (mEx g b KX (fun _ _ => False) (mA b KX s.heap.size)) args s 0 0 (mA b KX s.heap.size)) (F0 m 95 ls [])) : ∀ (k : Nat) (r0 : Nat) (kr0 : KX r0 = (0, 8, 0)) (r1 : Nat) (kr1 : KX r1 = (0, 2, 0)) (x2 : Int) (ox2 : okI x2) (x3 : Int) (ox3 : okI x3) (x4 : Int) (ox4 : okI x4) (S : mSt) (H : Heap) (locs : List Loc) (ls : Array Slot) (hl : lv_has ls 7 [(0, .ref (b + r0)), (1, .ref (b + r1)), (2, .int (mI x2)), (3, .int (mI x3)), (4, .int (mI x4))]) (hW : mW g b KX S H) (hS : va_S (mA b KX s.heap.size) s.heap H locs) (h : w_X4_readCondition_5 N F Q ko95 k r0 r1 x2 x3 x4 S), W p l e { frames := fr + 1, cells := 0, slots := 0, locals := lo + 24 } s m args below meth c H locs 0 0 (vx_MQ below (mQv g b KX Q (mA b KX s.heap.size)) (mEx g b KX (fun _ _ => False) (mA b KX s.heap.size)) args s 0 0 (mA b KX s.heap.size)) (F0 m 5 ls []) := by
  intro k
  induction k with
  | zero => intro r0 kr0 r1 kr1 x2 ox2 x3 ox3 x4 ox4 S H locs ls hl hW hS h; exact False.elim h
  | succ k ih => intro r0 kr0 r1 kr1 x2 ox2 x3 ox3 x4 ox4 S H locs ls hl hW hS h; exact W_X4_readCondition_5b C N hF ih hko95 r0 kr0 r1 kr1 x2 ox2 x3 ox3 x4 ox4 S H locs ls hl hW hS h
end
def w_X4_readCondition (N : Nat) (F : Nat → Nat → Int → mSt → (mSt → Prop) → Prop) (r0 : Nat) (r1 : Nat) (x2 : Int) (S : mSt) (Q : mSt → Prop) : Prop :=
  ∀ v1 : Int, v1 = 1 → ∀ v2 : Int, v2 = 0 → w_X4_readCondition_5 N F Q (fun  (S_3 : mSt) => Q S_3) N r0 r1 x2 v1 v2 S
theorem T_X4_readCondition {l : Launch} (hl0 : l.stackTraces = false) {g : mG} {b : Nat} (N : Nat) {fr lo : Nat} {F : Nat → Nat → Int → mSt → (mSt → Prop) → Prop} (hF : ∀ (r0 : Nat) (kr0 : KX r0 = (0, 8, 0)) (r1 : Nat) (kr1 : KX r1 = (0, 2, 0)) (x2 : Int) (ox2 : okI x2) {S : mSt} {Q : mSt → Prop}, F r0 r1 x2 S Q → ∀ sz : Nat, vx_Met l yX4_readAtom (Cond.code yX4_readAtom cX4_readAtom 5 none :: wsG) { frames := fr, cells := 0, slots := 0, locals := lo } (mPc g b KX S [.ref (b + r0), .ref (b + r1), .int (mI x2)] sz) (mQv g b KX Q (mA b KX sz)) (mEx g b KX (fun _ _ => False) (mA b KX sz)) 0 0 (mA b KX sz)) (r0 : Nat) (kr0 : KX r0 = (0, 8, 0)) (r1 : Nat) (kr1 : KX r1 = (0, 2, 0)) (x2 : Int) (ox2 : okI x2) {S : mSt} {Q : mSt → Prop} (h : w_X4_readCondition N F r0 r1 x2 S Q) (sz : Nat) : vx_Met l yX4_readCondition (Cond.code yX4_readCondition cX4_readCondition 7 none :: wsG) { frames := fr + 1, cells := 0, slots := 0, locals := lo + 24 } (mPc g b KX S [.ref (b + r0), .ref (b + r1), .int (mI x2)] sz) (mQv g b KX Q (mA b KX sz)) (mEx g b KX (fun _ _ => False) (mA b KX sz)) 0 0 (mA b KX sz) :=
  m_of (av := [.ref (b + r0), .ref (b + r1), .int (mI x2)]) (Qf := fun A => mQv g b KX Q A) (Xf := fun A => mEx g b KX (fun _ _ => False) A) (by decide) (Nat.le_of_ble_eq_true rfl) (fun p e s m args below meth c ls X hK hml hr hlk hout hnm hW hl => by
    have C : mC p l s m args meth c cX4_readCondition "MoonWash$LawText" 7 none g := ⟨X, hK, hml, hr, hlk, hout, hl0⟩
    have hS : va_S (mA b KX s.heap.size) s.heap s.heap [] := va_S.rf
    have hl : lv_has ls 7 [(0, .ref (b + r0)), (1, .ref (b + r1)), (2, .int (mI x2))] := hl
    unfold w_X4_readCondition at h
    refine m_iconst (pc := 0) C.1 dX4_readCondition_0 ?_
    refine m_istore_n (pc := 1) C.1 dX4_readCondition_1 rfl hl (by decide) (fun v => [(3, .int v), (0, .ref (b + r0)), (1, .ref (b + r1)), (2, .int (mI x2))]) (fun _ => rfl) (by decide : okI 1) (fun v1 ls ev1 ov1 hl => ?_)
    replace h := h v1 ev1
    refine m_iconst (pc := 2) C.1 dX4_readCondition_2 ?_
    refine m_istore (pc := 3) C.1 dX4_readCondition_3 hl (by decide) (fun v => [(4, .int v), (3, .int (mI v1)), (0, .ref (b + r0)), (1, .ref (b + r1)), (2, .int (mI x2))]) (fun _ => rfl) (by decide : okI 0) (fun v2 ls ev2 ov2 hl => ?_)
    replace h := h v2 ev2
    refine W_X4_readCondition_5 C N hF ?_ N r0 kr0 r1 kr1 x2 ox2 v1 ov1 v2 ov2 S _ _ _ (lv_sub hl [2, 3, 4, 1, 0] rfl) hW hS h
    · intro S_3 H locs ls hl hW_3 hS h
      exact m_vret (pc := 95) C.1 C.2.2.2.1 C.2.2.2.2.1 hW_3 hS h (by decide) (by decide) dX4_readCondition_95) sz
section
variable {p : Program} {l : Launch} {e : Env} {s : State} {m : MethodId} {args : Array Value} {below : List Frame} {meth : Method} {c : Code} {g : mG} {b : Nat}
def w_X4_readAtom_185 (N : Nat) (F : Nat → Nat → Int → mSt → (mSt → Prop) → Prop) (Q : mSt → Prop)  (xs0 : Int) (rs1 : Nat) (S : mSt) : Prop :=
  w_X3_addStep N rs1 xs0 S (fun (S1 : mSt) => Q S1)
theorem W_X4_readAtom_185 (C : mC p l s m args meth c cX4_readAtom "MoonWash$LawText" 5 none g) (N : Nat) {fr lo : Nat} {F : Nat → Nat → Int → mSt → (mSt → Prop) → Prop} (hF : ∀ (r0 : Nat) (kr0 : KX r0 = (0, 8, 0)) (r1 : Nat) (kr1 : KX r1 = (0, 2, 0)) (x2 : Int) (ox2 : okI x2) {S : mSt} {Q : mSt → Prop}, F r0 r1 x2 S Q → ∀ sz : Nat, vx_Met l yX4_readAtom (Cond.code yX4_readAtom cX4_readAtom 5 none :: wsG) { frames := fr, cells := 0, slots := 0, locals := lo } (mPc g b KX S [.ref (b + r0), .ref (b + r1), .int (mI x2)] sz) (mQv g b KX Q (mA b KX sz)) (mEx g b KX (fun _ _ => False) (mA b KX sz)) 0 0 (mA b KX sz)) {Q : mSt → Prop}   (xs0 : Int) (oxs0 : okI xs0) (rs1 : Nat) (krs1 : KX rs1 = (0, 2, 0)) (S : mSt) (H : Heap) (locs : List Loc) (ls : Array Slot) (hl : lv_has ls 5 []) (hW : mW g b KX S H) (hS : va_S (mA b KX s.heap.size) s.heap H locs) (h : w_X4_readAtom_185 N F Q  xs0 rs1 S) : W p l e { frames := fr + 3, cells := 0, slots := 0, locals := lo + 63 } s m args below meth c H locs 0 0 (vx_MQ below (mQv g b KX Q (mA b KX s.heap.size)) (mEx g b KX (fun _ _ => False) (mA b KX s.heap.size)) args s 0 0 (mA b KX s.heap.size)) (F0 m 185 ls [.int (mI xs0), .ref (b + rs1)]) := by
  unfold w_X4_readAtom_185 at h
  refine m_callVv (pc := 185) C.1 C.2.2.1 hl.1 C.2.1 hW hS (As := [.int (mI xs0)]) (rest := []) (r := rs1) (T_X3_addStep C.2.2.2.2.2.2 N rs1 krs1 xs0 oxs0 h) krs1 rfl q_894 q_895 q_896 q_84 q_897 pl_X3_addStep (by dsimp only [mRm]; omega) (Nat.le_of_ble_eq_true rfl) dX4_readAtom_185 (fun S1 H locs h hW1 hS => ?_)
  exact m_vret (pc := 188) C.1 C.2.2.2.1 C.2.2.2.2.1 hW1 hS h (by decide) (by decide) dX4_readAtom_188
def w_X4_readAtom_165 (N : Nat) (F : Nat → Nat → Int → mSt → (mSt → Prop) → Prop) (Q : mSt → Prop)  (r0 : Nat) (r1 : Nat) (x4 : Int) (S : mSt) : Prop :=
  w_X4_readSum N r0 r1 S (fun (S1 : mSt) => ((x4 = 0 → w_X4_readAtom_185 N F Q  1013 r1 S1) ∧ (x4 ≠ 0 → w_X4_readAtom_185 N F Q  1012 r1 S1)))
theorem W_X4_readAtom_165 (C : mC p l s m args meth c cX4_readAtom "MoonWash$LawText" 5 none g) (N : Nat) {fr lo : Nat} {F : Nat → Nat → Int → mSt → (mSt → Prop) → Prop} (hF : ∀ (r0 : Nat) (kr0 : KX r0 = (0, 8, 0)) (r1 : Nat) (kr1 : KX r1 = (0, 2, 0)) (x2 : Int) (ox2 : okI x2) {S : mSt} {Q : mSt → Prop}, F r0 r1 x2 S Q → ∀ sz : Nat, vx_Met l yX4_readAtom (Cond.code yX4_readAtom cX4_readAtom 5 none :: wsG) { frames := fr, cells := 0, slots := 0, locals := lo } (mPc g b KX S [.ref (b + r0), .ref (b + r1), .int (mI x2)] sz) (mQv g b KX Q (mA b KX sz)) (mEx g b KX (fun _ _ => False) (mA b KX sz)) 0 0 (mA b KX sz)) {Q : mSt → Prop}   (r0 : Nat) (kr0 : KX r0 = (0, 8, 0)) (r1 : Nat) (kr1 : KX r1 = (0, 2, 0)) (x4 : Int) (ox4 : okI x4) (S : mSt) (H : Heap) (locs : List Loc) (ls : Array Slot) (hl : lv_has ls 5 [(0, .ref (b + r0)), (1, .ref (b + r1)), (4, .int (mI x4))]) (hW : mW g b KX S H) (hS : va_S (mA b KX s.heap.size) s.heap H locs) (h : w_X4_readAtom_165 N F Q  r0 r1 x4 S) : W p l e { frames := fr + 3, cells := 0, slots := 0, locals := lo + 63 } s m args below meth c H locs 0 0 (vx_MQ below (mQv g b KX Q (mA b KX s.heap.size)) (mEx g b KX (fun _ _ => False) (mA b KX s.heap.size)) args s 0 0 (mA b KX s.heap.size)) (F0 m 165 ls []) := by
  unfold w_X4_readAtom_165 at h
  refine m_aload_n (pc := 165) C.1 dX4_readAtom_165 rfl hl 0 rfl ?_
  refine m_aload_n (pc := 166) C.1 dX4_readAtom_166 rfl hl 1 rfl ?_
  refine m_callSv (pc := 167) C.1 C.2.2.1 hl.1 C.2.1 hW hS (As := [.ref (b + r0), .ref (b + r1)]) (rest := []) (T_X4_readSum C.2.2.2.2.2.2 N r0 kr0 r1 kr1 h) q_904 q_905 q_105 q_906 pl_X4_readSum (by dsimp only [mRm]; omega) (Nat.le_of_ble_eq_true rfl) dX4_readAtom_167 (fun S1 H locs h hW1 hS => ?_)
  refine m_aload_n (pc := 170) C.1 dX4_readAtom_170 rfl hl 1 rfl ?_
  refine m_iload (pc := 171) C.1 dX4_readAtom_171 hl 2 rfl ?_
  refine m_if_eq (pc := 173) (tgt := 182) C.1 ox4 dX4_readAtom_173 (by decide) (fun hc => ?_) (fun hc => ?_)
  · replace h := h.1 hc
    refine m_sipush (pc := 182) C.1 dX4_readAtom_182 rfl ?_
    exact W_X4_readAtom_185 C N hF  1013 (by decide : okI 1013) r1 kr1 S1 _ _ _ (lv_sub hl [] rfl) hW1 hS h
  · replace h := h.2 hc
    refine m_sipush (pc := 176) C.1 dX4_readAtom_176 rfl ?_
    refine m_goto (pc := 179) (tgt := 185) C.1 dX4_readAtom_179 (by decide) ?_
    exact W_X4_readAtom_185 C N hF  1012 (by decide : okI 1012) r1 kr1 S1 _ _ _ (lv_sub hl [] rfl) hW1 hS h
def w_X4_readAtom_43 (N : Nat) (F : Nat → Nat → Int → mSt → (mSt → Prop) → Prop) (Q : mSt → Prop)  (r0 : Nat) (r1 : Nat) (x2 : Int) (S : mSt) : Prop :=
  w_X10_takes N r0 33 S (fun (S1 : mSt) (v1 : Int) => ((v1 = 0 → w_X10_takes N r0 4 S1 (fun (S2 : mSt) (v2 : Int) => ((v2 = 0 → w_X10_takes N r0 34 S2 (fun (S3 : mSt) (v3 : Int) => ((v3 = 0 → w_X10_takes N r0 35 S3 (fun (S4 : mSt) (v4 : Int) => ((v4 = 0 → w_X4_readSum N r0 r1 S4 (fun (S5 : mSt) => w_X10_takes N r0 7 S5 (fun (S6 : mSt) (v6 : Int) => ∀ v7 : Int, v7 = v6 → ((v7 ≠ 0 → w_X4_readAtom_165 N F Q  r0 r1 v7 S6) ∧ (v7 = 0 → w_X10_need N r0 8 S6 (fun (S8 : mSt) => w_X4_readAtom_165 N F Q  r0 r1 v7 S8)))))) ∧ (v4 ≠ 0 → w_X3_addStep N r1 1009 S4 (fun (S9 : mSt) => Q S9))))) ∧ (v3 ≠ 0 → w_X3_addStep N r1 1008 S3 (fun (S10 : mSt) => Q S10))))) ∧ (v2 ≠ 0 → w_X4_readCondition N F r0 r1 (nm (x2 + 1)) S2 (fun (S11 : mSt) => w_X10_need N r0 5 S11 (fun (S12 : mSt) => Q S12)))))) ∧ (v1 ≠ 0 → F r0 r1 (nm (x2 + 1)) S1 (fun (S13 : mSt) => w_X3_addStep N r1 1010 S13 (fun (S14 : mSt) => Q S14)))))
theorem W_X4_readAtom_43 (C : mC p l s m args meth c cX4_readAtom "MoonWash$LawText" 5 none g) (N : Nat) {fr lo : Nat} {F : Nat → Nat → Int → mSt → (mSt → Prop) → Prop} (hF : ∀ (r0 : Nat) (kr0 : KX r0 = (0, 8, 0)) (r1 : Nat) (kr1 : KX r1 = (0, 2, 0)) (x2 : Int) (ox2 : okI x2) {S : mSt} {Q : mSt → Prop}, F r0 r1 x2 S Q → ∀ sz : Nat, vx_Met l yX4_readAtom (Cond.code yX4_readAtom cX4_readAtom 5 none :: wsG) { frames := fr, cells := 0, slots := 0, locals := lo } (mPc g b KX S [.ref (b + r0), .ref (b + r1), .int (mI x2)] sz) (mQv g b KX Q (mA b KX sz)) (mEx g b KX (fun _ _ => False) (mA b KX sz)) 0 0 (mA b KX sz)) {Q : mSt → Prop}   (r0 : Nat) (kr0 : KX r0 = (0, 8, 0)) (r1 : Nat) (kr1 : KX r1 = (0, 2, 0)) (x2 : Int) (ox2 : okI x2) (S : mSt) (H : Heap) (locs : List Loc) (ls : Array Slot) (hl : lv_has ls 5 [(0, .ref (b + r0)), (1, .ref (b + r1)), (2, .int (mI x2))]) (hW : mW g b KX S H) (hS : va_S (mA b KX s.heap.size) s.heap H locs) (h : w_X4_readAtom_43 N F Q  r0 r1 x2 S) : W p l e { frames := fr + 3, cells := 0, slots := 0, locals := lo + 63 } s m args below meth c H locs 0 0 (vx_MQ below (mQv g b KX Q (mA b KX s.heap.size)) (mEx g b KX (fun _ _ => False) (mA b KX s.heap.size)) args s 0 0 (mA b KX s.heap.size)) (F0 m 43 ls []) := by
  unfold w_X4_readAtom_43 at h
  refine m_aload_n (pc := 43) C.1 dX4_readAtom_43 rfl hl 0 rfl ?_
  refine m_token (pc := 44) C.1 C.2.1 hW hS 33 (by decide) rfl q_889 dX4_readAtom_44 ?_
  refine m_callVi (pc := 47) C.1 C.2.2.1 hl.1 C.2.1 hW hS (As := [.ref (g.ad 33)]) (rest := []) (r := r0) (T_X10_takes C.2.2.2.2.2.2 N r0 kr0 33 (by decide : 33 < 36) h) kr0 rfl q_872 q_708 q_709 q_85 q_710 pl_X10_takes (by dsimp only [mRm]; omega) (Nat.le_of_ble_eq_true rfl) dX4_readAtom_47 (fun v1 S1 H locs ov1 h hW1 hS => ?_)
  refine m_if_eq (pc := 50) (tgt := 71) C.1 ov1 dX4_readAtom_50 (by decide) (fun hc => ?_) (fun hc => ?_)
  · replace h := h.1 hc
    refine m_aload_n (pc := 71) C.1 dX4_readAtom_71 rfl hl 0 rfl ?_
    refine m_token (pc := 72) C.1 C.2.1 hW1 hS 4 (by decide) rfl q_891 dX4_readAtom_72 ?_
    refine m_callVi (pc := 75) C.1 C.2.2.1 hl.1 C.2.1 hW1 hS (As := [.ref (g.ad 4)]) (rest := []) (r := r0) (T_X10_takes C.2.2.2.2.2.2 N r0 kr0 4 (by decide : 4 < 36) h) kr0 rfl q_872 q_708 q_709 q_85 q_710 pl_X10_takes (by dsimp only [mRm]; omega) (Nat.le_of_ble_eq_true rfl) dX4_readAtom_75 (fun v2 S2 H locs ov2 h hW2 hS => ?_)
    refine m_if_eq (pc := 78) (tgt := 99) C.1 ov2 dX4_readAtom_78 (by decide) (fun hc => ?_) (fun hc => ?_)
    · replace h := h.1 hc
      refine m_aload_n (pc := 99) C.1 dX4_readAtom_99 rfl hl 0 rfl ?_
      refine m_token (pc := 100) C.1 C.2.1 hW2 hS 34 (by decide) rfl q_900 dX4_readAtom_100 ?_
      refine m_callVi (pc := 103) C.1 C.2.2.1 hl.1 C.2.1 hW2 hS (As := [.ref (g.ad 34)]) (rest := []) (r := r0) (T_X10_takes C.2.2.2.2.2.2 N r0 kr0 34 (by decide : 34 < 36) h) kr0 rfl q_872 q_708 q_709 q_85 q_710 pl_X10_takes (by dsimp only [mRm]; omega) (Nat.le_of_ble_eq_true rfl) dX4_readAtom_103 (fun v3 S3 H locs ov3 h hW3 hS => ?_)
      refine m_if_eq (pc := 106) (tgt := 119) C.1 ov3 dX4_readAtom_106 (by decide) (fun hc => ?_) (fun hc => ?_)
      · replace h := h.1 hc
        refine m_aload_n (pc := 119) C.1 dX4_readAtom_119 rfl hl 0 rfl ?_
        refine m_token (pc := 120) C.1 C.2.1 hW3 hS 35 (by decide) rfl q_902 dX4_readAtom_120 ?_
        refine m_callVi (pc := 123) C.1 C.2.2.1 hl.1 C.2.1 hW3 hS (As := [.ref (g.ad 35)]) (rest := []) (r := r0) (T_X10_takes C.2.2.2.2.2.2 N r0 kr0 35 (by decide : 35 < 36) h) kr0 rfl q_872 q_708 q_709 q_85 q_710 pl_X10_takes (by dsimp only [mRm]; omega) (Nat.le_of_ble_eq_true rfl) dX4_readAtom_123 (fun v4 S4 H locs ov4 h hW4 hS => ?_)
        refine m_if_eq (pc := 126) (tgt := 139) C.1 ov4 dX4_readAtom_126 (by decide) (fun hc => ?_) (fun hc => ?_)
        · replace h := h.1 hc
          refine m_aload_n (pc := 139) C.1 dX4_readAtom_139 rfl hl 0 rfl ?_
          refine m_aload_n (pc := 140) C.1 dX4_readAtom_140 rfl hl 1 rfl ?_
          refine m_callSv (pc := 141) C.1 C.2.2.1 hl.1 C.2.1 hW4 hS (As := [.ref (b + r0), .ref (b + r1)]) (rest := []) (T_X4_readSum C.2.2.2.2.2.2 N r0 kr0 r1 kr1 h) q_904 q_905 q_105 q_906 pl_X4_readSum (by dsimp only [mRm]; omega) (Nat.le_of_ble_eq_true rfl) dX4_readAtom_141 (fun S5 H locs h hW5 hS => ?_)
          refine m_aload_n (pc := 144) C.1 dX4_readAtom_144 rfl hl 0 rfl ?_
          refine m_token (pc := 145) C.1 C.2.1 hW5 hS 7 (by decide) rfl q_913 dX4_readAtom_145 ?_
          refine m_callVi (pc := 148) C.1 C.2.2.1 hl.1 C.2.1 hW5 hS (As := [.ref (g.ad 7)]) (rest := []) (r := r0) (T_X10_takes C.2.2.2.2.2.2 N r0 kr0 7 (by decide : 7 < 36) h) kr0 rfl q_872 q_708 q_709 q_85 q_710 pl_X10_takes (by dsimp only [mRm]; omega) (Nat.le_of_ble_eq_true rfl) dX4_readAtom_148 (fun v6 S6 H locs ov6 h hW6 hS => ?_)
          refine m_istore (pc := 151) C.1 dX4_readAtom_151 hl (by decide) (fun v => [(4, .int v), (0, .ref (b + r0)), (1, .ref (b + r1)), (2, .int (mI x2))]) (fun _ => rfl) ov6 (fun v7 ls ev7 ov7 hl => ?_)
          replace h := h v7 ev7
          refine m_iload (pc := 153) C.1 dX4_readAtom_153 hl 0 rfl ?_
          refine m_if_ne (pc := 155) (tgt := 165) C.1 ov7 dX4_readAtom_155 (by decide) (fun hc => ?_) (fun hc => ?_)
          · replace h := h.1 hc
            exact W_X4_readAtom_165 C N hF  r0 kr0 r1 kr1 v7 ov7 S6 _ _ _ (lv_sub hl [1, 2, 0] rfl) hW6 hS h
          · replace h := h.2 hc
            refine m_aload_n (pc := 158) C.1 dX4_readAtom_158 rfl hl 1 rfl ?_
            refine m_token (pc := 159) C.1 C.2.1 hW6 hS 8 (by decide) rfl q_915 dX4_readAtom_159 ?_
            refine m_callVv (pc := 162) C.1 C.2.2.1 hl.1 C.2.1 hW6 hS (As := [.ref (g.ad 8)]) (rest := []) (r := r0) (T_X10_need C.2.2.2.2.2.2 N r0 kr0 8 (by decide : 8 < 36) h) kr0 rfl q_879 q_704 q_705 q_85 q_706 pl_X10_need (by dsimp only [mRm]; omega) (Nat.le_of_ble_eq_true rfl) dX4_readAtom_162 (fun S8 H locs h hW8 hS => ?_)
            exact W_X4_readAtom_165 C N hF  r0 kr0 r1 kr1 v7 ov7 S8 _ _ _ (lv_sub hl [1, 2, 0] rfl) hW8 hS h
        · replace h := h.2 hc
          refine m_aload_n (pc := 129) C.1 dX4_readAtom_129 rfl hl 1 rfl ?_
          refine m_sipush (pc := 130) C.1 dX4_readAtom_130 rfl ?_
          refine m_callVv (pc := 133) C.1 C.2.2.1 hl.1 C.2.1 hW4 hS (As := [.int (mI 1009)]) (rest := []) (r := r1) (T_X3_addStep C.2.2.2.2.2.2 N r1 kr1 1009 (by decide : okI 1009) h) kr1 rfl q_894 q_895 q_896 q_84 q_897 pl_X3_addStep (by dsimp only [mRm]; omega) (Nat.le_of_ble_eq_true rfl) dX4_readAtom_133 (fun S9 H locs h hW9 hS => ?_)
          refine m_goto (pc := 136) (tgt := 188) C.1 dX4_readAtom_136 (by decide) ?_
          exact m_vret (pc := 188) C.1 C.2.2.2.1 C.2.2.2.2.1 hW9 hS h (by decide) (by decide) dX4_readAtom_188
      · replace h := h.2 hc
        refine m_aload_n (pc := 109) C.1 dX4_readAtom_109 rfl hl 1 rfl ?_
        refine m_sipush (pc := 110) C.1 dX4_readAtom_110 rfl ?_
        refine m_callVv (pc := 113) C.1 C.2.2.1 hl.1 C.2.1 hW3 hS (As := [.int (mI 1008)]) (rest := []) (r := r1) (T_X3_addStep C.2.2.2.2.2.2 N r1 kr1 1008 (by decide : okI 1008) h) kr1 rfl q_894 q_895 q_896 q_84 q_897 pl_X3_addStep (by dsimp only [mRm]; omega) (Nat.le_of_ble_eq_true rfl) dX4_readAtom_113 (fun S10 H locs h hW10 hS => ?_)
        refine m_goto (pc := 116) (tgt := 188) C.1 dX4_readAtom_116 (by decide) ?_
        exact m_vret (pc := 188) C.1 C.2.2.2.1 C.2.2.2.2.1 hW10 hS h (by decide) (by decide) dX4_readAtom_188
    · replace h := h.2 hc
      refine m_aload_n (pc := 81) C.1 dX4_readAtom_81 rfl hl 0 rfl ?_
      refine m_aload_n (pc := 82) C.1 dX4_readAtom_82 rfl hl 1 rfl ?_
      refine m_iload_n (pc := 83) C.1 dX4_readAtom_83 rfl hl 2 rfl ?_
      refine m_iconst (pc := 84) C.1 dX4_readAtom_84 ?_
      refine m_iadd (pc := 85) C.1 dX4_readAtom_85 ?_
      refine m_callSv (pc := 86) C.1 C.2.2.1 hl.1 C.2.1 hW2 hS (As := [.ref (b + r0), .ref (b + r1), .int (mI (nm (x2 + 1)))]) (rest := []) (T_X4_readCondition C.2.2.2.2.2.2 N hF r0 kr0 r1 kr1 (nm (x2 + 1)) (nm_ok _) h) q_883 q_884 q_105 q_885 pl_X4_readCondition (by dsimp only [mRm]; omega) (Nat.le_of_ble_eq_true rfl) dX4_readAtom_86 (fun S11 H locs h hW11 hS => ?_)
      refine m_aload_n (pc := 89) C.1 dX4_readAtom_89 rfl hl 0 rfl ?_
      refine m_token (pc := 90) C.1 C.2.1 hW11 hS 5 (by decide) rfl q_898 dX4_readAtom_90 ?_
      refine m_callVv (pc := 93) C.1 C.2.2.1 hl.1 C.2.1 hW11 hS (As := [.ref (g.ad 5)]) (rest := []) (r := r0) (T_X10_need C.2.2.2.2.2.2 N r0 kr0 5 (by decide : 5 < 36) h) kr0 rfl q_879 q_704 q_705 q_85 q_706 pl_X10_need (by dsimp only [mRm]; omega) (Nat.le_of_ble_eq_true rfl) dX4_readAtom_93 (fun S12 H locs h hW12 hS => ?_)
      refine m_goto (pc := 96) (tgt := 188) C.1 dX4_readAtom_96 (by decide) ?_
      exact m_vret (pc := 188) C.1 C.2.2.2.1 C.2.2.2.2.1 hW12 hS h (by decide) (by decide) dX4_readAtom_188
  · replace h := h.2 hc
    refine m_aload_n (pc := 53) C.1 dX4_readAtom_53 rfl hl 0 rfl ?_
    refine m_aload_n (pc := 54) C.1 dX4_readAtom_54 rfl hl 1 rfl ?_
    refine m_iload_n (pc := 55) C.1 dX4_readAtom_55 rfl hl 2 rfl ?_
    refine m_iconst (pc := 56) C.1 dX4_readAtom_56 ?_
    refine m_iadd (pc := 57) C.1 dX4_readAtom_57 ?_
    refine m_callSv (pc := 58) C.1 C.2.2.1 hl.1 C.2.1 hW1 hS (As := [.ref (b + r0), .ref (b + r1), .int (mI (nm (x2 + 1)))]) (rest := []) (hF r0 kr0 r1 kr1 (nm (x2 + 1)) (nm_ok _) h) q_886 q_887 q_105 q_888 pl_X4_readAtom (by dsimp only [mRm]; omega) (Nat.le_of_ble_eq_true rfl) dX4_readAtom_58 (fun S13 H locs h hW13 hS => ?_)
    refine m_aload_n (pc := 61) C.1 dX4_readAtom_61 rfl hl 1 rfl ?_
    refine m_sipush (pc := 62) C.1 dX4_readAtom_62 rfl ?_
    refine m_callVv (pc := 65) C.1 C.2.2.1 hl.1 C.2.1 hW13 hS (As := [.int (mI 1010)]) (rest := []) (r := r1) (T_X3_addStep C.2.2.2.2.2.2 N r1 kr1 1010 (by decide : okI 1010) h) kr1 rfl q_894 q_895 q_896 q_84 q_897 pl_X3_addStep (by dsimp only [mRm]; omega) (Nat.le_of_ble_eq_true rfl) dX4_readAtom_65 (fun S14 H locs h hW14 hS => ?_)
    refine m_goto (pc := 68) (tgt := 188) C.1 dX4_readAtom_68 (by decide) ?_
    exact m_vret (pc := 188) C.1 C.2.2.2.1 C.2.2.2.2.1 hW14 hS h (by decide) (by decide) dX4_readAtom_188
def w_X4_readAtom_25 (N : Nat) (F : Nat → Nat → Int → mSt → (mSt → Prop) → Prop) (Q : mSt → Prop)  (r0 : Nat) (r1 : Nat) (x2 : Int) (xs0 : Int) (S : mSt) : Prop :=
  ∀ v1 : Int, v1 = xs0 → ((v1 = 0 → w_X4_readAtom_43 N F Q  r0 r1 x2 S) ∧ (v1 ≠ 0 → ((x2 < 6 → w_X4_readAtom_43 N F Q  r0 r1 x2 S) ∧ (6 ≤ x2 → w_X10_refuse N r0 S (fun (S2 : mSt) => Q S2)))))
theorem W_X4_readAtom_25 (C : mC p l s m args meth c cX4_readAtom "MoonWash$LawText" 5 none g) (N : Nat) {fr lo : Nat} {F : Nat → Nat → Int → mSt → (mSt → Prop) → Prop} (hF : ∀ (r0 : Nat) (kr0 : KX r0 = (0, 8, 0)) (r1 : Nat) (kr1 : KX r1 = (0, 2, 0)) (x2 : Int) (ox2 : okI x2) {S : mSt} {Q : mSt → Prop}, F r0 r1 x2 S Q → ∀ sz : Nat, vx_Met l yX4_readAtom (Cond.code yX4_readAtom cX4_readAtom 5 none :: wsG) { frames := fr, cells := 0, slots := 0, locals := lo } (mPc g b KX S [.ref (b + r0), .ref (b + r1), .int (mI x2)] sz) (mQv g b KX Q (mA b KX sz)) (mEx g b KX (fun _ _ => False) (mA b KX sz)) 0 0 (mA b KX sz)) {Q : mSt → Prop}   (r0 : Nat) (kr0 : KX r0 = (0, 8, 0)) (r1 : Nat) (kr1 : KX r1 = (0, 2, 0)) (x2 : Int) (ox2 : okI x2) (xs0 : Int) (oxs0 : okI xs0) (S : mSt) (H : Heap) (locs : List Loc) (ls : Array Slot) (hl : lv_has ls 5 [(0, .ref (b + r0)), (1, .ref (b + r1)), (2, .int (mI x2))]) (hW : mW g b KX S H) (hS : va_S (mA b KX s.heap.size) s.heap H locs) (h : w_X4_readAtom_25 N F Q  r0 r1 x2 xs0 S) : W p l e { frames := fr + 3, cells := 0, slots := 0, locals := lo + 63 } s m args below meth c H locs 0 0 (vx_MQ below (mQv g b KX Q (mA b KX s.heap.size)) (mEx g b KX (fun _ _ => False) (mA b KX s.heap.size)) args s 0 0 (mA b KX s.heap.size)) (F0 m 25 ls [.int (mI xs0)]) := by
  unfold w_X4_readAtom_25 at h
  refine m_istore_n (pc := 25) C.1 dX4_readAtom_25 rfl hl (by decide) (fun v => [(3, .int v), (0, .ref (b + r0)), (1, .ref (b + r1)), (2, .int (mI x2))]) (fun _ => rfl) oxs0 (fun v1 ls ev1 ov1 hl => ?_)
  replace h := h v1 ev1
  refine m_iload_n (pc := 26) C.1 dX4_readAtom_26 rfl hl 0 rfl ?_
  refine m_if_eq (pc := 27) (tgt := 43) C.1 ov1 dX4_readAtom_27 (by decide) (fun hc => ?_) (fun hc => ?_)
  · replace h := h.1 hc
    exact W_X4_readAtom_43 C N hF  r0 kr0 r1 kr1 x2 ox2 S _ _ _ (lv_sub hl [1, 2, 3] rfl) hW hS h
  · replace h := h.2 hc
    refine m_iload_n (pc := 30) C.1 dX4_readAtom_30 rfl hl 3 rfl ?_
    refine m_bipush (pc := 31) C.1 dX4_readAtom_31 rfl ?_
    refine m_icmp_lt (pc := 33) (tgt := 43) C.1 ox2 (by decide : okI 6) dX4_readAtom_33 (by decide) (fun hc => ?_) (fun hc => ?_)
    · replace h := h.1 hc
      exact W_X4_readAtom_43 C N hF  r0 kr0 r1 kr1 x2 ox2 S _ _ _ (lv_sub hl [1, 2, 3] rfl) hW hS h
    · replace h := h.2 hc
      refine m_aload_n (pc := 36) C.1 dX4_readAtom_36 rfl hl 1 rfl ?_
      refine m_callVv (pc := 37) C.1 C.2.2.1 hl.1 C.2.1 hW hS (As := []) (rest := []) (r := r0) (T_X10_refuse C.2.2.2.2.2.2 N r0 kr0 h) kr0 rfl q_893 q_700 q_701 q_85 q_702 pl_X10_refuse (by dsimp only [mRm]; omega) (Nat.le_of_ble_eq_true rfl) dX4_readAtom_37 (fun S2 H locs h hW2 hS => ?_)
      refine m_goto (pc := 40) (tgt := 188) C.1 dX4_readAtom_40 (by decide) ?_
      exact m_vret (pc := 188) C.1 C.2.2.2.1 C.2.2.2.2.1 hW2 hS h (by decide) (by decide) dX4_readAtom_188
def w_X4_readAtom_20 (N : Nat) (F : Nat → Nat → Int → mSt → (mSt → Prop) → Prop) (Q : mSt → Prop)  (r0 : Nat) (r1 : Nat) (x2 : Int) (S : mSt) : Prop :=
  w_X4_readAtom_25 N F Q  r0 r1 x2 1 S
theorem W_X4_readAtom_20 (C : mC p l s m args meth c cX4_readAtom "MoonWash$LawText" 5 none g) (N : Nat) {fr lo : Nat} {F : Nat → Nat → Int → mSt → (mSt → Prop) → Prop} (hF : ∀ (r0 : Nat) (kr0 : KX r0 = (0, 8, 0)) (r1 : Nat) (kr1 : KX r1 = (0, 2, 0)) (x2 : Int) (ox2 : okI x2) {S : mSt} {Q : mSt → Prop}, F r0 r1 x2 S Q → ∀ sz : Nat, vx_Met l yX4_readAtom (Cond.code yX4_readAtom cX4_readAtom 5 none :: wsG) { frames := fr, cells := 0, slots := 0, locals := lo } (mPc g b KX S [.ref (b + r0), .ref (b + r1), .int (mI x2)] sz) (mQv g b KX Q (mA b KX sz)) (mEx g b KX (fun _ _ => False) (mA b KX sz)) 0 0 (mA b KX sz)) {Q : mSt → Prop}   (r0 : Nat) (kr0 : KX r0 = (0, 8, 0)) (r1 : Nat) (kr1 : KX r1 = (0, 2, 0)) (x2 : Int) (ox2 : okI x2) (S : mSt) (H : Heap) (locs : List Loc) (ls : Array Slot) (hl : lv_has ls 5 [(0, .ref (b + r0)), (1, .ref (b + r1)), (2, .int (mI x2))]) (hW : mW g b KX S H) (hS : va_S (mA b KX s.heap.size) s.heap H locs) (h : w_X4_readAtom_20 N F Q  r0 r1 x2 S) : W p l e { frames := fr + 3, cells := 0, slots := 0, locals := lo + 63 } s m args below meth c H locs 0 0 (vx_MQ below (mQv g b KX Q (mA b KX s.heap.size)) (mEx g b KX (fun _ _ => False) (mA b KX s.heap.size)) args s 0 0 (mA b KX s.heap.size)) (F0 m 20 ls []) := by
  unfold w_X4_readAtom_20 at h
  refine m_iconst (pc := 20) C.1 dX4_readAtom_20 ?_
  refine m_goto (pc := 21) (tgt := 25) C.1 dX4_readAtom_21 (by decide) ?_
  exact W_X4_readAtom_25 C N hF  r0 kr0 r1 kr1 x2 ox2 1 (by decide : okI 1) S _ _ _ (lv_sub hl [0, 1, 2] rfl) hW hS h
end
def w_X4_readAtom_b (N : Nat) (F : Nat → Nat → Int → mSt → (mSt → Prop) → Prop) (r0 : Nat) (r1 : Nat) (x2 : Int) (S : mSt) (Q : mSt → Prop) : Prop :=
  w_X10_sees N r0 33 S (fun (S1 : mSt) (v1 : Int) => ((v1 ≠ 0 → w_X4_readAtom_20 N F Q  r0 r1 x2 S1) ∧ (v1 = 0 → w_X10_sees N r0 4 S1 (fun (S2 : mSt) (v2 : Int) => ((v2 = 0 → w_X4_readAtom_25 N F Q  r0 r1 x2 0 S2) ∧ (v2 ≠ 0 → w_X4_readAtom_20 N F Q  r0 r1 x2 S2))))))
theorem T_X4_readAtom_b {l : Launch} (hl0 : l.stackTraces = false) {g : mG} {b : Nat} (N : Nat) {fr lo : Nat} {F : Nat → Nat → Int → mSt → (mSt → Prop) → Prop} (hF : ∀ (r0 : Nat) (kr0 : KX r0 = (0, 8, 0)) (r1 : Nat) (kr1 : KX r1 = (0, 2, 0)) (x2 : Int) (ox2 : okI x2) {S : mSt} {Q : mSt → Prop}, F r0 r1 x2 S Q → ∀ sz : Nat, vx_Met l yX4_readAtom (Cond.code yX4_readAtom cX4_readAtom 5 none :: wsG) { frames := fr, cells := 0, slots := 0, locals := lo } (mPc g b KX S [.ref (b + r0), .ref (b + r1), .int (mI x2)] sz) (mQv g b KX Q (mA b KX sz)) (mEx g b KX (fun _ _ => False) (mA b KX sz)) 0 0 (mA b KX sz)) (r0 : Nat) (kr0 : KX r0 = (0, 8, 0)) (r1 : Nat) (kr1 : KX r1 = (0, 2, 0)) (x2 : Int) (ox2 : okI x2) {S : mSt} {Q : mSt → Prop} (h : w_X4_readAtom_b N F r0 r1 x2 S Q) (sz : Nat) : vx_Met l yX4_readAtom (Cond.code yX4_readAtom cX4_readAtom 5 none :: wsG) { frames := fr + 3, cells := 0, slots := 0, locals := lo + 63 } (mPc g b KX S [.ref (b + r0), .ref (b + r1), .int (mI x2)] sz) (mQv g b KX Q (mA b KX sz)) (mEx g b KX (fun _ _ => False) (mA b KX sz)) 0 0 (mA b KX sz) :=
  m_of (av := [.ref (b + r0), .ref (b + r1), .int (mI x2)]) (Qf := fun A => mQv g b KX Q A) (Xf := fun A => mEx g b KX (fun _ _ => False) A) (by decide) (Nat.le_of_ble_eq_true rfl) (fun p e s m args below meth c ls X hK hml hr hlk hout hnm hW hl => by
    have C : mC p l s m args meth c cX4_readAtom "MoonWash$LawText" 5 none g := ⟨X, hK, hml, hr, hlk, hout, hl0⟩
    have hS : va_S (mA b KX s.heap.size) s.heap s.heap [] := va_S.rf
    have hl : lv_has ls 5 [(0, .ref (b + r0)), (1, .ref (b + r1)), (2, .int (mI x2))] := hl
    unfold w_X4_readAtom_b at h
    refine m_aload_n (pc := 0) C.1 dX4_readAtom_0 rfl hl 0 rfl ?_
    refine m_token (pc := 1) C.1 C.2.1 hW hS 33 (by decide) rfl q_889 dX4_readAtom_1 ?_
    refine m_callVi (pc := 4) C.1 C.2.2.1 hl.1 C.2.1 hW hS (As := [.ref (g.ad 33)]) (rest := []) (r := r0) (T_X10_sees C.2.2.2.2.2.2 N r0 kr0 33 (by decide : 33 < 36) h) kr0 rfl q_866 q_688 q_689 q_85 q_690 pl_X10_sees (by dsimp only [mRm]; omega) (Nat.le_of_ble_eq_true rfl) dX4_readAtom_4 (fun v1 S1 H locs ov1 h hW1 hS => ?_)
    refine m_if_ne (pc := 7) (tgt := 20) C.1 ov1 dX4_readAtom_7 (by decide) (fun hc => ?_) (fun hc => ?_)
    · replace h := h.1 hc
      exact W_X4_readAtom_20 C N hF  r0 kr0 r1 kr1 x2 ox2 S1 _ _ _ (lv_sub hl [0, 1, 2] rfl) hW1 hS h
    · replace h := h.2 hc
      refine m_aload_n (pc := 10) C.1 dX4_readAtom_10 rfl hl 0 rfl ?_
      refine m_token (pc := 11) C.1 C.2.1 hW1 hS 4 (by decide) rfl q_891 dX4_readAtom_11 ?_
      refine m_callVi (pc := 14) C.1 C.2.2.1 hl.1 C.2.1 hW1 hS (As := [.ref (g.ad 4)]) (rest := []) (r := r0) (T_X10_sees C.2.2.2.2.2.2 N r0 kr0 4 (by decide : 4 < 36) h) kr0 rfl q_866 q_688 q_689 q_85 q_690 pl_X10_sees (by dsimp only [mRm]; omega) (Nat.le_of_ble_eq_true rfl) dX4_readAtom_14 (fun v2 S2 H locs ov2 h hW2 hS => ?_)
      refine m_if_eq (pc := 17) (tgt := 24) C.1 ov2 dX4_readAtom_17 (by decide) (fun hc => ?_) (fun hc => ?_)
      · replace h := h.1 hc
        refine m_iconst (pc := 24) C.1 dX4_readAtom_24 ?_
        exact W_X4_readAtom_25 C N hF  r0 kr0 r1 kr1 x2 ox2 0 (by decide : okI 0) S2 _ _ _ (lv_sub hl [0, 1, 2] rfl) hW2 hS h
      · replace h := h.2 hc
        exact W_X4_readAtom_20 C N hF  r0 kr0 r1 kr1 x2 ox2 S2 _ _ _ (lv_sub hl [0, 1, 2] rfl) hW2 hS h) sz
def w_X4_readAtom (N : Nat) : Nat → Nat → Nat → Int → mSt → (mSt → Prop) → Prop
  | 0 => fun _ _ _ _ _ => False
  | d + 1 => w_X4_readAtom_b N (w_X4_readAtom N d)
theorem T_X4_readAtom {l : Launch} (hl0 : l.stackTraces = false) {g : mG} {b : Nat} (N : Nat) : ∀ (d : Nat) (r0 : Nat) (kr0 : KX r0 = (0, 8, 0)) (r1 : Nat) (kr1 : KX r1 = (0, 2, 0)) (x2 : Int) (ox2 : okI x2) {S : mSt} {Q : mSt → Prop}, w_X4_readAtom N d r0 r1 x2 S Q → ∀ sz : Nat, vx_Met l yX4_readAtom (Cond.code yX4_readAtom cX4_readAtom 5 none :: wsG) { frames := 3 * d, cells := 0, slots := 0, locals := 63 * d } (mPc g b KX S [.ref (b + r0), .ref (b + r1), .int (mI x2)] sz) (mQv g b KX Q (mA b KX sz)) (mEx g b KX (fun _ _ => False) (mA b KX sz)) 0 0 (mA b KX sz) := by
  intro d
  induction d with
  | zero => intro r0 kr0 r1 kr1 x2 ox2 S Q h; exact False.elim h
  | succ d ih => intro r0 kr0 r1 kr1 x2 ox2 S Q h sz; exact T_X4_readAtom_b hl0 N (fun r0 kr0 r1 kr1 x2 ox2 => fun hh => ih r0 kr0 r1 kr1 x2 ox2 hh) r0 kr0 r1 kr1 x2 ox2 h sz
