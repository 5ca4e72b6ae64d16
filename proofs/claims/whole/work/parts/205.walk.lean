set_option maxHeartbeats 4000000
set_option maxRecDepth 20000
section
variable {p : Program} {l : Launch} {e : Env} {s : State} {m : MethodId} {args : Array Value} {below : List Frame} {meth : Method} {c : Code} {g : mG} {b : Nat}
end
def w_X11_dried (N : Nat) (r0 : Nat) (x1 : Int) (x2 : Int) (S : mSt) (Q : mSt → Int → Prop) (E : String → mSt → Prop) : Prop :=
  w_X11_checkPart N x1 S (fun (S1 : mSt) => w_X11_checkNumber N x2 0 9 S1 (fun (S2 : mSt) => ∀ q3 : Nat, (q3 : Int) = S2 r0 3 → w_X5_become N (r0 + 198) (q3 + 1) S2 (fun (S4 : mSt) => ∀ q5 : Nat, (q5 : Int) = S4 r0 5 → w_X5_nightsTillDry N (r0 + 198) q5 x1 x2 S4 (fun (S6 : mSt) (v6 : Int) => ∀ v7 : Int, v7 = v6 → ((v7 ≤ 40 → Q S6 v7) ∧ (40 < v7 → Q S6 (-1)))))) E) E
theorem T_X11_dried {l : Launch} (hl0 : l.stackTraces = false) {g : mG} {b : Nat} (N : Nat) (r0 : Nat) (kr0 : KX r0 = (0, 9, 0)) (x1 : Int) (ox1 : okI x1) (x2 : Int) (ox2 : okI x2) {S : mSt} {Q : mSt → Int → Prop} {E : String → mSt → Prop} (h : w_X11_dried N r0 x1 x2 S Q E) (sz : Nat) : vx_Met l yX11_dried (Cond.code yX11_dried cX11_dried 4 (some FieldType.int) :: wsG) { frames := 7, cells := 2, slots := 12, locals := 141 } (mPc g b KX S [.ref (b + r0), .int (mI x1), .int (mI x2)] sz) (mQi g b KX Q (mA b KX sz)) (mEx g b KX E (mA b KX sz)) 2 12 (mA b KX sz) :=
  m_of (av := [.ref (b + r0), .int (mI x1), .int (mI x2)]) (Qf := fun A => mQi g b KX Q A) (Xf := fun A => mEx g b KX E A) (by decide) (Nat.le_of_ble_eq_true rfl) (fun p e s m args below meth c ls X hK hml hr hlk hout hnm hW hl => by
    have C : mC p l s m args meth c cX11_dried "MoonWash" 4 (some FieldType.int) g := ⟨X, hK, hml, hr, hlk, hout, hl0⟩
    have hS : va_S (mA b KX s.heap.size) s.heap s.heap [] := va_S.rf
    have hl : lv_has ls 4 [(0, .ref (b + r0)), (1, .int (mI x1)), (2, .int (mI x2))] := hl
    unfold w_X11_dried at h
    refine m_iload_n (pc := 0) C.1 dX11_dried_0 rfl hl 1 rfl ?_
    refine m_callSvx (pc := 1) C.1 C.2.2.1 hl.1 C.2.1 hW hS (As := [.int (mI x1)]) (rest := []) (T_X11_checkPart C.2.2.2.2.2.2 N x1 ox1 h) q_936 q_937 q_81 q_938 pl_X11_checkPart (by decide) (Nat.le_of_ble_eq_true rfl) dX11_dried_1 (fun En S1 H locs ce q9 hE hW1 hS h1 h2 h3 => m_prop C.2.2.2.2.2.1 C.2.2.2.2.1 hW1 hS hE h1 h2 h3 (by decide) (by decide)) (fun S1 H locs h hW1 hS => ?_)
    refine m_iload_n (pc := 4) C.1 dX11_dried_4 rfl hl 2 rfl ?_
    refine m_iconst (pc := 5) C.1 dX11_dried_5 ?_
    refine m_bipush (pc := 6) C.1 dX11_dried_6 rfl ?_
    refine m_callSvx (pc := 8) C.1 C.2.2.1 hl.1 C.2.1 hW1 hS (As := [.int (mI x2), .int (mI 0), .int (mI 9)]) (rest := []) (T_X11_checkNumber C.2.2.2.2.2.2 N x2 ox2 0 (by decide : okI 0) 9 (by decide : okI 9) h) q_1122 q_1123 q_81 q_1124 pl_X11_checkNumber (by decide) (Nat.le_of_ble_eq_true rfl) dX11_dried_8 (fun En S2 H locs ce q9 hE hW2 hS h1 h2 h3 => m_prop C.2.2.2.2.2.1 C.2.2.2.2.1 hW2 hS hE h1 h2 h3 (by decide) (by decide)) (fun S2 H locs h hW2 hS => ?_)
    refine m_aload_n (pc := 11) C.1 dX11_dried_11 rfl hl 0 rfl ?_
    refine g_9_10 (pc := 12) C hW2 kr0 q_402 dX11_dried_12 ?_
    refine m_aload_n (pc := 15) C.1 dX11_dried_15 rfl hl 0 rfl ?_
    refine g_9_3 (pc := 16) C hW2 kr0 q_395 dX11_dried_16 (fun q3 eq3 kq3 => ?_)
    replace h := h q3 eq3
    refine g_1_0 (pc := 19) C hW2 kq3 q_187 dX11_dried_19 ?_
    refine m_callVv (pc := 22) C.1 C.2.2.1 hl.1 C.2.1 hW2 hS (As := [.ref (b + (q3 + 1))]) (rest := []) (r := (r0 + 198)) (T_X5_become C.2.2.2.2.2.2 N (r0 + 198) (k_9_10 kr0) (q3 + 1) (k_1_0 kq3) h) (k_9_10 kr0) rfl q_1157 q_465 q_466 q_83 q_467 pl_X5_become (by decide) (Nat.le_of_ble_eq_true rfl) dX11_dried_22 (fun S4 H locs h hW4 hS => ?_)
    refine m_aload_n (pc := 25) C.1 dX11_dried_25 rfl hl 0 rfl ?_
    refine g_9_10 (pc := 26) C hW4 kr0 q_402 dX11_dried_26 ?_
    refine m_aload_n (pc := 29) C.1 dX11_dried_29 rfl hl 0 rfl ?_
    refine g_9_5 (pc := 30) C hW4 kr0 q_397 dX11_dried_30 (fun q5 eq5 kq5 => ?_)
    replace h := h q5 eq5
    refine m_iload_n (pc := 33) C.1 dX11_dried_33 rfl hl 1 rfl ?_
    refine m_iload_n (pc := 34) C.1 dX11_dried_34 rfl hl 2 rfl ?_
    refine m_callVi (pc := 35) C.1 C.2.2.1 hl.1 C.2.1 hW4 hS (As := [.ref (b + q5), .int (mI x1), .int (mI x2)]) (rest := []) (r := (r0 + 198)) (T_X5_nightsTillDry C.2.2.2.2.2.2 N (r0 + 198) (k_9_10 kr0) q5 kq5 x1 ox1 x2 ox2 h) (k_9_10 kr0) rfl q_1229 q_1230 q_1231 q_83 q_1232 pl_X5_nightsTillDry (by decide) (Nat.le_of_ble_eq_true rfl) dX11_dried_35 (fun v6 S6 H locs ov6 h hW6 hS => ?_)
    refine m_istore_n (pc := 38) C.1 dX11_dried_38 rfl hl (by decide) (fun v => [(3, .int v), (0, .ref (b + r0)), (1, .int (mI x1)), (2, .int (mI x2))]) (fun _ => rfl) ov6 (fun v7 ls ev7 ov7 hl => ?_)
    replace h := h v7 ev7
    refine m_iload_n (pc := 39) C.1 dX11_dried_39 rfl hl 0 rfl ?_
    refine m_bipush (pc := 40) C.1 dX11_dried_40 rfl ?_
    refine m_icmp_le (pc := 42) (tgt := 49) C.1 ov7 (by decide : okI 40) dX11_dried_42 (by decide) (fun hc => ?_) (fun hc => ?_)
    · replace h := h.1 hc
      refine m_iload_n (pc := 49) C.1 dX11_dried_49 rfl hl 0 rfl ?_
      exact m_iret (pc := 50) C.1 C.2.2.2.1 C.2.2.2.2.1 hW6 hS ov7 h (by decide) (by decide) dX11_dried_50
    · replace h := h.2 hc
      refine m_iconst (pc := 45) C.1 dX11_dried_45 ?_
      refine m_goto (pc := 46) (tgt := 50) C.1 dX11_dried_46 (by decide) ?_
      exact m_iret (pc := 50) C.1 C.2.2.2.1 C.2.2.2.2.1 hW6 hS (by decide : okI (-1)) h (by decide) (by decide) dX11_dried_50) sz
section
variable {p : Program} {l : Launch} {e : Env} {s : State} {m : MethodId} {args : Array Value} {below : List Frame} {meth : Method} {c : Code} {g : mG} {b : Nat}
def w_X11_ahead_54b (N : Nat) (Q : mSt → Int → Prop) (E : String → mSt → Prop) (ko54 : Nat → Int → Int → Int → Int → Int → mSt → Prop) (ko78 : Nat → Int → Int → mSt → Prop) (r0 : Nat) (x1 : Int) (x2 : Int) (x3 : Int) (x4 : Int) (x5 : Int) (S : mSt) : Prop :=
  ((x2 ≤ x5 → ko78 r0 x1 x4 S) ∧ (x5 < x2 → ∀ q1 : Nat, (q1 : Int) = S r0 5 → w_X5_goAhead N (r0 + 198) q1 x3 S (fun (S2 : mSt) => ∀ v3 : Int, v3 = nm (x5 + 1) → ko54 r0 x1 x2 x3 x4 v3 S2)))
theorem W_X11_ahead_54b (C : mC p l s m args meth c cX11_ahead "MoonWash" 6 (some FieldType.int) g) (N : Nat) {Q : mSt → Int → Prop} {E : String → mSt → Prop} {ko54 : Nat → Int → Int → Int → Int → Int → mSt → Prop} {ko78 : Nat → Int → Int → mSt → Prop} (hko54 : ∀ (r0 : Nat) (kr0 : KX r0 = (0, 9, 0)) (x1 : Int) (ox1 : okI x1) (x2 : Int) (ox2 : okI x2) (x3 : Int) (ox3 : okI x3) (x4 : Int) (ox4 : okI x4) (x5 : Int) (ox5 : okI x5) (S : mSt) (H : Heap) (locs : List Loc) (ls : Array Slot), lv_has ls 6 [(0, .ref (b + r0)), (1, .int (mI x1)), (2, .int (mI x2)), (3, .int (mI x3)), (4, .int (mI x4)), (5, .int (mI x5))] → mW g b KX S H → va_S (mA b KX s.heap.size) s.heap H locs → ko54 r0 x1 x2 x3 x4 x5 S → W p l e { frames := 7, cells := 4, slots := 24, locals := 141 } s m args below meth c H locs 3 18 (vx_MQ below (mQi g b KX Q (mA b KX s.heap.size)) (mEx g b KX E (mA b KX s.heap.size)) args s 4 24 (mA b KX s.heap.size)) (F0 m 54 ls [])) (hko78 : ∀ (r0 : Nat) (kr0 : KX r0 = (0, 9, 0)) (x1 : Int) (ox1 : okI x1) (x4 : Int) (ox4 : okI x4) (S : mSt) (H : Heap) (locs : List Loc) (ls : Array Slot), lv_has ls 6 [(0, .ref (b + r0)), (1, .int (mI x1)), (4, .int (mI x4))] → mW g b KX S H → va_S (mA b KX s.heap.size) s.heap H locs → ko78 r0 x1 x4 S → W p l e { frames := 7, cells := 4, slots := 24, locals := 141 } s m args below meth c H locs 3 18 (vx_MQ below (mQi g b KX Q (mA b KX s.heap.size)) (mEx g b KX E (mA b KX s.heap.size)) args s 4 24 (mA b KX s.heap.size)) (F0 m 78 ls [])) (r0 : Nat) (kr0 : KX r0 = (0, 9, 0)) (x1 : Int) (ox1 : okI x1) (x2 : Int) (ox2 : okI x2) (x3 : Int) (ox3 : okI x3) (x4 : Int) (ox4 : okI x4) (x5 : Int) (ox5 : okI x5) (S : mSt) (H : Heap) (locs : List Loc) (ls : Array Slot) (hl : lv_has ls 6 [(0, .ref (b + r0)), (1, .int (mI x1)), (2, .int (mI x2)), (3, .int (mI x3)), (4, .int (mI x4)), (5, .int (mI x5))]) (hW : mW g b KX S H) (hS : va_S (mA b KX s.heap.size) s.heap H locs) (h : w_X11_ahead_54b N Q E ko54 ko78 r0 x1 x2 x3 x4 x5 S) : W p l e { frames := 7, cells := 4, slots := 24, locals := 141 } s m args below meth c H locs 3 18 (vx_MQ below (mQi g b KX Q (mA b KX s.heap.size)) (mEx g b KX E (mA b KX s.heap.size)) args s 4 24 (mA b KX s.heap.size)) (F0 m 54 ls []) := by
  unfold w_X11_ahead_54b at h
  refine m_iload (pc := 54) C.1 dX11_ahead_54 hl 5 rfl ?_
  refine m_iload_n (pc := 56) C.1 dX11_ahead_56 rfl hl 2 rfl ?_
  refine m_icmp_ge (pc := 57) (tgt := 78) C.1 ox5 ox2 dX11_ahead_57 (by decide) (fun hc => ?_) (fun hc => ?_)
  · replace h := h.1 hc
    exact hko78 r0 kr0 x1 ox1 x4 ox4 S _ _ _ (lv_sub hl [0, 1, 4] rfl) hW hS h
  · replace h := h.2 hc
    refine m_aload_n (pc := 60) C.1 dX11_ahead_60 rfl hl 0 rfl ?_
    refine g_9_10 (pc := 61) C hW kr0 q_402 dX11_ahead_61 ?_
    refine m_aload_n (pc := 64) C.1 dX11_ahead_64 rfl hl 0 rfl ?_
    refine g_9_5 (pc := 65) C hW kr0 q_397 dX11_ahead_65 (fun q1 eq1 kq1 => ?_)
    replace h := h q1 eq1
    refine m_iload_n (pc := 68) C.1 dX11_ahead_68 rfl hl 3 rfl ?_
    refine m_callVv (pc := 69) C.1 C.2.2.1 hl.1 C.2.1 hW hS (As := [.ref (b + q1), .int (mI x3)]) (rest := []) (r := (r0 + 198)) (T_X5_goAhead C.2.2.2.2.2.2 N (r0 + 198) (k_9_10 kr0) q1 kq1 x3 ox3 h) (k_9_10 kr0) rfl q_1274 q_1275 q_1276 q_83 q_1277 pl_X5_goAhead (by decide) (Nat.le_of_ble_eq_true rfl) dX11_ahead_69 (fun S2 H locs h hW2 hS => ?_)
    refine m_iinc (pc := 72) C.1 dX11_ahead_72 hl (by decide) (q0 := 5) rfl (fun v => [(5, .int v), (0, .ref (b + r0)), (1, .int (mI x1)), (2, .int (mI x2)), (3, .int (mI x3)), (4, .int (mI x4))]) (fun _ => rfl) (fun v3 ls ev3 ov3 hl => ?_)
    replace h := h v3 ev3
    refine m_goto (pc := 75) (tgt := 54) C.1 dX11_ahead_75 (by decide) ?_
    exact hko54 r0 kr0 x1 ox1 x2 ox2 x3 ox3 x4 ox4 v3 ov3 S2 _ _ _ (lv_sub hl [1, 2, 3, 4, 5, 0] rfl) hW2 hS h
def w_X11_ahead_54 (N : Nat) (Q : mSt → Int → Prop) (E : String → mSt → Prop) (ko78 : Nat → Int → Int → mSt → Prop) : Nat → Nat → Int → Int → Int → Int → Int → mSt → Prop
  | 0 => fun _ _ _ _ _ _ _ => False
  | k + 1 => w_X11_ahead_54b N Q E (w_X11_ahead_54 N Q E ko78 k) ko78
theorem W_X11_ahead_54 (C : mC p l s m args meth c cX11_ahead "MoonWash" 6 (some FieldType.int) g) (N : Nat) {Q : mSt → Int → Prop} {E : String → mSt → Prop} {ko78 : Nat → Int → Int → mSt → Prop} (hko78 : ∀ (r0 : Nat) (kr0 : KX r0 = (0, 9, 0)) (x1 : Int) (ox1 : okI x1) (x4 : Int) (ox4 : okI x4) (S : mSt) (H : Heap) (locs : List Loc) (ls : Array Slot), lv_has ls 6 [(0, .ref (b + r0)), (1, .int (mI x1)), (4, .int (mI x4))] → mW g b KX S H → va_S (mA b KX s.heap.size) s.heap H locs → ko78 r0 x1 x4 S → W p l e { frames := 7, cells := 4, slots := 24, locals := 141 } s m args below meth c H locs 3 18 (vx_MQ below (mQi g b KX Q (mA b KX s.heap.size)) (mEx g b KX E (mA b KX s.heap.size)) args s 4 24 (mA b KX s.heap.size)) (F0 m 78 ls [])) : ∀ (k : Nat) (r0 : Nat) (kr0 : KX r0 = (0, 9, 0)) (x1 : Int) (ox1 : okI x1) (x2 : Int) (ox2 : okI x2) (x3 : Int) (ox3 : okI x3) (x4 : Int) (ox4 : okI x4) (x5 : Int) (ox5 : okI x5) (S : mSt) (H : Heap) (locs : List Loc) (ls : Array Slot) (hl : lv_has ls 6 [(0, .ref (b + r0)), (1, .int (mI x1)), (2, .int (mI x2)), (3, .int (mI x3)), (4, .int (mI x4)), (5, .int (mI x5))]) (hW : mW g b KX S H) (hS : va_S (mA b KX s.heap.size) s.heap H locs) (h : w_X11_ahead_54 N Q E ko78 k r0 x1 x2 x3 x4 x5 S), W p l e { frames := 7, cells := 4, slots := 24, locals := 141 } s m args below meth c H locs 3 18 (vx_MQ below (mQi g b KX Q (mA b KX s.heap.size)) (mEx g b KX E (mA b KX s.heap.size)) args s 4 24 (mA b KX s.heap.size)) (F0 m 54 ls []) := by
  intro k
  induction k with
  | zero => intro r0 kr0 x1 ox1 x2 ox2 x3 ox3 x4 ox4 x5 ox5 S H locs ls hl hW hS h; exact False.elim h
  | succ k ih => intro r0 kr0 x1 ox1 x2 ox2 x3 ox3 x4 ox4 x5 ox5 S H locs ls hl hW hS h; exact W_X11_ahead_54b C N ih hko78 r0 kr0 x1 ox1 x2 ox2 x3 ox3 x4 ox4 x5 ox5 S H locs ls hl hW hS h
end
def w_X11_ahead (N : Nat) (r0 : Nat) (x1 : Int) (x2 : Int) (x3 : Int) (x4 : Int) (S : mSt) (Q : mSt → Int → Prop) (E : String → mSt → Prop) : Prop :=
  w_X11_checkPart N x1 S (fun (S1 : mSt) => w_X11_checkNumber N x2 0 40 S1 (fun (S2 : mSt) => w_X11_checkNumber N x3 0 9 S2 (fun (S3 : mSt) => ((x4 < 0 → E "java/util/NoSuchElementException" S3) ∧ (0 ≤ x4 → ((x4 ≤ 2 → ∀ q4 : Nat, (q4 : Int) = S3 r0 3 → w_X5_become N (r0 + 198) (q4 + 1) S3 (fun (S5 : mSt) => ∀ v6 : Int, v6 = 0 → w_X11_ahead_54 N Q E (fun (r0_7 : Nat) (x1_7 : Int) (x4_7 : Int) (S_7 : mSt) => ((x4_7 ≠ 0 → ((x4_7 ≠ 1 → ∀ q8 : Nat, (q8 : Int) = S_7 r0_7 5 → w_X3_lightOf N q8 (r0_7 + 198) x1_7 S_7 (fun (S9 : mSt) (v9 : Int) => Q S9 v9)) ∧ (x4_7 = 1 → (0 ≤ x1_7 ∧ x1_7 < 8 ∧ Q S_7 (S_7 ((r0_7 + 198) + 1) x1_7))))) ∧ (x4_7 = 0 → (0 ≤ x1_7 ∧ x1_7 < 8 ∧ Q S_7 (S_7 ((r0_7 + 198) + 3) x1_7))))) N r0 x1 x2 x3 x4 v6 S5)) ∧ (2 < x4 → E "java/util/NoSuchElementException" S3))))) E) E) E
theorem T_X11_ahead {l : Launch} (hl0 : l.stackTraces = false) {g : mG} {b : Nat} (N : Nat) (r0 : Nat) (kr0 : KX r0 = (0, 9, 0)) (x1 : Int) (ox1 : okI x1) (x2 : Int) (ox2 : okI x2) (x3 : Int) (ox3 : okI x3) (x4 : Int) (ox4 : okI x4) {S : mSt} {Q : mSt → Int → Prop} {E : String → mSt → Prop} (h : w_X11_ahead N r0 x1 x2 x3 x4 S Q E) (sz : Nat) : vx_Met l yX11_ahead (Cond.code yX11_ahead cX11_ahead 6 (some FieldType.int) :: wsG) { frames := 7, cells := 4, slots := 24, locals := 141 } (mPc g b KX S [.ref (b + r0), .int (mI x1), .int (mI x2), .int (mI x3), .int (mI x4)] sz) (mQi g b KX Q (mA b KX sz)) (mEx g b KX E (mA b KX sz)) 4 24 (mA b KX sz) :=
  m_of (av := [.ref (b + r0), .int (mI x1), .int (mI x2), .int (mI x3), .int (mI x4)]) (Qf := fun A => mQi g b KX Q A) (Xf := fun A => mEx g b KX E A) (by decide) (Nat.le_of_ble_eq_true rfl) (fun p e s m args below meth c ls X hK hml hr hlk hout hnm hW hl => by
    have C : mC p l s m args meth c cX11_ahead "MoonWash" 6 (some FieldType.int) g := ⟨X, hK, hml, hr, hlk, hout, hl0⟩
    have hS : va_S (mA b KX s.heap.size) s.heap s.heap [] := va_S.rf
    have hl : lv_has ls 6 [(0, .ref (b + r0)), (1, .int (mI x1)), (2, .int (mI x2)), (3, .int (mI x3)), (4, .int (mI x4))] := hl
    unfold w_X11_ahead at h
    refine m_iload_n (pc := 0) C.1 dX11_ahead_0 rfl hl 1 rfl ?_
    refine m_callSvx (pc := 1) C.1 C.2.2.1 hl.1 C.2.1 hW hS (As := [.int (mI x1)]) (rest := []) (T_X11_checkPart C.2.2.2.2.2.2 N x1 ox1 h) q_936 q_937 q_81 q_938 pl_X11_checkPart (by decide) (Nat.le_of_ble_eq_true rfl) dX11_ahead_1 (fun En S1 H locs ce q9 hE hW1 hS h1 h2 h3 => m_prop C.2.2.2.2.2.1 C.2.2.2.2.1 hW1 hS hE h1 h2 h3 (by decide) (by decide)) (fun S1 H locs h hW1 hS => ?_)
    refine m_iload_n (pc := 4) C.1 dX11_ahead_4 rfl hl 2 rfl ?_
    refine m_iconst (pc := 5) C.1 dX11_ahead_5 ?_
    refine m_bipush (pc := 6) C.1 dX11_ahead_6 rfl ?_
    refine m_callSvx (pc := 8) C.1 C.2.2.1 hl.1 C.2.1 hW1 hS (As := [.int (mI x2), .int (mI 0), .int (mI 40)]) (rest := []) (T_X11_checkNumber C.2.2.2.2.2.2 N x2 ox2 0 (by decide : okI 0) 40 (by decide : okI 40) h) q_1122 q_1123 q_81 q_1124 pl_X11_checkNumber (by decide) (Nat.le_of_ble_eq_true rfl) dX11_ahead_8 (fun En S2 H locs ce q9 hE hW2 hS h1 h2 h3 => m_prop C.2.2.2.2.2.1 C.2.2.2.2.1 hW2 hS hE h1 h2 h3 (by decide) (by decide)) (fun S2 H locs h hW2 hS => ?_)
    refine m_iload_n (pc := 11) C.1 dX11_ahead_11 rfl hl 3 rfl ?_
    refine m_iconst (pc := 12) C.1 dX11_ahead_12 ?_
    refine m_bipush (pc := 13) C.1 dX11_ahead_13 rfl ?_
    refine m_callSvx (pc := 15) C.1 C.2.2.1 hl.1 C.2.1 hW2 hS (As := [.int (mI x3), .int (mI 0), .int (mI 9)]) (rest := []) (T_X11_checkNumber C.2.2.2.2.2.2 N x3 ox3 0 (by decide : okI 0) 9 (by decide : okI 9) h) q_1122 q_1123 q_81 q_1124 pl_X11_checkNumber (by decide) (Nat.le_of_ble_eq_true rfl) dX11_ahead_15 (fun En S3 H locs ce q9 hE hW3 hS h1 h2 h3 => m_prop C.2.2.2.2.2.1 C.2.2.2.2.1 hW3 hS hE h1 h2 h3 (by decide) (by decide)) (fun S3 H locs h hW3 hS => ?_)
    refine m_iload (pc := 18) C.1 dX11_ahead_18 hl 4 rfl ?_
    refine m_if_lt (pc := 20) (tgt := 29) C.1 ox4 dX11_ahead_20 (by decide) (fun hc => ?_) (fun hc => ?_)
    · replace h := h.1 hc
      exact m_throw (pc := 29) C.1 C.2.2.2.2.2.2 C.2.1 hW3 hS (cls := "java/util/NoSuchElementException") (names := ["java/lang/RuntimeException", "java/lang/Exception"]) (by decide) (by decide) q_975 q_108 thr_X11_174_a thr_X11_174_g (hl.1.trans C.2.2.1.symm) dX11_ahead_29 dX11_ahead_32 dX11_ahead_33 dX11_ahead_36 C.2.2.2.2.2.1 C.2.2.2.2.1 (by decide) (Nat.le_of_ble_eq_true rfl) (by decide) (by decide) h (by decide) (by decide)
    · replace h := h.2 hc
      refine m_iload (pc := 23) C.1 dX11_ahead_23 hl 4 rfl ?_
      refine m_iconst (pc := 25) C.1 dX11_ahead_25 ?_
      refine m_icmp_le (pc := 26) (tgt := 37) C.1 ox4 (by decide : okI 2) dX11_ahead_26 (by decide) (fun hc => ?_) (fun hc => ?_)
      · replace h := h.1 hc
        refine m_aload_n (pc := 37) C.1 dX11_ahead_37 rfl hl 0 rfl ?_
        refine g_9_10 (pc := 38) C hW3 kr0 q_402 dX11_ahead_38 ?_
        refine m_aload_n (pc := 41) C.1 dX11_ahead_41 rfl hl 0 rfl ?_
        refine g_9_3 (pc := 42) C hW3 kr0 q_395 dX11_ahead_42 (fun q4 eq4 kq4 => ?_)
        replace h := h q4 eq4
        refine g_1_0 (pc := 45) C hW3 kq4 q_187 dX11_ahead_45 ?_
        refine m_callVv (pc := 48) C.1 C.2.2.1 hl.1 C.2.1 hW3 hS (As := [.ref (b + (q4 + 1))]) (rest := []) (r := (r0 + 198)) (T_X5_become C.2.2.2.2.2.2 N (r0 + 198) (k_9_10 kr0) (q4 + 1) (k_1_0 kq4) h) (k_9_10 kr0) rfl q_1157 q_465 q_466 q_83 q_467 pl_X5_become (by decide) (Nat.le_of_ble_eq_true rfl) dX11_ahead_48 (fun S5 H locs h hW5 hS => ?_)
        refine m_iconst (pc := 51) C.1 dX11_ahead_51 ?_
        refine m_istore (pc := 52) C.1 dX11_ahead_52 hl (by decide) (fun v => [(5, .int v), (0, .ref (b + r0)), (1, .int (mI x1)), (2, .int (mI x2)), (3, .int (mI x3)), (4, .int (mI x4))]) (fun _ => rfl) (by decide : okI 0) (fun v6 ls ev6 ov6 hl => ?_)
        replace h := h v6 ev6
        refine W_X11_ahead_54 C N ?_ N r0 kr0 x1 ox1 x2 ox2 x3 ox3 x4 ox4 v6 ov6 S5 _ _ _ (lv_sub hl [1, 2, 3, 4, 5, 0] rfl) hW5 hS h
        · intro r0_7 kr0_7 x1_7 ox1_7 x4_7 ox4_7 S_7 H locs ls hl hW_7 hS h
          refine m_iload (pc := 78) C.1 dX11_ahead_78 hl 2 rfl ?_
          refine m_if_ne (pc := 80) (tgt := 93) C.1 ox4_7 dX11_ahead_80 (by decide) (fun hc => ?_) (fun hc => ?_)
          · replace h := h.1 hc
            refine m_iload (pc := 93) C.1 dX11_ahead_93 hl 2 rfl ?_
            refine m_iconst (pc := 95) C.1 dX11_ahead_95 ?_
            refine m_icmp_ne (pc := 96) (tgt := 111) C.1 ox4_7 (by decide : okI 1) dX11_ahead_96 (by decide) (fun hc => ?_) (fun hc => ?_)
            · replace h := h.1 hc
              refine m_aload_n (pc := 111) C.1 dX11_ahead_111 rfl hl 0 rfl ?_
              refine g_9_5 (pc := 112) C hW_7 kr0_7 q_397 dX11_ahead_112 (fun q8 eq8 kq8 => ?_)
              replace h := h q8 eq8
              refine m_aload_n (pc := 115) C.1 dX11_ahead_115 rfl hl 0 rfl ?_
              refine g_9_10 (pc := 116) C hW_7 kr0_7 q_402 dX11_ahead_116 ?_
              refine m_iload_n (pc := 119) C.1 dX11_ahead_119 rfl hl 1 rfl ?_
              refine m_callVi (pc := 120) C.1 C.2.2.1 hl.1 C.2.1 hW_7 hS (As := [.ref (b + (r0_7 + 198)), .int (mI x1_7)]) (rest := []) (r := q8) (T_X3_lightOf C.2.2.2.2.2.2 N q8 kq8 (r0_7 + 198) (k_9_10 kr0_7) x1_7 ox1_7 h) kq8 rfl q_539 q_487 q_488 q_84 q_489 pl_X3_lightOf (by decide) (Nat.le_of_ble_eq_true rfl) dX11_ahead_120 (fun v9 S9 H locs ov9 h hW9 hS => ?_)
              exact m_iret (pc := 123) C.1 C.2.2.2.1 C.2.2.2.2.1 hW9 hS ov9 h (by decide) (by decide) dX11_ahead_123
            · replace h := h.2 hc
              refine m_aload_n (pc := 99) C.1 dX11_ahead_99 rfl hl 0 rfl ?_
              refine g_9_10 (pc := 100) C hW_7 kr0_7 q_402 dX11_ahead_100 ?_
              refine g_3_0 (pc := 103) C hW_7 (k_9_10 kr0_7) q_133 dX11_ahead_103 ?_
              refine m_iload_n (pc := 106) C.1 dX11_ahead_106 rfl hl 1 rfl ?_
              obtain ⟨hb10a, hb10b, h⟩ := h
              refine m_iald (pc := 107) C.1 C.2.1 hW_7 (k_3_0 (k_9_10 kr0_7)) ox1_7 hb10a hb10b dX11_ahead_107 ?_
              refine m_goto (pc := 108) (tgt := 123) C.1 dX11_ahead_108 (by decide) ?_
              exact m_iret (pc := 123) C.1 C.2.2.2.1 C.2.2.2.2.1 hW_7 hS (hW_7.2.1 _ _) h (by decide) (by decide) dX11_ahead_123
          · replace h := h.2 hc
            refine m_aload_n (pc := 83) C.1 dX11_ahead_83 rfl hl 0 rfl ?_
            refine g_9_10 (pc := 84) C hW_7 kr0_7 q_402 dX11_ahead_84 ?_
            refine g_3_2 (pc := 87) C hW_7 (k_9_10 kr0_7) q_141 dX11_ahead_87 ?_
            refine m_iload_n (pc := 90) C.1 dX11_ahead_90 rfl hl 1 rfl ?_
            obtain ⟨hb11a, hb11b, h⟩ := h
            refine m_iald (pc := 91) C.1 C.2.1 hW_7 (k_3_2 (k_9_10 kr0_7)) ox1_7 hb11a hb11b dX11_ahead_91 ?_
            exact m_iret (pc := 92) C.1 C.2.2.2.1 C.2.2.2.2.1 hW_7 hS (hW_7.2.1 _ _) h (by decide) (by decide) dX11_ahead_92
      · replace h := h.2 hc
        exact m_throw (pc := 29) C.1 C.2.2.2.2.2.2 C.2.1 hW3 hS (cls := "java/util/NoSuchElementException") (names := ["java/lang/RuntimeException", "java/lang/Exception"]) (by decide) (by decide) q_975 q_108 thr_X11_174_a thr_X11_174_g (hl.1.trans C.2.2.1.symm) dX11_ahead_29 dX11_ahead_32 dX11_ahead_33 dX11_ahead_36 C.2.2.2.2.2.1 C.2.2.2.2.1 (by decide) (Nat.le_of_ble_eq_true rfl) (by decide) (by decide) h (by decide) (by decide)) sz
section
variable {p : Program} {l : Launch} {e : Env} {s : State} {m : MethodId} {args : Array Value} {below : List Frame} {meth : Method} {c : Code} {g : mG} {b : Nat}
def w_X11_tide_31b (N : Nat) (Q : mSt → Int → Prop) (E : String → mSt → Prop) (ko31 : Nat → Int → Int → Int → mSt → Prop) (ko72 : mSt → Prop) (r0 : Nat) (x1 : Int) (x2 : Int) (x3 : Int) (S : mSt) : Prop :=
  ((40 < x3 → ko72 S) ∧ (x3 ≤ 40 → ∀ q1 : Nat, (q1 : Int) = S r0 5 → w_X3_allLight N q1 (r0 + 198) S (fun (S2 : mSt) (v2 : Int) => ((v2 < x1 → ∀ q3 : Nat, (q3 : Int) = S2 r0 5 → w_X5_goAhead N (r0 + 198) q3 x2 S2 (fun (S4 : mSt) => ∀ v5 : Int, v5 = nm (x3 + 1) → ko31 r0 x1 x2 v5 S4)) ∧ (x1 ≤ v2 → Q S2 x3)))))
theorem W_X11_tide_31b (C : mC p l s m args meth c cX11_tide "MoonWash" 4 (some FieldType.int) g) (N : Nat) {Q : mSt → Int → Prop} {E : String → mSt → Prop} {ko31 : Nat → Int → Int → Int → mSt → Prop} {ko72 : mSt → Prop} (hko31 : ∀ (r0 : Nat) (kr0 : KX r0 = (0, 9, 0)) (x1 : Int) (ox1 : okI x1) (x2 : Int) (ox2 : okI x2) (x3 : Int) (ox3 : okI x3) (S : mSt) (H : Heap) (locs : List Loc) (ls : Array Slot), lv_has ls 4 [(0, .ref (b + r0)), (1, .int (mI x1)), (2, .int (mI x2)), (3, .int (mI x3))] → mW g b KX S H → va_S (mA b KX s.heap.size) s.heap H locs → ko31 r0 x1 x2 x3 S → W p l e { frames := 7, cells := 2, slots := 12, locals := 142 } s m args below meth c H locs 2 12 (vx_MQ below (mQi g b KX Q (mA b KX s.heap.size)) (mEx g b KX E (mA b KX s.heap.size)) args s 2 12 (mA b KX s.heap.size)) (F0 m 31 ls [])) (hko72 : ∀  (S : mSt) (H : Heap) (locs : List Loc) (ls : Array Slot), lv_has ls 4 [] → mW g b KX S H → va_S (mA b KX s.heap.size) s.heap H locs → ko72 S → W p l e { frames := 7, cells := 2, slots := 12, locals := 142 } s m args below meth c H locs 2 12 (vx_MQ below (mQi g b KX Q (mA b KX s.heap.size)) (mEx g b KX E (mA b KX s.heap.size)) args s 2 12 (mA b KX s.heap.size)) (F0 m 72 ls [])) (r0 : Nat) (kr0 : KX r0 = (0, 9, 0)) (x1 : Int) (ox1 : okI x1) (x2 : Int) (ox2 : okI x2) (x3 : Int) (ox3 : okI x3) (S : mSt) (H : Heap) (locs : List Loc) (ls : Array Slot) (hl : lv_has ls 4 [(0, .ref (b + r0)), (1, .int (mI x1)), (2, .int (mI x2)), (3, .int (mI x3))]) (hW : mW g b KX S H) (hS : va_S (mA b KX s.heap.size) s.heap H locs) (h : w_X11_tide_31b N Q E ko31 ko72 r0 x1 x2 x3 S) : W p l e { frames := 7, cells := 2, slots := 12, locals := 142 } s m args below meth c H locs 2 12 (vx_MQ below (mQi g b KX Q (mA b KX s.heap.size)) (mEx g b KX E (mA b KX s.heap.size)) args s 2 12 (mA b KX s.heap.size)) (F0 m 31 ls []) := by
  unfold w_X11_tide_31b at h
  refine m_iload_n (pc := 31) C.1 dX11_tide_31 rfl hl 3 rfl ?_
  refine m_bipush (pc := 32) C.1 dX11_tide_32 rfl ?_
  refine m_icmp_gt (pc := 34) (tgt := 72) C.1 ox3 (by decide : okI 40) dX11_tide_34 (by decide) (fun hc => ?_) (fun hc => ?_)
  · replace h := h.1 hc
    exact hko72  S _ _ _ (lv_sub hl [] rfl) hW hS h
  · replace h := h.2 hc
    refine m_aload_n (pc := 37) C.1 dX11_tide_37 rfl hl 0 rfl ?_
    refine g_9_5 (pc := 38) C hW kr0 q_397 dX11_tide_38 (fun q1 eq1 kq1 => ?_)
    replace h := h q1 eq1
    refine m_aload_n (pc := 41) C.1 dX11_tide_41 rfl hl 0 rfl ?_
    refine g_9_10 (pc := 42) C hW kr0 q_402 dX11_tide_42 ?_
    refine m_callVi (pc := 45) C.1 C.2.2.1 hl.1 C.2.1 hW hS (As := [.ref (b + (r0 + 198))]) (rest := []) (r := q1) (T_X3_allLight C.2.2.2.2.2.2 N q1 kq1 (r0 + 198) (k_9_10 kr0) h) kq1 rfl q_544 q_545 q_546 q_84 q_547 pl_X3_allLight (by decide) (Nat.le_of_ble_eq_true rfl) dX11_tide_45 (fun v2 S2 H locs ov2 h hW2 hS => ?_)
    refine m_iload_n (pc := 48) C.1 dX11_tide_48 rfl hl 1 rfl ?_
    refine m_icmp_lt (pc := 49) (tgt := 54) C.1 ov2 ox1 dX11_tide_49 (by decide) (fun hc => ?_) (fun hc => ?_)
    · replace h := h.1 hc
      refine m_aload_n (pc := 54) C.1 dX11_tide_54 rfl hl 0 rfl ?_
      refine g_9_10 (pc := 55) C hW2 kr0 q_402 dX11_tide_55 ?_
      refine m_aload_n (pc := 58) C.1 dX11_tide_58 rfl hl 0 rfl ?_
      refine g_9_5 (pc := 59) C hW2 kr0 q_397 dX11_tide_59 (fun q3 eq3 kq3 => ?_)
      replace h := h q3 eq3
      refine m_iload_n (pc := 62) C.1 dX11_tide_62 rfl hl 2 rfl ?_
      refine m_callVv (pc := 63) C.1 C.2.2.1 hl.1 C.2.1 hW2 hS (As := [.ref (b + q3), .int (mI x2)]) (rest := []) (r := (r0 + 198)) (T_X5_goAhead C.2.2.2.2.2.2 N (r0 + 198) (k_9_10 kr0) q3 kq3 x2 ox2 h) (k_9_10 kr0) rfl q_1274 q_1275 q_1276 q_83 q_1277 pl_X5_goAhead (by decide) (Nat.le_of_ble_eq_true rfl) dX11_tide_63 (fun S4 H locs h hW4 hS => ?_)
      refine m_iinc (pc := 66) C.1 dX11_tide_66 hl (by decide) (q0 := 3) rfl (fun v => [(3, .int v), (0, .ref (b + r0)), (1, .int (mI x1)), (2, .int (mI x2))]) (fun _ => rfl) (fun v5 ls ev5 ov5 hl => ?_)
      replace h := h v5 ev5
      refine m_goto (pc := 69) (tgt := 31) C.1 dX11_tide_69 (by decide) ?_
      exact hko31 r0 kr0 x1 ox1 x2 ox2 v5 ov5 S4 _ _ _ (lv_sub hl [1, 2, 3, 0] rfl) hW4 hS h
    · replace h := h.2 hc
      refine m_iload_n (pc := 52) C.1 dX11_tide_52 rfl hl 3 rfl ?_
      exact m_iret (pc := 53) C.1 C.2.2.2.1 C.2.2.2.2.1 hW2 hS ox3 h (by decide) (by decide) dX11_tide_53
def w_X11_tide_31 (N : Nat) (Q : mSt → Int → Prop) (E : String → mSt → Prop) (ko72 : mSt → Prop) : Nat → Nat → Int → Int → Int → mSt → Prop
  | 0 => fun _ _ _ _ _ => False
  | k + 1 => w_X11_tide_31b N Q E (w_X11_tide_31 N Q E ko72 k) ko72
theorem W_X11_tide_31 (C : mC p l s m args meth c cX11_tide "MoonWash" 4 (some FieldType.int) g) (N : Nat) {Q : mSt → Int → Prop} {E : String → mSt → Prop} {ko72 : mSt → Prop} (hko72 : ∀  (S : mSt) (H : Heap) (locs : List Loc) (ls : Array Slot), lv_has ls 4 [] → mW g b KX S H → va_S (mA b KX s.heap.size) s.heap H locs → ko72 S → W p l e { frames := 7, cells := 2, slots := 12, locals := 142 } s m args below meth c H locs 2 12 (vx_MQ below (mQi g b KX Q (mA b KX s.heap.size)) (mEx g b KX E (mA b KX s.heap.size)) args s 2 12 (mA b KX s.heap.size)) (F0 m 72 ls [])) : ∀ (k : Nat) (r0 : Nat) (kr0 : KX r0 = (0, 9, 0)) (x1 : Int) (ox1 : okI x1) (x2 : Int) (ox2 : okI x2) (x3 : Int) (ox3 : okI x3) (S : mSt) (H : Heap) (locs : List Loc) (ls : Array Slot) (hl : lv_has ls 4 [(0, .ref (b + r0)), (1, .int (mI x1)), (2, .int (mI x2)), (3, .int (mI x3))]) (hW : mW g b KX S H) (hS : va_S (mA b KX s.heap.size) s.heap H locs) (h : w_X11_tide_31 N Q E ko72 k r0 x1 x2 x3 S), W p l e { frames := 7, cells := 2, slots := 12, locals := 142 } s m args below meth c H locs 2 12 (vx_MQ below (mQi g b KX Q (mA b KX s.heap.size)) (mEx g b KX E (mA b KX s.heap.size)) args s 2 12 (mA b KX s.heap.size)) (F0 m 31 ls []) := by
  intro k
  induction k with
  | zero => intro r0 kr0 x1 ox1 x2 ox2 x3 ox3 S H locs ls hl hW hS h; exact False.elim h
  | succ k ih => intro r0 kr0 x1 ox1 x2 ox2 x3 ox3 S H locs ls hl hW hS h; exact W_X11_tide_31b C N ih hko72 r0 kr0 x1 ox1 x2 ox2 x3 ox3 S H locs ls hl hW hS h
end
def w_X11_tide (N : Nat) (r0 : Nat) (x1 : Int) (x2 : Int) (S : mSt) (Q : mSt → Int → Prop) (E : String → mSt → Prop) : Prop :=
  w_X11_checkNumber N x1 0 160 S (fun (S1 : mSt) => w_X11_checkNumber N x2 0 9 S1 (fun (S2 : mSt) => ∀ q3 : Nat, (q3 : Int) = S2 r0 3 → w_X5_become N (r0 + 198) (q3 + 1) S2 (fun (S4 : mSt) => ∀ v5 : Int, v5 = 0 → w_X11_tide_31 N Q E (fun  (S_6 : mSt) => Q S_6 (-1)) N r0 x1 x2 v5 S4)) E) E
theorem T_X11_tide {l : Launch} (hl0 : l.stackTraces = false) {g : mG} {b : Nat} (N : Nat) (r0 : Nat) (kr0 : KX r0 = (0, 9, 0)) (x1 : Int) (ox1 : okI x1) (x2 : Int) (ox2 : okI x2) {S : mSt} {Q : mSt → Int → Prop} {E : String → mSt → Prop} (h : w_X11_tide N r0 x1 x2 S Q E) (sz : Nat) : vx_Met l yX11_tide (Cond.code yX11_tide cX11_tide 4 (some FieldType.int) :: wsG) { frames := 7, cells := 2, slots := 12, locals := 142 } (mPc g b KX S [.ref (b + r0), .int (mI x1), .int (mI x2)] sz) (mQi g b KX Q (mA b KX sz)) (mEx g b KX E (mA b KX sz)) 2 12 (mA b KX sz) :=
  m_of (av := [.ref (b + r0), .int (mI x1), .int (mI x2)]) (Qf := fun A => mQi g b KX Q A) (Xf := fun A => mEx g b KX E A) (by decide) (Nat.le_of_ble_eq_true rfl) (fun p e s m args below meth c ls X hK hml hr hlk hout hnm hW hl => by
    have C : mC p l s m args meth c cX11_tide "MoonWash" 4 (some FieldType.int) g := ⟨X, hK, hml, hr, hlk, hout, hl0⟩
    have hS : va_S (mA b KX s.heap.size) s.heap s.heap [] := va_S.rf
    have hl : lv_has ls 4 [(0, .ref (b + r0)), (1, .int (mI x1)), (2, .int (mI x2))] := hl
    unfold w_X11_tide at h
    refine m_iload_n (pc := 0) C.1 dX11_tide_0 rfl hl 1 rfl ?_
    refine m_iconst (pc := 1) C.1 dX11_tide_1 ?_
    refine m_sipush (pc := 2) C.1 dX11_tide_2 rfl ?_
    refine m_callSvx (pc := 5) C.1 C.2.2.1 hl.1 C.2.1 hW hS (As := [.int (mI x1), .int (mI 0), .int (mI 160)]) (rest := []) (T_X11_checkNumber C.2.2.2.2.2.2 N x1 ox1 0 (by decide : okI 0) 160 (by decide : okI 160) h) q_1122 q_1123 q_81 q_1124 pl_X11_checkNumber (by decide) (Nat.le_of_ble_eq_true rfl) dX11_tide_5 (fun En S1 H locs ce q9 hE hW1 hS h1 h2 h3 => m_prop C.2.2.2.2.2.1 C.2.2.2.2.1 hW1 hS hE h1 h2 h3 (by decide) (by decide)) (fun S1 H locs h hW1 hS => ?_)
    refine m_iload_n (pc := 8) C.1 dX11_tide_8 rfl hl 2 rfl ?_
    refine m_iconst (pc := 9) C.1 dX11_tide_9 ?_
    refine m_bipush (pc := 10) C.1 dX11_tide_10 rfl ?_
    refine m_callSvx (pc := 12) C.1 C.2.2.1 hl.1 C.2.1 hW1 hS (As := [.int (mI x2), .int (mI 0), .int (mI 9)]) (rest := []) (T_X11_checkNumber C.2.2.2.2.2.2 N x2 ox2 0 (by decide : okI 0) 9 (by decide : okI 9) h) q_1122 q_1123 q_81 q_1124 pl_X11_checkNumber (by decide) (Nat.le_of_ble_eq_true rfl) dX11_tide_12 (fun En S2 H locs ce q9 hE hW2 hS h1 h2 h3 => m_prop C.2.2.2.2.2.1 C.2.2.2.2.1 hW2 hS hE h1 h2 h3 (by decide) (by decide)) (fun S2 H locs h hW2 hS => ?_)
    refine m_aload_n (pc := 15) C.1 dX11_tide_15 rfl hl 0 rfl ?_
    refine g_9_10 (pc := 16) C hW2 kr0 q_402 dX11_tide_16 ?_
    refine m_aload_n (pc := 19) C.1 dX11_tide_19 rfl hl 0 rfl ?_
    refine g_9_3 (pc := 20) C hW2 kr0 q_395 dX11_tide_20 (fun q3 eq3 kq3 => ?_)
    replace h := h q3 eq3
    refine g_1_0 (pc := 23) C hW2 kq3 q_187 dX11_tide_23 ?_
    refine m_callVv (pc := 26) C.1 C.2.2.1 hl.1 C.2.1 hW2 hS (As := [.ref (b + (q3 + 1))]) (rest := []) (r := (r0 + 198)) (T_X5_become C.2.2.2.2.2.2 N (r0 + 198) (k_9_10 kr0) (q3 + 1) (k_1_0 kq3) h) (k_9_10 kr0) rfl q_1157 q_465 q_466 q_83 q_467 pl_X5_become (by decide) (Nat.le_of_ble_eq_true rfl) dX11_tide_26 (fun S4 H locs h hW4 hS => ?_)
    refine m_iconst (pc := 29) C.1 dX11_tide_29 ?_
    refine m_istore_n (pc := 30) C.1 dX11_tide_30 rfl hl (by decide) (fun v => [(3, .int v), (0, .ref (b + r0)), (1, .int (mI x1)), (2, .int (mI x2))]) (fun _ => rfl) (by decide : okI 0) (fun v5 ls ev5 ov5 hl => ?_)
    replace h := h v5 ev5
    refine W_X11_tide_31 C N ?_ N r0 kr0 x1 ox1 x2 ox2 v5 ov5 S4 _ _ _ (lv_sub hl [1, 2, 3, 0] rfl) hW4 hS h
    · intro S_6 H locs ls hl hW_6 hS h
      refine m_iconst (pc := 72) C.1 dX11_tide_72 ?_
      exact m_iret (pc := 73) C.1 C.2.2.2.1 C.2.2.2.2.1 hW_6 hS (by decide : okI (-1)) h (by decide) (by decide) dX11_tide_73) sz
section
variable {p : Program} {l : Launch} {e : Env} {s : State} {m : MethodId} {args : Array Value} {below : List Frame} {meth : Method} {c : Code} {g : mG} {b : Nat}
def w_X11_duesNotMet_61 (N : Nat) (Q : mSt → Int → Prop) (ko4 : Nat → Int → Int → mSt → Prop) (r0 : Nat) (x1 : Int) (x2 : Int) (S : mSt) : Prop :=
  ∀ v1 : Int, v1 = nm (x2 + 1) → ko4 r0 x1 v1 S
theorem W_X11_duesNotMet_61 (C : mC p l s m args meth c cX11_duesNotMet "MoonWash" 3 (some FieldType.int) g) (N : Nat) {Q : mSt → Int → Prop} {ko4 : Nat → Int → Int → mSt → Prop} (hko4 : ∀ (r0 : Nat) (kr0 : KX r0 = (0, 9, 0)) (x1 : Int) (ox1 : okI x1) (x2 : Int) (ox2 : okI x2) (S : mSt) (H : Heap) (locs : List Loc) (ls : Array Slot), lv_has ls 3 [(0, .ref (b + r0)), (1, .int (mI x1)), (2, .int (mI x2))] → mW g b KX S H → va_S (mA b KX s.heap.size) s.heap H locs → ko4 r0 x1 x2 S → W p l e { frames := 6, cells := 0, slots := 0, locals := 142 } s m args below meth c H locs 0 0 (vx_MQ below (mQi g b KX Q (mA b KX s.heap.size)) (mEx g b KX (fun _ _ => False) (mA b KX s.heap.size)) args s 0 0 (mA b KX s.heap.size)) (F0 m 4 ls [])) (r0 : Nat) (kr0 : KX r0 = (0, 9, 0)) (x1 : Int) (ox1 : okI x1) (x2 : Int) (ox2 : okI x2) (S : mSt) (H : Heap) (locs : List Loc) (ls : Array Slot) (hl : lv_has ls 3 [(0, .ref (b + r0)), (1, .int (mI x1)), (2, .int (mI x2))]) (hW : mW g b KX S H) (hS : va_S (mA b KX s.heap.size) s.heap H locs) (h : w_X11_duesNotMet_61 N Q ko4 r0 x1 x2 S) : W p l e { frames := 6, cells := 0, slots := 0, locals := 142 } s m args below meth c H locs 0 0 (vx_MQ below (mQi g b KX Q (mA b KX s.heap.size)) (mEx g b KX (fun _ _ => False) (mA b KX s.heap.size)) args s 0 0 (mA b KX s.heap.size)) (F0 m 61 ls []) := by
  unfold w_X11_duesNotMet_61 at h
  refine m_iinc (pc := 61) C.1 dX11_duesNotMet_61 hl (by decide) (q0 := 2) rfl (fun v => [(2, .int v), (0, .ref (b + r0)), (1, .int (mI x1))]) (fun _ => rfl) (fun v1 ls ev1 ov1 hl => ?_)
  replace h := h v1 ev1
  refine m_goto (pc := 64) (tgt := 4) C.1 dX11_duesNotMet_64 (by decide) ?_
  exact hko4 r0 kr0 x1 ox1 v1 ov1 S _ _ _ (lv_sub hl [1, 2, 0] rfl) hW hS h
def w_X11_duesNotMet_4b (N : Nat) (Q : mSt → Int → Prop) (ko4 : Nat → Int → Int → mSt → Prop) (ko67 : Int → mSt → Prop) (r0 : Nat) (x1 : Int) (x2 : Int) (S : mSt) : Prop :=
  ∀ q1 : Nat, (q1 : Int) = S r0 3 → (((S q1 4) ≤ x2 → ko67 x1 S) ∧ (x2 < (S q1 4) → ∀ q2 : Nat, (q2 : Int) = S r0 3 → w_X2_dueNight N q2 x2 S (fun (S3 : mSt) (v3 : Int) => ((v3 ≠ (S3 (r0 + 198) 7) → w_X11_duesNotMet_61 N Q ko4 r0 x1 x2 S3) ∧ (v3 = (S3 (r0 + 198) 7) → ∀ q4 : Nat, (q4 : Int) = S3 r0 5 → w_X3_allLight N q4 (r0 + 198) S3 (fun (S5 : mSt) (v5 : Int) => ∀ q6 : Nat, (q6 : Int) = S5 r0 3 → w_X2_dueLight N q6 x2 S5 (fun (S7 : mSt) (v7 : Int) => ((v7 ≤ v5 → w_X11_duesNotMet_61 N Q ko4 r0 x1 x2 S7) ∧ (v5 < v7 → ∀ v8 : Int, v8 = (bOr x1 (bShl 1 x2)) → w_X11_duesNotMet_61 N Q ko4 r0 v8 x2 S7)))))))))
theorem W_X11_duesNotMet_4b (C : mC p l s m args meth c cX11_duesNotMet "MoonWash" 3 (some FieldType.int) g) (N : Nat) {Q : mSt → Int → Prop} {ko4 : Nat → Int → Int → mSt → Prop} {ko67 : Int → mSt → Prop} (hko4 : ∀ (r0 : Nat) (kr0 : KX r0 = (0, 9, 0)) (x1 : Int) (ox1 : okI x1) (x2 : Int) (ox2 : okI x2) (S : mSt) (H : Heap) (locs : List Loc) (ls : Array Slot), lv_has ls 3 [(0, .ref (b + r0)), (1, .int (mI x1)), (2, .int (mI x2))] → mW g b KX S H → va_S (mA b KX s.heap.size) s.heap H locs → ko4 r0 x1 x2 S → W p l e { frames := 6, cells := 0, slots := 0, locals := 142 } s m args below meth c H locs 0 0 (vx_MQ below (mQi g b KX Q (mA b KX s.heap.size)) (mEx g b KX (fun _ _ => False) (mA b KX s.heap.size)) args s 0 0 (mA b KX s.heap.size)) (F0 m 4 ls [])) (hko67 : ∀ (x1 : Int) (ox1 : okI x1) (S : mSt) (H : Heap) (locs : List Loc) (ls : Array Slot), lv_has ls 3 [(1, .int (mI x1))] → mW g b KX S H → va_S (mA b KX s.heap.size) s.heap H locs → ko67 x1 S → W p l e { frames := 6, cells := 0, slots := 0, locals := 142 } s m args below meth c H locs 0 0 (vx_MQ below (mQi g b KX Q (mA b KX s.heap.size)) (mEx g b KX (fun _ _ => False) (mA b KX s.heap.size)) args s 0 0 (mA b KX s.heap.size)) (F0 m 67 ls [])) (r0 : Nat) (kr0 : KX r0 = (0, 9, 0)) (x1 : Int) (ox1 : okI x1) (x2 : Int) (ox2 : okI x2) (S : mSt) (H : Heap) (locs : List Loc) (ls : Array Slot) (hl : lv_has ls 3 [(0, .ref (b + r0)), (1, .int (mI x1)), (2, .int (mI x2))]) (hW : mW g b KX S H) (hS : va_S (mA b KX s.heap.size) s.heap H locs) (h : w_X11_duesNotMet_4b N Q ko4 ko67 r0 x1 x2 S) : W p l e { frames := 6, cells := 0, slots := 0, locals := 142 } s m args below meth c H locs 0 0 (vx_MQ below (mQi g b KX Q (mA b KX s.heap.size)) (mEx g b KX (fun _ _ => False) (mA b KX s.heap.size)) args s 0 0 (mA b KX s.heap.size)) (F0 m 4 ls []) := by
  unfold w_X11_duesNotMet_4b at h
  refine m_iload_n (pc := 4) C.1 dX11_duesNotMet_4 rfl hl 2 rfl ?_
  refine m_aload_n (pc := 5) C.1 dX11_duesNotMet_5 rfl hl 0 rfl ?_
  refine g_9_3 (pc := 6) C hW kr0 q_395 dX11_duesNotMet_6 (fun q1 eq1 kq1 => ?_)
  replace h := h q1 eq1
  refine g_1_4 (pc := 9) C hW kq1 q_196 dX11_duesNotMet_9 ?_
  refine m_icmp_ge (pc := 12) (tgt := 67) C.1 ox2 (hW.2.1 _ _) dX11_duesNotMet_12 (by decide) (fun hc => ?_) (fun hc => ?_)
  · replace h := h.1 hc
    exact hko67 x1 ox1 S _ _ _ (lv_sub hl [1] rfl) hW hS h
  · replace h := h.2 hc
    refine m_aload_n (pc := 15) C.1 dX11_duesNotMet_15 rfl hl 0 rfl ?_
    refine g_9_3 (pc := 16) C hW kr0 q_395 dX11_duesNotMet_16 (fun q2 eq2 kq2 => ?_)
    replace h := h q2 eq2
    refine m_iload_n (pc := 19) C.1 dX11_duesNotMet_19 rfl hl 2 rfl ?_
    refine m_callVi (pc := 20) C.1 C.2.2.1 hl.1 C.2.1 hW hS (As := [.int (mI x2)]) (rest := []) (r := q2) (T_X2_dueNight C.2.2.2.2.2.2 N q2 kq2 x2 ox2 h) kq2 rfl q_1036 q_1037 q_1038 q_82 q_1039 pl_X2_dueNight (by decide) (Nat.le_of_ble_eq_true rfl) dX11_duesNotMet_20 (fun v3 S3 H locs ov3 h hW3 hS => ?_)
    refine m_aload_n (pc := 23) C.1 dX11_duesNotMet_23 rfl hl 0 rfl ?_
    refine g_9_10 (pc := 24) C hW3 kr0 q_402 dX11_duesNotMet_24 ?_
    refine g_3_7 (pc := 27) C hW3 (k_9_10 kr0) q_159 dX11_duesNotMet_27 ?_
    refine m_icmp_ne (pc := 30) (tgt := 61) C.1 ov3 (hW3.2.1 _ _) dX11_duesNotMet_30 (by decide) (fun hc => ?_) (fun hc => ?_)
    · replace h := h.1 hc
      exact W_X11_duesNotMet_61 C N hko4 r0 kr0 x1 ox1 x2 ox2 S3 _ _ _ (lv_sub hl [0, 1, 2] rfl) hW3 hS h
    · replace h := h.2 hc
      refine m_aload_n (pc := 33) C.1 dX11_duesNotMet_33 rfl hl 0 rfl ?_
      refine g_9_5 (pc := 34) C hW3 kr0 q_397 dX11_duesNotMet_34 (fun q4 eq4 kq4 => ?_)
      replace h := h q4 eq4
      refine m_aload_n (pc := 37) C.1 dX11_duesNotMet_37 rfl hl 0 rfl ?_
      refine g_9_10 (pc := 38) C hW3 kr0 q_402 dX11_duesNotMet_38 ?_
      refine m_callVi (pc := 41) C.1 C.2.2.1 hl.1 C.2.1 hW3 hS (As := [.ref (b + (r0 + 198))]) (rest := []) (r := q4) (T_X3_allLight C.2.2.2.2.2.2 N q4 kq4 (r0 + 198) (k_9_10 kr0) h) kq4 rfl q_544 q_545 q_546 q_84 q_547 pl_X3_allLight (by decide) (Nat.le_of_ble_eq_true rfl) dX11_duesNotMet_41 (fun v5 S5 H locs ov5 h hW5 hS => ?_)
      refine m_aload_n (pc := 44) C.1 dX11_duesNotMet_44 rfl hl 0 rfl ?_
      refine g_9_3 (pc := 45) C hW5 kr0 q_395 dX11_duesNotMet_45 (fun q6 eq6 kq6 => ?_)
      replace h := h q6 eq6
      refine m_iload_n (pc := 48) C.1 dX11_duesNotMet_48 rfl hl 2 rfl ?_
      refine m_callVi (pc := 49) C.1 C.2.2.1 hl.1 C.2.1 hW5 hS (As := [.int (mI x2)]) (rest := [.int (mI v5)]) (r := q6) (T_X2_dueLight C.2.2.2.2.2.2 N q6 kq6 x2 ox2 h) kq6 rfl q_1032 q_1033 q_1034 q_82 q_1035 pl_X2_dueLight (by decide) (Nat.le_of_ble_eq_true rfl) dX11_duesNotMet_49 (fun v7 S7 H locs ov7 h hW7 hS => ?_)
      refine m_icmp_ge (pc := 52) (tgt := 61) C.1 ov5 ov7 dX11_duesNotMet_52 (by decide) (fun hc => ?_) (fun hc => ?_)
      · replace h := h.1 hc
        exact W_X11_duesNotMet_61 C N hko4 r0 kr0 x1 ox1 x2 ox2 S7 _ _ _ (lv_sub hl [0, 1, 2] rfl) hW7 hS h
      · replace h := h.2 hc
        refine m_iload_n (pc := 55) C.1 dX11_duesNotMet_55 rfl hl 1 rfl ?_
        refine m_iconst (pc := 56) C.1 dX11_duesNotMet_56 ?_
        refine m_iload_n (pc := 57) C.1 dX11_duesNotMet_57 rfl hl 2 rfl ?_
        refine m_ishl (pc := 58) C.1 dX11_duesNotMet_58 ?_
        refine m_ior (pc := 59) C.1 dX11_duesNotMet_59 ?_
        refine m_istore_n (pc := 60) C.1 dX11_duesNotMet_60 rfl hl (by decide) (fun v => [(1, .int v), (0, .ref (b + r0)), (2, .int (mI x2))]) (fun _ => rfl) (bOr_ok _ _) (fun v8 ls ev8 ov8 hl => ?_)
        replace h := h v8 ev8
        exact W_X11_duesNotMet_61 C N hko4 r0 kr0 v8 ov8 x2 ox2 S7 _ _ _ (lv_sub hl [1, 0, 2] rfl) hW7 hS h
def w_X11_duesNotMet_4 (N : Nat) (Q : mSt → Int → Prop) (ko67 : Int → mSt → Prop) : Nat → Nat → Int → Int → mSt → Prop
  | 0 => fun _ _ _ _ => False
  | k + 1 => w_X11_duesNotMet_4b N Q (w_X11_duesNotMet_4 N Q ko67 k) ko67
theorem W_X11_duesNotMet_4 (C : mC p l s m args meth c cX11_duesNotMet "MoonWash" 3 (some FieldType.int) g) (N : Nat) {Q : mSt → Int → Prop} {ko67 : Int → mSt → Prop} (hko67 : ∀ (x1 : Int) (ox1 : okI x1) (S : mSt) (H : Heap) (locs : List Loc) (ls : Array Slot), lv_has ls 3 [(1, .int (mI x1))] → mW g b KX S H → va_S (mA b KX s.heap.size) s.heap H locs → ko67 x1 S → W p l e { frames := 6, cells := 0, slots := 0, locals := 142 } s m args below meth c H locs 0 0 (vx_MQ below (mQi g b KX Q (mA b KX s.heap.size)) (mEx g b KX (fun _ _ => False) (mA b KX s.heap.size)) args s 0 0 (mA b KX s.heap.size)) (F0 m 67 ls [])) : ∀ (k : Nat) (r0 : Nat) (kr0 : KX r0 = (0, 9, 0)) (x1 : Int) (ox1 : okI x1) (x2 : Int) (ox2 : okI x2) (S : mSt) (H : Heap) (locs : List Loc) (ls : Array Slot) (hl : lv_has ls 3 [(0, .ref (b + r0)), (1, .int (mI x1)), (2, .int (mI x2))]) (hW : mW g b KX S H) (hS : va_S (mA b KX s.heap.size) s.heap H locs) (h : w_X11_duesNotMet_4 N Q ko67 k r0 x1 x2 S), W p l e { frames := 6, cells := 0, slots := 0, locals := 142 } s m args below meth c H locs 0 0 (vx_MQ below (mQi g b KX Q (mA b KX s.heap.size)) (mEx g b KX (fun _ _ => False) (mA b KX s.heap.size)) args s 0 0 (mA b KX s.heap.size)) (F0 m 4 ls []) := by
  intro k
  induction k with
  | zero => intro r0 kr0 x1 ox1 x2 ox2 S H locs ls hl hW hS h; exact False.elim h
  | succ k ih => intro r0 kr0 x1 ox1 x2 ox2 S H locs ls hl hW hS h; exact W_X11_duesNotMet_4b C N ih hko67 r0 kr0 x1 ox1 x2 ox2 S H locs ls hl hW hS h
end
def w_X11_duesNotMet (N : Nat) (r0 : Nat) (S : mSt) (Q : mSt → Int → Prop) : Prop :=
  ∀ v1 : Int, v1 = 0 → ∀ v2 : Int, v2 = 0 → w_X11_duesNotMet_4 N Q (fun (x1_3 : Int) (S_3 : mSt) => Q S_3 x1_3) N r0 v1 v2 S
theorem T_X11_duesNotMet {l : Launch} (hl0 : l.stackTraces = false) {g : mG} {b : Nat} (N : Nat) (r0 : Nat) (kr0 : KX r0 = (0, 9, 0)) {S : mSt} {Q : mSt → Int → Prop} (h : w_X11_duesNotMet N r0 S Q) (sz : Nat) : vx_Met l yX11_duesNotMet (Cond.code yX11_duesNotMet cX11_duesNotMet 3 (some FieldType.int) :: wsG) { frames := 6, cells := 0, slots := 0, locals := 142 } (mPc g b KX S [.ref (b + r0)] sz) (mQi g b KX Q (mA b KX sz)) (mEx g b KX (fun _ _ => False) (mA b KX sz)) 0 0 (mA b KX sz) :=
  m_of (av := [.ref (b + r0)]) (Qf := fun A => mQi g b KX Q A) (Xf := fun A => mEx g b KX (fun _ _ => False) A) (by decide) (Nat.le_of_ble_eq_true rfl) (fun p e s m args below meth c ls X hK hml hr hlk hout hnm hW hl => by
    have C : mC p l s m args meth c cX11_duesNotMet "MoonWash" 3 (some FieldType.int) g := ⟨X, hK, hml, hr, hlk, hout, hl0⟩
    have hS : va_S (mA b KX s.heap.size) s.heap s.heap [] := va_S.rf
    have hl : lv_has ls 3 [(0, .ref (b + r0))] := hl
    unfold w_X11_duesNotMet at h
    refine m_iconst (pc := 0) C.1 dX11_duesNotMet_0 ?_
    refine m_istore_n (pc := 1) C.1 dX11_duesNotMet_1 rfl hl (by decide) (fun v => [(1, .int v), (0, .ref (b + r0))]) (fun _ => rfl) (by decide : okI 0) (fun v1 ls ev1 ov1 hl => ?_)
    replace h := h v1 ev1
    refine m_iconst (pc := 2) C.1 dX11_duesNotMet_2 ?_
    refine m_istore_n (pc := 3) C.1 dX11_duesNotMet_3 rfl hl (by decide) (fun v => [(2, .int v), (1, .int (mI v1)), (0, .ref (b + r0))]) (fun _ => rfl) (by decide : okI 0) (fun v2 ls ev2 ov2 hl => ?_)
    replace h := h v2 ev2
    refine W_X11_duesNotMet_4 C N ?_ N r0 kr0 v1 ov1 v2 ov2 S _ _ _ (lv_sub hl [2, 1, 0] rfl) hW hS h
    · intro x1_3 ox1_3 S_3 H locs ls hl hW_3 hS h
      refine m_iload_n (pc := 67) C.1 dX11_duesNotMet_67 rfl hl 0 rfl ?_
      exact m_iret (pc := 68) C.1 C.2.2.2.1 C.2.2.2.2.1 hW_3 hS ox1_3 h (by decide) (by decide) dX11_duesNotMet_68) sz
section
variable {p : Program} {l : Launch} {e : Env} {s : State} {m : MethodId} {args : Array Value} {below : List Frame} {meth : Method} {c : Code} {g : mG} {b : Nat}
def w_X11_late_25b (N : Nat) (Q : mSt → Int → Prop) (E : String → mSt → Prop) (ko25 : Nat → Int → Int → Int → mSt → Prop) (ko56 : Int → mSt → Prop) (r0 : Nat) (x1 : Int) (x2 : Int) (x3 : Int) (S : mSt) : Prop :=
  ((40 < x3 → ko56 x2 S) ∧ (x3 ≤ 40 → w_X11_duesNotMet N r0 S (fun (S1 : mSt) (v1 : Int) => ∀ v2 : Int, v2 = (bOr x2 v1) → ∀ q3 : Nat, (q3 : Int) = S1 r0 5 → w_X5_goAhead N (r0 + 198) q3 x1 S1 (fun (S4 : mSt) => ∀ v5 : Int, v5 = nm (x3 + 1) → ko25 r0 x1 v2 v5 S4))))
theorem W_X11_late_25b (C : mC p l s m args meth c cX11_late "MoonWash" 4 (some FieldType.int) g) (N : Nat) {Q : mSt → Int → Prop} {E : String → mSt → Prop} {ko25 : Nat → Int → Int → Int → mSt → Prop} {ko56 : Int → mSt → Prop} (hko25 : ∀ (r0 : Nat) (kr0 : KX r0 = (0, 9, 0)) (x1 : Int) (ox1 : okI x1) (x2 : Int) (ox2 : okI x2) (x3 : Int) (ox3 : okI x3) (S : mSt) (H : Heap) (locs : List Loc) (ls : Array Slot), lv_has ls 4 [(0, .ref (b + r0)), (1, .int (mI x1)), (2, .int (mI x2)), (3, .int (mI x3))] → mW g b KX S H → va_S (mA b KX s.heap.size) s.heap H locs → ko25 r0 x1 x2 x3 S → W p l e { frames := 7, cells := 1, slots := 6, locals := 164 } s m args below meth c H locs 1 6 (vx_MQ below (mQi g b KX Q (mA b KX s.heap.size)) (mEx g b KX E (mA b KX s.heap.size)) args s 1 6 (mA b KX s.heap.size)) (F0 m 25 ls [])) (hko56 : ∀ (x2 : Int) (ox2 : okI x2) (S : mSt) (H : Heap) (locs : List Loc) (ls : Array Slot), lv_has ls 4 [(2, .int (mI x2))] → mW g b KX S H → va_S (mA b KX s.heap.size) s.heap H locs → ko56 x2 S → W p l e { frames := 7, cells := 1, slots := 6, locals := 164 } s m args below meth c H locs 1 6 (vx_MQ below (mQi g b KX Q (mA b KX s.heap.size)) (mEx g b KX E (mA b KX s.heap.size)) args s 1 6 (mA b KX s.heap.size)) (F0 m 56 ls [])) (r0 : Nat) (kr0 : KX r0 = (0, 9, 0)) (x1 : Int) (ox1 : okI x1) (x2 : Int) (ox2 : okI x2) (x3 : Int) (ox3 : okI x3) (S : mSt) (H : Heap) (locs : List Loc) (ls : Array Slot) (hl : lv_has ls 4 [(0, .ref (b + r0)), (1, .int (mI x1)), (2, .int (mI x2)), (3, .int (mI x3))]) (hW : mW g b KX S H) (hS : va_S (mA b KX s.heap.size) s.heap H locs) (h : w_X11_late_25b N Q E ko25 ko56 r0 x1 x2 x3 S) : W p l e { frames := 7, cells := 1, slots := 6, locals := 164 } s m args below meth c H locs 1 6 (vx_MQ below (mQi g b KX Q (mA b KX s.heap.size)) (mEx g b KX E (mA b KX s.heap.size)) args s 1 6 (mA b KX s.heap.size)) (F0 m 25 ls []) := by
  unfold w_X11_late_25b at h
  refine m_iload_n (pc := 25) C.1 dX11_late_25 rfl hl 3 rfl ?_
  refine m_bipush (pc := 26) C.1 dX11_late_26 rfl ?_
  refine m_icmp_gt (pc := 28) (tgt := 56) C.1 ox3 (by decide : okI 40) dX11_late_28 (by decide) (fun hc => ?_) (fun hc => ?_)
  · replace h := h.1 hc
    exact hko56 x2 ox2 S _ _ _ (lv_sub hl [2] rfl) hW hS h
  · replace h := h.2 hc
    refine m_iload_n (pc := 31) C.1 dX11_late_31 rfl hl 2 rfl ?_
    refine m_aload_n (pc := 32) C.1 dX11_late_32 rfl hl 0 rfl ?_
    refine m_callVi (pc := 33) C.1 C.2.2.1 hl.1 C.2.1 hW hS (As := []) (rest := [.int (mI x2)]) (r := r0) (T_X11_duesNotMet C.2.2.2.2.2.2 N r0 kr0 h) kr0 rfl q_1314 q_1316 q_20 q_81 q_1317 pl_X11_duesNotMet (by decide) (Nat.le_of_ble_eq_true rfl) dX11_late_33 (fun v1 S1 H locs ov1 h hW1 hS => ?_)
    refine m_ior (pc := 36) C.1 dX11_late_36 ?_
    refine m_istore_n (pc := 37) C.1 dX11_late_37 rfl hl (by decide) (fun v => [(2, .int v), (0, .ref (b + r0)), (1, .int (mI x1)), (3, .int (mI x3))]) (fun _ => rfl) (bOr_ok _ _) (fun v2 ls ev2 ov2 hl => ?_)
    replace h := h v2 ev2
    refine m_aload_n (pc := 38) C.1 dX11_late_38 rfl hl 1 rfl ?_
    refine g_9_10 (pc := 39) C hW1 kr0 q_402 dX11_late_39 ?_
    refine m_aload_n (pc := 42) C.1 dX11_late_42 rfl hl 1 rfl ?_
    refine g_9_5 (pc := 43) C hW1 kr0 q_397 dX11_late_43 (fun q3 eq3 kq3 => ?_)
    replace h := h q3 eq3
    refine m_iload_n (pc := 46) C.1 dX11_late_46 rfl hl 2 rfl ?_
    refine m_callVv (pc := 47) C.1 C.2.2.1 hl.1 C.2.1 hW1 hS (As := [.ref (b + q3), .int (mI x1)]) (rest := []) (r := (r0 + 198)) (T_X5_goAhead C.2.2.2.2.2.2 N (r0 + 198) (k_9_10 kr0) q3 kq3 x1 ox1 h) (k_9_10 kr0) rfl q_1274 q_1275 q_1276 q_83 q_1277 pl_X5_goAhead (by decide) (Nat.le_of_ble_eq_true rfl) dX11_late_47 (fun S4 H locs h hW4 hS => ?_)
    refine m_iinc (pc := 50) C.1 dX11_late_50 hl (by decide) (q0 := 3) rfl (fun v => [(3, .int v), (2, .int (mI v2)), (0, .ref (b + r0)), (1, .int (mI x1))]) (fun _ => rfl) (fun v5 ls ev5 ov5 hl => ?_)
    replace h := h v5 ev5
    refine m_goto (pc := 53) (tgt := 25) C.1 dX11_late_53 (by decide) ?_
    exact hko25 r0 kr0 x1 ox1 v2 ov2 v5 ov5 S4 _ _ _ (lv_sub hl [2, 3, 1, 0] rfl) hW4 hS h
def w_X11_late_25 (N : Nat) (Q : mSt → Int → Prop) (E : String → mSt → Prop) (ko56 : Int → mSt → Prop) : Nat → Nat → Int → Int → Int → mSt → Prop
  | 0 => fun _ _ _ _ _ => False
  | k + 1 => w_X11_late_25b N Q E (w_X11_late_25 N Q E ko56 k) ko56
theorem W_X11_late_25 (C : mC p l s m args meth c cX11_late "MoonWash" 4 (some FieldType.int) g) (N : Nat) {Q : mSt → Int → Prop} {E : String → mSt → Prop} {ko56 : Int → mSt → Prop} (hko56 : ∀ (x2 : Int) (ox2 : okI x2) (S : mSt) (H : Heap) (locs : List Loc) (ls : Array Slot), lv_has ls 4 [(2, .int (mI x2))] → mW g b KX S H → va_S (mA b KX s.heap.size) s.heap H locs → ko56 x2 S → W p l e { frames := 7, cells := 1, slots := 6, locals := 164 } s m args below meth c H locs 1 6 (vx_MQ below (mQi g b KX Q (mA b KX s.heap.size)) (mEx g b KX E (mA b KX s.heap.size)) args s 1 6 (mA b KX s.heap.size)) (F0 m 56 ls [])) : ∀ (k : Nat) (r0 : Nat) (kr0 : KX r0 = (0, 9, 0)) (x1 : Int) (ox1 : okI x1) (x2 : Int) (ox2 : okI x2) (x3 : Int) (ox3 : okI x3) (S : mSt) (H : Heap) (locs : List Loc) (ls : Array Slot) (hl : lv_has ls 4 [(0, .ref (b + r0)), (1, .int (mI x1)), (2, .int (mI x2)), (3, .int (mI x3))]) (hW : mW g b KX S H) (hS : va_S (mA b KX s.heap.size) s.heap H locs) (h : w_X11_late_25 N Q E ko56 k r0 x1 x2 x3 S), W p l e { frames := 7, cells := 1, slots := 6, locals := 164 } s m args below meth c H locs 1 6 (vx_MQ below (mQi g b KX Q (mA b KX s.heap.size)) (mEx g b KX E (mA b KX s.heap.size)) args s 1 6 (mA b KX s.heap.size)) (F0 m 25 ls []) := by
  intro k
  induction k with
  | zero => intro r0 kr0 x1 ox1 x2 ox2 x3 ox3 S H locs ls hl hW hS h; exact False.elim h
  | succ k ih => intro r0 kr0 x1 ox1 x2 ox2 x3 ox3 S H locs ls hl hW hS h; exact W_X11_late_25b C N ih hko56 r0 kr0 x1 ox1 x2 ox2 x3 ox3 S H locs ls hl hW hS h
end
def w_X11_late (N : Nat) (r0 : Nat) (x1 : Int) (S : mSt) (Q : mSt → Int → Prop) (E : String → mSt → Prop) : Prop :=
  w_X11_checkNumber N x1 0 9 S (fun (S1 : mSt) => ∀ q2 : Nat, (q2 : Int) = S1 r0 3 → w_X5_become N (r0 + 198) (q2 + 1) S1 (fun (S3 : mSt) => ∀ v4 : Int, v4 = 0 → ∀ v5 : Int, v5 = 0 → w_X11_late_25 N Q E (fun (x2_6 : Int) (S_6 : mSt) => Q S_6 x2_6) N r0 x1 v4 v5 S3)) E
theorem T_X11_late {l : Launch} (hl0 : l.stackTraces = false) {g : mG} {b : Nat} (N : Nat) (r0 : Nat) (kr0 : KX r0 = (0, 9, 0)) (x1 : Int) (ox1 : okI x1) {S : mSt} {Q : mSt → Int → Prop} {E : String → mSt → Prop} (h : w_X11_late N r0 x1 S Q E) (sz : Nat) : vx_Met l yX11_late (Cond.code yX11_late cX11_late 4 (some FieldType.int) :: wsG) { frames := 7, cells := 1, slots := 6, locals := 164 } (mPc g b KX S [.ref (b + r0), .int (mI x1)] sz) (mQi g b KX Q (mA b KX sz)) (mEx g b KX E (mA b KX sz)) 1 6 (mA b KX sz) :=
  m_of (av := [.ref (b + r0), .int (mI x1)]) (Qf := fun A => mQi g b KX Q A) (Xf := fun A => mEx g b KX E A) (by decide) (Nat.le_of_ble_eq_true rfl) (fun p e s m args below meth c ls X hK hml hr hlk hout hnm hW hl => by
    have C : mC p l s m args meth c cX11_late "MoonWash" 4 (some FieldType.int) g := ⟨X, hK, hml, hr, hlk, hout, hl0⟩
    have hS : va_S (mA b KX s.heap.size) s.heap s.heap [] := va_S.rf
    have hl : lv_has ls 4 [(0, .ref (b + r0)), (1, .int (mI x1))] := hl
    unfold w_X11_late at h
    refine m_iload_n (pc := 0) C.1 dX11_late_0 rfl hl 1 rfl ?_
    refine m_iconst (pc := 1) C.1 dX11_late_1 ?_
    refine m_bipush (pc := 2) C.1 dX11_late_2 rfl ?_
    refine m_callSvx (pc := 4) C.1 C.2.2.1 hl.1 C.2.1 hW hS (As := [.int (mI x1), .int (mI 0), .int (mI 9)]) (rest := []) (T_X11_checkNumber C.2.2.2.2.2.2 N x1 ox1 0 (by decide : okI 0) 9 (by decide : okI 9) h) q_1122 q_1123 q_81 q_1124 pl_X11_checkNumber (by decide) (Nat.le_of_ble_eq_true rfl) dX11_late_4 (fun En S1 H locs ce q9 hE hW1 hS h1 h2 h3 => m_prop C.2.2.2.2.2.1 C.2.2.2.2.1 hW1 hS hE h1 h2 h3 (by decide) (by decide)) (fun S1 H locs h hW1 hS => ?_)
    refine m_aload_n (pc := 7) C.1 dX11_late_7 rfl hl 0 rfl ?_
    refine g_9_10 (pc := 8) C hW1 kr0 q_402 dX11_late_8 ?_
    refine m_aload_n (pc := 11) C.1 dX11_late_11 rfl hl 0 rfl ?_
    refine g_9_3 (pc := 12) C hW1 kr0 q_395 dX11_late_12 (fun q2 eq2 kq2 => ?_)
    replace h := h q2 eq2
    refine g_1_0 (pc := 15) C hW1 kq2 q_187 dX11_late_15 ?_
    refine m_callVv (pc := 18) C.1 C.2.2.1 hl.1 C.2.1 hW1 hS (As := [.ref (b + (q2 + 1))]) (rest := []) (r := (r0 + 198)) (T_X5_become C.2.2.2.2.2.2 N (r0 + 198) (k_9_10 kr0) (q2 + 1) (k_1_0 kq2) h) (k_9_10 kr0) rfl q_1157 q_465 q_466 q_83 q_467 pl_X5_become (by decide) (Nat.le_of_ble_eq_true rfl) dX11_late_18 (fun S3 H locs h hW3 hS => ?_)
    refine m_iconst (pc := 21) C.1 dX11_late_21 ?_
    refine m_istore_n (pc := 22) C.1 dX11_late_22 rfl hl (by decide) (fun v => [(2, .int v), (0, .ref (b + r0)), (1, .int (mI x1))]) (fun _ => rfl) (by decide : okI 0) (fun v4 ls ev4 ov4 hl => ?_)
    replace h := h v4 ev4
    refine m_iconst (pc := 23) C.1 dX11_late_23 ?_
    refine m_istore_n (pc := 24) C.1 dX11_late_24 rfl hl (by decide) (fun v => [(3, .int v), (2, .int (mI v4)), (0, .ref (b + r0)), (1, .int (mI x1))]) (fun _ => rfl) (by decide : okI 0) (fun v5 ls ev5 ov5 hl => ?_)
    replace h := h v5 ev5
    refine W_X11_late_25 C N ?_ N r0 kr0 x1 ox1 v4 ov4 v5 ov5 S3 _ _ _ (lv_sub hl [2, 3, 1, 0] rfl) hW3 hS h
    · intro x2_6 ox2_6 S_6 H locs ls hl hW_6 hS h
      refine m_iload_n (pc := 56) C.1 dX11_late_56 rfl hl 0 rfl ?_
      exact m_iret (pc := 57) C.1 C.2.2.2.1 C.2.2.2.2.1 hW_6 hS ox2_6 h (by decide) (by decide) dX11_late_57) sz
section
variable {p : Program} {l : Launch} {e : Env} {s : State} {m : MethodId} {args : Array Value} {below : List Frame} {meth : Method} {c : Code} {g : mG} {b : Nat}
def w_X11_enough_9b (N : Nat) (Q : mSt → Int → Prop) (E : String → mSt → Prop) (ko9 : Nat → Int → Int → mSt → Prop) (ko44 : mSt → Prop) (r0 : Nat) (x1 : Int) (x2 : Int) (S : mSt) : Prop :=
  ((99 < x2 → ko44 S) ∧ (x2 ≤ 99 → ∀ q1 : Nat, (q1 : Int) = S r0 3 → ∀ q2 : Nat, (q2 : Int) = S r0 3 → (((nm ((S q1 6) + (nm (x2 * (S q2 7))))) < x1 → ∀ v3 : Int, v3 = nm (x2 + 1) → ko9 r0 x1 v3 S) ∧ (x1 ≤ (nm ((S q1 6) + (nm (x2 * (S q2 7))))) → Q S x2))))
theorem W_X11_enough_9b (C : mC p l s m args meth c cX11_enough "MoonWash" 3 (some FieldType.int) g) (N : Nat) {Q : mSt → Int → Prop} {E : String → mSt → Prop} {ko9 : Nat → Int → Int → mSt → Prop} {ko44 : mSt → Prop} (hko9 : ∀ (r0 : Nat) (kr0 : KX r0 = (0, 9, 0)) (x1 : Int) (ox1 : okI x1) (x2 : Int) (ox2 : okI x2) (S : mSt) (H : Heap) (locs : List Loc) (ls : Array Slot), lv_has ls 3 [(0, .ref (b + r0)), (1, .int (mI x1)), (2, .int (mI x2))] → mW g b KX S H → va_S (mA b KX s.heap.size) s.heap H locs → ko9 r0 x1 x2 S → W p l e { frames := 7, cells := 1, slots := 6, locals := 122 } s m args below meth c H locs 1 6 (vx_MQ below (mQi g b KX Q (mA b KX s.heap.size)) (mEx g b KX E (mA b KX s.heap.size)) args s 1 6 (mA b KX s.heap.size)) (F0 m 9 ls [])) (hko44 : ∀  (S : mSt) (H : Heap) (locs : List Loc) (ls : Array Slot), lv_has ls 3 [] → mW g b KX S H → va_S (mA b KX s.heap.size) s.heap H locs → ko44 S → W p l e { frames := 7, cells := 1, slots := 6, locals := 122 } s m args below meth c H locs 1 6 (vx_MQ below (mQi g b KX Q (mA b KX s.heap.size)) (mEx g b KX E (mA b KX s.heap.size)) args s 1 6 (mA b KX s.heap.size)) (F0 m 44 ls [])) (r0 : Nat) (kr0 : KX r0 = (0, 9, 0)) (x1 : Int) (ox1 : okI x1) (x2 : Int) (ox2 : okI x2) (S : mSt) (H : Heap) (locs : List Loc) (ls : Array Slot) (hl : lv_has ls 3 [(0, .ref (b + r0)), (1, .int (mI x1)), (2, .int (mI x2))]) (hW : mW g b KX S H) (hS : va_S (mA b KX s.heap.size) s.heap H locs) (h : w_X11_enough_9b N Q E ko9 ko44 r0 x1 x2 S) : W p l e { frames := 7, cells := 1, slots := 6, locals := 122 } s m args below meth c H locs 1 6 (vx_MQ below (mQi g b KX Q (mA b KX s.heap.size)) (mEx g b KX E (mA b KX s.heap.size)) args s 1 6 (mA b KX s.heap.size)) (F0 m 9 ls []) := by
  unfold w_X11_enough_9b at h
  refine m_iload_n (pc := 9) C.1 dX11_enough_9 rfl hl 2 rfl ?_
  refine m_bipush (pc := 10) C.1 dX11_enough_10 rfl ?_
  refine m_icmp_gt (pc := 12) (tgt := 44) C.1 ox2 (by decide : okI 99) dX11_enough_12 (by decide) (fun hc => ?_) (fun hc => ?_)
  · replace h := h.1 hc
    exact hko44  S _ _ _ (lv_sub hl [] rfl) hW hS h
  · replace h := h.2 hc
    refine m_aload_n (pc := 15) C.1 dX11_enough_15 rfl hl 0 rfl ?_
    refine g_9_3 (pc := 16) C hW kr0 q_395 dX11_enough_16 (fun q1 eq1 kq1 => ?_)
    replace h := h q1 eq1
    refine g_1_6 (pc := 19) C hW kq1 q_201 dX11_enough_19 ?_
    refine m_iload_n (pc := 22) C.1 dX11_enough_22 rfl hl 2 rfl ?_
    refine m_aload_n (pc := 23) C.1 dX11_enough_23 rfl hl 0 rfl ?_
    refine g_9_3 (pc := 24) C hW kr0 q_395 dX11_enough_24 (fun q2 eq2 kq2 => ?_)
    replace h := h q2 eq2
    refine g_1_7 (pc := 27) C hW kq2 q_204 dX11_enough_27 ?_
    refine m_imul (pc := 30) C.1 dX11_enough_30 ?_
    refine m_iadd (pc := 31) C.1 dX11_enough_31 ?_
    refine m_iload_n (pc := 32) C.1 dX11_enough_32 rfl hl 1 rfl ?_
    refine m_icmp_lt (pc := 33) (tgt := 38) C.1 (nm_ok _) ox1 dX11_enough_33 (by decide) (fun hc => ?_) (fun hc => ?_)
    · replace h := h.1 hc
      refine m_iinc (pc := 38) C.1 dX11_enough_38 hl (by decide) (q0 := 2) rfl (fun v => [(2, .int v), (0, .ref (b + r0)), (1, .int (mI x1))]) (fun _ => rfl) (fun v3 ls ev3 ov3 hl => ?_)
      replace h := h v3 ev3
      refine m_goto (pc := 41) (tgt := 9) C.1 dX11_enough_41 (by decide) ?_
      exact hko9 r0 kr0 x1 ox1 v3 ov3 S _ _ _ (lv_sub hl [1, 2, 0] rfl) hW hS h
    · replace h := h.2 hc
      refine m_iload_n (pc := 36) C.1 dX11_enough_36 rfl hl 2 rfl ?_
      exact m_iret (pc := 37) C.1 C.2.2.2.1 C.2.2.2.2.1 hW hS ox2 h (by decide) (by decide) dX11_enough_37
def w_X11_enough_9 (N : Nat) (Q : mSt → Int → Prop) (E : String → mSt → Prop) (ko44 : mSt → Prop) : Nat → Nat → Int → Int → mSt → Prop
  | 0 => fun _ _ _ _ => False
  | k + 1 => w_X11_enough_9b N Q E (w_X11_enough_9 N Q E ko44 k) ko44
theorem W_X11_enough_9 (C : mC p l s m args meth c cX11_enough "MoonWash" 3 (some FieldType.int) g) (N : Nat) {Q : mSt → Int → Prop} {E : String → mSt → Prop} {ko44 : mSt → Prop} (hko44 : ∀  (S : mSt) (H : Heap) (locs : List Loc) (ls : Array Slot), lv_has ls 3 [] → mW g b KX S H → va_S (mA b KX s.heap.size) s.heap H locs → ko44 S → W p l e { frames := 7, cells := 1, slots := 6, locals := 122 } s m args below meth c H locs 1 6 (vx_MQ below (mQi g b KX Q (mA b KX s.heap.size)) (mEx g b KX E (mA b KX s.heap.size)) args s 1 6 (mA b KX s.heap.size)) (F0 m 44 ls [])) : ∀ (k : Nat) (r0 : Nat) (kr0 : KX r0 = (0, 9, 0)) (x1 : Int) (ox1 : okI x1) (x2 : Int) (ox2 : okI x2) (S : mSt) (H : Heap) (locs : List Loc) (ls : Array Slot) (hl : lv_has ls 3 [(0, .ref (b + r0)), (1, .int (mI x1)), (2, .int (mI x2))]) (hW : mW g b KX S H) (hS : va_S (mA b KX s.heap.size) s.heap H locs) (h : w_X11_enough_9 N Q E ko44 k r0 x1 x2 S), W p l e { frames := 7, cells := 1, slots := 6, locals := 122 } s m args below meth c H locs 1 6 (vx_MQ below (mQi g b KX Q (mA b KX s.heap.size)) (mEx g b KX E (mA b KX s.heap.size)) args s 1 6 (mA b KX s.heap.size)) (F0 m 9 ls []) := by
  intro k
  induction k with
  | zero => intro r0 kr0 x1 ox1 x2 ox2 S H locs ls hl hW hS h; exact False.elim h
  | succ k ih => intro r0 kr0 x1 ox1 x2 ox2 S H locs ls hl hW hS h; exact W_X11_enough_9b C N ih hko44 r0 kr0 x1 ox1 x2 ox2 S H locs ls hl hW hS h
end
def w_X11_enough (N : Nat) (r0 : Nat) (x1 : Int) (S : mSt) (Q : mSt → Int → Prop) (E : String → mSt → Prop) : Prop :=
  w_X11_checkNumber N x1 0 99 S (fun (S1 : mSt) => ∀ v2 : Int, v2 = 0 → w_X11_enough_9 N Q E (fun  (S_3 : mSt) => Q S_3 (-1)) N r0 x1 v2 S1) E
theorem T_X11_enough {l : Launch} (hl0 : l.stackTraces = false) {g : mG} {b : Nat} (N : Nat) (r0 : Nat) (kr0 : KX r0 = (0, 9, 0)) (x1 : Int) (ox1 : okI x1) {S : mSt} {Q : mSt → Int → Prop} {E : String → mSt → Prop} (h : w_X11_enough N r0 x1 S Q E) (sz : Nat) : vx_Met l yX11_enough (Cond.code yX11_enough cX11_enough 3 (some FieldType.int) :: wsG) { frames := 7, cells := 1, slots := 6, locals := 122 } (mPc g b KX S [.ref (b + r0), .int (mI x1)] sz) (mQi g b KX Q (mA b KX sz)) (mEx g b KX E (mA b KX sz)) 1 6 (mA b KX sz) :=
  m_of (av := [.ref (b + r0), .int (mI x1)]) (Qf := fun A => mQi g b KX Q A) (Xf := fun A => mEx g b KX E A) (by decide) (Nat.le_of_ble_eq_true rfl) (fun p e s m args below meth c ls X hK hml hr hlk hout hnm hW hl => by
    have C : mC p l s m args meth c cX11_enough "MoonWash" 3 (some FieldType.int) g := ⟨X, hK, hml, hr, hlk, hout, hl0⟩
    have hS : va_S (mA b KX s.heap.size) s.heap s.heap [] := va_S.rf
    have hl : lv_has ls 3 [(0, .ref (b + r0)), (1, .int (mI x1))] := hl
    unfold w_X11_enough at h
    refine m_iload_n (pc := 0) C.1 dX11_enough_0 rfl hl 1 rfl ?_
    refine m_iconst (pc := 1) C.1 dX11_enough_1 ?_
    refine m_bipush (pc := 2) C.1 dX11_enough_2 rfl ?_
    refine m_callSvx (pc := 4) C.1 C.2.2.1 hl.1 C.2.1 hW hS (As := [.int (mI x1), .int (mI 0), .int (mI 99)]) (rest := []) (T_X11_checkNumber C.2.2.2.2.2.2 N x1 ox1 0 (by decide : okI 0) 99 (by decide : okI 99) h) q_1122 q_1123 q_81 q_1124 pl_X11_checkNumber (by decide) (Nat.le_of_ble_eq_true rfl) dX11_enough_4 (fun En S1 H locs ce q9 hE hW1 hS h1 h2 h3 => m_prop C.2.2.2.2.2.1 C.2.2.2.2.1 hW1 hS hE h1 h2 h3 (by decide) (by decide)) (fun S1 H locs h hW1 hS => ?_)
    refine m_iconst (pc := 7) C.1 dX11_enough_7 ?_
    refine m_istore_n (pc := 8) C.1 dX11_enough_8 rfl hl (by decide) (fun v => [(2, .int v), (0, .ref (b + r0)), (1, .int (mI x1))]) (fun _ => rfl) (by decide : okI 0) (fun v2 ls ev2 ov2 hl => ?_)
    replace h := h v2 ev2
    refine W_X11_enough_9 C N ?_ N r0 kr0 x1 ox1 v2 ov2 S1 _ _ _ (lv_sub hl [1, 2, 0] rfl) hW1 hS h
    · intro S_3 H locs ls hl hW_3 hS h
      refine m_iconst (pc := 44) C.1 dX11_enough_44 ?_
      exact m_iret (pc := 45) C.1 C.2.2.2.1 C.2.2.2.2.1 hW_3 hS (by decide : okI (-1)) h (by decide) (by decide) dX11_enough_45) sz
section
variable {p : Program} {l : Launch} {e : Env} {s : State} {m : MethodId} {args : Array Value} {below : List Frame} {meth : Method} {c : Code} {g : mG} {b : Nat}
def w_X11_tryNights_21b (N : Nat) (Q : mSt → Prop) (ko21 : Nat → Int → Int → mSt → Prop) (ko44 : mSt → Prop) (r0 : Nat) (x1 : Int) (x3 : Int) (S : mSt) : Prop :=
  ((x1 ≤ x3 → ko44 S) ∧ (x3 < x1 → ∀ q1 : Nat, (q1 : Int) = S r0 4 → ∀ q2 : Nat, (q2 : Int) = S r0 5 → w_X2_oneNight N q1 q2 S (fun (S3 : mSt) (v3 : Int) => ∀ v4 : Int, v4 = nm (x3 + 1) → ko21 r0 x1 v4 S3)))
theorem W_X11_tryNights_21b (C : mC p l s m args meth c cX11_tryNights "MoonWash" 4 none g) (N : Nat) {Q : mSt → Prop} {ko21 : Nat → Int → Int → mSt → Prop} {ko44 : mSt → Prop} (hko21 : ∀ (r0 : Nat) (kr0 : KX r0 = (0, 9, 0)) (x1 : Int) (ox1 : okI x1) (x3 : Int) (ox3 : okI x3) (S : mSt) (H : Heap) (locs : List Loc) (ls : Array Slot), lv_has ls 4 [(0, .ref (b + r0)), (1, .int (mI x1)), (3, .int (mI x3))] → mW g b KX S H → va_S (mA b KX s.heap.size) s.heap H locs → ko21 r0 x1 x3 S → W p l e { frames := 6, cells := 0, slots := 0, locals := 162 } s m args below meth c H locs 0 0 (vx_MQ below (mQv g b KX Q (mA b KX s.heap.size)) (mEx g b KX (fun _ _ => False) (mA b KX s.heap.size)) args s 0 0 (mA b KX s.heap.size)) (F0 m 21 ls [])) (hko44 : ∀  (S : mSt) (H : Heap) (locs : List Loc) (ls : Array Slot), lv_has ls 4 [] → mW g b KX S H → va_S (mA b KX s.heap.size) s.heap H locs → ko44 S → W p l e { frames := 6, cells := 0, slots := 0, locals := 162 } s m args below meth c H locs 0 0 (vx_MQ below (mQv g b KX Q (mA b KX s.heap.size)) (mEx g b KX (fun _ _ => False) (mA b KX s.heap.size)) args s 0 0 (mA b KX s.heap.size)) (F0 m 44 ls [])) (r0 : Nat) (kr0 : KX r0 = (0, 9, 0)) (x1 : Int) (ox1 : okI x1) (x3 : Int) (ox3 : okI x3) (S : mSt) (H : Heap) (locs : List Loc) (ls : Array Slot) (hl : lv_has ls 4 [(0, .ref (b + r0)), (1, .int (mI x1)), (3, .int (mI x3))]) (hW : mW g b KX S H) (hS : va_S (mA b KX s.heap.size) s.heap H locs) (h : w_X11_tryNights_21b N Q ko21 ko44 r0 x1 x3 S) : W p l e { frames := 6, cells := 0, slots := 0, locals := 162 } s m args below meth c H locs 0 0 (vx_MQ below (mQv g b KX Q (mA b KX s.heap.size)) (mEx g b KX (fun _ _ => False) (mA b KX s.heap.size)) args s 0 0 (mA b KX s.heap.size)) (F0 m 21 ls []) := by
  unfold w_X11_tryNights_21b at h
  refine m_iload_n (pc := 21) C.1 dX11_tryNights_21 rfl hl 2 rfl ?_
  refine m_iload_n (pc := 22) C.1 dX11_tryNights_22 rfl hl 1 rfl ?_
  refine m_icmp_ge (pc := 23) (tgt := 44) C.1 ox3 ox1 dX11_tryNights_23 (by decide) (fun hc => ?_) (fun hc => ?_)
  · replace h := h.1 hc
    exact hko44  S _ _ _ (lv_sub hl [] rfl) hW hS h
  · replace h := h.2 hc
    refine m_aload_n (pc := 26) C.1 dX11_tryNights_26 rfl hl 0 rfl ?_
    refine g_9_4 (pc := 27) C hW kr0 q_396 dX11_tryNights_27 (fun q1 eq1 kq1 => ?_)
    replace h := h q1 eq1
    refine m_aload_n (pc := 30) C.1 dX11_tryNights_30 rfl hl 0 rfl ?_
    refine g_9_5 (pc := 31) C hW kr0 q_397 dX11_tryNights_31 (fun q2 eq2 kq2 => ?_)
    replace h := h q2 eq2
    refine m_callVi (pc := 34) C.1 C.2.2.1 hl.1 C.2.1 hW hS (As := [.ref (b + q2)]) (rest := []) (r := q1) (T_X2_oneNight C.2.2.2.2.2.2 N q1 kq1 q2 kq2 h) kq1 rfl q_1125 q_1126 q_1127 q_82 q_1128 pl_X2_oneNight (by decide) (Nat.le_of_ble_eq_true rfl) dX11_tryNights_34 (fun v3 S3 H locs ov3 h hW3 hS => ?_)
    refine lv_pop (pc := 37) C.1.1 C.1.2.1 dX11_tryNights_37 rfl ?_
    refine m_iinc (pc := 38) C.1 dX11_tryNights_38 hl (by decide) (q0 := 2) rfl (fun v => [(3, .int v), (0, .ref (b + r0)), (1, .int (mI x1))]) (fun _ => rfl) (fun v4 ls ev4 ov4 hl => ?_)
    replace h := h v4 ev4
    refine m_goto (pc := 41) (tgt := 21) C.1 dX11_tryNights_41 (by decide) ?_
    exact hko21 r0 kr0 x1 ox1 v4 ov4 S3 _ _ _ (lv_sub hl [1, 2, 0] rfl) hW3 hS h
def w_X11_tryNights_21 (N : Nat) (Q : mSt → Prop) (ko44 : mSt → Prop) : Nat → Nat → Int → Int → mSt → Prop
  | 0 => fun _ _ _ _ => False
  | k + 1 => w_X11_tryNights_21b N Q (w_X11_tryNights_21 N Q ko44 k) ko44
theorem W_X11_tryNights_21 (C : mC p l s m args meth c cX11_tryNights "MoonWash" 4 none g) (N : Nat) {Q : mSt → Prop} {ko44 : mSt → Prop} (hko44 : ∀  (S : mSt) (H : Heap) (locs : List Loc) (ls : Array Slot), lv_has ls 4 [] → mW g b KX S H → va_S (mA b KX s.heap.size) s.heap H locs → ko44 S → W p l e { frames := 6, cells := 0, slots := 0, locals := 162 } s m args below meth c H locs 0 0 (vx_MQ below (mQv g b KX Q (mA b KX s.heap.size)) (mEx g b KX (fun _ _ => False) (mA b KX s.heap.size)) args s 0 0 (mA b KX s.heap.size)) (F0 m 44 ls [])) : ∀ (k : Nat) (r0 : Nat) (kr0 : KX r0 = (0, 9, 0)) (x1 : Int) (ox1 : okI x1) (x3 : Int) (ox3 : okI x3) (S : mSt) (H : Heap) (locs : List Loc) (ls : Array Slot) (hl : lv_has ls 4 [(0, .ref (b + r0)), (1, .int (mI x1)), (3, .int (mI x3))]) (hW : mW g b KX S H) (hS : va_S (mA b KX s.heap.size) s.heap H locs) (h : w_X11_tryNights_21 N Q ko44 k r0 x1 x3 S), W p l e { frames := 6, cells := 0, slots := 0, locals := 162 } s m args below meth c H locs 0 0 (vx_MQ below (mQv g b KX Q (mA b KX s.heap.size)) (mEx g b KX (fun _ _ => False) (mA b KX s.heap.size)) args s 0 0 (mA b KX s.heap.size)) (F0 m 21 ls []) := by
  intro k
  induction k with
  | zero => intro r0 kr0 x1 ox1 x3 ox3 S H locs ls hl hW hS h; exact False.elim h
  | succ k ih => intro r0 kr0 x1 ox1 x3 ox3 S H locs ls hl hW hS h; exact W_X11_tryNights_21b C N ih hko44 r0 kr0 x1 ox1 x3 ox3 S H locs ls hl hW hS h
end
def w_X11_tryNights (N : Nat) (r0 : Nat) (x1 : Int) (x2 : Int) (S : mSt) (Q : mSt → Prop) : Prop :=
  ∀ q1 : Nat, (q1 : Int) = S r0 4 → ∀ q2 : Nat, (q2 : Int) = S r0 3 → w_X2_become N q1 q2 S (fun (S3 : mSt) => ∀ q4 : Nat, (q4 : Int) = S3 r0 4 → ∀ S5 : mSt, S5 = mup S3 q4 10 x2 → ∀ v6 : Int, v6 = 0 → w_X11_tryNights_21 N Q (fun  (S_7 : mSt) => Q S_7) N r0 x1 v6 S5)
theorem T_X11_tryNights {l : Launch} (hl0 : l.stackTraces = false) {g : mG} {b : Nat} (N : Nat) (r0 : Nat) (kr0 : KX r0 = (0, 9, 0)) (x1 : Int) (ox1 : okI x1) (x2 : Int) (ox2 : okI x2) {S : mSt} {Q : mSt → Prop} (h : w_X11_tryNights N r0 x1 x2 S Q) (sz : Nat) : vx_Met l yX11_tryNights (Cond.code yX11_tryNights cX11_tryNights 4 none :: wsG) { frames := 6, cells := 0, slots := 0, locals := 162 } (mPc g b KX S [.ref (b + r0), .int (mI x1), .int (mI x2)] sz) (mQv g b KX Q (mA b KX sz)) (mEx g b KX (fun _ _ => False) (mA b KX sz)) 0 0 (mA b KX sz) :=
  m_of (av := [.ref (b + r0), .int (mI x1), .int (mI x2)]) (Qf := fun A => mQv g b KX Q A) (Xf := fun A => mEx g b KX (fun _ _ => False) A) (by decide) (Nat.le_of_ble_eq_true rfl) (fun p e s m args below meth c ls X hK hml hr hlk hout hnm hW hl => by
    have C : mC p l s m args meth c cX11_tryNights "MoonWash" 4 none g := ⟨X, hK, hml, hr, hlk, hout, hl0⟩
    have hS : va_S (mA b KX s.heap.size) s.heap s.heap [] := va_S.rf
    have hl : lv_has ls 4 [(0, .ref (b + r0)), (1, .int (mI x1)), (2, .int (mI x2))] := hl
    unfold w_X11_tryNights at h
    refine m_aload_n (pc := 0) C.1 dX11_tryNights_0 rfl hl 0 rfl ?_
    refine g_9_4 (pc := 1) C hW kr0 q_396 dX11_tryNights_1 (fun q1 eq1 kq1 => ?_)
    replace h := h q1 eq1
    refine m_aload_n (pc := 4) C.1 dX11_tryNights_4 rfl hl 0 rfl ?_
    refine g_9_3 (pc := 5) C hW kr0 q_395 dX11_tryNights_5 (fun q2 eq2 kq2 => ?_)
    replace h := h q2 eq2
    refine m_callVv (pc := 8) C.1 C.2.2.1 hl.1 C.2.1 hW hS (As := [.ref (b + q2)]) (rest := []) (r := q1) (T_X2_become C.2.2.2.2.2.2 N q1 kq1 q2 kq2 h) kq1 rfl q_529 q_461 q_462 q_82 q_463 pl_X2_become (by decide) (Nat.le_of_ble_eq_true rfl) dX11_tryNights_8 (fun S3 H locs h hW3 hS => ?_)
    refine m_aload_n (pc := 11) C.1 dX11_tryNights_11 rfl hl 0 rfl ?_
    refine g_9_4 (pc := 12) C hW3 kr0 q_396 dX11_tryNights_12 (fun q4 eq4 kq4 => ?_)
    replace h := h q4 eq4
    refine m_iload_n (pc := 15) C.1 dX11_tryNights_15 rfl hl 2 rfl ?_
    refine p_1_10 (pc := 16) C hW3 hS kq4 q_212 ox2 dX11_tryNights_16 (fun S5 H locs e5 hW5 hS => ?_)
    replace h := h S5 e5
    refine m_iconst (pc := 19) C.1 dX11_tryNights_19 ?_
    refine m_istore_n (pc := 20) C.1 dX11_tryNights_20 rfl hl (by decide) (fun v => [(3, .int v), (0, .ref (b + r0)), (1, .int (mI x1)), (2, .int (mI x2))]) (fun _ => rfl) (by decide : okI 0) (fun v6 ls ev6 ov6 hl => ?_)
    replace h := h v6 ev6
    refine W_X11_tryNights_21 C N ?_ N r0 kr0 x1 ox1 v6 ov6 S5 _ _ _ (lv_sub hl [1, 2, 0] rfl) hW5 hS h
    · intro S_7 H locs ls hl hW_7 hS h
      exact m_vret (pc := 44) C.1 C.2.2.2.1 C.2.2.2.2.1 hW_7 hS h (by decide) (by decide) dX11_tryNights_44) sz
section
variable {p : Program} {l : Launch} {e : Env} {s : State} {m : MethodId} {args : Array Value} {below : List Frame} {meth : Method} {c : Code} {g : mG} {b : Nat}
end
def w_X11_trial (N : Nat) (r0 : Nat) (x1 : Int) (x2 : Int) (S : mSt) (Q : mSt → Int → Prop) (E : String → mSt → Prop) : Prop :=
  w_X11_checkNumber N x1 0 40 S (fun (S1 : mSt) => ∀ q2 : Nat, (q2 : Int) = S1 r0 3 → w_X11_tryNights N r0 x1 (S1 q2 10) S1 (fun (S3 : mSt) => ((x2 = 0 → ∀ q4 : Nat, (q4 : Int) = S3 r0 5 → ∀ q5 : Nat, (q5 : Int) = S3 r0 4 → w_X3_allLight N q4 (q5 + 1) S3 (fun (S6 : mSt) (v6 : Int) => Q S6 v6)) ∧ (x2 ≠ 0 → ∀ q7 : Nat, (q7 : Int) = S3 r0 4 → w_X5_allStains N (q7 + 1) S3 (fun (S8 : mSt) (v8 : Int) => Q S8 v8))))) E
theorem T_X11_trial {l : Launch} (hl0 : l.stackTraces = false) {g : mG} {b : Nat} (N : Nat) (r0 : Nat) (kr0 : KX r0 = (0, 9, 0)) (x1 : Int) (ox1 : okI x1) (x2 : Int) (ox2 : okI x2) {S : mSt} {Q : mSt → Int → Prop} {E : String → mSt → Prop} (h : w_X11_trial N r0 x1 x2 S Q E) (sz : Nat) : vx_Met l yX11_trial (Cond.code yX11_trial cX11_trial 3 (some FieldType.int) :: wsG) { frames := 7, cells := 1, slots := 6, locals := 185 } (mPc g b KX S [.ref (b + r0), .int (mI x1), .int (mI x2)] sz) (mQi g b KX Q (mA b KX sz)) (mEx g b KX E (mA b KX sz)) 1 6 (mA b KX sz) :=
  m_of (av := [.ref (b + r0), .int (mI x1), .int (mI x2)]) (Qf := fun A => mQi g b KX Q A) (Xf := fun A => mEx g b KX E A) (by decide) (Nat.le_of_ble_eq_true rfl) (fun p e s m args below meth c ls X hK hml hr hlk hout hnm hW hl => by
    have C : mC p l s m args meth c cX11_trial "MoonWash" 3 (some FieldType.int) g := ⟨X, hK, hml, hr, hlk, hout, hl0⟩
    have hS : va_S (mA b KX s.heap.size) s.heap s.heap [] := va_S.rf
    have hl : lv_has ls 3 [(0, .ref (b + r0)), (1, .int (mI x1)), (2, .int (mI x2))] := hl
    unfold w_X11_trial at h
    refine m_iload_n (pc := 0) C.1 dX11_trial_0 rfl hl 1 rfl ?_
    refine m_iconst (pc := 1) C.1 dX11_trial_1 ?_
    refine m_bipush (pc := 2) C.1 dX11_trial_2 rfl ?_
    refine m_callSvx (pc := 4) C.1 C.2.2.1 hl.1 C.2.1 hW hS (As := [.int (mI x1), .int (mI 0), .int (mI 40)]) (rest := []) (T_X11_checkNumber C.2.2.2.2.2.2 N x1 ox1 0 (by decide : okI 0) 40 (by decide : okI 40) h) q_1122 q_1123 q_81 q_1124 pl_X11_checkNumber (by decide) (Nat.le_of_ble_eq_true rfl) dX11_trial_4 (fun En S1 H locs ce q9 hE hW1 hS h1 h2 h3 => m_prop C.2.2.2.2.2.1 C.2.2.2.2.1 hW1 hS hE h1 h2 h3 (by decide) (by decide)) (fun S1 H locs h hW1 hS => ?_)
    refine m_aload_n (pc := 7) C.1 dX11_trial_7 rfl hl 0 rfl ?_
    refine m_iload_n (pc := 8) C.1 dX11_trial_8 rfl hl 1 rfl ?_
    refine m_aload_n (pc := 9) C.1 dX11_trial_9 rfl hl 0 rfl ?_
    refine g_9_3 (pc := 10) C hW1 kr0 q_395 dX11_trial_10 (fun q2 eq2 kq2 => ?_)
    replace h := h q2 eq2
    refine g_1_10 (pc := 13) C hW1 kq2 q_212 dX11_trial_13 ?_
    refine m_callVv (pc := 16) C.1 C.2.2.1 hl.1 C.2.1 hW1 hS (As := [.int (mI x1), .int (mI (S1 q2 10))]) (rest := []) (r := r0) (T_X11_tryNights C.2.2.2.2.2.2 N r0 kr0 x1 ox1 (S1 q2 10) (hW1.2.1 _ _) h) kr0 rfl q_1339 q_1341 q_21 q_81 q_1342 pl_X11_tryNights (by decide) (Nat.le_of_ble_eq_true rfl) dX11_trial_16 (fun S3 H locs h hW3 hS => ?_)
    refine m_iload_n (pc := 19) C.1 dX11_trial_19 rfl hl 2 rfl ?_
    refine m_if_eq (pc := 20) (tgt := 36) C.1 ox2 dX11_trial_20 (by decide) (fun hc => ?_) (fun hc => ?_)
    · replace h := h.1 hc
      refine m_aload_n (pc := 36) C.1 dX11_trial_36 rfl hl 0 rfl ?_
      refine g_9_5 (pc := 37) C hW3 kr0 q_397 dX11_trial_37 (fun q4 eq4 kq4 => ?_)
      replace h := h q4 eq4
      refine m_aload_n (pc := 40) C.1 dX11_trial_40 rfl hl 0 rfl ?_
      refine g_9_4 (pc := 41) C hW3 kr0 q_396 dX11_trial_41 (fun q5 eq5 kq5 => ?_)
      replace h := h q5 eq5
      refine g_1_0 (pc := 44) C hW3 kq5 q_187 dX11_trial_44 ?_
      refine m_callVi (pc := 47) C.1 C.2.2.1 hl.1 C.2.1 hW3 hS (As := [.ref (b + (q5 + 1))]) (rest := []) (r := q4) (T_X3_allLight C.2.2.2.2.2.2 N q4 kq4 (q5 + 1) (k_1_0 kq5) h) kq4 rfl q_544 q_545 q_546 q_84 q_547 pl_X3_allLight (by decide) (Nat.le_of_ble_eq_true rfl) dX11_trial_47 (fun v6 S6 H locs ov6 h hW6 hS => ?_)
      exact m_iret (pc := 50) C.1 C.2.2.2.1 C.2.2.2.2.1 hW6 hS ov6 h (by decide) (by decide) dX11_trial_50
    · replace h := h.2 hc
      refine m_aload_n (pc := 23) C.1 dX11_trial_23 rfl hl 0 rfl ?_
      refine g_9_4 (pc := 24) C hW3 kr0 q_396 dX11_trial_24 (fun q7 eq7 kq7 => ?_)
      replace h := h q7 eq7
      refine g_1_0 (pc := 27) C hW3 kq7 q_187 dX11_trial_27 ?_
      refine m_callVi (pc := 30) C.1 C.2.2.1 hl.1 C.2.1 hW3 hS (As := []) (rest := []) (r := (q7 + 1)) (T_X5_allStains C.2.2.2.2.2.2 N (q7 + 1) (k_1_0 kq7) h) (k_1_0 kq7) rfl q_1343 q_1344 q_1345 q_83 q_1346 pl_X5_allStains (by decide) (Nat.le_of_ble_eq_true rfl) dX11_trial_30 (fun v8 S8 H locs ov8 h hW8 hS => ?_)
      refine m_goto (pc := 33) (tgt := 50) C.1 dX11_trial_33 (by decide) ?_
      exact m_iret (pc := 50) C.1 C.2.2.2.1 C.2.2.2.2.1 hW8 hS ov8 h (by decide) (by decide) dX11_trial_50) sz
section
variable {p : Program} {l : Launch} {e : Env} {s : State} {m : MethodId} {args : Array Value} {below : List Frame} {meth : Method} {c : Code} {g : mG} {b : Nat}
def w_X11_span_71 (N : Nat) (Q : mSt → Int → Prop) (E : String → mSt → Prop) (ko22 : Nat → Int → Int → Int → Int → mSt → Prop) (r0 : Nat) (x1 : Int) (x2 : Int) (x4 : Int) (xs0 : Int) (S : mSt) : Prop :=
  ∀ v1 : Int, v1 = xs0 → ∀ v2 : Int, v2 = nm (x4 + 1) → ko22 r0 x1 x2 v1 v2 S
theorem W_X11_span_71 (C : mC p l s m args meth c cX11_span "MoonWash" 6 (some FieldType.int) g) (N : Nat) {Q : mSt → Int → Prop} {E : String → mSt → Prop} {ko22 : Nat → Int → Int → Int → Int → mSt → Prop} (hko22 : ∀ (r0 : Nat) (kr0 : KX r0 = (0, 9, 0)) (x1 : Int) (ox1 : okI x1) (x2 : Int) (ox2 : okI x2) (x3 : Int) (ox3 : okI x3) (x4 : Int) (ox4 : okI x4) (S : mSt) (H : Heap) (locs : List Loc) (ls : Array Slot), lv_has ls 6 [(0, .ref (b + r0)), (1, .int (mI x1)), (2, .int (mI x2)), (3, .int (mI x3)), (4, .int (mI x4))] → mW g b KX S H → va_S (mA b KX s.heap.size) s.heap H locs → ko22 r0 x1 x2 x3 x4 S → W p l e { frames := 7, cells := 1, slots := 6, locals := 185 } s m args below meth c H locs 1 6 (vx_MQ below (mQi g b KX Q (mA b KX s.heap.size)) (mEx g b KX E (mA b KX s.heap.size)) args s 1 6 (mA b KX s.heap.size)) (F0 m 22 ls [])) (r0 : Nat) (kr0 : KX r0 = (0, 9, 0)) (x1 : Int) (ox1 : okI x1) (x2 : Int) (ox2 : okI x2) (x4 : Int) (ox4 : okI x4) (xs0 : Int) (oxs0 : okI xs0) (S : mSt) (H : Heap) (locs : List Loc) (ls : Array Slot) (hl : lv_has ls 6 [(0, .ref (b + r0)), (1, .int (mI x1)), (2, .int (mI x2)), (4, .int (mI x4))]) (hW : mW g b KX S H) (hS : va_S (mA b KX s.heap.size) s.heap H locs) (h : w_X11_span_71 N Q E ko22 r0 x1 x2 x4 xs0 S) : W p l e { frames := 7, cells := 1, slots := 6, locals := 185 } s m args below meth c H locs 1 6 (vx_MQ below (mQi g b KX Q (mA b KX s.heap.size)) (mEx g b KX E (mA b KX s.heap.size)) args s 1 6 (mA b KX s.heap.size)) (F0 m 71 ls [.int (mI xs0)]) := by
  unfold w_X11_span_71 at h
  refine m_istore_n (pc := 71) C.1 dX11_span_71 rfl hl (by decide) (fun v => [(3, .int v), (0, .ref (b + r0)), (1, .int (mI x1)), (2, .int (mI x2)), (4, .int (mI x4))]) (fun _ => rfl) oxs0 (fun v1 ls ev1 ov1 hl => ?_)
  replace h := h v1 ev1
  refine m_iinc (pc := 72) C.1 dX11_span_72 hl (by decide) (q0 := 4) rfl (fun v => [(4, .int v), (3, .int (mI v1)), (0, .ref (b + r0)), (1, .int (mI x1)), (2, .int (mI x2))]) (fun _ => rfl) (fun v2 ls ev2 ov2 hl => ?_)
  replace h := h v2 ev2
  refine m_goto (pc := 75) (tgt := 22) C.1 dX11_span_75 (by decide) ?_
  exact hko22 r0 kr0 x1 ox1 x2 ox2 v1 ov1 v2 ov2 S _ _ _ (lv_sub hl [2, 3, 4, 1, 0] rfl) hW hS h
def w_X11_span_22b (N : Nat) (Q : mSt → Int → Prop) (E : String → mSt → Prop) (ko22 : Nat → Int → Int → Int → Int → mSt → Prop) (ko78 : Int → mSt → Prop) (r0 : Nat) (x1 : Int) (x2 : Int) (x3 : Int) (x4 : Int) (S : mSt) : Prop :=
  ((6 < x4 → ko78 x3 S) ∧ (x4 ≤ 6 → w_X11_tryNights N r0 x1 x4 S (fun (S1 : mSt) => ∀ q2 : Nat, (q2 : Int) = S1 r0 5 → ∀ q3 : Nat, (q3 : Int) = S1 r0 4 → w_X3_allLight N q2 (q3 + 1) S1 (fun (S4 : mSt) (v4 : Int) => ∀ v5 : Int, v5 = v4 → ((x2 = 0 → w_X11_span_71 N Q E ko22 r0 x1 x2 x4 (iMin x3 v5) S4) ∧ (x2 ≠ 0 → w_X11_span_71 N Q E ko22 r0 x1 x2 x4 (iMax x3 v5) S4))))))
theorem W_X11_span_22b (C : mC p l s m args meth c cX11_span "MoonWash" 6 (some FieldType.int) g) (N : Nat) {Q : mSt → Int → Prop} {E : String → mSt → Prop} {ko22 : Nat → Int → Int → Int → Int → mSt → Prop} {ko78 : Int → mSt → Prop} (hko22 : ∀ (r0 : Nat) (kr0 : KX r0 = (0, 9, 0)) (x1 : Int) (ox1 : okI x1) (x2 : Int) (ox2 : okI x2) (x3 : Int) (ox3 : okI x3) (x4 : Int) (ox4 : okI x4) (S : mSt) (H : Heap) (locs : List Loc) (ls : Array Slot), lv_has ls 6 [(0, .ref (b + r0)), (1, .int (mI x1)), (2, .int (mI x2)), (3, .int (mI x3)), (4, .int (mI x4))] → mW g b KX S H → va_S (mA b KX s.heap.size) s.heap H locs → ko22 r0 x1 x2 x3 x4 S → W p l e { frames := 7, cells := 1, slots := 6, locals := 185 } s m args below meth c H locs 1 6 (vx_MQ below (mQi g b KX Q (mA b KX s.heap.size)) (mEx g b KX E (mA b KX s.heap.size)) args s 1 6 (mA b KX s.heap.size)) (F0 m 22 ls [])) (hko78 : ∀ (x3 : Int) (ox3 : okI x3) (S : mSt) (H : Heap) (locs : List Loc) (ls : Array Slot), lv_has ls 6 [(3, .int (mI x3))] → mW g b KX S H → va_S (mA b KX s.heap.size) s.heap H locs → ko78 x3 S → W p l e { frames := 7, cells := 1, slots := 6, locals := 185 } s m args below meth c H locs 1 6 (vx_MQ below (mQi g b KX Q (mA b KX s.heap.size)) (mEx g b KX E (mA b KX s.heap.size)) args s 1 6 (mA b KX s.heap.size)) (F0 m 78 ls [])) (r0 : Nat) (kr0 : KX r0 = (0, 9, 0)) (x1 : Int) (ox1 : okI x1) (x2 : Int) (ox2 : okI x2) (x3 : Int) (ox3 : okI x3) (x4 : Int) (ox4 : okI x4) (S : mSt) (H : Heap) (locs : List Loc) (ls : Array Slot) (hl : lv_has ls 6 [(0, .ref (b + r0)), (1, .int (mI x1)), (2, .int (mI x2)), (3, .int (mI x3)), (4, .int (mI x4))]) (hW : mW g b KX S H) (hS : va_S (mA b KX s.heap.size) s.heap H locs) (h : w_X11_span_22b N Q E ko22 ko78 r0 x1 x2 x3 x4 S) : W p l e { frames := 7, cells := 1, slots := 6, locals := 185 } s m args below meth c H locs 1 6 (vx_MQ below (mQi g b KX Q (mA b KX s.heap.size)) (mEx g b KX E (mA b KX s.heap.size)) args s 1 6 (mA b KX s.heap.size)) (F0 m 22 ls []) := by
  unfold w_X11_span_22b at h
  refine m_iload (pc := 22) C.1 dX11_span_22 hl 4 rfl ?_
  refine m_bipush (pc := 24) C.1 dX11_span_24 rfl ?_
  refine m_icmp_gt (pc := 26) (tgt := 78) C.1 ox4 (by decide : okI 6) dX11_span_26 (by decide) (fun hc => ?_) (fun hc => ?_)
  · replace h := h.1 hc
    exact hko78 x3 ox3 S _ _ _ (lv_sub hl [3] rfl) hW hS h
  · replace h := h.2 hc
    refine m_aload_n (pc := 29) C.1 dX11_span_29 rfl hl 0 rfl ?_
    refine m_iload_n (pc := 30) C.1 dX11_span_30 rfl hl 1 rfl ?_
    refine m_iload (pc := 31) C.1 dX11_span_31 hl 4 rfl ?_
    refine m_callVv (pc := 33) C.1 C.2.2.1 hl.1 C.2.1 hW hS (As := [.int (mI x1), .int (mI x4)]) (rest := []) (r := r0) (T_X11_tryNights C.2.2.2.2.2.2 N r0 kr0 x1 ox1 x4 ox4 h) kr0 rfl q_1339 q_1341 q_21 q_81 q_1342 pl_X11_tryNights (by decide) (Nat.le_of_ble_eq_true rfl) dX11_span_33 (fun S1 H locs h hW1 hS => ?_)
    refine m_aload_n (pc := 36) C.1 dX11_span_36 rfl hl 0 rfl ?_
    refine g_9_5 (pc := 37) C hW1 kr0 q_397 dX11_span_37 (fun q2 eq2 kq2 => ?_)
    replace h := h q2 eq2
    refine m_aload_n (pc := 40) C.1 dX11_span_40 rfl hl 0 rfl ?_
    refine g_9_4 (pc := 41) C hW1 kr0 q_396 dX11_span_41 (fun q3 eq3 kq3 => ?_)
    replace h := h q3 eq3
    refine g_1_0 (pc := 44) C hW1 kq3 q_187 dX11_span_44 ?_
    refine m_callVi (pc := 47) C.1 C.2.2.1 hl.1 C.2.1 hW1 hS (As := [.ref (b + (q3 + 1))]) (rest := []) (r := q2) (T_X3_allLight C.2.2.2.2.2.2 N q2 kq2 (q3 + 1) (k_1_0 kq3) h) kq2 rfl q_544 q_545 q_546 q_84 q_547 pl_X3_allLight (by decide) (Nat.le_of_ble_eq_true rfl) dX11_span_47 (fun v4 S4 H locs ov4 h hW4 hS => ?_)
    refine m_istore (pc := 50) C.1 dX11_span_50 hl (by decide) (fun v => [(5, .int v), (0, .ref (b + r0)), (1, .int (mI x1)), (2, .int (mI x2)), (3, .int (mI x3)), (4, .int (mI x4))]) (fun _ => rfl) ov4 (fun v5 ls ev5 ov5 hl => ?_)
    replace h := h v5 ev5
    refine m_iload_n (pc := 52) C.1 dX11_span_52 rfl hl 3 rfl ?_
    refine m_if_eq (pc := 53) (tgt := 65) C.1 ox2 dX11_span_53 (by decide) (fun hc => ?_) (fun hc => ?_)
    · replace h := h.1 hc
      refine m_iload_n (pc := 65) C.1 dX11_span_65 rfl hl 4 rfl ?_
      refine m_iload (pc := 66) C.1 dX11_span_66 hl 0 rfl ?_
      refine m_min (pc := 68) C.1 C.2.2.1 hl.1 ox3 ov5 q_555 q_520 q_93 q_521 (by refine ⟨?_, Nat.le_of_ble_eq_true rfl, ?_, ?_⟩ <;> decide) dX11_span_68 ?_
      exact W_X11_span_71 C N hko22 r0 kr0 x1 ox1 x2 ox2 x4 ox4 (iMin x3 v5) (iMin_ok ox3 ov5) S4 _ _ _ (lv_sub hl [1, 2, 3, 5] rfl) hW4 hS h
    · replace h := h.2 hc
      refine m_iload_n (pc := 56) C.1 dX11_span_56 rfl hl 4 rfl ?_
      refine m_iload (pc := 57) C.1 dX11_span_57 hl 0 rfl ?_
      refine m_max (pc := 59) C.1 C.2.2.1 hl.1 ox3 ov5 q_554 q_523 q_93 q_524 (by refine ⟨?_, Nat.le_of_ble_eq_true rfl, ?_, ?_⟩ <;> decide) dX11_span_59 ?_
      refine m_goto (pc := 62) (tgt := 71) C.1 dX11_span_62 (by decide) ?_
      exact W_X11_span_71 C N hko22 r0 kr0 x1 ox1 x2 ox2 x4 ox4 (iMax x3 v5) (iMax_ok ox3 ov5) S4 _ _ _ (lv_sub hl [1, 2, 3, 5] rfl) hW4 hS h
def w_X11_span_22 (N : Nat) (Q : mSt → Int → Prop) (E : String → mSt → Prop) (ko78 : Int → mSt → Prop) : Nat → Nat → Int → Int → Int → Int → mSt → Prop
  | 0 => fun _ _ _ _ _ _ => False
  | k + 1 => w_X11_span_22b N Q E (w_X11_span_22 N Q E ko78 k) ko78
theorem W_X11_span_22 (C : mC p l s m args meth c cX11_span "MoonWash" 6 (some FieldType.int) g) (N : Nat) {Q : mSt → Int → Prop} {E : String → mSt → Prop} {ko78 : Int → mSt → Prop} (hko78 : ∀ (x3 : Int) (ox3 : okI x3) (S : mSt) (H : Heap) (locs : List Loc) (ls : Array Slot), lv_has ls 6 [(3, .int (mI x3))] → mW g b KX S H → va_S (mA b KX s.heap.size) s.heap H locs → ko78 x3 S → W p l e { frames := 7, cells := 1, slots := 6, locals := 185 } s m args below meth c H locs 1 6 (vx_MQ below (mQi g b KX Q (mA b KX s.heap.size)) (mEx g b KX E (mA b KX s.heap.size)) args s 1 6 (mA b KX s.heap.size)) (F0 m 78 ls [])) : ∀ (k : Nat) (r0 : Nat) (kr0 : KX r0 = (0, 9, 0)) (x1 : Int) (ox1 : okI x1) (x2 : Int) (ox2 : okI x2) (x3 : Int) (ox3 : okI x3) (x4 : Int) (ox4 : okI x4) (S : mSt) (H : Heap) (locs : List Loc) (ls : Array Slot) (hl : lv_has ls 6 [(0, .ref (b + r0)), (1, .int (mI x1)), (2, .int (mI x2)), (3, .int (mI x3)), (4, .int (mI x4))]) (hW : mW g b KX S H) (hS : va_S (mA b KX s.heap.size) s.heap H locs) (h : w_X11_span_22 N Q E ko78 k r0 x1 x2 x3 x4 S), W p l e { frames := 7, cells := 1, slots := 6, locals := 185 } s m args below meth c H locs 1 6 (vx_MQ below (mQi g b KX Q (mA b KX s.heap.size)) (mEx g b KX E (mA b KX s.heap.size)) args s 1 6 (mA b KX s.heap.size)) (F0 m 22 ls []) := by
  intro k
  induction k with
  | zero => intro r0 kr0 x1 ox1 x2 ox2 x3 ox3 x4 ox4 S H locs ls hl hW hS h; exact False.elim h
  | succ k ih => intro r0 kr0 x1 ox1 x2 ox2 x3 ox3 x4 ox4 S H locs ls hl hW hS h; exact W_X11_span_22b C N ih hko78 r0 kr0 x1 ox1 x2 ox2 x3 ox3 x4 ox4 S H locs ls hl hW hS h
def w_X11_span_18 (N : Nat) (Q : mSt → Int → Prop) (E : String → mSt → Prop)  (r0 : Nat) (x1 : Int) (x2 : Int) (xs0 : Int) (S : mSt) : Prop :=
  ∀ v1 : Int, v1 = xs0 → ∀ v2 : Int, v2 = 1 → w_X11_span_22 N Q E (fun (x3_3 : Int) (S_3 : mSt) => Q S_3 x3_3) N r0 x1 x2 v1 v2 S
theorem W_X11_span_18 (C : mC p l s m args meth c cX11_span "MoonWash" 6 (some FieldType.int) g) (N : Nat) {Q : mSt → Int → Prop} {E : String → mSt → Prop}   (r0 : Nat) (kr0 : KX r0 = (0, 9, 0)) (x1 : Int) (ox1 : okI x1) (x2 : Int) (ox2 : okI x2) (xs0 : Int) (oxs0 : okI xs0) (S : mSt) (H : Heap) (locs : List Loc) (ls : Array Slot) (hl : lv_has ls 6 [(0, .ref (b + r0)), (1, .int (mI x1)), (2, .int (mI x2))]) (hW : mW g b KX S H) (hS : va_S (mA b KX s.heap.size) s.heap H locs) (h : w_X11_span_18 N Q E  r0 x1 x2 xs0 S) : W p l e { frames := 7, cells := 1, slots := 6, locals := 185 } s m args below meth c H locs 1 6 (vx_MQ below (mQi g b KX Q (mA b KX s.heap.size)) (mEx g b KX E (mA b KX s.heap.size)) args s 1 6 (mA b KX s.heap.size)) (F0 m 18 ls [.int (mI xs0)]) := by
  unfold w_X11_span_18 at h
  refine m_istore_n (pc := 18) C.1 dX11_span_18 rfl hl (by decide) (fun v => [(3, .int v), (0, .ref (b + r0)), (1, .int (mI x1)), (2, .int (mI x2))]) (fun _ => rfl) oxs0 (fun v1 ls ev1 ov1 hl => ?_)
  replace h := h v1 ev1
  refine m_iconst (pc := 19) C.1 dX11_span_19 ?_
  refine m_istore (pc := 20) C.1 dX11_span_20 hl (by decide) (fun v => [(4, .int v), (3, .int (mI v1)), (0, .ref (b + r0)), (1, .int (mI x1)), (2, .int (mI x2))]) (fun _ => rfl) (by decide : okI 1) (fun v2 ls ev2 ov2 hl => ?_)
  replace h := h v2 ev2
  refine W_X11_span_22 C N ?_ N r0 kr0 x1 ox1 x2 ox2 v1 ov1 v2 ov2 S _ _ _ (lv_sub hl [2, 3, 4, 1, 0] rfl) hW hS h
  · intro x3_3 ox3_3 S_3 H locs ls hl hW_3 hS h
    refine m_iload_n (pc := 78) C.1 dX11_span_78 rfl hl 0 rfl ?_
    exact m_iret (pc := 79) C.1 C.2.2.2.1 C.2.2.2.2.1 hW_3 hS ox3_3 h (by decide) (by decide) dX11_span_79
end
def w_X11_span (N : Nat) (r0 : Nat) (x1 : Int) (x2 : Int) (S : mSt) (Q : mSt → Int → Prop) (E : String → mSt → Prop) : Prop :=
  w_X11_checkNumber N x1 0 40 S (fun (S1 : mSt) => ((x2 = 0 → w_X11_span_18 N Q E  r0 x1 x2 160 S1) ∧ (x2 ≠ 0 → w_X11_span_18 N Q E  r0 x1 x2 0 S1))) E
theorem T_X11_span {l : Launch} (hl0 : l.stackTraces = false) {g : mG} {b : Nat} (N : Nat) (r0 : Nat) (kr0 : KX r0 = (0, 9, 0)) (x1 : Int) (ox1 : okI x1) (x2 : Int) (ox2 : okI x2) {S : mSt} {Q : mSt → Int → Prop} {E : String → mSt → Prop} (h : w_X11_span N r0 x1 x2 S Q E) (sz : Nat) : vx_Met l yX11_span (Cond.code yX11_span cX11_span 6 (some FieldType.int) :: wsG) { frames := 7, cells := 1, slots := 6, locals := 185 } (mPc g b KX S [.ref (b + r0), .int (mI x1), .int (mI x2)] sz) (mQi g b KX Q (mA b KX sz)) (mEx g b KX E (mA b KX sz)) 1 6 (mA b KX sz) :=
  m_of (av := [.ref (b + r0), .int (mI x1), .int (mI x2)]) (Qf := fun A => mQi g b KX Q A) (Xf := fun A => mEx g b KX E A) (by decide) (Nat.le_of_ble_eq_true rfl) (fun p e s m args below meth c ls X hK hml hr hlk hout hnm hW hl => by
    have C : mC p l s m args meth c cX11_span "MoonWash" 6 (some FieldType.int) g := ⟨X, hK, hml, hr, hlk, hout, hl0⟩
    have hS : va_S (mA b KX s.heap.size) s.heap s.heap [] := va_S.rf
    have hl : lv_has ls 6 [(0, .ref (b + r0)), (1, .int (mI x1)), (2, .int (mI x2))] := hl
    unfold w_X11_span at h
    refine m_iload_n (pc := 0) C.1 dX11_span_0 rfl hl 1 rfl ?_
    refine m_iconst (pc := 1) C.1 dX11_span_1 ?_
    refine m_bipush (pc := 2) C.1 dX11_span_2 rfl ?_
    refine m_callSvx (pc := 4) C.1 C.2.2.1 hl.1 C.2.1 hW hS (As := [.int (mI x1), .int (mI 0), .int (mI 40)]) (rest := []) (T_X11_checkNumber C.2.2.2.2.2.2 N x1 ox1 0 (by decide : okI 0) 40 (by decide : okI 40) h) q_1122 q_1123 q_81 q_1124 pl_X11_checkNumber (by decide) (Nat.le_of_ble_eq_true rfl) dX11_span_4 (fun En S1 H locs ce q9 hE hW1 hS h1 h2 h3 => m_prop C.2.2.2.2.2.1 C.2.2.2.2.1 hW1 hS hE h1 h2 h3 (by decide) (by decide)) (fun S1 H locs h hW1 hS => ?_)
    refine m_iload_n (pc := 7) C.1 dX11_span_7 rfl hl 2 rfl ?_
    refine m_if_eq (pc := 8) (tgt := 15) C.1 ox2 dX11_span_8 (by decide) (fun hc => ?_) (fun hc => ?_)
    · replace h := h.1 hc
      refine m_sipush (pc := 15) C.1 dX11_span_15 rfl ?_
      exact W_X11_span_18 C N  r0 kr0 x1 ox1 x2 ox2 160 (by decide : okI 160) S1 _ _ _ (lv_sub hl [0, 1, 2] rfl) hW1 hS h
    · replace h := h.2 hc
      refine m_iconst (pc := 11) C.1 dX11_span_11 ?_
      refine m_goto (pc := 12) (tgt := 18) C.1 dX11_span_12 (by decide) ?_
      exact W_X11_span_18 C N  r0 kr0 x1 ox1 x2 ox2 0 (by decide : okI 0) S1 _ _ _ (lv_sub hl [0, 1, 2] rfl) hW1 hS h) sz
section
variable {p : Program} {l : Launch} {e : Env} {s : State} {m : MethodId} {args : Array Value} {below : List Frame} {meth : Method} {c : Code} {g : mG} {b : Nat}
def w_X11_watch_41 (N : Nat) (Q : mSt → Int → Prop) (ko4 : Nat → Int → Int → mSt → Prop) (r0 : Nat) (x1 : Int) (x2 : Int) (S : mSt) : Prop :=
  ∀ v1 : Int, v1 = nm (x2 + 1) → ko4 r0 x1 v1 S
theorem W_X11_watch_41 (C : mC p l s m args meth c cX11_watch "MoonWash" 5 (some FieldType.int) g) (N : Nat) {Q : mSt → Int → Prop} {ko4 : Nat → Int → Int → mSt → Prop} (hko4 : ∀ (r0 : Nat) (kr0 : KX r0 = (0, 9, 0)) (x1 : Int) (ox1 : okI x1) (x2 : Int) (ox2 : okI x2) (S : mSt) (H : Heap) (locs : List Loc) (ls : Array Slot), lv_has ls 5 [(0, .ref (b + r0)), (1, .int (mI x1)), (2, .int (mI x2))] → mW g b KX S H → va_S (mA b KX s.heap.size) s.heap H locs → ko4 r0 x1 x2 S → W p l e { frames := 1, cells := 0, slots := 0, locals := 21 } s m args below meth c H locs 0 0 (vx_MQ below (mQi g b KX Q (mA b KX s.heap.size)) (mEx g b KX (fun _ _ => False) (mA b KX s.heap.size)) args s 0 0 (mA b KX s.heap.size)) (F0 m 4 ls [])) (r0 : Nat) (kr0 : KX r0 = (0, 9, 0)) (x1 : Int) (ox1 : okI x1) (x2 : Int) (ox2 : okI x2) (S : mSt) (H : Heap) (locs : List Loc) (ls : Array Slot) (hl : lv_has ls 5 [(0, .ref (b + r0)), (1, .int (mI x1)), (2, .int (mI x2))]) (hW : mW g b KX S H) (hS : va_S (mA b KX s.heap.size) s.heap H locs) (h : w_X11_watch_41 N Q ko4 r0 x1 x2 S) : W p l e { frames := 1, cells := 0, slots := 0, locals := 21 } s m args below meth c H locs 0 0 (vx_MQ below (mQi g b KX Q (mA b KX s.heap.size)) (mEx g b KX (fun _ _ => False) (mA b KX s.heap.size)) args s 0 0 (mA b KX s.heap.size)) (F0 m 41 ls []) := by
  unfold w_X11_watch_41 at h
  refine m_iinc (pc := 41) C.1 dX11_watch_41 hl (by decide) (q0 := 2) rfl (fun v => [(2, .int v), (0, .ref (b + r0)), (1, .int (mI x1))]) (fun _ => rfl) (fun v1 ls ev1 ov1 hl => ?_)
  replace h := h v1 ev1
  refine m_goto (pc := 44) (tgt := 4) C.1 dX11_watch_44 (by decide) ?_
  exact hko4 r0 kr0 x1 ox1 v1 ov1 S _ _ _ (lv_sub hl [1, 2, 0] rfl) hW hS h
def w_X11_watch_4b (N : Nat) (Q : mSt → Int → Prop) (ko4 : Nat → Int → Int → mSt → Prop) (ko47 : Int → mSt → Prop) (r0 : Nat) (x1 : Int) (x2 : Int) (S : mSt) : Prop :=
  ((8 ≤ x2 → ko47 x1 S) ∧ (x2 < 8 → ∀ q1 : Nat, (q1 : Int) = S r0 3 → w_X5_isHung N (q1 + 1) x2 S (fun (S2 : mSt) (v2 : Int) => ((v2 = 0 → w_X11_watch_41 N Q ko4 r0 x1 x2 S2) ∧ (v2 ≠ 0 → ∀ q3 : Nat, (q3 : Int) = S2 r0 3 → (0 ≤ x2 ∧ x2 < 8 ∧ ∀ v5 : Int, v5 = (bOr x1 (bShl 1 (S2 ((q3 + 1) + 5) x2))) → w_X11_watch_41 N Q ko4 r0 v5 x2 S2))))))
theorem W_X11_watch_4b (C : mC p l s m args meth c cX11_watch "MoonWash" 5 (some FieldType.int) g) (N : Nat) {Q : mSt → Int → Prop} {ko4 : Nat → Int → Int → mSt → Prop} {ko47 : Int → mSt → Prop} (hko4 : ∀ (r0 : Nat) (kr0 : KX r0 = (0, 9, 0)) (x1 : Int) (ox1 : okI x1) (x2 : Int) (ox2 : okI x2) (S : mSt) (H : Heap) (locs : List Loc) (ls : Array Slot), lv_has ls 5 [(0, .ref (b + r0)), (1, .int (mI x1)), (2, .int (mI x2))] → mW g b KX S H → va_S (mA b KX s.heap.size) s.heap H locs → ko4 r0 x1 x2 S → W p l e { frames := 1, cells := 0, slots := 0, locals := 21 } s m args below meth c H locs 0 0 (vx_MQ below (mQi g b KX Q (mA b KX s.heap.size)) (mEx g b KX (fun _ _ => False) (mA b KX s.heap.size)) args s 0 0 (mA b KX s.heap.size)) (F0 m 4 ls [])) (hko47 : ∀ (x1 : Int) (ox1 : okI x1) (S : mSt) (H : Heap) (locs : List Loc) (ls : Array Slot), lv_has ls 5 [(1, .int (mI x1))] → mW g b KX S H → va_S (mA b KX s.heap.size) s.heap H locs → ko47 x1 S → W p l e { frames := 1, cells := 0, slots := 0, locals := 21 } s m args below meth c H locs 0 0 (vx_MQ below (mQi g b KX Q (mA b KX s.heap.size)) (mEx g b KX (fun _ _ => False) (mA b KX s.heap.size)) args s 0 0 (mA b KX s.heap.size)) (F0 m 47 ls [])) (r0 : Nat) (kr0 : KX r0 = (0, 9, 0)) (x1 : Int) (ox1 : okI x1) (x2 : Int) (ox2 : okI x2) (S : mSt) (H : Heap) (locs : List Loc) (ls : Array Slot) (hl : lv_has ls 5 [(0, .ref (b + r0)), (1, .int (mI x1)), (2, .int (mI x2))]) (hW : mW g b KX S H) (hS : va_S (mA b KX s.heap.size) s.heap H locs) (h : w_X11_watch_4b N Q ko4 ko47 r0 x1 x2 S) : W p l e { frames := 1, cells := 0, slots := 0, locals := 21 } s m args below meth c H locs 0 0 (vx_MQ below (mQi g b KX Q (mA b KX s.heap.size)) (mEx g b KX (fun _ _ => False) (mA b KX s.heap.size)) args s 0 0 (mA b KX s.heap.size)) (F0 m 4 ls []) := by
  unfold w_X11_watch_4b at h
  refine m_iload_n (pc := 4) C.1 dX11_watch_4 rfl hl 2 rfl ?_
  refine m_bipush (pc := 5) C.1 dX11_watch_5 rfl ?_
  refine m_icmp_ge (pc := 7) (tgt := 47) C.1 ox2 (by decide : okI 8) dX11_watch_7 (by decide) (fun hc => ?_) (fun hc => ?_)
  · replace h := h.1 hc
    exact hko47 x1 ox1 S _ _ _ (lv_sub hl [1] rfl) hW hS h
  · replace h := h.2 hc
    refine m_aload_n (pc := 10) C.1 dX11_watch_10 rfl hl 0 rfl ?_
    refine g_9_3 (pc := 11) C hW kr0 q_395 dX11_watch_11 (fun q1 eq1 kq1 => ?_)
    replace h := h q1 eq1
    refine g_1_0 (pc := 14) C hW kq1 q_187 dX11_watch_14 ?_
    refine m_iload_n (pc := 17) C.1 dX11_watch_17 rfl hl 2 rfl ?_
    refine m_callVi (pc := 18) C.1 C.2.2.1 hl.1 C.2.1 hW hS (As := [.int (mI x2)]) (rest := []) (r := (q1 + 1)) (T_X5_isHung C.2.2.2.2.2.2 N (q1 + 1) (k_1_0 kq1) x2 ox2 h) (k_1_0 kq1) rfl q_575 q_491 q_492 q_83 q_493 pl_X5_isHung (by decide) (Nat.le_of_ble_eq_true rfl) dX11_watch_18 (fun v2 S2 H locs ov2 h hW2 hS => ?_)
    refine m_if_eq (pc := 21) (tgt := 41) C.1 ov2 dX11_watch_21 (by decide) (fun hc => ?_) (fun hc => ?_)
    · replace h := h.1 hc
      exact W_X11_watch_41 C N hko4 r0 kr0 x1 ox1 x2 ox2 S2 _ _ _ (lv_sub hl [0, 1, 2] rfl) hW2 hS h
    · replace h := h.2 hc
      refine m_iload_n (pc := 24) C.1 dX11_watch_24 rfl hl 1 rfl ?_
      refine m_iconst (pc := 25) C.1 dX11_watch_25 ?_
      refine m_aload_n (pc := 26) C.1 dX11_watch_26 rfl hl 0 rfl ?_
      refine g_9_3 (pc := 27) C hW2 kr0 q_395 dX11_watch_27 (fun q3 eq3 kq3 => ?_)
      replace h := h q3 eq3
      refine g_1_0 (pc := 30) C hW2 kq3 q_187 dX11_watch_30 ?_
      refine g_3_4 (pc := 33) C hW2 (k_1_0 kq3) q_149 dX11_watch_33 ?_
      refine m_iload_n (pc := 36) C.1 dX11_watch_36 rfl hl 2 rfl ?_
      obtain ⟨hb4a, hb4b, h⟩ := h
      refine m_iald (pc := 37) C.1 C.2.1 hW2 (k_3_4 (k_1_0 kq3)) ox2 hb4a hb4b dX11_watch_37 ?_
      refine m_ishl (pc := 38) C.1 dX11_watch_38 ?_
      refine m_ior (pc := 39) C.1 dX11_watch_39 ?_
      refine m_istore_n (pc := 40) C.1 dX11_watch_40 rfl hl (by decide) (fun v => [(1, .int v), (0, .ref (b + r0)), (2, .int (mI x2))]) (fun _ => rfl) (bOr_ok _ _) (fun v5 ls ev5 ov5 hl => ?_)
      replace h := h v5 ev5
      exact W_X11_watch_41 C N hko4 r0 kr0 v5 ov5 x2 ox2 S2 _ _ _ (lv_sub hl [1, 0, 2] rfl) hW2 hS h
def w_X11_watch_4 (N : Nat) (Q : mSt → Int → Prop) (ko47 : Int → mSt → Prop) : Nat → Nat → Int → Int → mSt → Prop
  | 0 => fun _ _ _ _ => False
  | k + 1 => w_X11_watch_4b N Q (w_X11_watch_4 N Q ko47 k) ko47
theorem W_X11_watch_4 (C : mC p l s m args meth c cX11_watch "MoonWash" 5 (some FieldType.int) g) (N : Nat) {Q : mSt → Int → Prop} {ko47 : Int → mSt → Prop} (hko47 : ∀ (x1 : Int) (ox1 : okI x1) (S : mSt) (H : Heap) (locs : List Loc) (ls : Array Slot), lv_has ls 5 [(1, .int (mI x1))] → mW g b KX S H → va_S (mA b KX s.heap.size) s.heap H locs → ko47 x1 S → W p l e { frames := 1, cells := 0, slots := 0, locals := 21 } s m args below meth c H locs 0 0 (vx_MQ below (mQi g b KX Q (mA b KX s.heap.size)) (mEx g b KX (fun _ _ => False) (mA b KX s.heap.size)) args s 0 0 (mA b KX s.heap.size)) (F0 m 47 ls [])) : ∀ (k : Nat) (r0 : Nat) (kr0 : KX r0 = (0, 9, 0)) (x1 : Int) (ox1 : okI x1) (x2 : Int) (ox2 : okI x2) (S : mSt) (H : Heap) (locs : List Loc) (ls : Array Slot) (hl : lv_has ls 5 [(0, .ref (b + r0)), (1, .int (mI x1)), (2, .int (mI x2))]) (hW : mW g b KX S H) (hS : va_S (mA b KX s.heap.size) s.heap H locs) (h : w_X11_watch_4 N Q ko47 k r0 x1 x2 S), W p l e { frames := 1, cells := 0, slots := 0, locals := 21 } s m args below meth c H locs 0 0 (vx_MQ below (mQi g b KX Q (mA b KX s.heap.size)) (mEx g b KX (fun _ _ => False) (mA b KX s.heap.size)) args s 0 0 (mA b KX s.heap.size)) (F0 m 4 ls []) := by
  intro k
  induction k with
  | zero => intro r0 kr0 x1 ox1 x2 ox2 S H locs ls hl hW hS h; exact False.elim h
  | succ k ih => intro r0 kr0 x1 ox1 x2 ox2 S H locs ls hl hW hS h; exact W_X11_watch_4b C N ih hko47 r0 kr0 x1 ox1 x2 ox2 S H locs ls hl hW hS h
def w_X11_watch_93 (N : Nat) (Q : mSt → Int → Prop) (ko53 : Int → Int → Int → mSt → Prop) (x1 : Int) (x2 : Int) (x3 : Int) (S : mSt) : Prop :=
  ∀ v1 : Int, v1 = nm (x3 + 1) → ko53 x1 x2 v1 S
theorem W_X11_watch_93 (C : mC p l s m args meth c cX11_watch "MoonWash" 5 (some FieldType.int) g) (N : Nat) {Q : mSt → Int → Prop} {ko53 : Int → Int → Int → mSt → Prop} (hko53 : ∀ (x1 : Int) (ox1 : okI x1) (x2 : Int) (ox2 : okI x2) (x3 : Int) (ox3 : okI x3) (S : mSt) (H : Heap) (locs : List Loc) (ls : Array Slot), lv_has ls 5 [(1, .int (mI x1)), (2, .int (mI x2)), (3, .int (mI x3))] → mW g b KX S H → va_S (mA b KX s.heap.size) s.heap H locs → ko53 x1 x2 x3 S → W p l e { frames := 1, cells := 0, slots := 0, locals := 21 } s m args below meth c H locs 0 0 (vx_MQ below (mQi g b KX Q (mA b KX s.heap.size)) (mEx g b KX (fun _ _ => False) (mA b KX s.heap.size)) args s 0 0 (mA b KX s.heap.size)) (F0 m 53 ls [])) (x1 : Int) (ox1 : okI x1) (x2 : Int) (ox2 : okI x2) (x3 : Int) (ox3 : okI x3) (S : mSt) (H : Heap) (locs : List Loc) (ls : Array Slot) (hl : lv_has ls 5 [(1, .int (mI x1)), (2, .int (mI x2)), (3, .int (mI x3))]) (hW : mW g b KX S H) (hS : va_S (mA b KX s.heap.size) s.heap H locs) (h : w_X11_watch_93 N Q ko53 x1 x2 x3 S) : W p l e { frames := 1, cells := 0, slots := 0, locals := 21 } s m args below meth c H locs 0 0 (vx_MQ below (mQi g b KX Q (mA b KX s.heap.size)) (mEx g b KX (fun _ _ => False) (mA b KX s.heap.size)) args s 0 0 (mA b KX s.heap.size)) (F0 m 93 ls []) := by
  unfold w_X11_watch_93 at h
  refine m_iinc (pc := 93) C.1 dX11_watch_93 hl (by decide) (q0 := 2) rfl (fun v => [(3, .int v), (1, .int (mI x1)), (2, .int (mI x2))]) (fun _ => rfl) (fun v1 ls ev1 ov1 hl => ?_)
  replace h := h v1 ev1
  refine m_goto (pc := 96) (tgt := 53) C.1 dX11_watch_96 (by decide) ?_
  exact hko53 x1 ox1 x2 ox2 v1 ov1 S _ _ _ (lv_sub hl [1, 2, 0] rfl) hW hS h
def w_X11_watch_53b (N : Nat) (Q : mSt → Int → Prop) (ko53 : Int → Int → Int → mSt → Prop) (ko99 : Int → mSt → Prop) (x1 : Int) (x2 : Int) (x3 : Int) (S : mSt) : Prop :=
  ((255 < x3 → ko99 x2 S) ∧ (x3 ≤ 255 → ∀ v1 : Int, v1 = (bOr (bOr x3 (bShl x3 1)) (bShr x3 1)) → (((bAnd x1 (bXor v1 (-1))) ≠ 0 → w_X11_watch_93 N Q ko53 x1 x2 x3 S) ∧ ((bAnd x1 (bXor v1 (-1))) = 0 → w_J6_bitCount_0f7a4 N x3 S (fun (S2 : mSt) (v2 : Int) => w_J6_bitCount_0f7a4 N x2 S2 (fun (S3 : mSt) (v3 : Int) => ((v3 ≤ v2 → w_X11_watch_93 N Q ko53 x1 x2 x3 S3) ∧ (v2 < v3 → ∀ v4 : Int, v4 = x3 → w_X11_watch_93 N Q ko53 x1 v4 x3 S3))))))))
theorem W_X11_watch_53b (C : mC p l s m args meth c cX11_watch "MoonWash" 5 (some FieldType.int) g) (N : Nat) {Q : mSt → Int → Prop} {ko53 : Int → Int → Int → mSt → Prop} {ko99 : Int → mSt → Prop} (hko53 : ∀ (x1 : Int) (ox1 : okI x1) (x2 : Int) (ox2 : okI x2) (x3 : Int) (ox3 : okI x3) (S : mSt) (H : Heap) (locs : List Loc) (ls : Array Slot), lv_has ls 5 [(1, .int (mI x1)), (2, .int (mI x2)), (3, .int (mI x3))] → mW g b KX S H → va_S (mA b KX s.heap.size) s.heap H locs → ko53 x1 x2 x3 S → W p l e { frames := 1, cells := 0, slots := 0, locals := 21 } s m args below meth c H locs 0 0 (vx_MQ below (mQi g b KX Q (mA b KX s.heap.size)) (mEx g b KX (fun _ _ => False) (mA b KX s.heap.size)) args s 0 0 (mA b KX s.heap.size)) (F0 m 53 ls [])) (hko99 : ∀ (x2 : Int) (ox2 : okI x2) (S : mSt) (H : Heap) (locs : List Loc) (ls : Array Slot), lv_has ls 5 [(2, .int (mI x2))] → mW g b KX S H → va_S (mA b KX s.heap.size) s.heap H locs → ko99 x2 S → W p l e { frames := 1, cells := 0, slots := 0, locals := 21 } s m args below meth c H locs 0 0 (vx_MQ below (mQi g b KX Q (mA b KX s.heap.size)) (mEx g b KX (fun _ _ => False) (mA b KX s.heap.size)) args s 0 0 (mA b KX s.heap.size)) (F0 m 99 ls [])) (x1 : Int) (ox1 : okI x1) (x2 : Int) (ox2 : okI x2) (x3 : Int) (ox3 : okI x3) (S : mSt) (H : Heap) (locs : List Loc) (ls : Array Slot) (hl : lv_has ls 5 [(1, .int (mI x1)), (2, .int (mI x2)), (3, .int (mI x3))]) (hW : mW g b KX S H) (hS : va_S (mA b KX s.heap.size) s.heap H locs) (h : w_X11_watch_53b N Q ko53 ko99 x1 x2 x3 S) : W p l e { frames := 1, cells := 0, slots := 0, locals := 21 } s m args below meth c H locs 0 0 (vx_MQ below (mQi g b KX Q (mA b KX s.heap.size)) (mEx g b KX (fun _ _ => False) (mA b KX s.heap.size)) args s 0 0 (mA b KX s.heap.size)) (F0 m 53 ls []) := by
  unfold w_X11_watch_53b at h
  refine m_iload_n (pc := 53) C.1 dX11_watch_53 rfl hl 2 rfl ?_
  refine m_sipush (pc := 54) C.1 dX11_watch_54 rfl ?_
  refine m_icmp_gt (pc := 57) (tgt := 99) C.1 ox3 (by decide : okI 255) dX11_watch_57 (by decide) (fun hc => ?_) (fun hc => ?_)
  · replace h := h.1 hc
    exact hko99 x2 ox2 S _ _ _ (lv_sub hl [1] rfl) hW hS h
  · replace h := h.2 hc
    refine m_iload_n (pc := 60) C.1 dX11_watch_60 rfl hl 2 rfl ?_
    refine m_iload_n (pc := 61) C.1 dX11_watch_61 rfl hl 2 rfl ?_
    refine m_iconst (pc := 62) C.1 dX11_watch_62 ?_
    refine m_ishl (pc := 63) C.1 dX11_watch_63 ?_
    refine m_ior (pc := 64) C.1 dX11_watch_64 ?_
    refine m_iload_n (pc := 65) C.1 dX11_watch_65 rfl hl 2 rfl ?_
    refine m_iconst (pc := 66) C.1 dX11_watch_66 ?_
    refine m_ishr (pc := 67) C.1 dX11_watch_67 ?_
    refine m_ior (pc := 68) C.1 dX11_watch_68 ?_
    refine m_istore (pc := 69) C.1 dX11_watch_69 hl (by decide) (fun v => [(4, .int v), (1, .int (mI x1)), (2, .int (mI x2)), (3, .int (mI x3))]) (fun _ => rfl) (bOr_ok _ _) (fun v1 ls ev1 ov1 hl => ?_)
    replace h := h v1 ev1
    refine m_iload_n (pc := 71) C.1 dX11_watch_71 rfl hl 1 rfl ?_
    refine m_iload (pc := 72) C.1 dX11_watch_72 hl 0 rfl ?_
    refine m_iconst (pc := 74) C.1 dX11_watch_74 ?_
    refine m_ixor (pc := 75) C.1 dX11_watch_75 ?_
    refine m_iand (pc := 76) C.1 dX11_watch_76 ?_
    refine m_if_ne (pc := 77) (tgt := 93) C.1 (bAnd_ok _ _) dX11_watch_77 (by decide) (fun hc => ?_) (fun hc => ?_)
    · replace h := h.1 hc
      exact W_X11_watch_93 C N hko53 x1 ox1 x2 ox2 x3 ox3 S _ _ _ (lv_sub hl [1, 2, 3] rfl) hW hS h
    · replace h := h.2 hc
      refine m_iload_n (pc := 80) C.1 dX11_watch_80 rfl hl 3 rfl ?_
      refine m_callSi (pc := 81) C.1 C.2.2.1 hl.1 C.2.1 hW hS (As := [.int (mI x3)]) (rest := []) (T_J6_bitCount_0f7a4 C.2.2.2.2.2.2 N x3 ox3 h) q_576 q_507 q_107 q_508 pl_J6_bitCount_0f7a4 (by decide) (Nat.le_of_ble_eq_true rfl) dX11_watch_81 (fun v2 S2 H locs ov2 h hW2 hS => ?_)
      refine m_iload_n (pc := 84) C.1 dX11_watch_84 rfl hl 2 rfl ?_
      refine m_callSi (pc := 85) C.1 C.2.2.1 hl.1 C.2.1 hW2 hS (As := [.int (mI x2)]) (rest := [.int (mI v2)]) (T_J6_bitCount_0f7a4 C.2.2.2.2.2.2 N x2 ox2 h) q_576 q_507 q_107 q_508 pl_J6_bitCount_0f7a4 (by decide) (Nat.le_of_ble_eq_true rfl) dX11_watch_85 (fun v3 S3 H locs ov3 h hW3 hS => ?_)
      refine m_icmp_ge (pc := 88) (tgt := 93) C.1 ov2 ov3 dX11_watch_88 (by decide) (fun hc => ?_) (fun hc => ?_)
      · replace h := h.1 hc
        exact W_X11_watch_93 C N hko53 x1 ox1 x2 ox2 x3 ox3 S3 _ _ _ (lv_sub hl [1, 2, 3] rfl) hW3 hS h
      · replace h := h.2 hc
        refine m_iload_n (pc := 91) C.1 dX11_watch_91 rfl hl 3 rfl ?_
        refine m_istore_n (pc := 92) C.1 dX11_watch_92 rfl hl (by decide) (fun v => [(2, .int v), (4, .int (mI v1)), (1, .int (mI x1)), (3, .int (mI x3))]) (fun _ => rfl) ox3 (fun v4 ls ev4 ov4 hl => ?_)
        replace h := h v4 ev4
        exact W_X11_watch_93 C N hko53 x1 ox1 v4 ov4 x3 ox3 S3 _ _ _ (lv_sub hl [2, 0, 3] rfl) hW3 hS h
def w_X11_watch_53 (N : Nat) (Q : mSt → Int → Prop) (ko99 : Int → mSt → Prop) : Nat → Int → Int → Int → mSt → Prop
  | 0 => fun _ _ _ _ => False
  | k + 1 => w_X11_watch_53b N Q (w_X11_watch_53 N Q ko99 k) ko99
theorem W_X11_watch_53 (C : mC p l s m args meth c cX11_watch "MoonWash" 5 (some FieldType.int) g) (N : Nat) {Q : mSt → Int → Prop} {ko99 : Int → mSt → Prop} (hko99 : ∀ (x2 : Int) (ox2 : okI x2) (S : mSt) (H : Heap) (locs : List Loc) (ls : Array Slot), lv_has ls 5 [(2, .int (mI x2))] → mW g b KX S H → va_S (mA b KX s.heap.size) s.heap H locs → ko99 x2 S → W p l e { frames := 1, cells := 0, slots := 0, locals := 21 } s m args below meth c H locs 0 0 (vx_MQ below (mQi g b KX Q (mA b KX s.heap.size)) (mEx g b KX (fun _ _ => False) (mA b KX s.heap.size)) args s 0 0 (mA b KX s.heap.size)) (F0 m 99 ls [])) : ∀ (k : Nat) (x1 : Int) (ox1 : okI x1) (x2 : Int) (ox2 : okI x2) (x3 : Int) (ox3 : okI x3) (S : mSt) (H : Heap) (locs : List Loc) (ls : Array Slot) (hl : lv_has ls 5 [(1, .int (mI x1)), (2, .int (mI x2)), (3, .int (mI x3))]) (hW : mW g b KX S H) (hS : va_S (mA b KX s.heap.size) s.heap H locs) (h : w_X11_watch_53 N Q ko99 k x1 x2 x3 S), W p l e { frames := 1, cells := 0, slots := 0, locals := 21 } s m args below meth c H locs 0 0 (vx_MQ below (mQi g b KX Q (mA b KX s.heap.size)) (mEx g b KX (fun _ _ => False) (mA b KX s.heap.size)) args s 0 0 (mA b KX s.heap.size)) (F0 m 53 ls []) := by
  intro k
  induction k with
  | zero => intro x1 ox1 x2 ox2 x3 ox3 S H locs ls hl hW hS h; exact False.elim h
  | succ k ih => intro x1 ox1 x2 ox2 x3 ox3 S H locs ls hl hW hS h; exact W_X11_watch_53b C N ih hko99 x1 ox1 x2 ox2 x3 ox3 S H locs ls hl hW hS h
end
def w_X11_watch (N : Nat) (r0 : Nat) (S : mSt) (Q : mSt → Int → Prop) : Prop :=
  ∀ v1 : Int, v1 = 0 → ∀ v2 : Int, v2 = 0 → w_X11_watch_4 N Q (fun (x1_3 : Int) (S_3 : mSt) => ∀ v4 : Int, v4 = 255 → ∀ v5 : Int, v5 = 0 → w_X11_watch_53 N Q (fun (x2_6 : Int) (S_6 : mSt) => Q S_6 x2_6) N x1_3 v4 v5 S_3) N r0 v1 v2 S
theorem T_X11_watch {l : Launch} (hl0 : l.stackTraces = false) {g : mG} {b : Nat} (N : Nat) (r0 : Nat) (kr0 : KX r0 = (0, 9, 0)) {S : mSt} {Q : mSt → Int → Prop} (h : w_X11_watch N r0 S Q) (sz : Nat) : vx_Met l yX11_watch (Cond.code yX11_watch cX11_watch 5 (some FieldType.int) :: wsG) { frames := 1, cells := 0, slots := 0, locals := 21 } (mPc g b KX S [.ref (b + r0)] sz) (mQi g b KX Q (mA b KX sz)) (mEx g b KX (fun _ _ => False) (mA b KX sz)) 0 0 (mA b KX sz) :=
  m_of (av := [.ref (b + r0)]) (Qf := fun A => mQi g b KX Q A) (Xf := fun A => mEx g b KX (fun _ _ => False) A) (by decide) (Nat.le_of_ble_eq_true rfl) (fun p e s m args below meth c ls X hK hml hr hlk hout hnm hW hl => by
    have C : mC p l s m args meth c cX11_watch "MoonWash" 5 (some FieldType.int) g := ⟨X, hK, hml, hr, hlk, hout, hl0⟩
    have hS : va_S (mA b KX s.heap.size) s.heap s.heap [] := va_S.rf
    have hl : lv_has ls 5 [(0, .ref (b + r0))] := hl
    unfold w_X11_watch at h
    refine m_iconst (pc := 0) C.1 dX11_watch_0 ?_
    refine m_istore_n (pc := 1) C.1 dX11_watch_1 rfl hl (by decide) (fun v => [(1, .int v), (0, .ref (b + r0))]) (fun _ => rfl) (by decide : okI 0) (fun v1 ls ev1 ov1 hl => ?_)
    replace h := h v1 ev1
    refine m_iconst (pc := 2) C.1 dX11_watch_2 ?_
    refine m_istore_n (pc := 3) C.1 dX11_watch_3 rfl hl (by decide) (fun v => [(2, .int v), (1, .int (mI v1)), (0, .ref (b + r0))]) (fun _ => rfl) (by decide : okI 0) (fun v2 ls ev2 ov2 hl => ?_)
    replace h := h v2 ev2
    refine W_X11_watch_4 C N ?_ N r0 kr0 v1 ov1 v2 ov2 S _ _ _ (lv_sub hl [2, 1, 0] rfl) hW hS h
    · intro x1_3 ox1_3 S_3 H locs ls hl hW_3 hS h
      refine m_sipush (pc := 47) C.1 dX11_watch_47 rfl ?_
      refine m_istore_n (pc := 50) C.1 dX11_watch_50 rfl hl (by decide) (fun v => [(2, .int v), (1, .int (mI x1_3))]) (fun _ => rfl) (by decide : okI 255) (fun v4 ls ev4 ov4 hl => ?_)
      replace h := h v4 ev4
      refine m_iconst (pc := 51) C.1 dX11_watch_51 ?_
      refine m_istore_n (pc := 52) C.1 dX11_watch_52 rfl hl (by decide) (fun v => [(3, .int v), (2, .int (mI v4)), (1, .int (mI x1_3))]) (fun _ => rfl) (by decide : okI 0) (fun v5 ls ev5 ov5 hl => ?_)
      replace h := h v5 ev5
      refine W_X11_watch_53 C N ?_ N x1_3 ox1_3 v4 ov4 v5 ov5 S_3 _ _ _ (lv_sub hl [2, 1, 0] rfl) hW_3 hS h
      · intro x2_6 ox2_6 S_6 H locs ls hl hW_6 hS h
        refine m_iload_n (pc := 99) C.1 dX11_watch_99 rfl hl 0 rfl ?_
        exact m_iret (pc := 100) C.1 C.2.2.2.1 C.2.2.2.2.1 hW_6 hS ox2_6 h (by decide) (by decide) dX11_watch_100) sz
section
variable {p : Program} {l : Launch} {e : Env} {s : State} {m : MethodId} {args : Array Value} {below : List Frame} {meth : Method} {c : Code} {g : mG} {b : Nat}
def w_X11_led_54 (N : Nat) (Q : mSt → Int → Prop) (E : String → mSt → Prop) (ko20 : Nat → Int → Int → Int → Int → Int → mSt → Prop) (r0 : Nat) (x1 : Int) (x2 : Int) (x3 : Int) (x4 : Int) (x5 : Int) (S : mSt) : Prop :=
  ∀ v1 : Int, v1 = nm (x5 + (-1)) → ko20 r0 x1 x2 x3 x4 v1 S
theorem W_X11_led_54 (C : mC p l s m args meth c cX11_led "MoonWash" 6 (some FieldType.int) g) (N : Nat) {Q : mSt → Int → Prop} {E : String → mSt → Prop} {ko20 : Nat → Int → Int → Int → Int → Int → mSt → Prop} (hko20 : ∀ (r0 : Nat) (kr0 : KX r0 = (0, 9, 0)) (x1 : Int) (ox1 : okI x1) (x2 : Int) (ox2 : okI x2) (x3 : Int) (ox3 : okI x3) (x4 : Int) (ox4 : okI x4) (x5 : Int) (ox5 : okI x5) (S : mSt) (H : Heap) (locs : List Loc) (ls : Array Slot), lv_has ls 6 [(0, .ref (b + r0)), (1, .int (mI x1)), (2, .int (mI x2)), (3, .int (mI x3)), (4, .int (mI x4)), (5, .int (mI x5))] → mW g b KX S H → va_S (mA b KX s.heap.size) s.heap H locs → ko20 r0 x1 x2 x3 x4 x5 S → W p l e { frames := 7, cells := 1, slots := 6, locals := 120 } s m args below meth c H locs 1 6 (vx_MQ below (mQi g b KX Q (mA b KX s.heap.size)) (mEx g b KX E (mA b KX s.heap.size)) args s 1 6 (mA b KX s.heap.size)) (F0 m 20 ls [])) (r0 : Nat) (kr0 : KX r0 = (0, 9, 0)) (x1 : Int) (ox1 : okI x1) (x2 : Int) (ox2 : okI x2) (x3 : Int) (ox3 : okI x3) (x4 : Int) (ox4 : okI x4) (x5 : Int) (ox5 : okI x5) (S : mSt) (H : Heap) (locs : List Loc) (ls : Array Slot) (hl : lv_has ls 6 [(0, .ref (b + r0)), (1, .int (mI x1)), (2, .int (mI x2)), (3, .int (mI x3)), (4, .int (mI x4)), (5, .int (mI x5))]) (hW : mW g b KX S H) (hS : va_S (mA b KX s.heap.size) s.heap H locs) (h : w_X11_led_54 N Q E ko20 r0 x1 x2 x3 x4 x5 S) : W p l e { frames := 7, cells := 1, slots := 6, locals := 120 } s m args below meth c H locs 1 6 (vx_MQ below (mQi g b KX Q (mA b KX s.heap.size)) (mEx g b KX E (mA b KX s.heap.size)) args s 1 6 (mA b KX s.heap.size)) (F0 m 54 ls []) := by
  unfold w_X11_led_54 at h
  refine m_iinc (pc := 54) C.1 dX11_led_54 hl (by decide) (q0 := 5) rfl (fun v => [(5, .int v), (0, .ref (b + r0)), (1, .int (mI x1)), (2, .int (mI x2)), (3, .int (mI x3)), (4, .int (mI x4))]) (fun _ => rfl) (fun v1 ls ev1 ov1 hl => ?_)
  replace h := h v1 ev1
  refine m_goto (pc := 57) (tgt := 20) C.1 dX11_led_57 (by decide) ?_
  exact hko20 r0 kr0 x1 ox1 x2 ox2 x3 ox3 x4 ox4 v1 ov1 S _ _ _ (lv_sub hl [1, 2, 3, 4, 5, 0] rfl) hW hS h
def w_X11_led_20b (N : Nat) (Q : mSt → Int → Prop) (E : String → mSt → Prop) (ko20 : Nat → Int → Int → Int → Int → Int → mSt → Prop) (ko60 : Int → Int → Int → mSt → Prop) (r0 : Nat) (x1 : Int) (x2 : Int) (x3 : Int) (x4 : Int) (x5 : Int) (S : mSt) : Prop :=
  ((x5 < 0 → ko60 x2 x3 x4 S) ∧ (0 ≤ x5 → ∀ q1 : Nat, (q1 : Int) = S r0 3 → w_X2_logged N q1 x5 1 S (fun (S2 : mSt) (v2 : Int) => ((v2 ≠ x1 → w_X11_led_54 N Q E ko20 r0 x1 x2 x3 x4 x5 S2) ∧ (v2 = x1 → ∀ v3 : Int, v3 = nm (x3 + 1) → ∀ q4 : Nat, (q4 : Int) = S2 r0 3 → w_X2_logged N q4 x5 2 S2 (fun (S5 : mSt) (v5 : Int) => ∀ v6 : Int, v6 = v5 → w_X11_led_54 N Q E ko20 r0 x1 x2 v3 v6 x5 S5))))))
theorem W_X11_led_20b (C : mC p l s m args meth c cX11_led "MoonWash" 6 (some FieldType.int) g) (N : Nat) {Q : mSt → Int → Prop} {E : String → mSt → Prop} {ko20 : Nat → Int → Int → Int → Int → Int → mSt → Prop} {ko60 : Int → Int → Int → mSt → Prop} (hko20 : ∀ (r0 : Nat) (kr0 : KX r0 = (0, 9, 0)) (x1 : Int) (ox1 : okI x1) (x2 : Int) (ox2 : okI x2) (x3 : Int) (ox3 : okI x3) (x4 : Int) (ox4 : okI x4) (x5 : Int) (ox5 : okI x5) (S : mSt) (H : Heap) (locs : List Loc) (ls : Array Slot), lv_has ls 6 [(0, .ref (b + r0)), (1, .int (mI x1)), (2, .int (mI x2)), (3, .int (mI x3)), (4, .int (mI x4)), (5, .int (mI x5))] → mW g b KX S H → va_S (mA b KX s.heap.size) s.heap H locs → ko20 r0 x1 x2 x3 x4 x5 S → W p l e { frames := 7, cells := 1, slots := 6, locals := 120 } s m args below meth c H locs 1 6 (vx_MQ below (mQi g b KX Q (mA b KX s.heap.size)) (mEx g b KX E (mA b KX s.heap.size)) args s 1 6 (mA b KX s.heap.size)) (F0 m 20 ls [])) (hko60 : ∀ (x2 : Int) (ox2 : okI x2) (x3 : Int) (ox3 : okI x3) (x4 : Int) (ox4 : okI x4) (S : mSt) (H : Heap) (locs : List Loc) (ls : Array Slot), lv_has ls 6 [(2, .int (mI x2)), (3, .int (mI x3)), (4, .int (mI x4))] → mW g b KX S H → va_S (mA b KX s.heap.size) s.heap H locs → ko60 x2 x3 x4 S → W p l e { frames := 7, cells := 1, slots := 6, locals := 120 } s m args below meth c H locs 1 6 (vx_MQ below (mQi g b KX Q (mA b KX s.heap.size)) (mEx g b KX E (mA b KX s.heap.size)) args s 1 6 (mA b KX s.heap.size)) (F0 m 60 ls [])) (r0 : Nat) (kr0 : KX r0 = (0, 9, 0)) (x1 : Int) (ox1 : okI x1) (x2 : Int) (ox2 : okI x2) (x3 : Int) (ox3 : okI x3) (x4 : Int) (ox4 : okI x4) (x5 : Int) (ox5 : okI x5) (S : mSt) (H : Heap) (locs : List Loc) (ls : Array Slot) (hl : lv_has ls 6 [(0, .ref (b + r0)), (1, .int (mI x1)), (2, .int (mI x2)), (3, .int (mI x3)), (4, .int (mI x4)), (5, .int (mI x5))]) (hW : mW g b KX S H) (hS : va_S (mA b KX s.heap.size) s.heap H locs) (h : w_X11_led_20b N Q E ko20 ko60 r0 x1 x2 x3 x4 x5 S) : W p l e { frames := 7, cells := 1, slots := 6, locals := 120 } s m args below meth c H locs 1 6 (vx_MQ below (mQi g b KX Q (mA b KX s.heap.size)) (mEx g b KX E (mA b KX s.heap.size)) args s 1 6 (mA b KX s.heap.size)) (F0 m 20 ls []) := by
  unfold w_X11_led_20b at h
  refine m_iload (pc := 20) C.1 dX11_led_20 hl 5 rfl ?_
  refine m_if_lt (pc := 22) (tgt := 60) C.1 ox5 dX11_led_22 (by decide) (fun hc => ?_) (fun hc => ?_)
  · replace h := h.1 hc
    exact hko60 x2 ox2 x3 ox3 x4 ox4 S _ _ _ (lv_sub hl [2, 3, 4] rfl) hW hS h
  · replace h := h.2 hc
    refine m_aload_n (pc := 25) C.1 dX11_led_25 rfl hl 0 rfl ?_
    refine g_9_3 (pc := 26) C hW kr0 q_395 dX11_led_26 (fun q1 eq1 kq1 => ?_)
    replace h := h q1 eq1
    refine m_iload (pc := 29) C.1 dX11_led_29 hl 5 rfl ?_
    refine m_iconst (pc := 31) C.1 dX11_led_31 ?_
    refine m_callVi (pc := 32) C.1 C.2.2.1 hl.1 C.2.1 hW hS (As := [.int (mI x5), .int (mI 1)]) (rest := []) (r := q1) (T_X2_logged C.2.2.2.2.2.2 N q1 kq1 x5 ox5 1 (by decide : okI 1) h) kq1 rfl q_1362 q_1363 q_1364 q_82 q_1365 pl_X2_logged (by decide) (Nat.le_of_ble_eq_true rfl) dX11_led_32 (fun v2 S2 H locs ov2 h hW2 hS => ?_)
    refine m_iload_n (pc := 35) C.1 dX11_led_35 rfl hl 1 rfl ?_
    refine m_icmp_ne (pc := 36) (tgt := 54) C.1 ov2 ox1 dX11_led_36 (by decide) (fun hc => ?_) (fun hc => ?_)
    · replace h := h.1 hc
      exact W_X11_led_54 C N hko20 r0 kr0 x1 ox1 x2 ox2 x3 ox3 x4 ox4 x5 ox5 S2 _ _ _ (lv_sub hl [0, 1, 2, 3, 4, 5] rfl) hW2 hS h
    · replace h := h.2 hc
      refine m_iinc (pc := 39) C.1 dX11_led_39 hl (by decide) (q0 := 3) rfl (fun v => [(3, .int v), (0, .ref (b + r0)), (1, .int (mI x1)), (2, .int (mI x2)), (4, .int (mI x4)), (5, .int (mI x5))]) (fun _ => rfl) (fun v3 ls ev3 ov3 hl => ?_)
      replace h := h v3 ev3
      refine m_aload_n (pc := 42) C.1 dX11_led_42 rfl hl 1 rfl ?_
      refine g_9_3 (pc := 43) C hW2 kr0 q_395 dX11_led_43 (fun q4 eq4 kq4 => ?_)
      replace h := h q4 eq4
      refine m_iload (pc := 46) C.1 dX11_led_46 hl 5 rfl ?_
      refine m_iconst (pc := 48) C.1 dX11_led_48 ?_
      refine m_callVi (pc := 49) C.1 C.2.2.1 hl.1 C.2.1 hW2 hS (As := [.int (mI x5), .int (mI 2)]) (rest := []) (r := q4) (T_X2_logged C.2.2.2.2.2.2 N q4 kq4 x5 ox5 2 (by decide : okI 2) h) kq4 rfl q_1362 q_1363 q_1364 q_82 q_1365 pl_X2_logged (by decide) (Nat.le_of_ble_eq_true rfl) dX11_led_49 (fun v5 S5 H locs ov5 h hW5 hS => ?_)
      refine m_istore (pc := 52) C.1 dX11_led_52 hl (by decide) (fun v => [(4, .int v), (3, .int (mI v3)), (0, .ref (b + r0)), (1, .int (mI x1)), (2, .int (mI x2)), (5, .int (mI x5))]) (fun _ => rfl) ov5 (fun v6 ls ev6 ov6 hl => ?_)
      replace h := h v6 ev6
      exact W_X11_led_54 C N hko20 r0 kr0 x1 ox1 x2 ox2 v3 ov3 v6 ov6 x5 ox5 S5 _ _ _ (lv_sub hl [2, 3, 4, 1, 0, 5] rfl) hW5 hS h
def w_X11_led_20 (N : Nat) (Q : mSt → Int → Prop) (E : String → mSt → Prop) (ko60 : Int → Int → Int → mSt → Prop) : Nat → Nat → Int → Int → Int → Int → Int → mSt → Prop
  | 0 => fun _ _ _ _ _ _ _ => False
  | k + 1 => w_X11_led_20b N Q E (w_X11_led_20 N Q E ko60 k) ko60
theorem W_X11_led_20 (C : mC p l s m args meth c cX11_led "MoonWash" 6 (some FieldType.int) g) (N : Nat) {Q : mSt → Int → Prop} {E : String → mSt → Prop} {ko60 : Int → Int → Int → mSt → Prop} (hko60 : ∀ (x2 : Int) (ox2 : okI x2) (x3 : Int) (ox3 : okI x3) (x4 : Int) (ox4 : okI x4) (S : mSt) (H : Heap) (locs : List Loc) (ls : Array Slot), lv_has ls 6 [(2, .int (mI x2)), (3, .int (mI x3)), (4, .int (mI x4))] → mW g b KX S H → va_S (mA b KX s.heap.size) s.heap H locs → ko60 x2 x3 x4 S → W p l e { frames := 7, cells := 1, slots := 6, locals := 120 } s m args below meth c H locs 1 6 (vx_MQ below (mQi g b KX Q (mA b KX s.heap.size)) (mEx g b KX E (mA b KX s.heap.size)) args s 1 6 (mA b KX s.heap.size)) (F0 m 60 ls [])) : ∀ (k : Nat) (r0 : Nat) (kr0 : KX r0 = (0, 9, 0)) (x1 : Int) (ox1 : okI x1) (x2 : Int) (ox2 : okI x2) (x3 : Int) (ox3 : okI x3) (x4 : Int) (ox4 : okI x4) (x5 : Int) (ox5 : okI x5) (S : mSt) (H : Heap) (locs : List Loc) (ls : Array Slot) (hl : lv_has ls 6 [(0, .ref (b + r0)), (1, .int (mI x1)), (2, .int (mI x2)), (3, .int (mI x3)), (4, .int (mI x4)), (5, .int (mI x5))]) (hW : mW g b KX S H) (hS : va_S (mA b KX s.heap.size) s.heap H locs) (h : w_X11_led_20 N Q E ko60 k r0 x1 x2 x3 x4 x5 S), W p l e { frames := 7, cells := 1, slots := 6, locals := 120 } s m args below meth c H locs 1 6 (vx_MQ below (mQi g b KX Q (mA b KX s.heap.size)) (mEx g b KX E (mA b KX s.heap.size)) args s 1 6 (mA b KX s.heap.size)) (F0 m 20 ls []) := by
  intro k
  induction k with
  | zero => intro r0 kr0 x1 ox1 x2 ox2 x3 ox3 x4 ox4 x5 ox5 S H locs ls hl hW hS h; exact False.elim h
  | succ k ih => intro r0 kr0 x1 ox1 x2 ox2 x3 ox3 x4 ox4 x5 ox5 S H locs ls hl hW hS h; exact W_X11_led_20b C N ih hko60 r0 kr0 x1 ox1 x2 ox2 x3 ox3 x4 ox4 x5 ox5 S H locs ls hl hW hS h
end
def w_X11_led (N : Nat) (r0 : Nat) (x1 : Int) (x2 : Int) (S : mSt) (Q : mSt → Int → Prop) (E : String → mSt → Prop) : Prop :=
  w_X11_checkPart N x1 S (fun (S1 : mSt) => ∀ v2 : Int, v2 = 0 → ∀ v3 : Int, v3 = (-1) → ∀ q4 : Nat, (q4 : Int) = S1 r0 3 → w_X2_logSize N q4 S1 (fun (S5 : mSt) (v5 : Int) => ∀ v6 : Int, v6 = (nm (v5 - 1)) → w_X11_led_20 N Q E (fun (x2_7 : Int) (x3_7 : Int) (x4_7 : Int) (S_7 : mSt) => ((x2_7 = 0 → Q S_7 x3_7) ∧ (x2_7 ≠ 0 → Q S_7 x4_7))) N r0 x1 x2 v2 v3 v6 S5)) E
theorem T_X11_led {l : Launch} (hl0 : l.stackTraces = false) {g : mG} {b : Nat} (N : Nat) (r0 : Nat) (kr0 : KX r0 = (0, 9, 0)) (x1 : Int) (ox1 : okI x1) (x2 : Int) (ox2 : okI x2) {S : mSt} {Q : mSt → Int → Prop} {E : String → mSt → Prop} (h : w_X11_led N r0 x1 x2 S Q E) (sz : Nat) : vx_Met l yX11_led (Cond.code yX11_led cX11_led 6 (some FieldType.int) :: wsG) { frames := 7, cells := 1, slots := 6, locals := 120 } (mPc g b KX S [.ref (b + r0), .int (mI x1), .int (mI x2)] sz) (mQi g b KX Q (mA b KX sz)) (mEx g b KX E (mA b KX sz)) 1 6 (mA b KX sz) :=
  m_of (av := [.ref (b + r0), .int (mI x1), .int (mI x2)]) (Qf := fun A => mQi g b KX Q A) (Xf := fun A => mEx g b KX E A) (by decide) (Nat.le_of_ble_eq_true rfl) (fun p e s m args below meth c ls X hK hml hr hlk hout hnm hW hl => by
    have C : mC p l s m args meth c cX11_led "MoonWash" 6 (some FieldType.int) g := ⟨X, hK, hml, hr, hlk, hout, hl0⟩
    have hS : va_S (mA b KX s.heap.size) s.heap s.heap [] := va_S.rf
    have hl : lv_has ls 6 [(0, .ref (b + r0)), (1, .int (mI x1)), (2, .int (mI x2))] := hl
    unfold w_X11_led at h
    refine m_iload_n (pc := 0) C.1 dX11_led_0 rfl hl 1 rfl ?_
    refine m_callSvx (pc := 1) C.1 C.2.2.1 hl.1 C.2.1 hW hS (As := [.int (mI x1)]) (rest := []) (T_X11_checkPart C.2.2.2.2.2.2 N x1 ox1 h) q_936 q_937 q_81 q_938 pl_X11_checkPart (by decide) (Nat.le_of_ble_eq_true rfl) dX11_led_1 (fun En S1 H locs ce q9 hE hW1 hS h1 h2 h3 => m_prop C.2.2.2.2.2.1 C.2.2.2.2.1 hW1 hS hE h1 h2 h3 (by decide) (by decide)) (fun S1 H locs h hW1 hS => ?_)
    refine m_iconst (pc := 4) C.1 dX11_led_4 ?_
    refine m_istore_n (pc := 5) C.1 dX11_led_5 rfl hl (by decide) (fun v => [(3, .int v), (0, .ref (b + r0)), (1, .int (mI x1)), (2, .int (mI x2))]) (fun _ => rfl) (by decide : okI 0) (fun v2 ls ev2 ov2 hl => ?_)
    replace h := h v2 ev2
    refine m_iconst (pc := 6) C.1 dX11_led_6 ?_
    refine m_istore (pc := 7) C.1 dX11_led_7 hl (by decide) (fun v => [(4, .int v), (3, .int (mI v2)), (0, .ref (b + r0)), (1, .int (mI x1)), (2, .int (mI x2))]) (fun _ => rfl) (by decide : okI (-1)) (fun v3 ls ev3 ov3 hl => ?_)
    replace h := h v3 ev3
    refine m_aload_n (pc := 9) C.1 dX11_led_9 rfl hl 2 rfl ?_
    refine g_9_3 (pc := 10) C hW1 kr0 q_395 dX11_led_10 (fun q4 eq4 kq4 => ?_)
    replace h := h q4 eq4
    refine m_callVi (pc := 13) C.1 C.2.2.1 hl.1 C.2.1 hW1 hS (As := []) (rest := []) (r := q4) (T_X2_logSize C.2.2.2.2.2.2 N q4 kq4 h) kq4 rfl q_585 q_586 q_587 q_82 q_588 pl_X2_logSize (by decide) (Nat.le_of_ble_eq_true rfl) dX11_led_13 (fun v5 S5 H locs ov5 h hW5 hS => ?_)
    refine m_iconst (pc := 16) C.1 dX11_led_16 ?_
    refine m_isub (pc := 17) C.1 dX11_led_17 ?_
    refine m_istore (pc := 18) C.1 dX11_led_18 hl (by decide) (fun v => [(5, .int v), (4, .int (mI v3)), (3, .int (mI v2)), (0, .ref (b + r0)), (1, .int (mI x1)), (2, .int (mI x2))]) (fun _ => rfl) (nm_ok _) (fun v6 ls ev6 ov6 hl => ?_)
    replace h := h v6 ev6
    refine W_X11_led_20 C N ?_ N r0 kr0 x1 ox1 x2 ox2 v2 ov2 v3 ov3 v6 ov6 S5 _ _ _ (lv_sub hl [3, 4, 5, 2, 1, 0] rfl) hW5 hS h
    · intro x2_7 ox2_7 x3_7 ox3_7 x4_7 ox4_7 S_7 H locs ls hl hW_7 hS h
      refine m_iload_n (pc := 60) C.1 dX11_led_60 rfl hl 0 rfl ?_
      refine m_if_eq (pc := 61) (tgt := 69) C.1 ox2_7 dX11_led_61 (by decide) (fun hc => ?_) (fun hc => ?_)
      · replace h := h.1 hc
        refine m_iload_n (pc := 69) C.1 dX11_led_69 rfl hl 1 rfl ?_
        exact m_iret (pc := 70) C.1 C.2.2.2.1 C.2.2.2.2.1 hW_7 hS ox3_7 h (by decide) (by decide) dX11_led_70
      · replace h := h.2 hc
        refine m_iload (pc := 64) C.1 dX11_led_64 hl 2 rfl ?_
        refine m_goto (pc := 66) (tgt := 70) C.1 dX11_led_66 (by decide) ?_
        exact m_iret (pc := 70) C.1 C.2.2.2.1 C.2.2.2.2.1 hW_7 hS ox4_7 h (by decide) (by decide) dX11_led_70) sz
section
variable {p : Program} {l : Launch} {e : Env} {s : State} {m : MethodId} {args : Array Value} {below : List Frame} {meth : Method} {c : Code} {g : mG} {b : Nat}
end
def w_X11_log (N : Nat) (r0 : Nat) (x1 : Int) (x2 : Int) (S : mSt) (Q : mSt → Int → Prop) (E : String → mSt → Prop) : Prop :=
  ((x2 < 0 → E "java/util/NoSuchElementException" S) ∧ (0 ≤ x2 → ((x2 < 4 → ((x1 < 0 → Q S (-1)) ∧ (0 ≤ x1 → ∀ q1 : Nat, (q1 : Int) = S r0 3 → w_X2_logSize N q1 S (fun (S2 : mSt) (v2 : Int) => ((x1 < v2 → ∀ q3 : Nat, (q3 : Int) = S2 r0 3 → w_X2_logged N q3 x1 x2 S2 (fun (S4 : mSt) (v4 : Int) => Q S4 v4)) ∧ (v2 ≤ x1 → Q S2 (-1))))))) ∧ (4 ≤ x2 → E "java/util/NoSuchElementException" S))))
theorem T_X11_log {l : Launch} (hl0 : l.stackTraces = false) {g : mG} {b : Nat} (N : Nat) (r0 : Nat) (kr0 : KX r0 = (0, 9, 0)) (x1 : Int) (ox1 : okI x1) (x2 : Int) (ox2 : okI x2) {S : mSt} {Q : mSt → Int → Prop} {E : String → mSt → Prop} (h : w_X11_log N r0 x1 x2 S Q E) (sz : Nat) : vx_Met l yX11_log (Cond.code yX11_log cX11_log 3 (some FieldType.int) :: wsG) { frames := 6, cells := 1, slots := 6, locals := 100 } (mPc g b KX S [.ref (b + r0), .int (mI x1), .int (mI x2)] sz) (mQi g b KX Q (mA b KX sz)) (mEx g b KX E (mA b KX sz)) 1 6 (mA b KX sz) :=
  m_of (av := [.ref (b + r0), .int (mI x1), .int (mI x2)]) (Qf := fun A => mQi g b KX Q A) (Xf := fun A => mEx g b KX E A) (by decide) (Nat.le_of_ble_eq_true rfl) (fun p e s m args below meth c ls X hK hml hr hlk hout hnm hW hl => by
    have C : mC p l s m args meth c cX11_log "MoonWash" 3 (some FieldType.int) g := ⟨X, hK, hml, hr, hlk, hout, hl0⟩
    have hS : va_S (mA b KX s.heap.size) s.heap s.heap [] := va_S.rf
    have hl : lv_has ls 3 [(0, .ref (b + r0)), (1, .int (mI x1)), (2, .int (mI x2))] := hl
    unfold w_X11_log at h
    refine m_iload_n (pc := 0) C.1 dX11_log_0 rfl hl 2 rfl ?_
    refine m_if_lt (pc := 1) (tgt := 9) C.1 ox2 dX11_log_1 (by decide) (fun hc => ?_) (fun hc => ?_)
    · replace h := h.1 hc
      exact m_throw (pc := 9) C.1 C.2.2.2.2.2.2 C.2.1 hW hS (cls := "java/util/NoSuchElementException") (names := ["java/lang/RuntimeException", "java/lang/Exception"]) (by decide) (by decide) q_975 q_108 thr_X11_174_a thr_X11_174_g (hl.1.trans C.2.2.1.symm) dX11_log_9 dX11_log_12 dX11_log_13 dX11_log_16 C.2.2.2.2.2.1 C.2.2.2.2.1 (by decide) (Nat.le_of_ble_eq_true rfl) (by decide) (by decide) h (by decide) (by decide)
    · replace h := h.2 hc
      refine m_iload_n (pc := 4) C.1 dX11_log_4 rfl hl 2 rfl ?_
      refine m_iconst (pc := 5) C.1 dX11_log_5 ?_
      refine m_icmp_lt (pc := 6) (tgt := 17) C.1 ox2 (by decide : okI 4) dX11_log_6 (by decide) (fun hc => ?_) (fun hc => ?_)
      · replace h := h.1 hc
        refine m_iload_n (pc := 17) C.1 dX11_log_17 rfl hl 1 rfl ?_
        refine m_if_lt (pc := 18) (tgt := 32) C.1 ox1 dX11_log_18 (by decide) (fun hc => ?_) (fun hc => ?_)
        · replace h := h.1 hc
          refine m_iconst (pc := 32) C.1 dX11_log_32 ?_
          exact m_iret (pc := 33) C.1 C.2.2.2.1 C.2.2.2.2.1 hW hS (by decide : okI (-1)) h (by decide) (by decide) dX11_log_33
        · replace h := h.2 hc
          refine m_iload_n (pc := 21) C.1 dX11_log_21 rfl hl 1 rfl ?_
          refine m_aload_n (pc := 22) C.1 dX11_log_22 rfl hl 0 rfl ?_
          refine g_9_3 (pc := 23) C hW kr0 q_395 dX11_log_23 (fun q1 eq1 kq1 => ?_)
          replace h := h q1 eq1
          refine m_callVi (pc := 26) C.1 C.2.2.1 hl.1 C.2.1 hW hS (As := []) (rest := [.int (mI x1)]) (r := q1) (T_X2_logSize C.2.2.2.2.2.2 N q1 kq1 h) kq1 rfl q_585 q_586 q_587 q_82 q_588 pl_X2_logSize (by decide) (Nat.le_of_ble_eq_true rfl) dX11_log_26 (fun v2 S2 H locs ov2 h hW2 hS => ?_)
          refine m_icmp_lt (pc := 29) (tgt := 34) C.1 ox1 ov2 dX11_log_29 (by decide) (fun hc => ?_) (fun hc => ?_)
          · replace h := h.1 hc
            refine m_aload_n (pc := 34) C.1 dX11_log_34 rfl hl 0 rfl ?_
            refine g_9_3 (pc := 35) C hW2 kr0 q_395 dX11_log_35 (fun q3 eq3 kq3 => ?_)
            replace h := h q3 eq3
            refine m_iload_n (pc := 38) C.1 dX11_log_38 rfl hl 1 rfl ?_
            refine m_iload_n (pc := 39) C.1 dX11_log_39 rfl hl 2 rfl ?_
            refine m_callVi (pc := 40) C.1 C.2.2.1 hl.1 C.2.1 hW2 hS (As := [.int (mI x1), .int (mI x2)]) (rest := []) (r := q3) (T_X2_logged C.2.2.2.2.2.2 N q3 kq3 x1 ox1 x2 ox2 h) kq3 rfl q_1362 q_1363 q_1364 q_82 q_1365 pl_X2_logged (by decide) (Nat.le_of_ble_eq_true rfl) dX11_log_40 (fun v4 S4 H locs ov4 h hW4 hS => ?_)
            exact m_iret (pc := 43) C.1 C.2.2.2.1 C.2.2.2.2.1 hW4 hS ov4 h (by decide) (by decide) dX11_log_43
          · replace h := h.2 hc
            refine m_iconst (pc := 32) C.1 dX11_log_32 ?_
            exact m_iret (pc := 33) C.1 C.2.2.2.1 C.2.2.2.2.1 hW2 hS (by decide : okI (-1)) h (by decide) (by decide) dX11_log_33
      · replace h := h.2 hc
        exact m_throw (pc := 9) C.1 C.2.2.2.2.2.2 C.2.1 hW hS (cls := "java/util/NoSuchElementException") (names := ["java/lang/RuntimeException", "java/lang/Exception"]) (by decide) (by decide) q_975 q_108 thr_X11_174_a thr_X11_174_g (hl.1.trans C.2.2.1.symm) dX11_log_9 dX11_log_12 dX11_log_13 dX11_log_16 C.2.2.2.2.2.1 C.2.2.2.2.1 (by decide) (Nat.le_of_ble_eq_true rfl) (by decide) (by decide) h (by decide) (by decide)) sz
section
variable {p : Program} {l : Launch} {e : Env} {s : State} {m : MethodId} {args : Array Value} {below : List Frame} {meth : Method} {c : Code} {g : mG} {b : Nat}
end
def w_X11_count (N : Nat) (r0 : Nat) (x1 : Int) (S : mSt) (Q : mSt → Int → Prop) : Prop :=
  ((x1 = 0 → ∀ q1 : Nat, (q1 : Int) = S r0 3 → Q S (S q1 2)) ∧ (x1 = 1 → ∀ q2 : Nat, (q2 : Int) = S r0 3 → Q S (S q2 4)) ∧ (x1 = 2 → ∀ q3 : Nat, (q3 : Int) = S r0 3 → Q S (S q3 5)) ∧ (x1 = 3 → ∀ q4 : Nat, (q4 : Int) = S r0 5 → Q S (S q4 0)) ∧ (x1 = 4 → ∀ q5 : Nat, (q5 : Int) = S r0 3 → Q S (S (q5 + 1) 7)) ∧ (x1 = 5 → ∀ q6 : Nat, (q6 : Int) = S r0 3 → Q S (S (q6 + 1) 8)) ∧ (x1 = 6 → ∀ q7 : Nat, (q7 : Int) = S r0 3 → Q S (S q7 6)) ∧ (x1 = 7 → ∀ q8 : Nat, (q8 : Int) = S r0 3 → Q S (S q8 7)) ∧ (x1 = 8 → ∀ q9 : Nat, (q9 : Int) = S r0 3 → Q S (S q9 8)) ∧ (x1 = 9 → ∀ q10 : Nat, (q10 : Int) = S r0 3 → Q S (S q10 9)) ∧ (x1 = 10 → ∀ q11 : Nat, (q11 : Int) = S r0 3 → Q S (S (q11 + 1) 6)) ∧ (x1 = 11 → ∀ q12 : Nat, (q12 : Int) = S r0 3 → w_X5_wetParts N (q12 + 1) S (fun (S13 : mSt) (v13 : Int) => Q S13 v13)) ∧ (x1 = 12 → ∀ q14 : Nat, (q14 : Int) = S r0 3 → w_X2_logSize N q14 S (fun (S15 : mSt) (v15 : Int) => Q S15 v15)) ∧ (x1 = 13 → Q S (S (r0 + 44) 2)) ∧ ((x1 < 0 ∨ 13 < x1) → Q S (-1)))
theorem T_X11_count {l : Launch} (hl0 : l.stackTraces = false) {g : mG} {b : Nat} (N : Nat) (r0 : Nat) (kr0 : KX r0 = (0, 9, 0)) (x1 : Int) (ox1 : okI x1) {S : mSt} {Q : mSt → Int → Prop} (h : w_X11_count N r0 x1 S Q) (sz : Nat) : vx_Met l yX11_count (Cond.code yX11_count cX11_count 2 (some FieldType.int) :: wsG) { frames := 2, cells := 0, slots := 0, locals := 50 } (mPc g b KX S [.ref (b + r0), .int (mI x1)] sz) (mQi g b KX Q (mA b KX sz)) (mEx g b KX (fun _ _ => False) (mA b KX sz)) 0 0 (mA b KX sz) :=
  m_of (av := [.ref (b + r0), .int (mI x1)]) (Qf := fun A => mQi g b KX Q A) (Xf := fun A => mEx g b KX (fun _ _ => False) A) (by decide) (Nat.le_of_ble_eq_true rfl) (fun p e s m args below meth c ls X hK hml hr hlk hout hnm hW hl => by
    have C : mC p l s m args meth c cX11_count "MoonWash" 2 (some FieldType.int) g := ⟨X, hK, hml, hr, hlk, hout, hl0⟩
    have hS : va_S (mA b KX s.heap.size) s.heap s.heap [] := va_S.rf
    have hl : lv_has ls 2 [(0, .ref (b + r0)), (1, .int (mI x1))] := hl
    unfold w_X11_count at h
    refine m_iload_n (pc := 0) C.1 dX11_count_0 rfl hl 1 rfl ?_
    by_cases hc1_0 : x1 = 0
    · replace h := h.1 hc1_0
      refine m_tabIn (pc := 1) (tgt := 72) C.1 ox1 hc1_0 (by decide) (by decide) rfl dX11_count_1 (by decide) ?_
      refine m_aload_n (pc := 72) C.1 dX11_count_72 rfl hl 0 rfl ?_
      refine g_9_3 (pc := 73) C hW kr0 q_395 dX11_count_73 (fun q1 eq1 kq1 => ?_)
      replace h := h q1 eq1
      refine g_1_2 (pc := 76) C hW kq1 q_192 dX11_count_76 ?_
      exact m_iret (pc := 79) C.1 C.2.2.2.1 C.2.2.2.2.1 hW hS (hW.2.1 _ _) h (by decide) (by decide) dX11_count_79
    replace h := h.2
    by_cases hc1_1 : x1 = 1
    · replace h := h.1 hc1_1
      refine m_tabIn (pc := 1) (tgt := 80) C.1 ox1 hc1_1 (by decide) (by decide) rfl dX11_count_1 (by decide) ?_
      refine m_aload_n (pc := 80) C.1 dX11_count_80 rfl hl 0 rfl ?_
      refine g_9_3 (pc := 81) C hW kr0 q_395 dX11_count_81 (fun q2 eq2 kq2 => ?_)
      replace h := h q2 eq2
      refine g_1_4 (pc := 84) C hW kq2 q_196 dX11_count_84 ?_
      exact m_iret (pc := 87) C.1 C.2.2.2.1 C.2.2.2.2.1 hW hS (hW.2.1 _ _) h (by decide) (by decide) dX11_count_87
    replace h := h.2
    by_cases hc1_2 : x1 = 2
    · replace h := h.1 hc1_2
      refine m_tabIn (pc := 1) (tgt := 88) C.1 ox1 hc1_2 (by decide) (by decide) rfl dX11_count_1 (by decide) ?_
      refine m_aload_n (pc := 88) C.1 dX11_count_88 rfl hl 0 rfl ?_
      refine g_9_3 (pc := 89) C hW kr0 q_395 dX11_count_89 (fun q3 eq3 kq3 => ?_)
      replace h := h q3 eq3
      refine g_1_5 (pc := 92) C hW kq3 q_198 dX11_count_92 ?_
      exact m_iret (pc := 95) C.1 C.2.2.2.1 C.2.2.2.2.1 hW hS (hW.2.1 _ _) h (by decide) (by decide) dX11_count_95
    replace h := h.2
    by_cases hc1_3 : x1 = 3
    · replace h := h.1 hc1_3
      refine m_tabIn (pc := 1) (tgt := 96) C.1 ox1 hc1_3 (by decide) (by decide) rfl dX11_count_1 (by decide) ?_
      refine m_aload_n (pc := 96) C.1 dX11_count_96 rfl hl 0 rfl ?_
      refine g_9_5 (pc := 97) C hW kr0 q_397 dX11_count_97 (fun q4 eq4 kq4 => ?_)
      replace h := h q4 eq4
      refine g_2_0 (pc := 100) C hW kq4 q_249 dX11_count_100 ?_
      exact m_iret (pc := 103) C.1 C.2.2.2.1 C.2.2.2.2.1 hW hS (hW.2.1 _ _) h (by decide) (by decide) dX11_count_103
    replace h := h.2
    by_cases hc1_4 : x1 = 4
    · replace h := h.1 hc1_4
      refine m_tabIn (pc := 1) (tgt := 104) C.1 ox1 hc1_4 (by decide) (by decide) rfl dX11_count_1 (by decide) ?_
      refine m_aload_n (pc := 104) C.1 dX11_count_104 rfl hl 0 rfl ?_
      refine g_9_3 (pc := 105) C hW kr0 q_395 dX11_count_105 (fun q5 eq5 kq5 => ?_)
      replace h := h q5 eq5
      refine g_1_0 (pc := 108) C hW kq5 q_187 dX11_count_108 ?_
      refine g_3_7 (pc := 111) C hW (k_1_0 kq5) q_159 dX11_count_111 ?_
      exact m_iret (pc := 114) C.1 C.2.2.2.1 C.2.2.2.2.1 hW hS (hW.2.1 _ _) h (by decide) (by decide) dX11_count_114
    replace h := h.2
    by_cases hc1_5 : x1 = 5
    · replace h := h.1 hc1_5
      refine m_tabIn (pc := 1) (tgt := 115) C.1 ox1 hc1_5 (by decide) (by decide) rfl dX11_count_1 (by decide) ?_
      refine m_aload_n (pc := 115) C.1 dX11_count_115 rfl hl 0 rfl ?_
      refine g_9_3 (pc := 116) C hW kr0 q_395 dX11_count_116 (fun q6 eq6 kq6 => ?_)
      replace h := h q6 eq6
      refine g_1_0 (pc := 119) C hW kq6 q_187 dX11_count_119 ?_
      refine g_3_8 (pc := 122) C hW (k_1_0 kq6) q_163 dX11_count_122 ?_
      exact m_iret (pc := 125) C.1 C.2.2.2.1 C.2.2.2.2.1 hW hS (hW.2.1 _ _) h (by decide) (by decide) dX11_count_125
    replace h := h.2
    by_cases hc1_6 : x1 = 6
    · replace h := h.1 hc1_6
      refine m_tabIn (pc := 1) (tgt := 126) C.1 ox1 hc1_6 (by decide) (by decide) rfl dX11_count_1 (by decide) ?_
      refine m_aload_n (pc := 126) C.1 dX11_count_126 rfl hl 0 rfl ?_
      refine g_9_3 (pc := 127) C hW kr0 q_395 dX11_count_127 (fun q7 eq7 kq7 => ?_)
      replace h := h q7 eq7
      refine g_1_6 (pc := 130) C hW kq7 q_201 dX11_count_130 ?_
      exact m_iret (pc := 133) C.1 C.2.2.2.1 C.2.2.2.2.1 hW hS (hW.2.1 _ _) h (by decide) (by decide) dX11_count_133
    replace h := h.2
    by_cases hc1_7 : x1 = 7
    · replace h := h.1 hc1_7
      refine m_tabIn (pc := 1) (tgt := 134) C.1 ox1 hc1_7 (by decide) (by decide) rfl dX11_count_1 (by decide) ?_
      refine m_aload_n (pc := 134) C.1 dX11_count_134 rfl hl 0 rfl ?_
      refine g_9_3 (pc := 135) C hW kr0 q_395 dX11_count_135 (fun q8 eq8 kq8 => ?_)
      replace h := h q8 eq8
      refine g_1_7 (pc := 138) C hW kq8 q_204 dX11_count_138 ?_
      exact m_iret (pc := 141) C.1 C.2.2.2.1 C.2.2.2.2.1 hW hS (hW.2.1 _ _) h (by decide) (by decide) dX11_count_141
    replace h := h.2
    by_cases hc1_8 : x1 = 8
    · replace h := h.1 hc1_8
      refine m_tabIn (pc := 1) (tgt := 142) C.1 ox1 hc1_8 (by decide) (by decide) rfl dX11_count_1 (by decide) ?_
      refine m_aload_n (pc := 142) C.1 dX11_count_142 rfl hl 0 rfl ?_
      refine g_9_3 (pc := 143) C hW kr0 q_395 dX11_count_143 (fun q9 eq9 kq9 => ?_)
      replace h := h q9 eq9
      refine g_1_8 (pc := 146) C hW kq9 q_207 dX11_count_146 ?_
      exact m_iret (pc := 149) C.1 C.2.2.2.1 C.2.2.2.2.1 hW hS (hW.2.1 _ _) h (by decide) (by decide) dX11_count_149
    replace h := h.2
    by_cases hc1_9 : x1 = 9
    · replace h := h.1 hc1_9
      refine m_tabIn (pc := 1) (tgt := 150) C.1 ox1 hc1_9 (by decide) (by decide) rfl dX11_count_1 (by decide) ?_
      refine m_aload_n (pc := 150) C.1 dX11_count_150 rfl hl 0 rfl ?_
      refine g_9_3 (pc := 151) C hW kr0 q_395 dX11_count_151 (fun q10 eq10 kq10 => ?_)
      replace h := h q10 eq10
      refine g_1_9 (pc := 154) C hW kq10 q_210 dX11_count_154 ?_
      exact m_iret (pc := 157) C.1 C.2.2.2.1 C.2.2.2.2.1 hW hS (hW.2.1 _ _) h (by decide) (by decide) dX11_count_157
    replace h := h.2
    by_cases hc1_10 : x1 = 10
    · replace h := h.1 hc1_10
      refine m_tabIn (pc := 1) (tgt := 158) C.1 ox1 hc1_10 (by decide) (by decide) rfl dX11_count_1 (by decide) ?_
      refine m_aload_n (pc := 158) C.1 dX11_count_158 rfl hl 0 rfl ?_
      refine g_9_3 (pc := 159) C hW kr0 q_395 dX11_count_159 (fun q11 eq11 kq11 => ?_)
      replace h := h q11 eq11
      refine g_1_0 (pc := 162) C hW kq11 q_187 dX11_count_162 ?_
      refine g_3_6 (pc := 165) C hW (k_1_0 kq11) q_155 dX11_count_165 ?_
      exact m_iret (pc := 168) C.1 C.2.2.2.1 C.2.2.2.2.1 hW hS (hW.2.1 _ _) h (by decide) (by decide) dX11_count_168
    replace h := h.2
    by_cases hc1_11 : x1 = 11
    · replace h := h.1 hc1_11
      refine m_tabIn (pc := 1) (tgt := 169) C.1 ox1 hc1_11 (by decide) (by decide) rfl dX11_count_1 (by decide) ?_
      refine m_aload_n (pc := 169) C.1 dX11_count_169 rfl hl 0 rfl ?_
      refine g_9_3 (pc := 170) C hW kr0 q_395 dX11_count_170 (fun q12 eq12 kq12 => ?_)
      replace h := h q12 eq12
      refine g_1_0 (pc := 173) C hW kq12 q_187 dX11_count_173 ?_
      refine m_callVi (pc := 176) C.1 C.2.2.1 hl.1 C.2.1 hW hS (As := []) (rest := []) (r := (q12 + 1)) (T_X5_wetParts C.2.2.2.2.2.2 N (q12 + 1) (k_1_0 kq12) h) (k_1_0 kq12) rfl q_581 q_582 q_583 q_83 q_584 pl_X5_wetParts (by decide) (Nat.le_of_ble_eq_true rfl) dX11_count_176 (fun v13 S13 H locs ov13 h hW13 hS => ?_)
      exact m_iret (pc := 179) C.1 C.2.2.2.1 C.2.2.2.2.1 hW13 hS ov13 h (by decide) (by decide) dX11_count_179
    replace h := h.2
    by_cases hc1_12 : x1 = 12
    · replace h := h.1 hc1_12
      refine m_tabIn (pc := 1) (tgt := 180) C.1 ox1 hc1_12 (by decide) (by decide) rfl dX11_count_1 (by decide) ?_
      refine m_aload_n (pc := 180) C.1 dX11_count_180 rfl hl 0 rfl ?_
      refine g_9_3 (pc := 181) C hW kr0 q_395 dX11_count_181 (fun q14 eq14 kq14 => ?_)
      replace h := h q14 eq14
      refine m_callVi (pc := 184) C.1 C.2.2.1 hl.1 C.2.1 hW hS (As := []) (rest := []) (r := q14) (T_X2_logSize C.2.2.2.2.2.2 N q14 kq14 h) kq14 rfl q_585 q_586 q_587 q_82 q_588 pl_X2_logSize (by decide) (Nat.le_of_ble_eq_true rfl) dX11_count_184 (fun v15 S15 H locs ov15 h hW15 hS => ?_)
      exact m_iret (pc := 187) C.1 C.2.2.2.1 C.2.2.2.2.1 hW15 hS ov15 h (by decide) (by decide) dX11_count_187
    replace h := h.2
    by_cases hc1_13 : x1 = 13
    · replace h := h.1 hc1_13
      refine m_tabIn (pc := 1) (tgt := 188) C.1 ox1 hc1_13 (by decide) (by decide) rfl dX11_count_1 (by decide) ?_
      refine m_aload_n (pc := 188) C.1 dX11_count_188 rfl hl 0 rfl ?_
      refine g_9_8 (pc := 189) C hW kr0 q_400 dX11_count_189 ?_
      refine g_4_2 (pc := 192) C hW (k_9_8 kr0) q_319 dX11_count_192 ?_
      exact m_iret (pc := 195) C.1 C.2.2.2.1 C.2.2.2.2.1 hW hS (hW.2.1 _ _) h (by decide) (by decide) dX11_count_195
    replace h := h.2
    have hc1 : x1 < 0 ∨ 13 < x1 := by omega
    replace h := h hc1
    refine m_tabOut (pc := 1) (tgt := 196) C.1 ox1 hc1 dX11_count_1 (by decide) ?_
    refine m_iconst (pc := 196) C.1 dX11_count_196 ?_
    exact m_iret (pc := 197) C.1 C.2.2.2.1 C.2.2.2.2.1 hW hS (by decide : okI (-1)) h (by decide) (by decide) dX11_count_197) sz
section
variable {p : Program} {l : Launch} {e : Env} {s : State} {m : MethodId} {args : Array Value} {below : List Frame} {meth : Method} {c : Code} {g : mG} {b : Nat}
end
def w_X12_thrown (N : Nat) (r0 : Nat) (S : mSt) (Q : mSt → Int → Prop) : Prop :=
  Q S (S r0 0)
theorem T_X12_thrown {l : Launch} (hl0 : l.stackTraces = false) {g : mG} {b : Nat} (N : Nat) (r0 : Nat) (kr0 : KM r0 = (0, 10, 0)) {S : mSt} {Q : mSt → Int → Prop} (h : w_X12_thrown N r0 S Q) (sz : Nat) : vx_Met l yX12_thrown (Cond.code yX12_thrown cX12_thrown 1 (some FieldType.int) :: wsG) { frames := 0, cells := 0, slots := 0, locals := 0 } (mPc g b KM S [.ref (b + r0)] sz) (mQi g b KM Q (mA b KM sz)) (mEx g b KM (fun _ _ => False) (mA b KM sz)) 0 0 (mA b KM sz) :=
  m_of (av := [.ref (b + r0)]) (Qf := fun A => mQi g b KM Q A) (Xf := fun A => mEx g b KM (fun _ _ => False) A) (by decide) (Nat.le_of_ble_eq_true rfl) (fun p e s m args below meth c ls X hK hml hr hlk hout hnm hW hl => by
    have C : mC p l s m args meth c cX12_thrown "MoonWashModel" 1 (some FieldType.int) g := ⟨X, hK, hml, hr, hlk, hout, hl0⟩
    have hS : va_S (mA b KM s.heap.size) s.heap s.heap [] := va_S.rf
    have hl : lv_has ls 1 [(0, .ref (b + r0))] := hl
    unfold w_X12_thrown at h
    refine m_aload_n (pc := 0) C.1 dX12_thrown_0 rfl hl 0 rfl ?_
    refine g_10_0 (pc := 1) C hW kr0 q_1383 dX12_thrown_1 ?_
    exact m_iret (pc := 4) C.1 C.2.2.2.1 C.2.2.2.2.1 hW hS (hW.2.1 _ _) h (by decide) (by decide) dX12_thrown_4) sz
section
variable {p : Program} {l : Launch} {e : Env} {s : State} {m : MethodId} {args : Array Value} {below : List Frame} {meth : Method} {c : Code} {g : mG} {b : Nat}
end
def w_X12_isIn (N : Nat) (x0 : Int) (x1 : Int) (x2 : Int) (S : mSt) (Q : mSt → Int → Prop) : Prop :=
  ((x0 < x1 → Q S 0) ∧ (x1 ≤ x0 → ((x2 < x0 → Q S 0) ∧ (x0 ≤ x2 → Q S 1))))
theorem T_X12_isIn {l : Launch} (hl0 : l.stackTraces = false) {g : mG} {b : Nat} (N : Nat) (x0 : Int) (ox0 : okI x0) (x1 : Int) (ox1 : okI x1) (x2 : Int) (ox2 : okI x2) {S : mSt} {Q : mSt → Int → Prop} (h : w_X12_isIn N x0 x1 x2 S Q) (sz : Nat) : vx_Met l yX12_isIn (Cond.code yX12_isIn cX12_isIn 3 (some FieldType.boolean) :: wsG) { frames := 0, cells := 0, slots := 0, locals := 0 } (mPc g b KM S [.int (mI x0), .int (mI x1), .int (mI x2)] sz) (mQi g b KM Q (mA b KM sz)) (mEx g b KM (fun _ _ => False) (mA b KM sz)) 0 0 (mA b KM sz) :=
  m_of (av := [.int (mI x0), .int (mI x1), .int (mI x2)]) (Qf := fun A => mQi g b KM Q A) (Xf := fun A => mEx g b KM (fun _ _ => False) A) (by decide) (Nat.le_of_ble_eq_true rfl) (fun p e s m args below meth c ls X hK hml hr hlk hout hnm hW hl => by
    have C : mC p l s m args meth c cX12_isIn "MoonWashModel" 3 (some FieldType.boolean) g := ⟨X, hK, hml, hr, hlk, hout, hl0⟩
    have hS : va_S (mA b KM s.heap.size) s.heap s.heap [] := va_S.rf
    have hl : lv_has ls 3 [(0, .int (mI x0)), (1, .int (mI x1)), (2, .int (mI x2))] := hl
    unfold w_X12_isIn at h
    refine m_iload_n (pc := 0) C.1 dX12_isIn_0 rfl hl 0 rfl ?_
    refine m_iload_n (pc := 1) C.1 dX12_isIn_1 rfl hl 1 rfl ?_
    refine m_icmp_lt (pc := 2) (tgt := 14) C.1 ox0 ox1 dX12_isIn_2 (by decide) (fun hc => ?_) (fun hc => ?_)
    · replace h := h.1 hc
      refine m_iconst (pc := 14) C.1 dX12_isIn_14 ?_
      exact m_zret (pc := 15) C.1 C.2.2.2.1 C.2.2.2.2.1 hW hS (by decide) h (by decide) (by decide) dX12_isIn_15
    · replace h := h.2 hc
      refine m_iload_n (pc := 5) C.1 dX12_isIn_5 rfl hl 0 rfl ?_
      refine m_iload_n (pc := 6) C.1 dX12_isIn_6 rfl hl 2 rfl ?_
      refine m_icmp_gt (pc := 7) (tgt := 14) C.1 ox0 ox2 dX12_isIn_7 (by decide) (fun hc => ?_) (fun hc => ?_)
      · replace h := h.1 hc
        refine m_iconst (pc := 14) C.1 dX12_isIn_14 ?_
        exact m_zret (pc := 15) C.1 C.2.2.2.1 C.2.2.2.2.1 hW hS (by decide) h (by decide) (by decide) dX12_isIn_15
      · replace h := h.2 hc
        refine m_iconst (pc := 10) C.1 dX12_isIn_10 ?_
        refine m_goto (pc := 11) (tgt := 15) C.1 dX12_isIn_11 (by decide) ?_
        exact m_zret (pc := 15) C.1 C.2.2.2.1 C.2.2.2.2.1 hW hS (by decide) h (by decide) (by decide) dX12_isIn_15) sz
section
variable {p : Program} {l : Launch} {e : Env} {s : State} {m : MethodId} {args : Array Value} {below : List Frame} {meth : Method} {c : Code} {g : mG} {b : Nat}
end
def w_X12_lesser (N : Nat) (x0 : Int) (x1 : Int) (S : mSt) (Q : mSt → Int → Prop) : Prop :=
  ((x1 ≤ x0 → Q S x1) ∧ (x0 < x1 → Q S x0))
theorem T_X12_lesser {l : Launch} (hl0 : l.stackTraces = false) {g : mG} {b : Nat} (N : Nat) (x0 : Int) (ox0 : okI x0) (x1 : Int) (ox1 : okI x1) {S : mSt} {Q : mSt → Int → Prop} (h : w_X12_lesser N x0 x1 S Q) (sz : Nat) : vx_Met l yX12_lesser (Cond.code yX12_lesser cX12_lesser 2 (some FieldType.int) :: wsG) { frames := 0, cells := 0, slots := 0, locals := 0 } (mPc g b KM S [.int (mI x0), .int (mI x1)] sz) (mQi g b KM Q (mA b KM sz)) (mEx g b KM (fun _ _ => False) (mA b KM sz)) 0 0 (mA b KM sz) :=
  m_of (av := [.int (mI x0), .int (mI x1)]) (Qf := fun A => mQi g b KM Q A) (Xf := fun A => mEx g b KM (fun _ _ => False) A) (by decide) (Nat.le_of_ble_eq_true rfl) (fun p e s m args below meth c ls X hK hml hr hlk hout hnm hW hl => by
    have C : mC p l s m args meth c cX12_lesser "MoonWashModel" 2 (some FieldType.int) g := ⟨X, hK, hml, hr, hlk, hout, hl0⟩
    have hS : va_S (mA b KM s.heap.size) s.heap s.heap [] := va_S.rf
    have hl : lv_has ls 2 [(0, .int (mI x0)), (1, .int (mI x1))] := hl
    unfold w_X12_lesser at h
    refine m_iload_n (pc := 0) C.1 dX12_lesser_0 rfl hl 0 rfl ?_
    refine m_iload_n (pc := 1) C.1 dX12_lesser_1 rfl hl 1 rfl ?_
    refine m_icmp_ge (pc := 2) (tgt := 9) C.1 ox0 ox1 dX12_lesser_2 (by decide) (fun hc => ?_) (fun hc => ?_)
    · replace h := h.1 hc
      refine m_iload_n (pc := 9) C.1 dX12_lesser_9 rfl hl 1 rfl ?_
      exact m_iret (pc := 10) C.1 C.2.2.2.1 C.2.2.2.2.1 hW hS ox1 h (by decide) (by decide) dX12_lesser_10
    · replace h := h.2 hc
      refine m_iload_n (pc := 5) C.1 dX12_lesser_5 rfl hl 0 rfl ?_
      refine m_goto (pc := 6) (tgt := 10) C.1 dX12_lesser_6 (by decide) ?_
      exact m_iret (pc := 10) C.1 C.2.2.2.1 C.2.2.2.2.1 hW hS ox0 h (by decide) (by decide) dX12_lesser_10) sz
section
variable {p : Program} {l : Launch} {e : Env} {s : State} {m : MethodId} {args : Array Value} {below : List Frame} {meth : Method} {c : Code} {g : mG} {b : Nat}
end
def w_X12_greater (N : Nat) (x0 : Int) (x1 : Int) (S : mSt) (Q : mSt → Int → Prop) : Prop :=
  ((x0 ≤ x1 → Q S x1) ∧ (x1 < x0 → Q S x0))
theorem T_X12_greater {l : Launch} (hl0 : l.stackTraces = false) {g : mG} {b : Nat} (N : Nat) (x0 : Int) (ox0 : okI x0) (x1 : Int) (ox1 : okI x1) {S : mSt} {Q : mSt → Int → Prop} (h : w_X12_greater N x0 x1 S Q) (sz : Nat) : vx_Met l yX12_greater (Cond.code yX12_greater cX12_greater 2 (some FieldType.int) :: wsG) { frames := 0, cells := 0, slots := 0, locals := 0 } (mPc g b KM S [.int (mI x0), .int (mI x1)] sz) (mQi g b KM Q (mA b KM sz)) (mEx g b KM (fun _ _ => False) (mA b KM sz)) 0 0 (mA b KM sz) :=
  m_of (av := [.int (mI x0), .int (mI x1)]) (Qf := fun A => mQi g b KM Q A) (Xf := fun A => mEx g b KM (fun _ _ => False) A) (by decide) (Nat.le_of_ble_eq_true rfl) (fun p e s m args below meth c ls X hK hml hr hlk hout hnm hW hl => by
    have C : mC p l s m args meth c cX12_greater "MoonWashModel" 2 (some FieldType.int) g := ⟨X, hK, hml, hr, hlk, hout, hl0⟩
    have hS : va_S (mA b KM s.heap.size) s.heap s.heap [] := va_S.rf
    have hl : lv_has ls 2 [(0, .int (mI x0)), (1, .int (mI x1))] := hl
    unfold w_X12_greater at h
    refine m_iload_n (pc := 0) C.1 dX12_greater_0 rfl hl 0 rfl ?_
    refine m_iload_n (pc := 1) C.1 dX12_greater_1 rfl hl 1 rfl ?_
    refine m_icmp_le (pc := 2) (tgt := 9) C.1 ox0 ox1 dX12_greater_2 (by decide) (fun hc => ?_) (fun hc => ?_)
    · replace h := h.1 hc
      refine m_iload_n (pc := 9) C.1 dX12_greater_9 rfl hl 1 rfl ?_
      exact m_iret (pc := 10) C.1 C.2.2.2.1 C.2.2.2.2.1 hW hS ox1 h (by decide) (by decide) dX12_greater_10
    · replace h := h.2 hc
      refine m_iload_n (pc := 5) C.1 dX12_greater_5 rfl hl 0 rfl ?_
      refine m_goto (pc := 6) (tgt := 10) C.1 dX12_greater_6 (by decide) ?_
      exact m_iret (pc := 10) C.1 C.2.2.2.1 C.2.2.2.2.1 hW hS ox0 h (by decide) (by decide) dX12_greater_10) sz
section
variable {p : Program} {l : Launch} {e : Env} {s : State} {m : MethodId} {args : Array Value} {below : List Frame} {meth : Method} {c : Code} {g : mG} {b : Nat}
end
def w_X12_isOf (N : Nat) (x0 : Int) (x1 : Int) (S : mSt) (Q : mSt → Int → Prop) : Prop :=
  (((bAnd (bShr x0 x1) 1) ≠ 1 → Q S 0) ∧ ((bAnd (bShr x0 x1) 1) = 1 → Q S 1))
theorem T_X12_isOf {l : Launch} (hl0 : l.stackTraces = false) {g : mG} {b : Nat} (N : Nat) (x0 : Int) (ox0 : okI x0) (x1 : Int) (ox1 : okI x1) {S : mSt} {Q : mSt → Int → Prop} (h : w_X12_isOf N x0 x1 S Q) (sz : Nat) : vx_Met l yX12_isOf (Cond.code yX12_isOf cX12_isOf 2 (some FieldType.boolean) :: wsG) { frames := 0, cells := 0, slots := 0, locals := 0 } (mPc g b KM S [.int (mI x0), .int (mI x1)] sz) (mQi g b KM Q (mA b KM sz)) (mEx g b KM (fun _ _ => False) (mA b KM sz)) 0 0 (mA b KM sz) :=
  m_of (av := [.int (mI x0), .int (mI x1)]) (Qf := fun A => mQi g b KM Q A) (Xf := fun A => mEx g b KM (fun _ _ => False) A) (by decide) (Nat.le_of_ble_eq_true rfl) (fun p e s m args below meth c ls X hK hml hr hlk hout hnm hW hl => by
    have C : mC p l s m args meth c cX12_isOf "MoonWashModel" 2 (some FieldType.boolean) g := ⟨X, hK, hml, hr, hlk, hout, hl0⟩
    have hS : va_S (mA b KM s.heap.size) s.heap s.heap [] := va_S.rf
    have hl : lv_has ls 2 [(0, .int (mI x0)), (1, .int (mI x1))] := hl
    unfold w_X12_isOf at h
    refine m_iload_n (pc := 0) C.1 dX12_isOf_0 rfl hl 0 rfl ?_
    refine m_iload_n (pc := 1) C.1 dX12_isOf_1 rfl hl 1 rfl ?_
    refine m_ishr (pc := 2) C.1 dX12_isOf_2 ?_
    refine m_iconst (pc := 3) C.1 dX12_isOf_3 ?_
    refine m_iand (pc := 4) C.1 dX12_isOf_4 ?_
    refine m_iconst (pc := 5) C.1 dX12_isOf_5 ?_
    refine m_icmp_ne (pc := 6) (tgt := 13) C.1 (bAnd_ok _ _) (by decide : okI 1) dX12_isOf_6 (by decide) (fun hc => ?_) (fun hc => ?_)
    · replace h := h.1 hc
      refine m_iconst (pc := 13) C.1 dX12_isOf_13 ?_
      exact m_zret (pc := 14) C.1 C.2.2.2.1 C.2.2.2.2.1 hW hS (by decide) h (by decide) (by decide) dX12_isOf_14
    · replace h := h.2 hc
      refine m_iconst (pc := 9) C.1 dX12_isOf_9 ?_
      refine m_goto (pc := 10) (tgt := 14) C.1 dX12_isOf_10 (by decide) ?_
      exact m_zret (pc := 14) C.1 C.2.2.2.1 C.2.2.2.2.1 hW hS (by decide) h (by decide) (by decide) dX12_isOf_14) sz
section
variable {p : Program} {l : Launch} {e : Env} {s : State} {m : MethodId} {args : Array Value} {below : List Frame} {meth : Method} {c : Code} {g : mG} {b : Nat}
def w_X12_bits_4b (N : Nat) (Q : mSt → Int → Prop) (ko4 : Int → Int → Int → mSt → Prop) (ko24 : Int → mSt → Prop) (x0 : Int) (x1 : Int) (x2 : Int) (S : mSt) : Prop :=
  ((31 ≤ x2 → ko24 x1 S) ∧ (x2 < 31 → ∀ v1 : Int, v1 = (nm (x1 + (bAnd (bShr x0 x2) 1))) → ∀ v2 : Int, v2 = nm (x2 + 1) → ko4 x0 v1 v2 S))
theorem W_X12_bits_4b (C : mC p l s m args meth c cX12_bits "MoonWashModel" 3 (some FieldType.int) g) (N : Nat) {Q : mSt → Int → Prop} {ko4 : Int → Int → Int → mSt → Prop} {ko24 : Int → mSt → Prop} (hko4 : ∀ (x0 : Int) (ox0 : okI x0) (x1 : Int) (ox1 : okI x1) (x2 : Int) (ox2 : okI x2) (S : mSt) (H : Heap) (locs : List Loc) (ls : Array Slot), lv_has ls 3 [(0, .int (mI x0)), (1, .int (mI x1)), (2, .int (mI x2))] → mW g b KM S H → va_S (mA b KM s.heap.size) s.heap H locs → ko4 x0 x1 x2 S → W p l e { frames := 0, cells := 0, slots := 0, locals := 0 } s m args below meth c H locs 0 0 (vx_MQ below (mQi g b KM Q (mA b KM s.heap.size)) (mEx g b KM (fun _ _ => False) (mA b KM s.heap.size)) args s 0 0 (mA b KM s.heap.size)) (F0 m 4 ls [])) (hko24 : ∀ (x1 : Int) (ox1 : okI x1) (S : mSt) (H : Heap) (locs : List Loc) (ls : Array Slot), lv_has ls 3 [(1, .int (mI x1))] → mW g b KM S H → va_S (mA b KM s.heap.size) s.heap H locs → ko24 x1 S → W p l e { frames := 0, cells := 0, slots := 0, locals := 0 } s m args below meth c H locs 0 0 (vx_MQ below (mQi g b KM Q (mA b KM s.heap.size)) (mEx g b KM (fun _ _ => False) (mA b KM s.heap.size)) args s 0 0 (mA b KM s.heap.size)) (F0 m 24 ls [])) (x0 : Int) (ox0 : okI x0) (x1 : Int) (ox1 : okI x1) (x2 : Int) (ox2 : okI x2) (S : mSt) (H : Heap) (locs : List Loc) (ls : Array Slot) (hl : lv_has ls 3 [(0, .int (mI x0)), (1, .int (mI x1)), (2, .int (mI x2))]) (hW : mW g b KM S H) (hS : va_S (mA b KM s.heap.size) s.heap H locs) (h : w_X12_bits_4b N Q ko4 ko24 x0 x1 x2 S) : W p l e { frames := 0, cells := 0, slots := 0, locals := 0 } s m args below meth c H locs 0 0 (vx_MQ below (mQi g b KM Q (mA b KM s.heap.size)) (mEx g b KM (fun _ _ => False) (mA b KM s.heap.size)) args s 0 0 (mA b KM s.heap.size)) (F0 m 4 ls []) := by
  unfold w_X12_bits_4b at h
  refine m_iload_n (pc := 4) C.1 dX12_bits_4 rfl hl 2 rfl ?_
  refine m_bipush (pc := 5) C.1 dX12_bits_5 rfl ?_
  refine m_icmp_ge (pc := 7) (tgt := 24) C.1 ox2 (by decide : okI 31) dX12_bits_7 (by decide) (fun hc => ?_) (fun hc => ?_)
  · replace h := h.1 hc
    exact hko24 x1 ox1 S _ _ _ (lv_sub hl [1] rfl) hW hS h
  · replace h := h.2 hc
    refine m_iload_n (pc := 10) C.1 dX12_bits_10 rfl hl 1 rfl ?_
    refine m_iload_n (pc := 11) C.1 dX12_bits_11 rfl hl 0 rfl ?_
    refine m_iload_n (pc := 12) C.1 dX12_bits_12 rfl hl 2 rfl ?_
    refine m_ishr (pc := 13) C.1 dX12_bits_13 ?_
    refine m_iconst (pc := 14) C.1 dX12_bits_14 ?_
    refine m_iand (pc := 15) C.1 dX12_bits_15 ?_
    refine m_iadd (pc := 16) C.1 dX12_bits_16 ?_
    refine m_istore_n (pc := 17) C.1 dX12_bits_17 rfl hl (by decide) (fun v => [(1, .int v), (0, .int (mI x0)), (2, .int (mI x2))]) (fun _ => rfl) (nm_ok _) (fun v1 ls ev1 ov1 hl => ?_)
    replace h := h v1 ev1
    refine m_iinc (pc := 18) C.1 dX12_bits_18 hl (by decide) (q0 := 2) rfl (fun v => [(2, .int v), (1, .int (mI v1)), (0, .int (mI x0))]) (fun _ => rfl) (fun v2 ls ev2 ov2 hl => ?_)
    replace h := h v2 ev2
    refine m_goto (pc := 21) (tgt := 4) C.1 dX12_bits_21 (by decide) ?_
    exact hko4 x0 ox0 v1 ov1 v2 ov2 S _ _ _ (lv_sub hl [2, 1, 0] rfl) hW hS h
def w_X12_bits_4 (N : Nat) (Q : mSt → Int → Prop) (ko24 : Int → mSt → Prop) : Nat → Int → Int → Int → mSt → Prop
  | 0 => fun _ _ _ _ => False
  | k + 1 => w_X12_bits_4b N Q (w_X12_bits_4 N Q ko24 k) ko24
theorem W_X12_bits_4 (C : mC p l s m args meth c cX12_bits "MoonWashModel" 3 (some FieldType.int) g) (N : Nat) {Q : mSt → Int → Prop} {ko24 : Int → mSt → Prop} (hko24 : ∀ (x1 : Int) (ox1 : okI x1) (S : mSt) (H : Heap) (locs : List Loc) (ls : Array Slot), lv_has ls 3 [(1, .int (mI x1))] → mW g b KM S H → va_S (mA b KM s.heap.size) s.heap H locs → ko24 x1 S → W p l e { frames := 0, cells := 0, slots := 0, locals := 0 } s m args below meth c H locs 0 0 (vx_MQ below (mQi g b KM Q (mA b KM s.heap.size)) (mEx g b KM (fun _ _ => False) (mA b KM s.heap.size)) args s 0 0 (mA b KM s.heap.size)) (F0 m 24 ls [])) : ∀ (k : Nat) (x0 : Int) (ox0 : okI x0) (x1 : Int) (ox1 : okI x1) (x2 : Int) (ox2 : okI x2) (S : mSt) (H : Heap) (locs : List Loc) (ls : Array Slot) (hl : lv_has ls 3 [(0, .int (mI x0)), (1, .int (mI x1)), (2, .int (mI x2))]) (hW : mW g b KM S H) (hS : va_S (mA b KM s.heap.size) s.heap H locs) (h : w_X12_bits_4 N Q ko24 k x0 x1 x2 S), W p l e { frames := 0, cells := 0, slots := 0, locals := 0 } s m args below meth c H locs 0 0 (vx_MQ below (mQi g b KM Q (mA b KM s.heap.size)) (mEx g b KM (fun _ _ => False) (mA b KM s.heap.size)) args s 0 0 (mA b KM s.heap.size)) (F0 m 4 ls []) := by
  intro k
  induction k with
  | zero => intro x0 ox0 x1 ox1 x2 ox2 S H locs ls hl hW hS h; exact False.elim h
  | succ k ih => intro x0 ox0 x1 ox1 x2 ox2 S H locs ls hl hW hS h; exact W_X12_bits_4b C N ih hko24 x0 ox0 x1 ox1 x2 ox2 S H locs ls hl hW hS h
end
def w_X12_bits (N : Nat) (x0 : Int) (S : mSt) (Q : mSt → Int → Prop) : Prop :=
  ∀ v1 : Int, v1 = 0 → ∀ v2 : Int, v2 = 0 → w_X12_bits_4 N Q (fun (x1_3 : Int) (S_3 : mSt) => Q S_3 x1_3) N x0 v1 v2 S
theorem T_X12_bits {l : Launch} (hl0 : l.stackTraces = false) {g : mG} {b : Nat} (N : Nat) (x0 : Int) (ox0 : okI x0) {S : mSt} {Q : mSt → Int → Prop} (h : w_X12_bits N x0 S Q) (sz : Nat) : vx_Met l yX12_bits (Cond.code yX12_bits cX12_bits 3 (some FieldType.int) :: wsG) { frames := 0, cells := 0, slots := 0, locals := 0 } (mPc g b KM S [.int (mI x0)] sz) (mQi g b KM Q (mA b KM sz)) (mEx g b KM (fun _ _ => False) (mA b KM sz)) 0 0 (mA b KM sz) :=
  m_of (av := [.int (mI x0)]) (Qf := fun A => mQi g b KM Q A) (Xf := fun A => mEx g b KM (fun _ _ => False) A) (by decide) (Nat.le_of_ble_eq_true rfl) (fun p e s m args below meth c ls X hK hml hr hlk hout hnm hW hl => by
    have C : mC p l s m args meth c cX12_bits "MoonWashModel" 3 (some FieldType.int) g := ⟨X, hK, hml, hr, hlk, hout, hl0⟩
    have hS : va_S (mA b KM s.heap.size) s.heap s.heap [] := va_S.rf
    have hl : lv_has ls 3 [(0, .int (mI x0))] := hl
    unfold w_X12_bits at h
    refine m_iconst (pc := 0) C.1 dX12_bits_0 ?_
    refine m_istore_n (pc := 1) C.1 dX12_bits_1 rfl hl (by decide) (fun v => [(1, .int v), (0, .int (mI x0))]) (fun _ => rfl) (by decide : okI 0) (fun v1 ls ev1 ov1 hl => ?_)
    replace h := h v1 ev1
    refine m_iconst (pc := 2) C.1 dX12_bits_2 ?_
    refine m_istore_n (pc := 3) C.1 dX12_bits_3 rfl hl (by decide) (fun v => [(2, .int v), (1, .int (mI v1)), (0, .int (mI x0))]) (fun _ => rfl) (by decide : okI 0) (fun v2 ls ev2 ov2 hl => ?_)
    replace h := h v2 ev2
    refine W_X12_bits_4 C N ?_ N x0 ox0 v1 ov1 v2 ov2 S _ _ _ (lv_sub hl [2, 1, 0] rfl) hW hS h
    · intro x1_3 ox1_3 S_3 H locs ls hl hW_3 hS h
      refine m_iload_n (pc := 24) C.1 dX12_bits_24 rfl hl 0 rfl ?_
      exact m_iret (pc := 25) C.1 C.2.2.2.1 C.2.2.2.2.1 hW_3 hS ox1_3 h (by decide) (by decide) dX12_bits_25) sz
section
variable {p : Program} {l : Launch} {e : Env} {s : State} {m : MethodId} {args : Array Value} {below : List Frame} {meth : Method} {c : Code} {g : mG} {b : Nat}
end
def w_X12_of (N : Nat) (r0 : Nat) (x1 : Int) (x2 : Int) (S : mSt) (Q : mSt → Int → Prop) : Prop :=
  (0 ≤ (nm ((nm (14 + (nm (6 * x1)))) + x2)) ∧ (nm ((nm (14 + (nm (6 * x1)))) + x2)) < 750 ∧ Q S (S (r0 + 1) (nm ((nm (14 + (nm (6 * x1)))) + x2))))
theorem T_X12_of {l : Launch} (hl0 : l.stackTraces = false) {g : mG} {b : Nat} (N : Nat) (r0 : Nat) (kr0 : KM r0 = (0, 10, 0)) (x1 : Int) (ox1 : okI x1) (x2 : Int) (ox2 : okI x2) {S : mSt} {Q : mSt → Int → Prop} (h : w_X12_of N r0 x1 x2 S Q) (sz : Nat) : vx_Met l yX12_of (Cond.code yX12_of cX12_of 3 (some FieldType.int) :: wsG) { frames := 0, cells := 0, slots := 0, locals := 0 } (mPc g b KM S [.ref (b + r0), .int (mI x1), .int (mI x2)] sz) (mQi g b KM Q (mA b KM sz)) (mEx g b KM (fun _ _ => False) (mA b KM sz)) 0 0 (mA b KM sz) :=
  m_of (av := [.ref (b + r0), .int (mI x1), .int (mI x2)]) (Qf := fun A => mQi g b KM Q A) (Xf := fun A => mEx g b KM (fun _ _ => False) A) (by decide) (Nat.le_of_ble_eq_true rfl) (fun p e s m args below meth c ls X hK hml hr hlk hout hnm hW hl => by
    have C : mC p l s m args meth c cX12_of "MoonWashModel" 3 (some FieldType.int) g := ⟨X, hK, hml, hr, hlk, hout, hl0⟩
    have hS : va_S (mA b KM s.heap.size) s.heap s.heap [] := va_S.rf
    have hl : lv_has ls 3 [(0, .ref (b + r0)), (1, .int (mI x1)), (2, .int (mI x2))] := hl
    unfold w_X12_of at h
    refine m_aload_n (pc := 0) C.1 dX12_of_0 rfl hl 0 rfl ?_
    refine g_10_1 (pc := 1) C hW kr0 q_1384 dX12_of_1 ?_
    refine m_bipush (pc := 4) C.1 dX12_of_4 rfl ?_
    refine m_bipush (pc := 6) C.1 dX12_of_6 rfl ?_
    refine m_iload_n (pc := 8) C.1 dX12_of_8 rfl hl 1 rfl ?_
    refine m_imul (pc := 9) C.1 dX12_of_9 ?_
    refine m_iadd (pc := 10) C.1 dX12_of_10 ?_
    refine m_iload_n (pc := 11) C.1 dX12_of_11 rfl hl 2 rfl ?_
    refine m_iadd (pc := 12) C.1 dX12_of_12 ?_
    obtain ⟨hb1a, hb1b, h⟩ := h
    refine m_iald (pc := 13) C.1 C.2.1 hW (k_10_1 kr0) (nm_ok _) hb1a hb1b dX12_of_13 ?_
    exact m_iret (pc := 14) C.1 C.2.2.2.1 C.2.2.2.2.1 hW hS (hW.2.1 _ _) h (by decide) (by decide) dX12_of_14) sz
section
variable {p : Program} {l : Launch} {e : Env} {s : State} {m : MethodId} {args : Array Value} {below : List Frame} {meth : Method} {c : Code} {g : mG} {b : Nat}
end
def w_X12_has (N : Nat) (r0 : Nat) (x1 : Int) (x2 : Int) (x3 : Int) (S : mSt) (Q : mSt → Prop) : Prop :=
  (0 ≤ (nm ((nm (14 + (nm (6 * x1)))) + x2)) ∧ (nm ((nm (14 + (nm (6 * x1)))) + x2)) < 750 ∧ ∀ S2 : mSt, S2 = mup S (r0 + 1) (nm ((nm (14 + (nm (6 * x1)))) + x2)) x3 → Q S2)
theorem T_X12_has {l : Launch} (hl0 : l.stackTraces = false) {g : mG} {b : Nat} (N : Nat) (r0 : Nat) (kr0 : KM r0 = (0, 10, 0)) (x1 : Int) (ox1 : okI x1) (x2 : Int) (ox2 : okI x2) (x3 : Int) (ox3 : okI x3) {S : mSt} {Q : mSt → Prop} (h : w_X12_has N r0 x1 x2 x3 S Q) (sz : Nat) : vx_Met l yX12_has (Cond.code yX12_has cX12_has 4 none :: wsG) { frames := 0, cells := 0, slots := 0, locals := 0 } (mPc g b KM S [.ref (b + r0), .int (mI x1), .int (mI x2), .int (mI x3)] sz) (mQv g b KM Q (mA b KM sz)) (mEx g b KM (fun _ _ => False) (mA b KM sz)) 0 0 (mA b KM sz) :=
  m_of (av := [.ref (b + r0), .int (mI x1), .int (mI x2), .int (mI x3)]) (Qf := fun A => mQv g b KM Q A) (Xf := fun A => mEx g b KM (fun _ _ => False) A) (by decide) (Nat.le_of_ble_eq_true rfl) (fun p e s m args below meth c ls X hK hml hr hlk hout hnm hW hl => by
    have C : mC p l s m args meth c cX12_has "MoonWashModel" 4 none g := ⟨X, hK, hml, hr, hlk, hout, hl0⟩
    have hS : va_S (mA b KM s.heap.size) s.heap s.heap [] := va_S.rf
    have hl : lv_has ls 4 [(0, .ref (b + r0)), (1, .int (mI x1)), (2, .int (mI x2)), (3, .int (mI x3))] := hl
    unfold w_X12_has at h
    refine m_aload_n (pc := 0) C.1 dX12_has_0 rfl hl 0 rfl ?_
    refine g_10_1 (pc := 1) C hW kr0 q_1384 dX12_has_1 ?_
    refine m_bipush (pc := 4) C.1 dX12_has_4 rfl ?_
    refine m_bipush (pc := 6) C.1 dX12_has_6 rfl ?_
    refine m_iload_n (pc := 8) C.1 dX12_has_8 rfl hl 1 rfl ?_
    refine m_imul (pc := 9) C.1 dX12_has_9 ?_
    refine m_iadd (pc := 10) C.1 dX12_has_10 ?_
    refine m_iload_n (pc := 11) C.1 dX12_has_11 rfl hl 2 rfl ?_
    refine m_iadd (pc := 12) C.1 dX12_has_12 ?_
    refine m_iload_n (pc := 13) C.1 dX12_has_13 rfl hl 3 rfl ?_
    obtain ⟨hb1a, hb1b, h⟩ := h
    refine m_iast (pc := 14) C.1 C.2.1 hW hS (k_10_1 kr0) (nm_ok _) ox3 hb1a hb1b dX12_has_14 (fun S2 H locs e2 hW2 hS => ?_)
    replace h := h S2 e2
    exact m_vret (pc := 15) C.1 C.2.2.2.1 C.2.2.2.2.1 hW2 hS h (by decide) (by decide) dX12_has_15) sz
section
variable {p : Program} {l : Launch} {e : Env} {s : State} {m : MethodId} {args : Array Value} {below : List Frame} {meth : Method} {c : Code} {g : mG} {b : Nat}
end
def w_X12_ofSoap (N : Nat) (r0 : Nat) (x1 : Int) (x2 : Int) (S : mSt) (Q : mSt → Int → Prop) : Prop :=
  (0 ≤ (nm ((nm (70 + (nm (4 * x1)))) + x2)) ∧ (nm ((nm (70 + (nm (4 * x1)))) + x2)) < 750 ∧ Q S (S (r0 + 1) (nm ((nm (70 + (nm (4 * x1)))) + x2))))
theorem T_X12_ofSoap {l : Launch} (hl0 : l.stackTraces = false) {g : mG} {b : Nat} (N : Nat) (r0 : Nat) (kr0 : KM r0 = (0, 10, 0)) (x1 : Int) (ox1 : okI x1) (x2 : Int) (ox2 : okI x2) {S : mSt} {Q : mSt → Int → Prop} (h : w_X12_ofSoap N r0 x1 x2 S Q) (sz : Nat) : vx_Met l yX12_ofSoap (Cond.code yX12_ofSoap cX12_ofSoap 3 (some FieldType.int) :: wsG) { frames := 0, cells := 0, slots := 0, locals := 0 } (mPc g b KM S [.ref (b + r0), .int (mI x1), .int (mI x2)] sz) (mQi g b KM Q (mA b KM sz)) (mEx g b KM (fun _ _ => False) (mA b KM sz)) 0 0 (mA b KM sz) :=
  m_of (av := [.ref (b + r0), .int (mI x1), .int (mI x2)]) (Qf := fun A => mQi g b KM Q A) (Xf := fun A => mEx g b KM (fun _ _ => False) A) (by decide) (Nat.le_of_ble_eq_true rfl) (fun p e s m args below meth c ls X hK hml hr hlk hout hnm hW hl => by
    have C : mC p l s m args meth c cX12_ofSoap "MoonWashModel" 3 (some FieldType.int) g := ⟨X, hK, hml, hr, hlk, hout, hl0⟩
    have hS : va_S (mA b KM s.heap.size) s.heap s.heap [] := va_S.rf
    have hl : lv_has ls 3 [(0, .ref (b + r0)), (1, .int (mI x1)), (2, .int (mI x2))] := hl
    unfold w_X12_ofSoap at h
    refine m_aload_n (pc := 0) C.1 dX12_ofSoap_0 rfl hl 0 rfl ?_
    refine g_10_1 (pc := 1) C hW kr0 q_1384 dX12_ofSoap_1 ?_
    refine m_bipush (pc := 4) C.1 dX12_ofSoap_4 rfl ?_
    refine m_iconst (pc := 6) C.1 dX12_ofSoap_6 ?_
    refine m_iload_n (pc := 7) C.1 dX12_ofSoap_7 rfl hl 1 rfl ?_
    refine m_imul (pc := 8) C.1 dX12_ofSoap_8 ?_
    refine m_iadd (pc := 9) C.1 dX12_ofSoap_9 ?_
    refine m_iload_n (pc := 10) C.1 dX12_ofSoap_10 rfl hl 2 rfl ?_
    refine m_iadd (pc := 11) C.1 dX12_ofSoap_11 ?_
    obtain ⟨hb1a, hb1b, h⟩ := h
    refine m_iald (pc := 12) C.1 C.2.1 hW (k_10_1 kr0) (nm_ok _) hb1a hb1b dX12_ofSoap_12 ?_
    exact m_iret (pc := 13) C.1 C.2.2.2.1 C.2.2.2.2.1 hW hS (hW.2.1 _ _) h (by decide) (by decide) dX12_ofSoap_13) sz
section
variable {p : Program} {l : Launch} {e : Env} {s : State} {m : MethodId} {args : Array Value} {below : List Frame} {meth : Method} {c : Code} {g : mG} {b : Nat}
end
def w_X12_isPart (N : Nat) (x0 : Int) (S : mSt) (Q : mSt → Int → Prop) : Prop :=
  w_X12_isIn N x0 0 7 S (fun (S1 : mSt) (v1 : Int) => ((v1 = 0 ∨ v1 = 1) ∧ Q S1 v1))
theorem T_X12_isPart {l : Launch} (hl0 : l.stackTraces = false) {g : mG} {b : Nat} (N : Nat) (x0 : Int) (ox0 : okI x0) {S : mSt} {Q : mSt → Int → Prop} (h : w_X12_isPart N x0 S Q) (sz : Nat) : vx_Met l yX12_isPart (Cond.code yX12_isPart cX12_isPart 1 (some FieldType.boolean) :: wsG) { frames := 1, cells := 0, slots := 0, locals := 22 } (mPc g b KM S [.int (mI x0)] sz) (mQi g b KM Q (mA b KM sz)) (mEx g b KM (fun _ _ => False) (mA b KM sz)) 0 0 (mA b KM sz) :=
  m_of (av := [.int (mI x0)]) (Qf := fun A => mQi g b KM Q A) (Xf := fun A => mEx g b KM (fun _ _ => False) A) (by decide) (Nat.le_of_ble_eq_true rfl) (fun p e s m args below meth c ls X hK hml hr hlk hout hnm hW hl => by
    have C : mC p l s m args meth c cX12_isPart "MoonWashModel" 1 (some FieldType.boolean) g := ⟨X, hK, hml, hr, hlk, hout, hl0⟩
    have hS : va_S (mA b KM s.heap.size) s.heap s.heap [] := va_S.rf
    have hl : lv_has ls 1 [(0, .int (mI x0))] := hl
    unfold w_X12_isPart at h
    refine m_iload_n (pc := 0) C.1 dX12_isPart_0 rfl hl 0 rfl ?_
    refine m_iconst (pc := 1) C.1 dX12_isPart_1 ?_
    refine m_bipush (pc := 2) C.1 dX12_isPart_2 rfl ?_
    refine m_callSi (pc := 4) C.1 C.2.2.1 hl.1 C.2.1 hW hS (As := [.int (mI x0), .int (mI 0), .int (mI 7)]) (rest := []) (T_X12_isIn C.2.2.2.2.2.2 N x0 ox0 0 (by decide : okI 0) 7 (by decide : okI 7) h) q_1475 q_1476 q_92 q_1477 pl_X12_isIn (by decide) (Nat.le_of_ble_eq_true rfl) dX12_isPart_4 (fun v1 S1 H locs ov1 h hW1 hS => ?_)
    exact m_zret (pc := 7) C.1 C.2.2.2.1 C.2.2.2.2.1 hW1 hS h.1 h.2 (by decide) (by decide) dX12_isPart_7) sz
section
variable {p : Program} {l : Launch} {e : Env} {s : State} {m : MethodId} {args : Array Value} {below : List Frame} {meth : Method} {c : Code} {g : mG} {b : Nat}
end
def w_X12_isSoap (N : Nat) (r0 : Nat) (x1 : Int) (S : mSt) (Q : mSt → Int → Prop) : Prop :=
  w_X12_isIn N x1 0 (nm ((S (r0 + 1) 3) - 1)) S (fun (S1 : mSt) (v1 : Int) => ((v1 = 0 ∨ v1 = 1) ∧ Q S1 v1))
theorem T_X12_isSoap {l : Launch} (hl0 : l.stackTraces = false) {g : mG} {b : Nat} (N : Nat) (r0 : Nat) (kr0 : KM r0 = (0, 10, 0)) (x1 : Int) (ox1 : okI x1) {S : mSt} {Q : mSt → Int → Prop} (h : w_X12_isSoap N r0 x1 S Q) (sz : Nat) : vx_Met l yX12_isSoap (Cond.code yX12_isSoap cX12_isSoap 2 (some FieldType.boolean) :: wsG) { frames := 1, cells := 0, slots := 0, locals := 22 } (mPc g b KM S [.ref (b + r0), .int (mI x1)] sz) (mQi g b KM Q (mA b KM sz)) (mEx g b KM (fun _ _ => False) (mA b KM sz)) 0 0 (mA b KM sz) :=
  m_of (av := [.ref (b + r0), .int (mI x1)]) (Qf := fun A => mQi g b KM Q A) (Xf := fun A => mEx g b KM (fun _ _ => False) A) (by decide) (Nat.le_of_ble_eq_true rfl) (fun p e s m args below meth c ls X hK hml hr hlk hout hnm hW hl => by
    have C : mC p l s m args meth c cX12_isSoap "MoonWashModel" 2 (some FieldType.boolean) g := ⟨X, hK, hml, hr, hlk, hout, hl0⟩
    have hS : va_S (mA b KM s.heap.size) s.heap s.heap [] := va_S.rf
    have hl : lv_has ls 2 [(0, .ref (b + r0)), (1, .int (mI x1))] := hl
    unfold w_X12_isSoap at h
    refine m_iload_n (pc := 0) C.1 dX12_isSoap_0 rfl hl 1 rfl ?_
    refine m_iconst (pc := 1) C.1 dX12_isSoap_1 ?_
    refine m_aload_n (pc := 2) C.1 dX12_isSoap_2 rfl hl 0 rfl ?_
    refine g_10_1 (pc := 3) C hW kr0 q_1384 dX12_isSoap_3 ?_
    refine m_iconst (pc := 6) C.1 dX12_isSoap_6 ?_
    refine m_iald (pc := 7) C.1 C.2.1 hW (k_10_1 kr0) (by decide : okI 3) (by decide) (by decide) dX12_isSoap_7 ?_
    refine m_iconst (pc := 8) C.1 dX12_isSoap_8 ?_
    refine m_isub (pc := 9) C.1 dX12_isSoap_9 ?_
    refine m_callSi (pc := 10) C.1 C.2.2.1 hl.1 C.2.1 hW hS (As := [.int (mI x1), .int (mI 0), .int (mI (nm ((S (r0 + 1) 3) - 1)))]) (rest := []) (T_X12_isIn C.2.2.2.2.2.2 N x1 ox1 0 (by decide : okI 0) (nm ((S (r0 + 1) 3) - 1)) (nm_ok _) h) q_1475 q_1476 q_92 q_1477 pl_X12_isIn (by decide) (Nat.le_of_ble_eq_true rfl) dX12_isSoap_10 (fun v1 S1 H locs ov1 h hW1 hS => ?_)
    exact m_zret (pc := 13) C.1 C.2.2.2.1 C.2.2.2.2.1 hW1 hS h.1 h.2 (by decide) (by decide) dX12_isSoap_13) sz
section
variable {p : Program} {l : Launch} {e : Env} {s : State} {m : MethodId} {args : Array Value} {below : List Frame} {meth : Method} {c : Code} {g : mG} {b : Nat}
def w_X12_partOn_2b (N : Nat) (Q : mSt → Int → Prop) (ko2 : Nat → Int → Int → mSt → Prop) (ko18 : Int → mSt → Prop) (r0 : Nat) (x1 : Int) (x2 : Int) (S : mSt) : Prop :=
  w_X12_of N r0 x2 5 S (fun (S1 : mSt) (v1 : Int) => ((v1 = x1 → ko18 x2 S1) ∧ (v1 ≠ x1 → ∀ v2 : Int, v2 = nm (x2 + 1) → ko2 r0 x1 v2 S1)))
theorem W_X12_partOn_2b (C : mC p l s m args meth c cX12_partOn "MoonWashModel" 3 (some FieldType.int) g) (N : Nat) {Q : mSt → Int → Prop} {ko2 : Nat → Int → Int → mSt → Prop} {ko18 : Int → mSt → Prop} (hko2 : ∀ (r0 : Nat) (kr0 : KM r0 = (0, 10, 0)) (x1 : Int) (ox1 : okI x1) (x2 : Int) (ox2 : okI x2) (S : mSt) (H : Heap) (locs : List Loc) (ls : Array Slot), lv_has ls 3 [(0, .ref (b + r0)), (1, .int (mI x1)), (2, .int (mI x2))] → mW g b KM S H → va_S (mA b KM s.heap.size) s.heap H locs → ko2 r0 x1 x2 S → W p l e { frames := 1, cells := 0, slots := 0, locals := 22 } s m args below meth c H locs 0 0 (vx_MQ below (mQi g b KM Q (mA b KM s.heap.size)) (mEx g b KM (fun _ _ => False) (mA b KM s.heap.size)) args s 0 0 (mA b KM s.heap.size)) (F0 m 2 ls [])) (hko18 : ∀ (x2 : Int) (ox2 : okI x2) (S : mSt) (H : Heap) (locs : List Loc) (ls : Array Slot), lv_has ls 3 [(2, .int (mI x2))] → mW g b KM S H → va_S (mA b KM s.heap.size) s.heap H locs → ko18 x2 S → W p l e { frames := 1, cells := 0, slots := 0, locals := 22 } s m args below meth c H locs 0 0 (vx_MQ below (mQi g b KM Q (mA b KM s.heap.size)) (mEx g b KM (fun _ _ => False) (mA b KM s.heap.size)) args s 0 0 (mA b KM s.heap.size)) (F0 m 18 ls [])) (r0 : Nat) (kr0 : KM r0 = (0, 10, 0)) (x1 : Int) (ox1 : okI x1) (x2 : Int) (ox2 : okI x2) (S : mSt) (H : Heap) (locs : List Loc) (ls : Array Slot) (hl : lv_has ls 3 [(0, .ref (b + r0)), (1, .int (mI x1)), (2, .int (mI x2))]) (hW : mW g b KM S H) (hS : va_S (mA b KM s.heap.size) s.heap H locs) (h : w_X12_partOn_2b N Q ko2 ko18 r0 x1 x2 S) : W p l e { frames := 1, cells := 0, slots := 0, locals := 22 } s m args below meth c H locs 0 0 (vx_MQ below (mQi g b KM Q (mA b KM s.heap.size)) (mEx g b KM (fun _ _ => False) (mA b KM s.heap.size)) args s 0 0 (mA b KM s.heap.size)) (F0 m 2 ls []) := by
  unfold w_X12_partOn_2b at h
  refine m_aload_n (pc := 2) C.1 dX12_partOn_2 rfl hl 0 rfl ?_
  refine m_iload_n (pc := 3) C.1 dX12_partOn_3 rfl hl 2 rfl ?_
  refine m_iconst (pc := 4) C.1 dX12_partOn_4 ?_
  refine m_callVi (pc := 5) C.1 C.2.2.1 hl.1 C.2.1 hW hS (As := [.int (mI x2), .int (mI 5)]) (rest := []) (r := r0) (T_X12_of C.2.2.2.2.2.2 N r0 kr0 x2 ox2 5 (by decide : okI 5) h) kr0 rfl q_1630 q_1632 q_48 q_92 q_1633 pl_X12_of (by decide) (Nat.le_of_ble_eq_true rfl) dX12_partOn_5 (fun v1 S1 H locs ov1 h hW1 hS => ?_)
  refine m_iload_n (pc := 8) C.1 dX12_partOn_8 rfl hl 1 rfl ?_
  refine m_icmp_eq (pc := 9) (tgt := 18) C.1 ov1 ox1 dX12_partOn_9 (by decide) (fun hc => ?_) (fun hc => ?_)
  · replace h := h.1 hc
    exact hko18 x2 ox2 S1 _ _ _ (lv_sub hl [2] rfl) hW1 hS h
  · replace h := h.2 hc
    refine m_iinc (pc := 12) C.1 dX12_partOn_12 hl (by decide) (q0 := 2) rfl (fun v => [(2, .int v), (0, .ref (b + r0)), (1, .int (mI x1))]) (fun _ => rfl) (fun v2 ls ev2 ov2 hl => ?_)
    replace h := h v2 ev2
    refine m_goto (pc := 15) (tgt := 2) C.1 dX12_partOn_15 (by decide) ?_
    exact hko2 r0 kr0 x1 ox1 v2 ov2 S1 _ _ _ (lv_sub hl [1, 2, 0] rfl) hW1 hS h
def w_X12_partOn_2 (N : Nat) (Q : mSt → Int → Prop) (ko18 : Int → mSt → Prop) : Nat → Nat → Int → Int → mSt → Prop
  | 0 => fun _ _ _ _ => False
  | k + 1 => w_X12_partOn_2b N Q (w_X12_partOn_2 N Q ko18 k) ko18
theorem W_X12_partOn_2 (C : mC p l s m args meth c cX12_partOn "MoonWashModel" 3 (some FieldType.int) g) (N : Nat) {Q : mSt → Int → Prop} {ko18 : Int → mSt → Prop} (hko18 : ∀ (x2 : Int) (ox2 : okI x2) (S : mSt) (H : Heap) (locs : List Loc) (ls : Array Slot), lv_has ls 3 [(2, .int (mI x2))] → mW g b KM S H → va_S (mA b KM s.heap.size) s.heap H locs → ko18 x2 S → W p l e { frames := 1, cells := 0, slots := 0, locals := 22 } s m args below meth c H locs 0 0 (vx_MQ below (mQi g b KM Q (mA b KM s.heap.size)) (mEx g b KM (fun _ _ => False) (mA b KM s.heap.size)) args s 0 0 (mA b KM s.heap.size)) (F0 m 18 ls [])) : ∀ (k : Nat) (r0 : Nat) (kr0 : KM r0 = (0, 10, 0)) (x1 : Int) (ox1 : okI x1) (x2 : Int) (ox2 : okI x2) (S : mSt) (H : Heap) (locs : List Loc) (ls : Array Slot) (hl : lv_has ls 3 [(0, .ref (b + r0)), (1, .int (mI x1)), (2, .int (mI x2))]) (hW : mW g b KM S H) (hS : va_S (mA b KM s.heap.size) s.heap H locs) (h : w_X12_partOn_2 N Q ko18 k r0 x1 x2 S), W p l e { frames := 1, cells := 0, slots := 0, locals := 22 } s m args below meth c H locs 0 0 (vx_MQ below (mQi g b KM Q (mA b KM s.heap.size)) (mEx g b KM (fun _ _ => False) (mA b KM s.heap.size)) args s 0 0 (mA b KM s.heap.size)) (F0 m 2 ls []) := by
  intro k
  induction k with
  | zero => intro r0 kr0 x1 ox1 x2 ox2 S H locs ls hl hW hS h; exact False.elim h
  | succ k ih => intro r0 kr0 x1 ox1 x2 ox2 S H locs ls hl hW hS h; exact W_X12_partOn_2b C N ih hko18 r0 kr0 x1 ox1 x2 ox2 S H locs ls hl hW hS h
end
def w_X12_partOn (N : Nat) (r0 : Nat) (x1 : Int) (S : mSt) (Q : mSt → Int → Prop) : Prop :=
  ∀ v1 : Int, v1 = 0 → w_X12_partOn_2 N Q (fun (x2_2 : Int) (S_2 : mSt) => Q S_2 x2_2) N r0 x1 v1 S
theorem T_X12_partOn {l : Launch} (hl0 : l.stackTraces = false) {g : mG} {b : Nat} (N : Nat) (r0 : Nat) (kr0 : KM r0 = (0, 10, 0)) (x1 : Int) (ox1 : okI x1) {S : mSt} {Q : mSt → Int → Prop} (h : w_X12_partOn N r0 x1 S Q) (sz : Nat) : vx_Met l yX12_partOn (Cond.code yX12_partOn cX12_partOn 3 (some FieldType.int) :: wsG) { frames := 1, cells := 0, slots := 0, locals := 22 } (mPc g b KM S [.ref (b + r0), .int (mI x1)] sz) (mQi g b KM Q (mA b KM sz)) (mEx g b KM (fun _ _ => False) (mA b KM sz)) 0 0 (mA b KM sz) :=
  m_of (av := [.ref (b + r0), .int (mI x1)]) (Qf := fun A => mQi g b KM Q A) (Xf := fun A => mEx g b KM (fun _ _ => False) A) (by decide) (Nat.le_of_ble_eq_true rfl) (fun p e s m args below meth c ls X hK hml hr hlk hout hnm hW hl => by
    have C : mC p l s m args meth c cX12_partOn "MoonWashModel" 3 (some FieldType.int) g := ⟨X, hK, hml, hr, hlk, hout, hl0⟩
    have hS : va_S (mA b KM s.heap.size) s.heap s.heap [] := va_S.rf
    have hl : lv_has ls 3 [(0, .ref (b + r0)), (1, .int (mI x1))] := hl
    unfold w_X12_partOn at h
    refine m_iconst (pc := 0) C.1 dX12_partOn_0 ?_
    refine m_istore_n (pc := 1) C.1 dX12_partOn_1 rfl hl (by decide) (fun v => [(2, .int v), (0, .ref (b + r0)), (1, .int (mI x1))]) (fun _ => rfl) (by decide : okI 0) (fun v1 ls ev1 ov1 hl => ?_)
    replace h := h v1 ev1
    refine W_X12_partOn_2 C N ?_ N r0 kr0 x1 ox1 v1 ov1 S _ _ _ (lv_sub hl [1, 2, 0] rfl) hW hS h
    · intro x2_2 ox2_2 S_2 H locs ls hl hW_2 hS h
      refine m_iload_n (pc := 18) C.1 dX12_partOn_18 rfl hl 0 rfl ?_
      exact m_iret (pc := 19) C.1 C.2.2.2.1 C.2.2.2.2.1 hW_2 hS ox2_2 h (by decide) (by decide) dX12_partOn_19) sz
section
variable {p : Program} {l : Launch} {e : Env} {s : State} {m : MethodId} {args : Array Value} {below : List Frame} {meth : Method} {c : Code} {g : mG} {b : Nat}
def w_X12_feed_76 (N : Nat) (Q : mSt → Int → Prop) (ko23 : Nat → Int → Int → Int → Int → Int → Int → mSt → Prop) (r0 : Nat) (x1 : Int) (x2 : Int) (x3 : Int) (x4 : Int) (x5 : Int) (x6 : Int) (xs0 : Int) (S : mSt) : Prop :=
  ∀ v1 : Int, v1 = xs0 → (0 ≤ (S r0 9) ∧ (S r0 9) < 400 ∧ ∀ S3 : mSt, S3 = mup S (r0 + 6) (S r0 9) (bAnd (bUsh v1 (nm (24 - (nm (8 * (iRem x6 4)))))) 255) → ∀ S4 : mSt, S4 = mup S3 r0 9 (nm ((S3 r0 9) + 1)) → ∀ v5 : Int, v5 = nm (x6 + 1) → ko23 r0 x1 x2 x3 x4 x5 v5 S4)
theorem W_X12_feed_76 (C : mC p l s m args meth c cX12_feed "MoonWashModel" 8 (some FieldType.int) g) (N : Nat) {Q : mSt → Int → Prop} {ko23 : Nat → Int → Int → Int → Int → Int → Int → mSt → Prop} (hko23 : ∀ (r0 : Nat) (kr0 : KM r0 = (0, 10, 0)) (x1 : Int) (ox1 : okI x1) (x2 : Int) (ox2 : okI x2) (x3 : Int) (ox3 : okI x3) (x4 : Int) (ox4 : okI x4) (x5 : Int) (ox5 : okI x5) (x6 : Int) (ox6 : okI x6) (S : mSt) (H : Heap) (locs : List Loc) (ls : Array Slot), lv_has ls 8 [(0, .ref (b + r0)), (1, .int (mI x1)), (2, .int (mI x2)), (3, .int (mI x3)), (4, .int (mI x4)), (5, .int (mI x5)), (6, .int (mI x6))] → mW g b KM S H → va_S (mA b KM s.heap.size) s.heap H locs → ko23 r0 x1 x2 x3 x4 x5 x6 S → W p l e { frames := 0, cells := 0, slots := 0, locals := 0 } s m args below meth c H locs 0 0 (vx_MQ below (mQi g b KM Q (mA b KM s.heap.size)) (mEx g b KM (fun _ _ => False) (mA b KM s.heap.size)) args s 0 0 (mA b KM s.heap.size)) (F0 m 23 ls [])) (r0 : Nat) (kr0 : KM r0 = (0, 10, 0)) (x1 : Int) (ox1 : okI x1) (x2 : Int) (ox2 : okI x2) (x3 : Int) (ox3 : okI x3) (x4 : Int) (ox4 : okI x4) (x5 : Int) (ox5 : okI x5) (x6 : Int) (ox6 : okI x6) (xs0 : Int) (oxs0 : okI xs0) (S : mSt) (H : Heap) (locs : List Loc) (ls : Array Slot) (hl : lv_has ls 8 [(0, .ref (b + r0)), (1, .int (mI x1)), (2, .int (mI x2)), (3, .int (mI x3)), (4, .int (mI x4)), (5, .int (mI x5)), (6, .int (mI x6))]) (hW : mW g b KM S H) (hS : va_S (mA b KM s.heap.size) s.heap H locs) (h : w_X12_feed_76 N Q ko23 r0 x1 x2 x3 x4 x5 x6 xs0 S) : W p l e { frames := 0, cells := 0, slots := 0, locals := 0 } s m args below meth c H locs 0 0 (vx_MQ below (mQi g b KM Q (mA b KM s.heap.size)) (mEx g b KM (fun _ _ => False) (mA b KM s.heap.size)) args s 0 0 (mA b KM s.heap.size)) (F0 m 76 ls [.int (mI xs0)]) := by
  unfold w_X12_feed_76 at h
  refine m_istore (pc := 76) C.1 dX12_feed_76 hl (by decide) (fun v => [(7, .int v), (0, .ref (b + r0)), (1, .int (mI x1)), (2, .int (mI x2)), (3, .int (mI x3)), (4, .int (mI x4)), (5, .int (mI x5)), (6, .int (mI x6))]) (fun _ => rfl) oxs0 (fun v1 ls ev1 ov1 hl => ?_)
  replace h := h v1 ev1
  refine m_aload_n (pc := 78) C.1 dX12_feed_78 rfl hl 1 rfl ?_
  refine g_10_8 (pc := 79) C hW kr0 q_1391 dX12_feed_79 ?_
  refine m_aload_n (pc := 82) C.1 dX12_feed_82 rfl hl 1 rfl ?_
  refine g_10_9 (pc := 83) C hW kr0 q_1392 dX12_feed_83 ?_
  refine m_iload (pc := 86) C.1 dX12_feed_86 hl 0 rfl ?_
  refine m_bipush (pc := 88) C.1 dX12_feed_88 rfl ?_
  refine m_bipush (pc := 90) C.1 dX12_feed_90 rfl ?_
  refine m_iload (pc := 92) C.1 dX12_feed_92 hl 7 rfl ?_
  refine m_iconst (pc := 94) C.1 dX12_feed_94 ?_
  refine m_irem (pc := 95) C.1 (by decide : okI 4) (by decide) dX12_feed_95 ?_
  refine m_imul (pc := 96) C.1 dX12_feed_96 ?_
  refine m_isub (pc := 97) C.1 dX12_feed_97 ?_
  refine m_iushr (pc := 98) C.1 dX12_feed_98 ?_
  refine m_sipush (pc := 99) C.1 dX12_feed_99 rfl ?_
  refine m_iand (pc := 102) C.1 dX12_feed_102 ?_
  obtain ⟨hb2a, hb2b, h⟩ := h
  refine m_iast (pc := 103) C.1 C.2.1 hW hS (k_10_8 kr0) (hW.2.1 _ _) (bAnd_ok _ _) hb2a hb2b dX12_feed_103 (fun S3 H locs e3 hW3 hS => ?_)
  replace h := h S3 e3
  refine m_aload_n (pc := 104) C.1 dX12_feed_104 rfl hl 1 rfl ?_
  refine lv_dup (pc := 105) C.1.1 C.1.2.1 dX12_feed_105 rfl ?_
  refine g_10_9 (pc := 106) C hW3 kr0 q_1392 dX12_feed_106 ?_
  refine m_iconst (pc := 109) C.1 dX12_feed_109 ?_
  refine m_iadd (pc := 110) C.1 dX12_feed_110 ?_
  refine p_10_9 (pc := 111) C hW3 hS kr0 q_1392 (nm_ok _) dX12_feed_111 (fun S4 H locs e4 hW4 hS => ?_)
  replace h := h S4 e4
  refine m_iinc (pc := 114) C.1 dX12_feed_114 hl (by decide) (q0 := 7) rfl (fun v => [(6, .int v), (7, .int (mI v1)), (0, .ref (b + r0)), (1, .int (mI x1)), (2, .int (mI x2)), (3, .int (mI x3)), (4, .int (mI x4)), (5, .int (mI x5))]) (fun _ => rfl) (fun v5 ls ev5 ov5 hl => ?_)
  replace h := h v5 ev5
  refine m_goto (pc := 117) (tgt := 23) C.1 dX12_feed_117 (by decide) ?_
  exact hko23 r0 kr0 x1 ox1 x2 ox2 x3 ox3 x4 ox4 x5 ox5 v5 ov5 S4 _ _ _ (lv_sub hl [2, 3, 4, 5, 6, 7, 0] rfl) hW4 hS h
def w_X12_feed_23b (N : Nat) (Q : mSt → Int → Prop) (ko23 : Nat → Int → Int → Int → Int → Int → Int → mSt → Prop) (ko120 : Nat → mSt → Prop) (r0 : Nat) (x1 : Int) (x2 : Int) (x3 : Int) (x4 : Int) (x5 : Int) (x6 : Int) (S : mSt) : Prop :=
  ((20 ≤ x6 → ko120 r0 S) ∧ (x6 < 20 → ((4 ≤ x6 → ((8 ≤ x6 → ((12 ≤ x6 → ((16 ≤ x6 → w_X12_feed_76 N Q ko23 r0 x1 x2 x3 x4 x5 x6 x5 S) ∧ (x6 < 16 → w_X12_feed_76 N Q ko23 r0 x1 x2 x3 x4 x5 x6 x4 S))) ∧ (x6 < 12 → w_X12_feed_76 N Q ko23 r0 x1 x2 x3 x4 x5 x6 x3 S))) ∧ (x6 < 8 → w_X12_feed_76 N Q ko23 r0 x1 x2 x3 x4 x5 x6 x2 S))) ∧ (x6 < 4 → w_X12_feed_76 N Q ko23 r0 x1 x2 x3 x4 x5 x6 x1 S))))
theorem W_X12_feed_23b (C : mC p l s m args meth c cX12_feed "MoonWashModel" 8 (some FieldType.int) g) (N : Nat) {Q : mSt → Int → Prop} {ko23 : Nat → Int → Int → Int → Int → Int → Int → mSt → Prop} {ko120 : Nat → mSt → Prop} (hko23 : ∀ (r0 : Nat) (kr0 : KM r0 = (0, 10, 0)) (x1 : Int) (ox1 : okI x1) (x2 : Int) (ox2 : okI x2) (x3 : Int) (ox3 : okI x3) (x4 : Int) (ox4 : okI x4) (x5 : Int) (ox5 : okI x5) (x6 : Int) (ox6 : okI x6) (S : mSt) (H : Heap) (locs : List Loc) (ls : Array Slot), lv_has ls 8 [(0, .ref (b + r0)), (1, .int (mI x1)), (2, .int (mI x2)), (3, .int (mI x3)), (4, .int (mI x4)), (5, .int (mI x5)), (6, .int (mI x6))] → mW g b KM S H → va_S (mA b KM s.heap.size) s.heap H locs → ko23 r0 x1 x2 x3 x4 x5 x6 S → W p l e { frames := 0, cells := 0, slots := 0, locals := 0 } s m args below meth c H locs 0 0 (vx_MQ below (mQi g b KM Q (mA b KM s.heap.size)) (mEx g b KM (fun _ _ => False) (mA b KM s.heap.size)) args s 0 0 (mA b KM s.heap.size)) (F0 m 23 ls [])) (hko120 : ∀ (r0 : Nat) (kr0 : KM r0 = (0, 10, 0)) (S : mSt) (H : Heap) (locs : List Loc) (ls : Array Slot), lv_has ls 8 [(0, .ref (b + r0))] → mW g b KM S H → va_S (mA b KM s.heap.size) s.heap H locs → ko120 r0 S → W p l e { frames := 0, cells := 0, slots := 0, locals := 0 } s m args below meth c H locs 0 0 (vx_MQ below (mQi g b KM Q (mA b KM s.heap.size)) (mEx g b KM (fun _ _ => False) (mA b KM s.heap.size)) args s 0 0 (mA b KM s.heap.size)) (F0 m 120 ls [])) (r0 : Nat) (kr0 : KM r0 = (0, 10, 0)) (x1 : Int) (ox1 : okI x1) (x2 : Int) (ox2 : okI x2) (x3 : Int) (ox3 : okI x3) (x4 : Int) (ox4 : okI x4) (x5 : Int) (ox5 : okI x5) (x6 : Int) (ox6 : okI x6) (S : mSt) (H : Heap) (locs : List Loc) (ls : Array Slot) (hl : lv_has ls 8 [(0, .ref (b + r0)), (1, .int (mI x1)), (2, .int (mI x2)), (3, .int (mI x3)), (4, .int (mI x4)), (5, .int (mI x5)), (6, .int (mI x6))]) (hW : mW g b KM S H) (hS : va_S (mA b KM s.heap.size) s.heap H locs) (h : w_X12_feed_23b N Q ko23 ko120 r0 x1 x2 x3 x4 x5 x6 S) : W p l e { frames := 0, cells := 0, slots := 0, locals := 0 } s m args below meth c H locs 0 0 (vx_MQ below (mQi g b KM Q (mA b KM s.heap.size)) (mEx g b KM (fun _ _ => False) (mA b KM s.heap.size)) args s 0 0 (mA b KM s.heap.size)) (F0 m 23 ls []) := by
  unfold w_X12_feed_23b at h
  refine m_iload (pc := 23) C.1 dX12_feed_23 hl 6 rfl ?_
  refine m_bipush (pc := 25) C.1 dX12_feed_25 rfl ?_
  refine m_icmp_ge (pc := 27) (tgt := 120) C.1 ox6 (by decide : okI 20) dX12_feed_27 (by decide) (fun hc => ?_) (fun hc => ?_)
  · replace h := h.1 hc
    exact hko120 r0 kr0 S _ _ _ (lv_sub hl [0] rfl) hW hS h
  · replace h := h.2 hc
    refine m_iload (pc := 30) C.1 dX12_feed_30 hl 6 rfl ?_
    refine m_iconst (pc := 32) C.1 dX12_feed_32 ?_
    refine m_icmp_ge (pc := 33) (tgt := 40) C.1 ox6 (by decide : okI 4) dX12_feed_33 (by decide) (fun hc => ?_) (fun hc => ?_)
    · replace h := h.1 hc
      refine m_iload (pc := 40) C.1 dX12_feed_40 hl 6 rfl ?_
      refine m_bipush (pc := 42) C.1 dX12_feed_42 rfl ?_
      refine m_icmp_ge (pc := 44) (tgt := 51) C.1 ox6 (by decide : okI 8) dX12_feed_44 (by decide) (fun hc => ?_) (fun hc => ?_)
      · replace h := h.1 hc
        refine m_iload (pc := 51) C.1 dX12_feed_51 hl 6 rfl ?_
        refine m_bipush (pc := 53) C.1 dX12_feed_53 rfl ?_
        refine m_icmp_ge (pc := 55) (tgt := 62) C.1 ox6 (by decide : okI 12) dX12_feed_55 (by decide) (fun hc => ?_) (fun hc => ?_)
        · replace h := h.1 hc
          refine m_iload (pc := 62) C.1 dX12_feed_62 hl 6 rfl ?_
          refine m_bipush (pc := 64) C.1 dX12_feed_64 rfl ?_
          refine m_icmp_ge (pc := 66) (tgt := 74) C.1 ox6 (by decide : okI 16) dX12_feed_66 (by decide) (fun hc => ?_) (fun hc => ?_)
          · replace h := h.1 hc
            refine m_iload (pc := 74) C.1 dX12_feed_74 hl 5 rfl ?_
            exact W_X12_feed_76 C N hko23 r0 kr0 x1 ox1 x2 ox2 x3 ox3 x4 ox4 x5 ox5 x6 ox6 x5 ox5 S _ _ _ (lv_sub hl [0, 1, 2, 3, 4, 5, 6] rfl) hW hS h
          · replace h := h.2 hc
            refine m_iload (pc := 69) C.1 dX12_feed_69 hl 4 rfl ?_
            refine m_goto (pc := 71) (tgt := 76) C.1 dX12_feed_71 (by decide) ?_
            exact W_X12_feed_76 C N hko23 r0 kr0 x1 ox1 x2 ox2 x3 ox3 x4 ox4 x5 ox5 x6 ox6 x4 ox4 S _ _ _ (lv_sub hl [0, 1, 2, 3, 4, 5, 6] rfl) hW hS h
        · replace h := h.2 hc
          refine m_iload_n (pc := 58) C.1 dX12_feed_58 rfl hl 3 rfl ?_
          refine m_goto (pc := 59) (tgt := 76) C.1 dX12_feed_59 (by decide) ?_
          exact W_X12_feed_76 C N hko23 r0 kr0 x1 ox1 x2 ox2 x3 ox3 x4 ox4 x5 ox5 x6 ox6 x3 ox3 S _ _ _ (lv_sub hl [0, 1, 2, 3, 4, 5, 6] rfl) hW hS h
      · replace h := h.2 hc
        refine m_iload_n (pc := 47) C.1 dX12_feed_47 rfl hl 2 rfl ?_
        refine m_goto (pc := 48) (tgt := 76) C.1 dX12_feed_48 (by decide) ?_
        exact W_X12_feed_76 C N hko23 r0 kr0 x1 ox1 x2 ox2 x3 ox3 x4 ox4 x5 ox5 x6 ox6 x2 ox2 S _ _ _ (lv_sub hl [0, 1, 2, 3, 4, 5, 6] rfl) hW hS h
    · replace h := h.2 hc
      refine m_iload_n (pc := 36) C.1 dX12_feed_36 rfl hl 1 rfl ?_
      refine m_goto (pc := 37) (tgt := 76) C.1 dX12_feed_37 (by decide) ?_
      exact W_X12_feed_76 C N hko23 r0 kr0 x1 ox1 x2 ox2 x3 ox3 x4 ox4 x5 ox5 x6 ox6 x1 ox1 S _ _ _ (lv_sub hl [0, 1, 2, 3, 4, 5, 6] rfl) hW hS h
def w_X12_feed_23 (N : Nat) (Q : mSt → Int → Prop) (ko120 : Nat → mSt → Prop) : Nat → Nat → Int → Int → Int → Int → Int → Int → mSt → Prop
  | 0 => fun _ _ _ _ _ _ _ _ => False
  | k + 1 => w_X12_feed_23b N Q (w_X12_feed_23 N Q ko120 k) ko120
theorem W_X12_feed_23 (C : mC p l s m args meth c cX12_feed "MoonWashModel" 8 (some FieldType.int) g) (N : Nat) {Q : mSt → Int → Prop} {ko120 : Nat → mSt → Prop} (hko120 : ∀ (r0 : Nat) (kr0 : KM r0 = (0, 10, 0)) (S : mSt) (H : Heap) (locs : List Loc) (ls : Array Slot), lv_has ls 8 [(0, .ref (b + r0))] → mW g b KM S H → va_S (mA b KM s.heap.size) s.heap H locs → ko120 r0 S → W p l e { frames := 0, cells := 0, slots := 0, locals := 0 } s m args below meth c H locs 0 0 (vx_MQ below (mQi g b KM Q (mA b KM s.heap.size)) (mEx g b KM (fun _ _ => False) (mA b KM s.heap.size)) args s 0 0 (mA b KM s.heap.size)) (F0 m 120 ls [])) : ∀ (k : Nat) (r0 : Nat) (kr0 : KM r0 = (0, 10, 0)) (x1 : Int) (ox1 : okI x1) (x2 : Int) (ox2 : okI x2) (x3 : Int) (ox3 : okI x3) (x4 : Int) (ox4 : okI x4) (x5 : Int) (ox5 : okI x5) (x6 : Int) (ox6 : okI x6) (S : mSt) (H : Heap) (locs : List Loc) (ls : Array Slot) (hl : lv_has ls 8 [(0, .ref (b + r0)), (1, .int (mI x1)), (2, .int (mI x2)), (3, .int (mI x3)), (4, .int (mI x4)), (5, .int (mI x5)), (6, .int (mI x6))]) (hW : mW g b KM S H) (hS : va_S (mA b KM s.heap.size) s.heap H locs) (h : w_X12_feed_23 N Q ko120 k r0 x1 x2 x3 x4 x5 x6 S), W p l e { frames := 0, cells := 0, slots := 0, locals := 0 } s m args below meth c H locs 0 0 (vx_MQ below (mQi g b KM Q (mA b KM s.heap.size)) (mEx g b KM (fun _ _ => False) (mA b KM s.heap.size)) args s 0 0 (mA b KM s.heap.size)) (F0 m 23 ls []) := by
  intro k
  induction k with
  | zero => intro r0 kr0 x1 ox1 x2 ox2 x3 ox3 x4 ox4 x5 ox5 x6 ox6 S H locs ls hl hW hS h; exact False.elim h
  | succ k ih => intro r0 kr0 x1 ox1 x2 ox2 x3 ox3 x4 ox4 x5 ox5 x6 ox6 S H locs ls hl hW hS h; exact W_X12_feed_23b C N ih hko120 r0 kr0 x1 ox1 x2 ox2 x3 ox3 x4 ox4 x5 ox5 x6 ox6 S H locs ls hl hW hS h
end
def w_X12_feed (N : Nat) (r0 : Nat) (x1 : Int) (x2 : Int) (x3 : Int) (x4 : Int) (x5 : Int) (S : mSt) (Q : mSt → Int → Prop) : Prop :=
  ∀ S1 : mSt, S1 = mup S r0 0 0 → (((nm ((S1 r0 9) + 20)) ≤ 400 → ∀ v2 : Int, v2 = 0 → w_X12_feed_23 N Q (fun (r0_3 : Nat) (S_3 : mSt) => Q S_3 (S_3 r0_3 9)) N r0 x1 x2 x3 x4 x5 v2 S1) ∧ (400 < (nm ((S1 r0 9) + 20)) → Q S1 (-1)))
theorem T_X12_feed {l : Launch} (hl0 : l.stackTraces = false) {g : mG} {b : Nat} (N : Nat) (r0 : Nat) (kr0 : KM r0 = (0, 10, 0)) (x1 : Int) (ox1 : okI x1) (x2 : Int) (ox2 : okI x2) (x3 : Int) (ox3 : okI x3) (x4 : Int) (ox4 : okI x4) (x5 : Int) (ox5 : okI x5) {S : mSt} {Q : mSt → Int → Prop} (h : w_X12_feed N r0 x1 x2 x3 x4 x5 S Q) (sz : Nat) : vx_Met l yX12_feed (Cond.code yX12_feed cX12_feed 8 (some FieldType.int) :: wsG) { frames := 0, cells := 0, slots := 0, locals := 0 } (mPc g b KM S [.ref (b + r0), .int (mI x1), .int (mI x2), .int (mI x3), .int (mI x4), .int (mI x5)] sz) (mQi g b KM Q (mA b KM sz)) (mEx g b KM (fun _ _ => False) (mA b KM sz)) 0 0 (mA b KM sz) :=
  m_of (av := [.ref (b + r0), .int (mI x1), .int (mI x2), .int (mI x3), .int (mI x4), .int (mI x5)]) (Qf := fun A => mQi g b KM Q A) (Xf := fun A => mEx g b KM (fun _ _ => False) A) (by decide) (Nat.le_of_ble_eq_true rfl) (fun p e s m args below meth c ls X hK hml hr hlk hout hnm hW hl => by
    have C : mC p l s m args meth c cX12_feed "MoonWashModel" 8 (some FieldType.int) g := ⟨X, hK, hml, hr, hlk, hout, hl0⟩
    have hS : va_S (mA b KM s.heap.size) s.heap s.heap [] := va_S.rf
    have hl : lv_has ls 8 [(0, .ref (b + r0)), (1, .int (mI x1)), (2, .int (mI x2)), (3, .int (mI x3)), (4, .int (mI x4)), (5, .int (mI x5))] := hl
    unfold w_X12_feed at h
    refine m_aload_n (pc := 0) C.1 dX12_feed_0 rfl hl 0 rfl ?_
    refine m_iconst (pc := 1) C.1 dX12_feed_1 ?_
    refine p_10_0 (pc := 2) C hW hS kr0 q_1383 (by decide : okI 0) dX12_feed_2 (fun S1 H locs e1 hW1 hS => ?_)
    replace h := h S1 e1
    refine m_aload_n (pc := 5) C.1 dX12_feed_5 rfl hl 0 rfl ?_
    refine g_10_9 (pc := 6) C hW1 kr0 q_1392 dX12_feed_6 ?_
    refine m_bipush (pc := 9) C.1 dX12_feed_9 rfl ?_
    refine m_iadd (pc := 11) C.1 dX12_feed_11 ?_
    refine m_sipush (pc := 12) C.1 dX12_feed_12 rfl ?_
    refine m_icmp_le (pc := 15) (tgt := 20) C.1 (nm_ok _) (by decide : okI 400) dX12_feed_15 (by decide) (fun hc => ?_) (fun hc => ?_)
    · replace h := h.1 hc
      refine m_iconst (pc := 20) C.1 dX12_feed_20 ?_
      refine m_istore (pc := 21) C.1 dX12_feed_21 hl (by decide) (fun v => [(6, .int v), (0, .ref (b + r0)), (1, .int (mI x1)), (2, .int (mI x2)), (3, .int (mI x3)), (4, .int (mI x4)), (5, .int (mI x5))]) (fun _ => rfl) (by decide : okI 0) (fun v2 ls ev2 ov2 hl => ?_)
      replace h := h v2 ev2
      refine W_X12_feed_23 C N ?_ N r0 kr0 x1 ox1 x2 ox2 x3 ox3 x4 ox4 x5 ox5 v2 ov2 S1 _ _ _ (lv_sub hl [1, 2, 3, 4, 5, 6, 0] rfl) hW1 hS h
      · intro r0_3 kr0_3 S_3 H locs ls hl hW_3 hS h
        refine m_aload_n (pc := 120) C.1 dX12_feed_120 rfl hl 0 rfl ?_
        refine g_10_9 (pc := 121) C hW_3 kr0_3 q_1392 dX12_feed_121 ?_
        exact m_iret (pc := 124) C.1 C.2.2.2.1 C.2.2.2.2.1 hW_3 hS (hW_3.2.1 _ _) h (by decide) (by decide) dX12_feed_124
    · replace h := h.2 hc
      refine m_iconst (pc := 18) C.1 dX12_feed_18 ?_
      exact m_iret (pc := 19) C.1 C.2.2.2.1 C.2.2.2.2.1 hW1 hS (by decide : okI (-1)) h (by decide) (by decide) dX12_feed_19) sz
section
variable {p : Program} {l : Launch} {e : Env} {s : State} {m : MethodId} {args : Array Value} {below : List Frame} {meth : Method} {c : Code} {g : mG} {b : Nat}
end
def w_X12_end (N : Nat) (r0 : Nat) (x1 : Int) (S : mSt) (Q : mSt → Int → Prop) : Prop :=
  ∀ S1 : mSt, S1 = mup S r0 0 0 → w_X12_isIn N x1 0 (S1 r0 9) S1 (fun (S2 : mSt) (v2 : Int) => ((v2 ≠ 0 → ∀ S3 : mSt, S3 = mup S2 r0 9 x1 → Q S3 1) ∧ (v2 = 0 → Q S2 0)))
theorem T_X12_end {l : Launch} (hl0 : l.stackTraces = false) {g : mG} {b : Nat} (N : Nat) (r0 : Nat) (kr0 : KM r0 = (0, 10, 0)) (x1 : Int) (ox1 : okI x1) {S : mSt} {Q : mSt → Int → Prop} (h : w_X12_end N r0 x1 S Q) (sz : Nat) : vx_Met l yX12_end (Cond.code yX12_end cX12_end 2 (some FieldType.boolean) :: wsG) { frames := 1, cells := 0, slots := 0, locals := 22 } (mPc g b KM S [.ref (b + r0), .int (mI x1)] sz) (mQi g b KM Q (mA b KM sz)) (mEx g b KM (fun _ _ => False) (mA b KM sz)) 0 0 (mA b KM sz) :=
  m_of (av := [.ref (b + r0), .int (mI x1)]) (Qf := fun A => mQi g b KM Q A) (Xf := fun A => mEx g b KM (fun _ _ => False) A) (by decide) (Nat.le_of_ble_eq_true rfl) (fun p e s m args below meth c ls X hK hml hr hlk hout hnm hW hl => by
    have C : mC p l s m args meth c cX12_end "MoonWashModel" 2 (some FieldType.boolean) g := ⟨X, hK, hml, hr, hlk, hout, hl0⟩
    have hS : va_S (mA b KM s.heap.size) s.heap s.heap [] := va_S.rf
    have hl : lv_has ls 2 [(0, .ref (b + r0)), (1, .int (mI x1))] := hl
    unfold w_X12_end at h
    refine m_aload_n (pc := 0) C.1 dX12_end_0 rfl hl 0 rfl ?_
    refine m_iconst (pc := 1) C.1 dX12_end_1 ?_
    refine p_10_0 (pc := 2) C hW hS kr0 q_1383 (by decide : okI 0) dX12_end_2 (fun S1 H locs e1 hW1 hS => ?_)
    replace h := h S1 e1
    refine m_iload_n (pc := 5) C.1 dX12_end_5 rfl hl 1 rfl ?_
    refine m_iconst (pc := 6) C.1 dX12_end_6 ?_
    refine m_aload_n (pc := 7) C.1 dX12_end_7 rfl hl 0 rfl ?_
    refine g_10_9 (pc := 8) C hW1 kr0 q_1392 dX12_end_8 ?_
    refine m_callSi (pc := 11) C.1 C.2.2.1 hl.1 C.2.1 hW1 hS (As := [.int (mI x1), .int (mI 0), .int (mI (S1 r0 9))]) (rest := []) (T_X12_isIn C.2.2.2.2.2.2 N x1 ox1 0 (by decide : okI 0) (S1 r0 9) (hW1.2.1 _ _) h) q_1475 q_1476 q_92 q_1477 pl_X12_isIn (by decide) (Nat.le_of_ble_eq_true rfl) dX12_end_11 (fun v2 S2 H locs ov2 h hW2 hS => ?_)
    refine m_if_ne (pc := 14) (tgt := 19) C.1 ov2 dX12_end_14 (by decide) (fun hc => ?_) (fun hc => ?_)
    · replace h := h.1 hc
      refine m_aload_n (pc := 19) C.1 dX12_end_19 rfl hl 0 rfl ?_
      refine m_iload_n (pc := 20) C.1 dX12_end_20 rfl hl 1 rfl ?_
      refine p_10_9 (pc := 21) C hW2 hS kr0 q_1392 ox1 dX12_end_21 (fun S3 H locs e3 hW3 hS => ?_)
      replace h := h S3 e3
      refine m_iconst (pc := 24) C.1 dX12_end_24 ?_
      exact m_zret (pc := 25) C.1 C.2.2.2.1 C.2.2.2.2.1 hW3 hS (by decide) h (by decide) (by decide) dX12_end_25
    · replace h := h.2 hc
      refine m_iconst (pc := 17) C.1 dX12_end_17 ?_
      exact m_zret (pc := 18) C.1 C.2.2.2.1 C.2.2.2.2.1 hW2 hS (by decide) h (by decide) (by decide) dX12_end_18) sz
section
variable {p : Program} {l : Launch} {e : Env} {s : State} {m : MethodId} {args : Array Value} {below : List Frame} {meth : Method} {c : Code} {g : mG} {b : Nat}
end
def w_X12_letter (N : Nat) (r0 : Nat) (x1 : Int) (S : mSt) (Q : mSt → Int → Prop) : Prop :=
  (((S r0 10) ≠ (-1) → (0 ≤ (nm ((S r0 10) + x1)) ∧ (nm ((S r0 10) + x1)) < 750 ∧ Q S (S (r0 + 1) (nm ((S r0 10) + x1))))) ∧ ((S r0 10) = (-1) → (0 ≤ x1 ∧ x1 < 400 ∧ Q S (S (r0 + 6) x1))))
theorem T_X12_letter {l : Launch} (hl0 : l.stackTraces = false) {g : mG} {b : Nat} (N : Nat) (r0 : Nat) (kr0 : KM r0 = (0, 10, 0)) (x1 : Int) (ox1 : okI x1) {S : mSt} {Q : mSt → Int → Prop} (h : w_X12_letter N r0 x1 S Q) (sz : Nat) : vx_Met l yX12_letter (Cond.code yX12_letter cX12_letter 2 (some FieldType.int) :: wsG) { frames := 0, cells := 0, slots := 0, locals := 0 } (mPc g b KM S [.ref (b + r0), .int (mI x1)] sz) (mQi g b KM Q (mA b KM sz)) (mEx g b KM (fun _ _ => False) (mA b KM sz)) 0 0 (mA b KM sz) :=
  m_of (av := [.ref (b + r0), .int (mI x1)]) (Qf := fun A => mQi g b KM Q A) (Xf := fun A => mEx g b KM (fun _ _ => False) A) (by decide) (Nat.le_of_ble_eq_true rfl) (fun p e s m args below meth c ls X hK hml hr hlk hout hnm hW hl => by
    have C : mC p l s m args meth c cX12_letter "MoonWashModel" 2 (some FieldType.int) g := ⟨X, hK, hml, hr, hlk, hout, hl0⟩
    have hS : va_S (mA b KM s.heap.size) s.heap s.heap [] := va_S.rf
    have hl : lv_has ls 2 [(0, .ref (b + r0)), (1, .int (mI x1))] := hl
    unfold w_X12_letter at h
    refine m_aload_n (pc := 0) C.1 dX12_letter_0 rfl hl 0 rfl ?_
    refine g_10_10 (pc := 1) C hW kr0 q_1393 dX12_letter_1 ?_
    refine m_iconst (pc := 4) C.1 dX12_letter_4 ?_
    refine m_icmp_ne (pc := 5) (tgt := 17) C.1 (hW.2.1 _ _) (by decide : okI (-1)) dX12_letter_5 (by decide) (fun hc => ?_) (fun hc => ?_)
    · replace h := h.1 hc
      refine m_aload_n (pc := 17) C.1 dX12_letter_17 rfl hl 0 rfl ?_
      refine g_10_1 (pc := 18) C hW kr0 q_1384 dX12_letter_18 ?_
      refine m_aload_n (pc := 21) C.1 dX12_letter_21 rfl hl 0 rfl ?_
      refine g_10_10 (pc := 22) C hW kr0 q_1393 dX12_letter_22 ?_
      refine m_iload_n (pc := 25) C.1 dX12_letter_25 rfl hl 1 rfl ?_
      refine m_iadd (pc := 26) C.1 dX12_letter_26 ?_
      obtain ⟨hb1a, hb1b, h⟩ := h
      refine m_iald (pc := 27) C.1 C.2.1 hW (k_10_1 kr0) (nm_ok _) hb1a hb1b dX12_letter_27 ?_
      exact m_iret (pc := 28) C.1 C.2.2.2.1 C.2.2.2.2.1 hW hS (hW.2.1 _ _) h (by decide) (by decide) dX12_letter_28
    · replace h := h.2 hc
      refine m_aload_n (pc := 8) C.1 dX12_letter_8 rfl hl 0 rfl ?_
      refine g_10_8 (pc := 9) C hW kr0 q_1391 dX12_letter_9 ?_
      refine m_iload_n (pc := 12) C.1 dX12_letter_12 rfl hl 1 rfl ?_
      obtain ⟨hb2a, hb2b, h⟩ := h
      refine m_iald (pc := 13) C.1 C.2.1 hW (k_10_8 kr0) ox1 hb2a hb2b dX12_letter_13 ?_
      refine m_goto (pc := 14) (tgt := 28) C.1 dX12_letter_14 (by decide) ?_
      exact m_iret (pc := 28) C.1 C.2.2.2.1 C.2.2.2.2.1 hW hS (hW.2.1 _ _) h (by decide) (by decide) dX12_letter_28) sz
