set_option maxHeartbeats 4000000
set_option maxRecDepth 20000
def w_L_house (N : Nat) (r0 : Nat) (r1 : Nat) (S : mSt) (Q : mSt → Int → Prop) : Prop :=
  w_X11_house N r0 S (fun (S1 : mSt) (v1 : Int) => ∀ S2 : mSt, S2 = mup S1 r1 0 v1 → Q S2 0) (fun (En : String) (S1 : mSt) => (En = "java/lang/IllegalArgumentException" ∧ Q S1 1) ∨ (En = "java/lang/UnsupportedOperationException" ∧ Q S1 2))
theorem T_L_house {l : Launch} (hl0 : l.stackTraces = false) {g : mG} {b : Nat} (N : Nat) (r0 : Nat) (kr0 : KX r0 = (0, 9, 0)) (r1 : Nat) (kr1 : KX r1 = (6, 1, 0)) {S : mSt} {Q : mSt → Int → Prop} (h : w_L_house N r0 r1 S Q) (sz : Nat) : vx_Met l yL_house (Cond.codeWith yL_house cL_house 3 (some FieldType.int) [(0, 8, 11, 13), (0, 8, 14, 15)] :: wsG) { frames := 11, cells := 2, slots := 12, locals := 289 } (mPc g b KX S [.ref (b + r0), .ref (b + r1)] sz) (mQi g b KX Q (mA b KX sz)) (mEx g b KX (fun _ _ => False) (mA b KX sz)) 2 12 (mA b KX sz) :=
  m_ofH (av := [.ref (b + r0), .ref (b + r1)]) (Qf := fun A => mQi g b KX Q A) (Xf := fun A => mEx g b KX (fun _ _ => False) A) hl0 (by decide) (Nat.le_of_ble_eq_true rfl) (fun p e s m args below meth c ls C hW hl => by
    have C : mCH p l s m args meth c cL_house "MoonWashLaw" 3 (some FieldType.int) g [(0, 8, 11, 13), (0, 8, 14, 15)] := C
    have hS : va_S (mA b KX s.heap.size) s.heap s.heap [] := va_S.rf
    have hl : lv_has ls 3 [(0, .ref (b + r0)), (1, .ref (b + r1))] := hl
    unfold w_L_house at h
    refine m_aload_n (pc := 0) C.1 dL_house_0 rfl hl 1 rfl ?_
    refine m_iconst (pc := 1) C.1 dL_house_1 ?_
    refine m_aload_n (pc := 2) C.1 dL_house_2 rfl hl 0 rfl ?_
    refine m_callVix (pc := 3) C.1 C.2.2.1 hl.1 C.2.1 hW hS (As := []) (rest := [.int (mI 0), .ref (b + r1)]) (r := r0) (T_X11_house C.2.2.2.2.2.2 N r0 kr0 h) kr0 rfl q_595 q_596 q_597 q_81 q_598 pl_X11_house (by decide) (Nat.le_of_ble_eq_true rfl) dL_house_3 (fun En S1 H locs ce q9 hE hW1 hS h1 h2 h3 => ?_) (fun v1 S1 H locs ov1 h hW1 hS => ?_)
    · rcases hE with ⟨rfl, h⟩ | ⟨rfl, h⟩
      · refine m_catch (pc := 3) C 0 rfl (fun z hz => absurd hz List.not_mem_nil) rfl (by decide) q_593 n_773 h1 h2 h3 ?_
        refine m_astore_n (pc := 11) C.1 dL_house_11 rfl hl (by decide) rfl (fun ls hl => ?_)
        refine m_iconst (pc := 12) C.1 dL_house_12 ?_
        exact m_iret (pc := 13) C.1 C.2.2.2.1 C.2.2.2.2.1 hW1 hS (by decide : okI 1) h (by decide) (by decide) dL_house_13
      · refine m_catch (pc := 3) C 1 rfl (List.forall_mem_cons.mpr ⟨⟨by decide, "java/lang/IllegalArgumentException", q_593, by decide +kernel⟩, fun z hz => absurd hz List.not_mem_nil⟩) rfl (by decide) q_594 n_838 h1 h2 h3 ?_
        refine m_astore_n (pc := 14) C.1 dL_house_14 rfl hl (by decide) rfl (fun ls hl => ?_)
        refine m_iconst (pc := 15) C.1 dL_house_15 ?_
        exact m_iret (pc := 16) C.1 C.2.2.2.1 C.2.2.2.2.1 hW1 hS (by decide : okI 2) h (by decide) (by decide) dL_house_16
    · refine m_i2l (pc := 6) C.1 ov1 dL_house_6 ?_
      refine m_last (pc := 7) C.1 C.2.1 hW1 hS kr1 (by decide : okI 0) ov1 (by decide) (by decide) dL_house_7 (fun S2 H locs e2 hW2 hS => ?_)
      replace h := h S2 e2
      refine m_goto (pc := 8) (tgt := 17) C.1 dL_house_8 (by decide) ?_
      refine m_iconst (pc := 17) C.1 dL_house_17 ?_
      exact m_iret (pc := 18) C.1 C.2.2.2.1 C.2.2.2.2.1 hW2 hS (by decide : okI 0) h (by decide) (by decide) dL_house_18) sz
def w_L_law (N : Nat) (r0 : Nat) (r1 : Nat) (S : mSt) (Q : mSt → Int → Prop) : Prop :=
  w_X11_law N r0 S (fun (S1 : mSt) (v1 : Int) => ∀ S2 : mSt, S2 = mup S1 r1 0 v1 → Q S2 0) (fun (En : String) (S1 : mSt) => (En = "java/lang/IllegalArgumentException" ∧ Q S1 1))
theorem T_L_law {l : Launch} (hl0 : l.stackTraces = false) {g : mG} {b : Nat} (N : Nat) (r0 : Nat) (kr0 : KX r0 = (0, 9, 0)) (r1 : Nat) (kr1 : KX r1 = (6, 1, 0)) {S : mSt} {Q : mSt → Int → Prop} (h : w_L_law N r0 r1 S Q) (sz : Nat) : vx_Met l yL_law (Cond.codeWith yL_law cL_law 3 (some FieldType.int) [(0, 8, 11, 13)] :: wsG) { frames := 41, cells := 1, slots := 6, locals := 872 } (mPc g b KX S [.ref (b + r0), .ref (b + r1)] sz) (mQi g b KX Q (mA b KX sz)) (mEx g b KX (fun _ _ => False) (mA b KX sz)) 1 6 (mA b KX sz) :=
  m_ofH (av := [.ref (b + r0), .ref (b + r1)]) (Qf := fun A => mQi g b KX Q A) (Xf := fun A => mEx g b KX (fun _ _ => False) A) hl0 (by decide) (Nat.le_of_ble_eq_true rfl) (fun p e s m args below meth c ls C hW hl => by
    have C : mCH p l s m args meth c cL_law "MoonWashLaw" 3 (some FieldType.int) g [(0, 8, 11, 13)] := C
    have hS : va_S (mA b KX s.heap.size) s.heap s.heap [] := va_S.rf
    have hl : lv_has ls 3 [(0, .ref (b + r0)), (1, .ref (b + r1))] := hl
    unfold w_L_law at h
    refine m_aload_n (pc := 0) C.1 dL_law_0 rfl hl 1 rfl ?_
    refine m_iconst (pc := 1) C.1 dL_law_1 ?_
    refine m_aload_n (pc := 2) C.1 dL_law_2 rfl hl 0 rfl ?_
    refine m_callVix (pc := 3) C.1 C.2.2.1 hl.1 C.2.1 hW hS (As := []) (rest := [.int (mI 0), .ref (b + r1)]) (r := r0) (T_X11_law C.2.2.2.2.2.2 N r0 kr0 h) kr0 rfl q_854 q_855 q_856 q_81 q_857 pl_X11_law (by decide) (Nat.le_of_ble_eq_true rfl) dL_law_3 (fun En S1 H locs ce q9 hE hW1 hS h1 h2 h3 => ?_) (fun v1 S1 H locs ov1 h hW1 hS => ?_)
    · rcases hE with ⟨rfl, h⟩
      · refine m_catch (pc := 3) C 0 rfl (fun z hz => absurd hz List.not_mem_nil) rfl (by decide) q_593 n_773 h1 h2 h3 ?_
        refine m_astore_n (pc := 11) C.1 dL_law_11 rfl hl (by decide) rfl (fun ls hl => ?_)
        refine m_iconst (pc := 12) C.1 dL_law_12 ?_
        exact m_iret (pc := 13) C.1 C.2.2.2.1 C.2.2.2.2.1 hW1 hS (by decide : okI 1) h (by decide) (by decide) dL_law_13
    · refine m_i2l (pc := 6) C.1 ov1 dL_law_6 ?_
      refine m_last (pc := 7) C.1 C.2.1 hW1 hS kr1 (by decide : okI 0) ov1 (by decide) (by decide) dL_law_7 (fun S2 H locs e2 hW2 hS => ?_)
      replace h := h S2 e2
      refine m_goto (pc := 8) (tgt := 14) C.1 dL_law_8 (by decide) ?_
      refine m_iconst (pc := 14) C.1 dL_law_14 ?_
      exact m_iret (pc := 15) C.1 C.2.2.2.1 C.2.2.2.2.1 hW2 hS (by decide : okI 0) h (by decide) (by decide) dL_law_15) sz
def w_L_part (N : Nat) (r0 : Nat) (x1 : Int) (x2 : Int) (r3 : Nat) (S : mSt) (Q : mSt → Int → Prop) : Prop :=
  w_X11_part N r0 x1 x2 S (fun (S1 : mSt) (v1 : Int) => ∀ S2 : mSt, S2 = mup S1 r3 0 v1 → Q S2 0) (fun (En : String) (S1 : mSt) => (En = "java/lang/IndexOutOfBoundsException" ∧ Q S1 1) ∨ (En = "java/util/NoSuchElementException" ∧ Q S1 2))
theorem T_L_part {l : Launch} (hl0 : l.stackTraces = false) {g : mG} {b : Nat} (N : Nat) (r0 : Nat) (kr0 : KX r0 = (0, 9, 0)) (x1 : Int) (ox1 : okI x1) (x2 : Int) (ox2 : okI x2) (r3 : Nat) (kr3 : KX r3 = (6, 1, 0)) {S : mSt} {Q : mSt → Int → Prop} (h : w_L_part N r0 x1 x2 r3 S Q) (sz : Nat) : vx_Met l yL_part (Cond.codeWith yL_part cL_part 5 (some FieldType.int) [(0, 10, 13, 24), (0, 10, 17, 26)] :: wsG) { frames := 8, cells := 2, slots := 12, locals := 187 } (mPc g b KX S [.ref (b + r0), .int (mI x1), .int (mI x2), .ref (b + r3)] sz) (mQi g b KX Q (mA b KX sz)) (mEx g b KX (fun _ _ => False) (mA b KX sz)) 2 12 (mA b KX sz) :=
  m_ofH (av := [.ref (b + r0), .int (mI x1), .int (mI x2), .ref (b + r3)]) (Qf := fun A => mQi g b KX Q A) (Xf := fun A => mEx g b KX (fun _ _ => False) A) hl0 (by decide) (Nat.le_of_ble_eq_true rfl) (fun p e s m args below meth c ls C hW hl => by
    have C : mCH p l s m args meth c cL_part "MoonWashLaw" 5 (some FieldType.int) g [(0, 10, 13, 24), (0, 10, 17, 26)] := C
    have hS : va_S (mA b KX s.heap.size) s.heap s.heap [] := va_S.rf
    have hl : lv_has ls 5 [(0, .ref (b + r0)), (1, .int (mI x1)), (2, .int (mI x2)), (3, .ref (b + r3))] := hl
    unfold w_L_part at h
    refine m_aload_n (pc := 0) C.1 dL_part_0 rfl hl 3 rfl ?_
    refine m_iconst (pc := 1) C.1 dL_part_1 ?_
    refine m_aload_n (pc := 2) C.1 dL_part_2 rfl hl 0 rfl ?_
    refine m_iload_n (pc := 3) C.1 dL_part_3 rfl hl 1 rfl ?_
    refine m_iload_n (pc := 4) C.1 dL_part_4 rfl hl 2 rfl ?_
    refine m_callVix (pc := 5) C.1 C.2.2.1 hl.1 C.2.1 hW hS (As := [.int (mI x1), .int (mI x2)]) (rest := [.int (mI 0), .ref (b + r3)]) (r := r0) (T_X11_part C.2.2.2.2.2.2 N r0 kr0 x1 ox1 x2 ox2 h) kr0 rfl q_932 q_933 q_934 q_81 q_935 pl_X11_part (by decide) (Nat.le_of_ble_eq_true rfl) dL_part_5 (fun En S1 H locs ce q9 hE hW1 hS h1 h2 h3 => ?_) (fun v1 S1 H locs ov1 h hW1 hS => ?_)
    · rcases hE with ⟨rfl, h⟩ | ⟨rfl, h⟩
      · refine m_catch (pc := 5) C 0 rfl (fun z hz => absurd hz List.not_mem_nil) rfl (by decide) q_930 n_941 h1 h2 h3 ?_
        refine m_astore (pc := 13) C.1 dL_part_13 hl (by decide) rfl (fun ls hl => ?_)
        refine m_iconst (pc := 15) C.1 dL_part_15 ?_
        exact m_iret (pc := 16) C.1 C.2.2.2.1 C.2.2.2.2.1 hW1 hS (by decide : okI 1) h (by decide) (by decide) dL_part_16
      · refine m_catch (pc := 5) C 1 rfl (List.forall_mem_cons.mpr ⟨⟨by decide, "java/lang/IndexOutOfBoundsException", q_930, by decide +kernel⟩, fun z hz => absurd hz List.not_mem_nil⟩) rfl (by decide) q_931 n_977 h1 h2 h3 ?_
        refine m_astore (pc := 17) C.1 dL_part_17 hl (by decide) rfl (fun ls hl => ?_)
        refine m_iconst (pc := 19) C.1 dL_part_19 ?_
        exact m_iret (pc := 20) C.1 C.2.2.2.1 C.2.2.2.2.1 hW1 hS (by decide : okI 2) h (by decide) (by decide) dL_part_20
    · refine m_i2l (pc := 8) C.1 ov1 dL_part_8 ?_
      refine m_last (pc := 9) C.1 C.2.1 hW1 hS kr3 (by decide : okI 0) ov1 (by decide) (by decide) dL_part_9 (fun S2 H locs e2 hW2 hS => ?_)
      replace h := h S2 e2
      refine m_goto (pc := 10) (tgt := 21) C.1 dL_part_10 (by decide) ?_
      refine m_iconst (pc := 21) C.1 dL_part_21 ?_
      exact m_iret (pc := 22) C.1 C.2.2.2.1 C.2.2.2.2.1 hW2 hS (by decide : okI 0) h (by decide) (by decide) dL_part_22) sz
def w_L_soap (N : Nat) (r0 : Nat) (x1 : Int) (x2 : Int) (r3 : Nat) (S : mSt) (Q : mSt → Int → Prop) : Prop :=
  w_X11_soap N r0 x1 x2 S (fun (S1 : mSt) (v1 : Int) => ∀ S2 : mSt, S2 = mup S1 r3 0 v1 → Q S2 0) (fun (En : String) (S1 : mSt) => (En = "java/lang/IndexOutOfBoundsException" ∧ Q S1 1) ∨ (En = "java/util/NoSuchElementException" ∧ Q S1 2))
theorem T_L_soap {l : Launch} (hl0 : l.stackTraces = false) {g : mG} {b : Nat} (N : Nat) (r0 : Nat) (kr0 : KX r0 = (0, 9, 0)) (x1 : Int) (ox1 : okI x1) (x2 : Int) (ox2 : okI x2) (r3 : Nat) (kr3 : KX r3 = (6, 1, 0)) {S : mSt} {Q : mSt → Int → Prop} (h : w_L_soap N r0 x1 x2 r3 S Q) (sz : Nat) : vx_Met l yL_soap (Cond.codeWith yL_soap cL_soap 5 (some FieldType.int) [(0, 10, 13, 24), (0, 10, 17, 26)] :: wsG) { frames := 8, cells := 2, slots := 12, locals := 143 } (mPc g b KX S [.ref (b + r0), .int (mI x1), .int (mI x2), .ref (b + r3)] sz) (mQi g b KX Q (mA b KX sz)) (mEx g b KX (fun _ _ => False) (mA b KX sz)) 2 12 (mA b KX sz) :=
  m_ofH (av := [.ref (b + r0), .int (mI x1), .int (mI x2), .ref (b + r3)]) (Qf := fun A => mQi g b KX Q A) (Xf := fun A => mEx g b KX (fun _ _ => False) A) hl0 (by decide) (Nat.le_of_ble_eq_true rfl) (fun p e s m args below meth c ls C hW hl => by
    have C : mCH p l s m args meth c cL_soap "MoonWashLaw" 5 (some FieldType.int) g [(0, 10, 13, 24), (0, 10, 17, 26)] := C
    have hS : va_S (mA b KX s.heap.size) s.heap s.heap [] := va_S.rf
    have hl : lv_has ls 5 [(0, .ref (b + r0)), (1, .int (mI x1)), (2, .int (mI x2)), (3, .ref (b + r3))] := hl
    unfold w_L_soap at h
    refine m_aload_n (pc := 0) C.1 dL_soap_0 rfl hl 3 rfl ?_
    refine m_iconst (pc := 1) C.1 dL_soap_1 ?_
    refine m_aload_n (pc := 2) C.1 dL_soap_2 rfl hl 0 rfl ?_
    refine m_iload_n (pc := 3) C.1 dL_soap_3 rfl hl 1 rfl ?_
    refine m_iload_n (pc := 4) C.1 dL_soap_4 rfl hl 2 rfl ?_
    refine m_callVix (pc := 5) C.1 C.2.2.1 hl.1 C.2.1 hW hS (As := [.int (mI x1), .int (mI x2)]) (rest := [.int (mI 0), .ref (b + r3)]) (r := r0) (T_X11_soap C.2.2.2.2.2.2 N r0 kr0 x1 ox1 x2 ox2 h) kr0 rfl q_993 q_994 q_995 q_81 q_996 pl_X11_soap (by decide) (Nat.le_of_ble_eq_true rfl) dL_soap_5 (fun En S1 H locs ce q9 hE hW1 hS h1 h2 h3 => ?_) (fun v1 S1 H locs ov1 h hW1 hS => ?_)
    · rcases hE with ⟨rfl, h⟩ | ⟨rfl, h⟩
      · refine m_catch (pc := 5) C 0 rfl (fun z hz => absurd hz List.not_mem_nil) rfl (by decide) q_930 n_941 h1 h2 h3 ?_
        refine m_astore (pc := 13) C.1 dL_soap_13 hl (by decide) rfl (fun ls hl => ?_)
        refine m_iconst (pc := 15) C.1 dL_soap_15 ?_
        exact m_iret (pc := 16) C.1 C.2.2.2.1 C.2.2.2.2.1 hW1 hS (by decide : okI 1) h (by decide) (by decide) dL_soap_16
      · refine m_catch (pc := 5) C 1 rfl (List.forall_mem_cons.mpr ⟨⟨by decide, "java/lang/IndexOutOfBoundsException", q_930, by decide +kernel⟩, fun z hz => absurd hz List.not_mem_nil⟩) rfl (by decide) q_931 n_977 h1 h2 h3 ?_
        refine m_astore (pc := 17) C.1 dL_soap_17 hl (by decide) rfl (fun ls hl => ?_)
        refine m_iconst (pc := 19) C.1 dL_soap_19 ?_
        exact m_iret (pc := 20) C.1 C.2.2.2.1 C.2.2.2.2.1 hW1 hS (by decide : okI 2) h (by decide) (by decide) dL_soap_20
    · refine m_i2l (pc := 8) C.1 ov1 dL_soap_8 ?_
      refine m_last (pc := 9) C.1 C.2.1 hW1 hS kr3 (by decide : okI 0) ov1 (by decide) (by decide) dL_soap_9 (fun S2 H locs e2 hW2 hS => ?_)
      replace h := h S2 e2
      refine m_goto (pc := 10) (tgt := 21) C.1 dL_soap_10 (by decide) ?_
      refine m_iconst (pc := 21) C.1 dL_soap_21 ?_
      exact m_iret (pc := 22) C.1 C.2.2.2.1 C.2.2.2.2.1 hW2 hS (by decide : okI 0) h (by decide) (by decide) dL_soap_22) sz
def w_L_peg (N : Nat) (r0 : Nat) (x1 : Int) (x2 : Int) (r3 : Nat) (S : mSt) (Q : mSt → Int → Prop) : Prop :=
  w_X11_peg N r0 x1 x2 S (fun (S1 : mSt) (v1 : Int) => ∀ S2 : mSt, S2 = mup S1 r3 0 v1 → Q S2 0) (fun (En : String) (S1 : mSt) => (En = "java/lang/IndexOutOfBoundsException" ∧ Q S1 1))
theorem T_L_peg {l : Launch} (hl0 : l.stackTraces = false) {g : mG} {b : Nat} (N : Nat) (r0 : Nat) (kr0 : KX r0 = (0, 9, 0)) (x1 : Int) (ox1 : okI x1) (x2 : Int) (ox2 : okI x2) (r3 : Nat) (kr3 : KX r3 = (6, 1, 0)) {S : mSt} {Q : mSt → Int → Prop} (h : w_L_peg N r0 x1 x2 r3 S Q) (sz : Nat) : vx_Met l yL_peg (Cond.codeWith yL_peg cL_peg 5 (some FieldType.int) [(0, 10, 13, 24)] :: wsG) { frames := 8, cells := 1, slots := 6, locals := 142 } (mPc g b KX S [.ref (b + r0), .int (mI x1), .int (mI x2), .ref (b + r3)] sz) (mQi g b KX Q (mA b KX sz)) (mEx g b KX (fun _ _ => False) (mA b KX sz)) 1 6 (mA b KX sz) :=
  m_ofH (av := [.ref (b + r0), .int (mI x1), .int (mI x2), .ref (b + r3)]) (Qf := fun A => mQi g b KX Q A) (Xf := fun A => mEx g b KX (fun _ _ => False) A) hl0 (by decide) (Nat.le_of_ble_eq_true rfl) (fun p e s m args below meth c ls C hW hl => by
    have C : mCH p l s m args meth c cL_peg "MoonWashLaw" 5 (some FieldType.int) g [(0, 10, 13, 24)] := C
    have hS : va_S (mA b KX s.heap.size) s.heap s.heap [] := va_S.rf
    have hl : lv_has ls 5 [(0, .ref (b + r0)), (1, .int (mI x1)), (2, .int (mI x2)), (3, .ref (b + r3))] := hl
    unfold w_L_peg at h
    refine m_aload_n (pc := 0) C.1 dL_peg_0 rfl hl 3 rfl ?_
    refine m_iconst (pc := 1) C.1 dL_peg_1 ?_
    refine m_aload_n (pc := 2) C.1 dL_peg_2 rfl hl 0 rfl ?_
    refine m_iload_n (pc := 3) C.1 dL_peg_3 rfl hl 1 rfl ?_
    refine m_iload_n (pc := 4) C.1 dL_peg_4 rfl hl 2 rfl ?_
    refine m_callVix (pc := 5) C.1 C.2.2.1 hl.1 C.2.1 hW hS (As := [.int (mI x1), .int (mI x2)]) (rest := [.int (mI 0), .ref (b + r3)]) (r := r0) (T_X11_peg C.2.2.2.2.2.2 N r0 kr0 x1 ox1 x2 ox2 h) kr0 rfl q_1017 q_1018 q_1019 q_81 q_1020 pl_X11_peg (by decide) (Nat.le_of_ble_eq_true rfl) dL_peg_5 (fun En S1 H locs ce q9 hE hW1 hS h1 h2 h3 => ?_) (fun v1 S1 H locs ov1 h hW1 hS => ?_)
    · rcases hE with ⟨rfl, h⟩
      · refine m_catch (pc := 5) C 0 rfl (fun z hz => absurd hz List.not_mem_nil) rfl (by decide) q_930 n_941 h1 h2 h3 ?_
        refine m_astore (pc := 13) C.1 dL_peg_13 hl (by decide) rfl (fun ls hl => ?_)
        refine m_iconst (pc := 15) C.1 dL_peg_15 ?_
        exact m_iret (pc := 16) C.1 C.2.2.2.1 C.2.2.2.2.1 hW1 hS (by decide : okI 1) h (by decide) (by decide) dL_peg_16
    · refine m_i2l (pc := 8) C.1 ov1 dL_peg_8 ?_
      refine m_last (pc := 9) C.1 C.2.1 hW1 hS kr3 (by decide : okI 0) ov1 (by decide) (by decide) dL_peg_9 (fun S2 H locs e2 hW2 hS => ?_)
      replace h := h S2 e2
      refine m_goto (pc := 10) (tgt := 17) C.1 dL_peg_10 (by decide) ?_
      refine m_iconst (pc := 17) C.1 dL_peg_17 ?_
      exact m_iret (pc := 18) C.1 C.2.2.2.1 C.2.2.2.2.1 hW2 hS (by decide : okI 0) h (by decide) (by decide) dL_peg_18) sz
def w_L_due (N : Nat) (r0 : Nat) (x1 : Int) (x2 : Int) (r3 : Nat) (S : mSt) (Q : mSt → Int → Prop) : Prop :=
  w_X11_due N r0 x1 x2 S (fun (S1 : mSt) (v1 : Int) => ∀ S2 : mSt, S2 = mup S1 r3 0 v1 → Q S2 0) (fun (En : String) (S1 : mSt) => (En = "java/lang/IndexOutOfBoundsException" ∧ Q S1 1))
theorem T_L_due {l : Launch} (hl0 : l.stackTraces = false) {g : mG} {b : Nat} (N : Nat) (r0 : Nat) (kr0 : KX r0 = (0, 9, 0)) (x1 : Int) (ox1 : okI x1) (x2 : Int) (ox2 : okI x2) (r3 : Nat) (kr3 : KX r3 = (6, 1, 0)) {S : mSt} {Q : mSt → Int → Prop} (h : w_L_due N r0 x1 x2 r3 S Q) (sz : Nat) : vx_Met l yL_due (Cond.codeWith yL_due cL_due 5 (some FieldType.int) [(0, 10, 13, 24)] :: wsG) { frames := 7, cells := 1, slots := 6, locals := 122 } (mPc g b KX S [.ref (b + r0), .int (mI x1), .int (mI x2), .ref (b + r3)] sz) (mQi g b KX Q (mA b KX sz)) (mEx g b KX (fun _ _ => False) (mA b KX sz)) 1 6 (mA b KX sz) :=
  m_ofH (av := [.ref (b + r0), .int (mI x1), .int (mI x2), .ref (b + r3)]) (Qf := fun A => mQi g b KX Q A) (Xf := fun A => mEx g b KX (fun _ _ => False) A) hl0 (by decide) (Nat.le_of_ble_eq_true rfl) (fun p e s m args below meth c ls C hW hl => by
    have C : mCH p l s m args meth c cL_due "MoonWashLaw" 5 (some FieldType.int) g [(0, 10, 13, 24)] := C
    have hS : va_S (mA b KX s.heap.size) s.heap s.heap [] := va_S.rf
    have hl : lv_has ls 5 [(0, .ref (b + r0)), (1, .int (mI x1)), (2, .int (mI x2)), (3, .ref (b + r3))] := hl
    unfold w_L_due at h
    refine m_aload_n (pc := 0) C.1 dL_due_0 rfl hl 3 rfl ?_
    refine m_iconst (pc := 1) C.1 dL_due_1 ?_
    refine m_aload_n (pc := 2) C.1 dL_due_2 rfl hl 0 rfl ?_
    refine m_iload_n (pc := 3) C.1 dL_due_3 rfl hl 1 rfl ?_
    refine m_iload_n (pc := 4) C.1 dL_due_4 rfl hl 2 rfl ?_
    refine m_callVix (pc := 5) C.1 C.2.2.1 hl.1 C.2.1 hW hS (As := [.int (mI x1), .int (mI x2)]) (rest := [.int (mI 0), .ref (b + r3)]) (r := r0) (T_X11_due C.2.2.2.2.2.2 N r0 kr0 x1 ox1 x2 ox2 h) kr0 rfl q_1028 q_1029 q_1030 q_81 q_1031 pl_X11_due (by decide) (Nat.le_of_ble_eq_true rfl) dL_due_5 (fun En S1 H locs ce q9 hE hW1 hS h1 h2 h3 => ?_) (fun v1 S1 H locs ov1 h hW1 hS => ?_)
    · rcases hE with ⟨rfl, h⟩
      · refine m_catch (pc := 5) C 0 rfl (fun z hz => absurd hz List.not_mem_nil) rfl (by decide) q_930 n_941 h1 h2 h3 ?_
        refine m_astore (pc := 13) C.1 dL_due_13 hl (by decide) rfl (fun ls hl => ?_)
        refine m_iconst (pc := 15) C.1 dL_due_15 ?_
        exact m_iret (pc := 16) C.1 C.2.2.2.1 C.2.2.2.2.1 hW1 hS (by decide : okI 1) h (by decide) (by decide) dL_due_16
    · refine m_i2l (pc := 8) C.1 ov1 dL_due_8 ?_
      refine m_last (pc := 9) C.1 C.2.1 hW1 hS kr3 (by decide : okI 0) ov1 (by decide) (by decide) dL_due_9 (fun S2 H locs e2 hW2 hS => ?_)
      replace h := h S2 e2
      refine m_goto (pc := 10) (tgt := 17) C.1 dL_due_10 (by decide) ?_
      refine m_iconst (pc := 17) C.1 dL_due_17 ?_
      exact m_iret (pc := 18) C.1 C.2.2.2.1 C.2.2.2.2.1 hW2 hS (by decide : okI 0) h (by decide) (by decide) dL_due_18) sz
def w_L_wash (N : Nat) (r0 : Nat) (x1 : Int) (x2 : Int) (r3 : Nat) (S : mSt) (Q : mSt → Int → Prop) : Prop :=
  w_X11_wash N r0 x1 x2 S (fun (S1 : mSt) (v1 : Int) => ∀ S2 : mSt, S2 = mup S1 r3 0 v1 → Q S2 0) (fun (En : String) (S1 : mSt) => (En = "java/lang/IndexOutOfBoundsException" ∧ Q S1 1) ∨ (En = "java/lang/IllegalStateException" ∧ Q S1 2))
theorem T_L_wash {l : Launch} (hl0 : l.stackTraces = false) {g : mG} {b : Nat} (N : Nat) (r0 : Nat) (kr0 : KX r0 = (0, 9, 0)) (x1 : Int) (ox1 : okI x1) (x2 : Int) (ox2 : okI x2) (r3 : Nat) (kr3 : KX r3 = (6, 1, 0)) {S : mSt} {Q : mSt → Int → Prop} (h : w_L_wash N r0 x1 x2 r3 S Q) (sz : Nat) : vx_Met l yL_wash (Cond.codeWith yL_wash cL_wash 5 (some FieldType.int) [(0, 10, 13, 24), (0, 10, 17, 41)] :: wsG) { frames := 8, cells := 3, slots := 18, locals := 206 } (mPc g b KX S [.ref (b + r0), .int (mI x1), .int (mI x2), .ref (b + r3)] sz) (mQi g b KX Q (mA b KX sz)) (mEx g b KX (fun _ _ => False) (mA b KX sz)) 3 18 (mA b KX sz) :=
  m_ofH (av := [.ref (b + r0), .int (mI x1), .int (mI x2), .ref (b + r3)]) (Qf := fun A => mQi g b KX Q A) (Xf := fun A => mEx g b KX (fun _ _ => False) A) hl0 (by decide) (Nat.le_of_ble_eq_true rfl) (fun p e s m args below meth c ls C hW hl => by
    have C : mCH p l s m args meth c cL_wash "MoonWashLaw" 5 (some FieldType.int) g [(0, 10, 13, 24), (0, 10, 17, 41)] := C
    have hS : va_S (mA b KX s.heap.size) s.heap s.heap [] := va_S.rf
    have hl : lv_has ls 5 [(0, .ref (b + r0)), (1, .int (mI x1)), (2, .int (mI x2)), (3, .ref (b + r3))] := hl
    unfold w_L_wash at h
    refine m_aload_n (pc := 0) C.1 dL_wash_0 rfl hl 3 rfl ?_
    refine m_iconst (pc := 1) C.1 dL_wash_1 ?_
    refine m_aload_n (pc := 2) C.1 dL_wash_2 rfl hl 0 rfl ?_
    refine m_iload_n (pc := 3) C.1 dL_wash_3 rfl hl 1 rfl ?_
    refine m_iload_n (pc := 4) C.1 dL_wash_4 rfl hl 2 rfl ?_
    refine m_callVix (pc := 5) C.1 C.2.2.1 hl.1 C.2.1 hW hS (As := [.int (mI x1), .int (mI x2)]) (rest := [.int (mI 0), .ref (b + r3)]) (r := r0) (T_X11_wash C.2.2.2.2.2.2 N r0 kr0 x1 ox1 x2 ox2 h) kr0 rfl q_1044 q_1045 q_1046 q_81 q_1047 pl_X11_wash (by decide) (Nat.le_of_ble_eq_true rfl) dL_wash_5 (fun En S1 H locs ce q9 hE hW1 hS h1 h2 h3 => ?_) (fun v1 S1 H locs ov1 h hW1 hS => ?_)
    · rcases hE with ⟨rfl, h⟩ | ⟨rfl, h⟩
      · refine m_catch (pc := 5) C 0 rfl (fun z hz => absurd hz List.not_mem_nil) rfl (by decide) q_930 n_941 h1 h2 h3 ?_
        refine m_astore (pc := 13) C.1 dL_wash_13 hl (by decide) rfl (fun ls hl => ?_)
        refine m_iconst (pc := 15) C.1 dL_wash_15 ?_
        exact m_iret (pc := 16) C.1 C.2.2.2.1 C.2.2.2.2.1 hW1 hS (by decide : okI 1) h (by decide) (by decide) dL_wash_16
      · refine m_catch (pc := 5) C 1 rfl (List.forall_mem_cons.mpr ⟨⟨by decide, "java/lang/IndexOutOfBoundsException", q_930, by decide +kernel⟩, fun z hz => absurd hz List.not_mem_nil⟩) rfl (by decide) q_1043 n_1050 h1 h2 h3 ?_
        refine m_astore (pc := 17) C.1 dL_wash_17 hl (by decide) rfl (fun ls hl => ?_)
        refine m_iconst (pc := 19) C.1 dL_wash_19 ?_
        exact m_iret (pc := 20) C.1 C.2.2.2.1 C.2.2.2.2.1 hW1 hS (by decide : okI 2) h (by decide) (by decide) dL_wash_20
    · refine m_i2l (pc := 8) C.1 ov1 dL_wash_8 ?_
      refine m_last (pc := 9) C.1 C.2.1 hW1 hS kr3 (by decide : okI 0) ov1 (by decide) (by decide) dL_wash_9 (fun S2 H locs e2 hW2 hS => ?_)
      replace h := h S2 e2
      refine m_goto (pc := 10) (tgt := 21) C.1 dL_wash_10 (by decide) ?_
      refine m_iconst (pc := 21) C.1 dL_wash_21 ?_
      exact m_iret (pc := 22) C.1 C.2.2.2.1 C.2.2.2.2.1 hW2 hS (by decide : okI 0) h (by decide) (by decide) dL_wash_22) sz
def w_L_hang (N : Nat) (r0 : Nat) (x1 : Int) (x2 : Int) (r3 : Nat) (S : mSt) (Q : mSt → Int → Prop) : Prop :=
  w_X11_hang N r0 x1 x2 S (fun (S1 : mSt) (v1 : Int) => ((v1 = 0 → ∀ S2 : mSt, S2 = mup S1 r3 0 0 → Q S2 0) ∧ (v1 ≠ 0 → ∀ S3 : mSt, S3 = mup S1 r3 0 1 → Q S3 0))) (fun (En : String) (S1 : mSt) => (En = "java/lang/IndexOutOfBoundsException" ∧ Q S1 1))
theorem T_L_hang {l : Launch} (hl0 : l.stackTraces = false) {g : mG} {b : Nat} (N : Nat) (r0 : Nat) (kr0 : KX r0 = (0, 9, 0)) (x1 : Int) (ox1 : okI x1) (x2 : Int) (ox2 : okI x2) (r3 : Nat) (kr3 : KX r3 = (6, 1, 0)) {S : mSt} {Q : mSt → Int → Prop} (h : w_L_hang N r0 x1 x2 r3 S Q) (sz : Nat) : vx_Met l yL_hang (Cond.codeWith yL_hang cL_hang 5 (some FieldType.int) [(0, 17, 20, 24)] :: wsG) { frames := 8, cells := 1, slots := 6, locals := 206 } (mPc g b KX S [.ref (b + r0), .int (mI x1), .int (mI x2), .ref (b + r3)] sz) (mQi g b KX Q (mA b KX sz)) (mEx g b KX (fun _ _ => False) (mA b KX sz)) 1 6 (mA b KX sz) :=
  m_ofH (av := [.ref (b + r0), .int (mI x1), .int (mI x2), .ref (b + r3)]) (Qf := fun A => mQi g b KX Q A) (Xf := fun A => mEx g b KX (fun _ _ => False) A) hl0 (by decide) (Nat.le_of_ble_eq_true rfl) (fun p e s m args below meth c ls C hW hl => by
    have C : mCH p l s m args meth c cL_hang "MoonWashLaw" 5 (some FieldType.int) g [(0, 17, 20, 24)] := C
    have hS : va_S (mA b KX s.heap.size) s.heap s.heap [] := va_S.rf
    have hl : lv_has ls 5 [(0, .ref (b + r0)), (1, .int (mI x1)), (2, .int (mI x2)), (3, .ref (b + r3))] := hl
    unfold w_L_hang at h
    refine m_aload_n (pc := 0) C.1 dL_hang_0 rfl hl 3 rfl ?_
    refine m_iconst (pc := 1) C.1 dL_hang_1 ?_
    refine m_aload_n (pc := 2) C.1 dL_hang_2 rfl hl 0 rfl ?_
    refine m_iload_n (pc := 3) C.1 dL_hang_3 rfl hl 1 rfl ?_
    refine m_iload_n (pc := 4) C.1 dL_hang_4 rfl hl 2 rfl ?_
    refine m_callVix (pc := 5) C.1 C.2.2.1 hl.1 C.2.1 hW hS (As := [.int (mI x1), .int (mI x2)]) (rest := [.int (mI 0), .ref (b + r3)]) (r := r0) (T_X11_hang C.2.2.2.2.2.2 N r0 kr0 x1 ox1 x2 ox2 h) kr0 rfl q_1085 q_1086 q_1087 q_81 q_1088 pl_X11_hang (by decide) (Nat.le_of_ble_eq_true rfl) dL_hang_5 (fun En S1 H locs ce q9 hE hW1 hS h1 h2 h3 => ?_) (fun v1 S1 H locs ov1 h hW1 hS => ?_)
    · rcases hE with ⟨rfl, h⟩
      · refine m_catch (pc := 5) C 0 rfl (fun z hz => absurd hz List.not_mem_nil) rfl (by decide) q_930 n_941 h1 h2 h3 ?_
        refine m_astore (pc := 20) C.1 dL_hang_20 hl (by decide) rfl (fun ls hl => ?_)
        refine m_iconst (pc := 22) C.1 dL_hang_22 ?_
        exact m_iret (pc := 23) C.1 C.2.2.2.1 C.2.2.2.2.1 hW1 hS (by decide : okI 1) h (by decide) (by decide) dL_hang_23
    · refine m_if_eq (pc := 8) (tgt := 15) C.1 ov1 dL_hang_8 (by decide) (fun hc => ?_) (fun hc => ?_)
      · replace h := h.1 hc
        refine m_lconst (pc := 15) C.1 (x := 0) rfl dL_hang_15 ?_
        refine m_last (pc := 16) C.1 C.2.1 hW1 hS kr3 (by decide : okI 0) (by decide : okI 0) (by decide) (by decide) dL_hang_16 (fun S2 H locs e2 hW2 hS => ?_)
        replace h := h S2 e2
        refine m_goto (pc := 17) (tgt := 24) C.1 dL_hang_17 (by decide) ?_
        refine m_iconst (pc := 24) C.1 dL_hang_24 ?_
        exact m_iret (pc := 25) C.1 C.2.2.2.1 C.2.2.2.2.1 hW2 hS (by decide : okI 0) h (by decide) (by decide) dL_hang_25
      · replace h := h.2 hc
        refine m_lconst (pc := 11) C.1 (x := 1) rfl dL_hang_11 ?_
        refine m_goto (pc := 12) (tgt := 16) C.1 dL_hang_12 (by decide) ?_
        refine m_last (pc := 16) C.1 C.2.1 hW1 hS kr3 (by decide : okI 0) (by decide : okI 1) (by decide) (by decide) dL_hang_16 (fun S3 H locs e3 hW3 hS => ?_)
        replace h := h S3 e3
        refine m_goto (pc := 17) (tgt := 24) C.1 dL_hang_17 (by decide) ?_
        refine m_iconst (pc := 24) C.1 dL_hang_24 ?_
        exact m_iret (pc := 25) C.1 C.2.2.2.1 C.2.2.2.2.1 hW3 hS (by decide : okI 0) h (by decide) (by decide) dL_hang_25) sz
def w_L_darn (N : Nat) (r0 : Nat) (x1 : Int) (r2 : Nat) (S : mSt) (Q : mSt → Int → Prop) : Prop :=
  w_X11_darn N r0 x1 S (fun (S1 : mSt) (v1 : Int) => ∀ S2 : mSt, S2 = mup S1 r2 0 v1 → Q S2 0) (fun (En : String) (S1 : mSt) => (En = "java/lang/IndexOutOfBoundsException" ∧ Q S1 1) ∨ (En = "java/lang/IllegalStateException" ∧ Q S1 2))
theorem T_L_darn {l : Launch} (hl0 : l.stackTraces = false) {g : mG} {b : Nat} (N : Nat) (r0 : Nat) (kr0 : KX r0 = (0, 9, 0)) (x1 : Int) (ox1 : okI x1) (r2 : Nat) (kr2 : KX r2 = (6, 1, 0)) {S : mSt} {Q : mSt → Int → Prop} (h : w_L_darn N r0 x1 r2 S Q) (sz : Nat) : vx_Met l yL_darn (Cond.codeWith yL_darn cL_darn 4 (some FieldType.int) [(0, 9, 12, 24), (0, 9, 15, 41)] :: wsG) { frames := 8, cells := 2, slots := 12, locals := 204 } (mPc g b KX S [.ref (b + r0), .int (mI x1), .ref (b + r2)] sz) (mQi g b KX Q (mA b KX sz)) (mEx g b KX (fun _ _ => False) (mA b KX sz)) 2 12 (mA b KX sz) :=
  m_ofH (av := [.ref (b + r0), .int (mI x1), .ref (b + r2)]) (Qf := fun A => mQi g b KX Q A) (Xf := fun A => mEx g b KX (fun _ _ => False) A) hl0 (by decide) (Nat.le_of_ble_eq_true rfl) (fun p e s m args below meth c ls C hW hl => by
    have C : mCH p l s m args meth c cL_darn "MoonWashLaw" 4 (some FieldType.int) g [(0, 9, 12, 24), (0, 9, 15, 41)] := C
    have hS : va_S (mA b KX s.heap.size) s.heap s.heap [] := va_S.rf
    have hl : lv_has ls 4 [(0, .ref (b + r0)), (1, .int (mI x1)), (2, .ref (b + r2))] := hl
    unfold w_L_darn at h
    refine m_aload_n (pc := 0) C.1 dL_darn_0 rfl hl 2 rfl ?_
    refine m_iconst (pc := 1) C.1 dL_darn_1 ?_
    refine m_aload_n (pc := 2) C.1 dL_darn_2 rfl hl 0 rfl ?_
    refine m_iload_n (pc := 3) C.1 dL_darn_3 rfl hl 1 rfl ?_
    refine m_callVix (pc := 4) C.1 C.2.2.1 hl.1 C.2.1 hW hS (As := [.int (mI x1)]) (rest := [.int (mI 0), .ref (b + r2)]) (r := r0) (T_X11_darn C.2.2.2.2.2.2 N r0 kr0 x1 ox1 h) kr0 rfl q_1093 q_1094 q_1095 q_81 q_1096 pl_X11_darn (by decide) (Nat.le_of_ble_eq_true rfl) dL_darn_4 (fun En S1 H locs ce q9 hE hW1 hS h1 h2 h3 => ?_) (fun v1 S1 H locs ov1 h hW1 hS => ?_)
    · rcases hE with ⟨rfl, h⟩ | ⟨rfl, h⟩
      · refine m_catch (pc := 4) C 0 rfl (fun z hz => absurd hz List.not_mem_nil) rfl (by decide) q_930 n_941 h1 h2 h3 ?_
        refine m_astore_n (pc := 12) C.1 dL_darn_12 rfl hl (by decide) rfl (fun ls hl => ?_)
        refine m_iconst (pc := 13) C.1 dL_darn_13 ?_
        exact m_iret (pc := 14) C.1 C.2.2.2.1 C.2.2.2.2.1 hW1 hS (by decide : okI 1) h (by decide) (by decide) dL_darn_14
      · refine m_catch (pc := 4) C 1 rfl (List.forall_mem_cons.mpr ⟨⟨by decide, "java/lang/IndexOutOfBoundsException", q_930, by decide +kernel⟩, fun z hz => absurd hz List.not_mem_nil⟩) rfl (by decide) q_1043 n_1050 h1 h2 h3 ?_
        refine m_astore_n (pc := 15) C.1 dL_darn_15 rfl hl (by decide) rfl (fun ls hl => ?_)
        refine m_iconst (pc := 16) C.1 dL_darn_16 ?_
        exact m_iret (pc := 17) C.1 C.2.2.2.1 C.2.2.2.2.1 hW1 hS (by decide : okI 2) h (by decide) (by decide) dL_darn_17
    · refine m_i2l (pc := 7) C.1 ov1 dL_darn_7 ?_
      refine m_last (pc := 8) C.1 C.2.1 hW1 hS kr2 (by decide : okI 0) ov1 (by decide) (by decide) dL_darn_8 (fun S2 H locs e2 hW2 hS => ?_)
      replace h := h S2 e2
      refine m_goto (pc := 9) (tgt := 18) C.1 dL_darn_9 (by decide) ?_
      refine m_iconst (pc := 18) C.1 dL_darn_18 ?_
      exact m_iret (pc := 19) C.1 C.2.2.2.1 C.2.2.2.2.1 hW2 hS (by decide : okI 0) h (by decide) (by decide) dL_darn_19) sz
def w_L_move (N : Nat) (r0 : Nat) (x1 : Int) (x2 : Int) (r3 : Nat) (S : mSt) (Q : mSt → Int → Prop) : Prop :=
  w_X11_move N r0 x1 x2 S (fun (S1 : mSt) (v1 : Int) => ∀ S2 : mSt, S2 = mup S1 r3 0 v1 → Q S2 0) (fun (En : String) (S1 : mSt) => (En = "java/lang/IndexOutOfBoundsException" ∧ Q S1 1))
theorem T_L_move {l : Launch} (hl0 : l.stackTraces = false) {g : mG} {b : Nat} (N : Nat) (r0 : Nat) (kr0 : KX r0 = (0, 9, 0)) (x1 : Int) (ox1 : okI x1) (x2 : Int) (ox2 : okI x2) (r3 : Nat) (kr3 : KX r3 = (6, 1, 0)) {S : mSt} {Q : mSt → Int → Prop} (h : w_L_move N r0 x1 x2 r3 S Q) (sz : Nat) : vx_Met l yL_move (Cond.codeWith yL_move cL_move 5 (some FieldType.int) [(0, 10, 13, 24)] :: wsG) { frames := 8, cells := 2, slots := 12, locals := 206 } (mPc g b KX S [.ref (b + r0), .int (mI x1), .int (mI x2), .ref (b + r3)] sz) (mQi g b KX Q (mA b KX sz)) (mEx g b KX (fun _ _ => False) (mA b KX sz)) 2 12 (mA b KX sz) :=
  m_ofH (av := [.ref (b + r0), .int (mI x1), .int (mI x2), .ref (b + r3)]) (Qf := fun A => mQi g b KX Q A) (Xf := fun A => mEx g b KX (fun _ _ => False) A) hl0 (by decide) (Nat.le_of_ble_eq_true rfl) (fun p e s m args below meth c ls C hW hl => by
    have C : mCH p l s m args meth c cL_move "MoonWashLaw" 5 (some FieldType.int) g [(0, 10, 13, 24)] := C
    have hS : va_S (mA b KX s.heap.size) s.heap s.heap [] := va_S.rf
    have hl : lv_has ls 5 [(0, .ref (b + r0)), (1, .int (mI x1)), (2, .int (mI x2)), (3, .ref (b + r3))] := hl
    unfold w_L_move at h
    refine m_aload_n (pc := 0) C.1 dL_move_0 rfl hl 3 rfl ?_
    refine m_iconst (pc := 1) C.1 dL_move_1 ?_
    refine m_aload_n (pc := 2) C.1 dL_move_2 rfl hl 0 rfl ?_
    refine m_iload_n (pc := 3) C.1 dL_move_3 rfl hl 1 rfl ?_
    refine m_iload_n (pc := 4) C.1 dL_move_4 rfl hl 2 rfl ?_
    refine m_callVix (pc := 5) C.1 C.2.2.1 hl.1 C.2.1 hW hS (As := [.int (mI x1), .int (mI x2)]) (rest := [.int (mI 0), .ref (b + r3)]) (r := r0) (T_X11_move C.2.2.2.2.2.2 N r0 kr0 x1 ox1 x2 ox2 h) kr0 rfl q_1100 q_1101 q_1102 q_81 q_1103 pl_X11_move (by decide) (Nat.le_of_ble_eq_true rfl) dL_move_5 (fun En S1 H locs ce q9 hE hW1 hS h1 h2 h3 => ?_) (fun v1 S1 H locs ov1 h hW1 hS => ?_)
    · rcases hE with ⟨rfl, h⟩
      · refine m_catch (pc := 5) C 0 rfl (fun z hz => absurd hz List.not_mem_nil) rfl (by decide) q_930 n_941 h1 h2 h3 ?_
        refine m_astore (pc := 13) C.1 dL_move_13 hl (by decide) rfl (fun ls hl => ?_)
        refine m_iconst (pc := 15) C.1 dL_move_15 ?_
        exact m_iret (pc := 16) C.1 C.2.2.2.1 C.2.2.2.2.1 hW1 hS (by decide : okI 1) h (by decide) (by decide) dL_move_16
    · refine m_i2l (pc := 8) C.1 ov1 dL_move_8 ?_
      refine m_last (pc := 9) C.1 C.2.1 hW1 hS kr3 (by decide : okI 0) ov1 (by decide) (by decide) dL_move_9 (fun S2 H locs e2 hW2 hS => ?_)
      replace h := h S2 e2
      refine m_goto (pc := 10) (tgt := 17) C.1 dL_move_10 (by decide) ?_
      refine m_iconst (pc := 17) C.1 dL_move_17 ?_
      exact m_iret (pc := 18) C.1 C.2.2.2.1 C.2.2.2.2.1 hW2 hS (by decide : okI 0) h (by decide) (by decide) dL_move_18) sz
def w_L_drop (N : Nat) (r0 : Nat) (x1 : Int) (r2 : Nat) (S : mSt) (Q : mSt → Int → Prop) : Prop :=
  w_X11_drop N r0 x1 S (fun (S1 : mSt) (v1 : Int) => ∀ S2 : mSt, S2 = mup S1 r2 0 v1 → Q S2 0) (fun (En : String) (S1 : mSt) => (En = "java/lang/IndexOutOfBoundsException" ∧ Q S1 1))
theorem T_L_drop {l : Launch} (hl0 : l.stackTraces = false) {g : mG} {b : Nat} (N : Nat) (r0 : Nat) (kr0 : KX r0 = (0, 9, 0)) (x1 : Int) (ox1 : okI x1) (r2 : Nat) (kr2 : KX r2 = (6, 1, 0)) {S : mSt} {Q : mSt → Int → Prop} (h : w_L_drop N r0 x1 r2 S Q) (sz : Nat) : vx_Met l yL_drop (Cond.codeWith yL_drop cL_drop 4 (some FieldType.int) [(0, 9, 12, 24)] :: wsG) { frames := 8, cells := 1, slots := 6, locals := 204 } (mPc g b KX S [.ref (b + r0), .int (mI x1), .ref (b + r2)] sz) (mQi g b KX Q (mA b KX sz)) (mEx g b KX (fun _ _ => False) (mA b KX sz)) 1 6 (mA b KX sz) :=
  m_ofH (av := [.ref (b + r0), .int (mI x1), .ref (b + r2)]) (Qf := fun A => mQi g b KX Q A) (Xf := fun A => mEx g b KX (fun _ _ => False) A) hl0 (by decide) (Nat.le_of_ble_eq_true rfl) (fun p e s m args below meth c ls C hW hl => by
    have C : mCH p l s m args meth c cL_drop "MoonWashLaw" 4 (some FieldType.int) g [(0, 9, 12, 24)] := C
    have hS : va_S (mA b KX s.heap.size) s.heap s.heap [] := va_S.rf
    have hl : lv_has ls 4 [(0, .ref (b + r0)), (1, .int (mI x1)), (2, .ref (b + r2))] := hl
    unfold w_L_drop at h
    refine m_aload_n (pc := 0) C.1 dL_drop_0 rfl hl 2 rfl ?_
    refine m_iconst (pc := 1) C.1 dL_drop_1 ?_
    refine m_aload_n (pc := 2) C.1 dL_drop_2 rfl hl 0 rfl ?_
    refine m_iload_n (pc := 3) C.1 dL_drop_3 rfl hl 1 rfl ?_
    refine m_callVix (pc := 4) C.1 C.2.2.1 hl.1 C.2.1 hW hS (As := [.int (mI x1)]) (rest := [.int (mI 0), .ref (b + r2)]) (r := r0) (T_X11_drop C.2.2.2.2.2.2 N r0 kr0 x1 ox1 h) kr0 rfl q_1107 q_1108 q_1109 q_81 q_1110 pl_X11_drop (by decide) (Nat.le_of_ble_eq_true rfl) dL_drop_4 (fun En S1 H locs ce q9 hE hW1 hS h1 h2 h3 => ?_) (fun v1 S1 H locs ov1 h hW1 hS => ?_)
    · rcases hE with ⟨rfl, h⟩
      · refine m_catch (pc := 4) C 0 rfl (fun z hz => absurd hz List.not_mem_nil) rfl (by decide) q_930 n_941 h1 h2 h3 ?_
        refine m_astore_n (pc := 12) C.1 dL_drop_12 rfl hl (by decide) rfl (fun ls hl => ?_)
        refine m_iconst (pc := 13) C.1 dL_drop_13 ?_
        exact m_iret (pc := 14) C.1 C.2.2.2.1 C.2.2.2.2.1 hW1 hS (by decide : okI 1) h (by decide) (by decide) dL_drop_14
    · refine m_i2l (pc := 7) C.1 ov1 dL_drop_7 ?_
      refine m_last (pc := 8) C.1 C.2.1 hW1 hS kr2 (by decide : okI 0) ov1 (by decide) (by decide) dL_drop_8 (fun S2 H locs e2 hW2 hS => ?_)
      replace h := h S2 e2
      refine m_goto (pc := 9) (tgt := 15) C.1 dL_drop_9 (by decide) ?_
      refine m_iconst (pc := 15) C.1 dL_drop_15 ?_
      exact m_iret (pc := 16) C.1 C.2.2.2.1 C.2.2.2.2.1 hW2 hS (by decide : okI 0) h (by decide) (by decide) dL_drop_16) sz
def w_L_nights (N : Nat) (r0 : Nat) (x1 : Int) (r2 : Nat) (S : mSt) (Q : mSt → Int → Prop) : Prop :=
  w_X11_nights N r0 x1 S (fun (S1 : mSt) (v1 : Int) => ∀ S2 : mSt, S2 = mup S1 r2 0 v1 → Q S2 0) (fun (En : String) (S1 : mSt) => (En = "java/lang/IllegalArgumentException" ∧ Q S1 1))
theorem T_L_nights {l : Launch} (hl0 : l.stackTraces = false) {g : mG} {b : Nat} (N : Nat) (r0 : Nat) (kr0 : KX r0 = (0, 9, 0)) (x1 : Int) (ox1 : okI x1) (r2 : Nat) (kr2 : KX r2 = (6, 1, 0)) {S : mSt} {Q : mSt → Int → Prop} (h : w_L_nights N r0 x1 r2 S Q) (sz : Nat) : vx_Met l yL_nights (Cond.codeWith yL_nights cL_nights 4 (some FieldType.int) [(0, 9, 12, 13)] :: wsG) { frames := 8, cells := 1, slots := 6, locals := 206 } (mPc g b KX S [.ref (b + r0), .int (mI x1), .ref (b + r2)] sz) (mQi g b KX Q (mA b KX sz)) (mEx g b KX (fun _ _ => False) (mA b KX sz)) 1 6 (mA b KX sz) :=
  m_ofH (av := [.ref (b + r0), .int (mI x1), .ref (b + r2)]) (Qf := fun A => mQi g b KX Q A) (Xf := fun A => mEx g b KX (fun _ _ => False) A) hl0 (by decide) (Nat.le_of_ble_eq_true rfl) (fun p e s m args below meth c ls C hW hl => by
    have C : mCH p l s m args meth c cL_nights "MoonWashLaw" 4 (some FieldType.int) g [(0, 9, 12, 13)] := C
    have hS : va_S (mA b KX s.heap.size) s.heap s.heap [] := va_S.rf
    have hl : lv_has ls 4 [(0, .ref (b + r0)), (1, .int (mI x1)), (2, .ref (b + r2))] := hl
    unfold w_L_nights at h
    refine m_aload_n (pc := 0) C.1 dL_nights_0 rfl hl 2 rfl ?_
    refine m_iconst (pc := 1) C.1 dL_nights_1 ?_
    refine m_aload_n (pc := 2) C.1 dL_nights_2 rfl hl 0 rfl ?_
    refine m_iload_n (pc := 3) C.1 dL_nights_3 rfl hl 1 rfl ?_
    refine m_callVix (pc := 4) C.1 C.2.2.1 hl.1 C.2.1 hW hS (As := [.int (mI x1)]) (rest := [.int (mI 0), .ref (b + r2)]) (r := r0) (T_X11_nights C.2.2.2.2.2.2 N r0 kr0 x1 ox1 h) kr0 rfl q_1118 q_1119 q_1120 q_81 q_1121 pl_X11_nights (by decide) (Nat.le_of_ble_eq_true rfl) dL_nights_4 (fun En S1 H locs ce q9 hE hW1 hS h1 h2 h3 => ?_) (fun v1 S1 H locs ov1 h hW1 hS => ?_)
    · rcases hE with ⟨rfl, h⟩
      · refine m_catch (pc := 4) C 0 rfl (fun z hz => absurd hz List.not_mem_nil) rfl (by decide) q_593 n_773 h1 h2 h3 ?_
        refine m_astore_n (pc := 12) C.1 dL_nights_12 rfl hl (by decide) rfl (fun ls hl => ?_)
        refine m_iconst (pc := 13) C.1 dL_nights_13 ?_
        exact m_iret (pc := 14) C.1 C.2.2.2.1 C.2.2.2.2.1 hW1 hS (by decide : okI 1) h (by decide) (by decide) dL_nights_14
    · refine m_i2l (pc := 7) C.1 ov1 dL_nights_7 ?_
      refine m_last (pc := 8) C.1 C.2.1 hW1 hS kr2 (by decide : okI 0) ov1 (by decide) (by decide) dL_nights_8 (fun S2 H locs e2 hW2 hS => ?_)
      replace h := h S2 e2
      refine m_goto (pc := 9) (tgt := 15) C.1 dL_nights_9 (by decide) ?_
      refine m_iconst (pc := 15) C.1 dL_nights_15 ?_
      exact m_iret (pc := 16) C.1 C.2.2.2.1 C.2.2.2.2.1 hW2 hS (by decide : okI 0) h (by decide) (by decide) dL_nights_16) sz
def w_L_would (N : Nat) (r0 : Nat) (x1 : Int) (x2 : Int) (r3 : Nat) (S : mSt) (Q : mSt → Int → Prop) : Prop :=
  w_X11_would N r0 x1 x2 S (fun (S1 : mSt) (v1 : Int) => ∀ S2 : mSt, S2 = mup S1 r3 0 v1 → Q S2 0) (fun (En : String) (S1 : mSt) => (En = "java/lang/IndexOutOfBoundsException" ∧ Q S1 1))
theorem T_L_would {l : Launch} (hl0 : l.stackTraces = false) {g : mG} {b : Nat} (N : Nat) (r0 : Nat) (kr0 : KX r0 = (0, 9, 0)) (x1 : Int) (ox1 : okI x1) (x2 : Int) (ox2 : okI x2) (r3 : Nat) (kr3 : KX r3 = (6, 1, 0)) {S : mSt} {Q : mSt → Int → Prop} (h : w_L_would N r0 x1 x2 r3 S Q) (sz : Nat) : vx_Met l yL_would (Cond.codeWith yL_would cL_would 5 (some FieldType.int) [(0, 10, 13, 24)] :: wsG) { frames := 8, cells := 2, slots := 12, locals := 185 } (mPc g b KX S [.ref (b + r0), .int (mI x1), .int (mI x2), .ref (b + r3)] sz) (mQi g b KX Q (mA b KX sz)) (mEx g b KX (fun _ _ => False) (mA b KX sz)) 2 12 (mA b KX sz) :=
  m_ofH (av := [.ref (b + r0), .int (mI x1), .int (mI x2), .ref (b + r3)]) (Qf := fun A => mQi g b KX Q A) (Xf := fun A => mEx g b KX (fun _ _ => False) A) hl0 (by decide) (Nat.le_of_ble_eq_true rfl) (fun p e s m args below meth c ls C hW hl => by
    have C : mCH p l s m args meth c cL_would "MoonWashLaw" 5 (some FieldType.int) g [(0, 10, 13, 24)] := C
    have hS : va_S (mA b KX s.heap.size) s.heap s.heap [] := va_S.rf
    have hl : lv_has ls 5 [(0, .ref (b + r0)), (1, .int (mI x1)), (2, .int (mI x2)), (3, .ref (b + r3))] := hl
    unfold w_L_would at h
    refine m_aload_n (pc := 0) C.1 dL_would_0 rfl hl 3 rfl ?_
    refine m_iconst (pc := 1) C.1 dL_would_1 ?_
    refine m_aload_n (pc := 2) C.1 dL_would_2 rfl hl 0 rfl ?_
    refine m_iload_n (pc := 3) C.1 dL_would_3 rfl hl 1 rfl ?_
    refine m_iload_n (pc := 4) C.1 dL_would_4 rfl hl 2 rfl ?_
    refine m_callVix (pc := 5) C.1 C.2.2.1 hl.1 C.2.1 hW hS (As := [.int (mI x1), .int (mI x2)]) (rest := [.int (mI 0), .ref (b + r3)]) (r := r0) (T_X11_would C.2.2.2.2.2.2 N r0 kr0 x1 ox1 x2 ox2 h) kr0 rfl q_1149 q_1150 q_1151 q_81 q_1152 pl_X11_would (by decide) (Nat.le_of_ble_eq_true rfl) dL_would_5 (fun En S1 H locs ce q9 hE hW1 hS h1 h2 h3 => ?_) (fun v1 S1 H locs ov1 h hW1 hS => ?_)
    · rcases hE with ⟨rfl, h⟩
      · refine m_catch (pc := 5) C 0 rfl (fun z hz => absurd hz List.not_mem_nil) rfl (by decide) q_930 n_941 h1 h2 h3 ?_
        refine m_astore (pc := 13) C.1 dL_would_13 hl (by decide) rfl (fun ls hl => ?_)
        refine m_iconst (pc := 15) C.1 dL_would_15 ?_
        exact m_iret (pc := 16) C.1 C.2.2.2.1 C.2.2.2.2.1 hW1 hS (by decide : okI 1) h (by decide) (by decide) dL_would_16
    · refine m_i2l (pc := 8) C.1 ov1 dL_would_8 ?_
      refine m_last (pc := 9) C.1 C.2.1 hW1 hS kr3 (by decide : okI 0) ov1 (by decide) (by decide) dL_would_9 (fun S2 H locs e2 hW2 hS => ?_)
      replace h := h S2 e2
      refine m_goto (pc := 10) (tgt := 17) C.1 dL_would_10 (by decide) ?_
      refine m_iconst (pc := 17) C.1 dL_would_17 ?_
      exact m_iret (pc := 18) C.1 C.2.2.2.1 C.2.2.2.2.1 hW2 hS (by decide : okI 0) h (by decide) (by decide) dL_would_18) sz
def w_L_best (N : Nat) (r0 : Nat) (x1 : Int) (r2 : Nat) (S : mSt) (Q : mSt → Int → Prop) : Prop :=
  w_X11_best N r0 x1 S (fun (S1 : mSt) (v1 : Int) => ∀ S2 : mSt, S2 = mup S1 r2 0 v1 → Q S2 0) (fun (En : String) (S1 : mSt) => (En = "java/lang/IndexOutOfBoundsException" ∧ Q S1 1))
theorem T_L_best {l : Launch} (hl0 : l.stackTraces = false) {g : mG} {b : Nat} (N : Nat) (r0 : Nat) (kr0 : KX r0 = (0, 9, 0)) (x1 : Int) (ox1 : okI x1) (r2 : Nat) (kr2 : KX r2 = (6, 1, 0)) {S : mSt} {Q : mSt → Int → Prop} (h : w_L_best N r0 x1 r2 S Q) (sz : Nat) : vx_Met l yL_best (Cond.codeWith yL_best cL_best 4 (some FieldType.int) [(0, 9, 12, 24)] :: wsG) { frames := 8, cells := 1, slots := 6, locals := 190 } (mPc g b KX S [.ref (b + r0), .int (mI x1), .ref (b + r2)] sz) (mQi g b KX Q (mA b KX sz)) (mEx g b KX (fun _ _ => False) (mA b KX sz)) 1 6 (mA b KX sz) :=
  m_ofH (av := [.ref (b + r0), .int (mI x1), .ref (b + r2)]) (Qf := fun A => mQi g b KX Q A) (Xf := fun A => mEx g b KX (fun _ _ => False) A) hl0 (by decide) (Nat.le_of_ble_eq_true rfl) (fun p e s m args below meth c ls C hW hl => by
    have C : mCH p l s m args meth c cL_best "MoonWashLaw" 4 (some FieldType.int) g [(0, 9, 12, 24)] := C
    have hS : va_S (mA b KX s.heap.size) s.heap s.heap [] := va_S.rf
    have hl : lv_has ls 4 [(0, .ref (b + r0)), (1, .int (mI x1)), (2, .ref (b + r2))] := hl
    unfold w_L_best at h
    refine m_aload_n (pc := 0) C.1 dL_best_0 rfl hl 2 rfl ?_
    refine m_iconst (pc := 1) C.1 dL_best_1 ?_
    refine m_aload_n (pc := 2) C.1 dL_best_2 rfl hl 0 rfl ?_
    refine m_iload_n (pc := 3) C.1 dL_best_3 rfl hl 1 rfl ?_
    refine m_callVix (pc := 4) C.1 C.2.2.1 hl.1 C.2.1 hW hS (As := [.int (mI x1)]) (rest := [.int (mI 0), .ref (b + r2)]) (r := r0) (T_X11_best C.2.2.2.2.2.2 N r0 kr0 x1 ox1 h) kr0 rfl q_1161 q_1162 q_1163 q_81 q_1164 pl_X11_best (by decide) (Nat.le_of_ble_eq_true rfl) dL_best_4 (fun En S1 H locs ce q9 hE hW1 hS h1 h2 h3 => ?_) (fun v1 S1 H locs ov1 h hW1 hS => ?_)
    · rcases hE with ⟨rfl, h⟩
      · refine m_catch (pc := 4) C 0 rfl (fun z hz => absurd hz List.not_mem_nil) rfl (by decide) q_930 n_941 h1 h2 h3 ?_
        refine m_astore_n (pc := 12) C.1 dL_best_12 rfl hl (by decide) rfl (fun ls hl => ?_)
        refine m_iconst (pc := 13) C.1 dL_best_13 ?_
        exact m_iret (pc := 14) C.1 C.2.2.2.1 C.2.2.2.2.1 hW1 hS (by decide : okI 1) h (by decide) (by decide) dL_best_14
    · refine m_i2l (pc := 7) C.1 ov1 dL_best_7 ?_
      refine m_last (pc := 8) C.1 C.2.1 hW1 hS kr2 (by decide : okI 0) ov1 (by decide) (by decide) dL_best_8 (fun S2 H locs e2 hW2 hS => ?_)
      replace h := h S2 e2
      refine m_goto (pc := 9) (tgt := 15) C.1 dL_best_9 (by decide) ?_
      refine m_iconst (pc := 15) C.1 dL_best_15 ?_
      exact m_iret (pc := 16) C.1 C.2.2.2.1 C.2.2.2.2.1 hW2 hS (by decide : okI 0) h (by decide) (by decide) dL_best_16) sz
def w_L_least (N : Nat) (r0 : Nat) (x1 : Int) (x2 : Int) (r3 : Nat) (S : mSt) (Q : mSt → Int → Prop) : Prop :=
  w_X11_least N r0 x1 x2 S (fun (S1 : mSt) (v1 : Int) => ∀ S2 : mSt, S2 = mup S1 r3 0 v1 → Q S2 0) (fun (En : String) (S1 : mSt) => (En = "java/lang/IndexOutOfBoundsException" ∧ Q S1 1) ∨ (En = "java/lang/IllegalArgumentException" ∧ Q S1 2))
theorem T_L_least {l : Launch} (hl0 : l.stackTraces = false) {g : mG} {b : Nat} (N : Nat) (r0 : Nat) (kr0 : KX r0 = (0, 9, 0)) (x1 : Int) (ox1 : okI x1) (x2 : Int) (ox2 : okI x2) (r3 : Nat) (kr3 : KX r3 = (6, 1, 0)) {S : mSt} {Q : mSt → Int → Prop} (h : w_L_least N r0 x1 x2 r3 S Q) (sz : Nat) : vx_Met l yL_least (Cond.codeWith yL_least cL_least 5 (some FieldType.int) [(0, 10, 13, 24), (0, 10, 17, 13)] :: wsG) { frames := 8, cells := 2, slots := 12, locals := 187 } (mPc g b KX S [.ref (b + r0), .int (mI x1), .int (mI x2), .ref (b + r3)] sz) (mQi g b KX Q (mA b KX sz)) (mEx g b KX (fun _ _ => False) (mA b KX sz)) 2 12 (mA b KX sz) :=
  m_ofH (av := [.ref (b + r0), .int (mI x1), .int (mI x2), .ref (b + r3)]) (Qf := fun A => mQi g b KX Q A) (Xf := fun A => mEx g b KX (fun _ _ => False) A) hl0 (by decide) (Nat.le_of_ble_eq_true rfl) (fun p e s m args below meth c ls C hW hl => by
    have C : mCH p l s m args meth c cL_least "MoonWashLaw" 5 (some FieldType.int) g [(0, 10, 13, 24), (0, 10, 17, 13)] := C
    have hS : va_S (mA b KX s.heap.size) s.heap s.heap [] := va_S.rf
    have hl : lv_has ls 5 [(0, .ref (b + r0)), (1, .int (mI x1)), (2, .int (mI x2)), (3, .ref (b + r3))] := hl
    unfold w_L_least at h
    refine m_aload_n (pc := 0) C.1 dL_least_0 rfl hl 3 rfl ?_
    refine m_iconst (pc := 1) C.1 dL_least_1 ?_
    refine m_aload_n (pc := 2) C.1 dL_least_2 rfl hl 0 rfl ?_
    refine m_iload_n (pc := 3) C.1 dL_least_3 rfl hl 1 rfl ?_
    refine m_iload_n (pc := 4) C.1 dL_least_4 rfl hl 2 rfl ?_
    refine m_callVix (pc := 5) C.1 C.2.2.1 hl.1 C.2.1 hW hS (As := [.int (mI x1), .int (mI x2)]) (rest := [.int (mI 0), .ref (b + r3)]) (r := r0) (T_X11_least C.2.2.2.2.2.2 N r0 kr0 x1 ox1 x2 ox2 h) kr0 rfl q_1168 q_1169 q_1170 q_81 q_1171 pl_X11_least (by decide) (Nat.le_of_ble_eq_true rfl) dL_least_5 (fun En S1 H locs ce q9 hE hW1 hS h1 h2 h3 => ?_) (fun v1 S1 H locs ov1 h hW1 hS => ?_)
    · rcases hE with ⟨rfl, h⟩ | ⟨rfl, h⟩
      · refine m_catch (pc := 5) C 0 rfl (fun z hz => absurd hz List.not_mem_nil) rfl (by decide) q_930 n_941 h1 h2 h3 ?_
        refine m_astore (pc := 13) C.1 dL_least_13 hl (by decide) rfl (fun ls hl => ?_)
        refine m_iconst (pc := 15) C.1 dL_least_15 ?_
        exact m_iret (pc := 16) C.1 C.2.2.2.1 C.2.2.2.2.1 hW1 hS (by decide : okI 1) h (by decide) (by decide) dL_least_16
      · refine m_catch (pc := 5) C 1 rfl (List.forall_mem_cons.mpr ⟨⟨by decide, "java/lang/IndexOutOfBoundsException", q_930, by decide +kernel⟩, fun z hz => absurd hz List.not_mem_nil⟩) rfl (by decide) q_593 n_773 h1 h2 h3 ?_
        refine m_astore (pc := 17) C.1 dL_least_17 hl (by decide) rfl (fun ls hl => ?_)
        refine m_iconst (pc := 19) C.1 dL_least_19 ?_
        exact m_iret (pc := 20) C.1 C.2.2.2.1 C.2.2.2.2.1 hW1 hS (by decide : okI 2) h (by decide) (by decide) dL_least_20
    · refine m_i2l (pc := 8) C.1 ov1 dL_least_8 ?_
      refine m_last (pc := 9) C.1 C.2.1 hW1 hS kr3 (by decide : okI 0) ov1 (by decide) (by decide) dL_least_9 (fun S2 H locs e2 hW2 hS => ?_)
      replace h := h S2 e2
      refine m_goto (pc := 10) (tgt := 21) C.1 dL_least_10 (by decide) ?_
      refine m_iconst (pc := 21) C.1 dL_least_21 ?_
      exact m_iret (pc := 22) C.1 C.2.2.2.1 C.2.2.2.2.1 hW2 hS (by decide : okI 0) h (by decide) (by decide) dL_least_22) sz
def w_L_soaps (N : Nat) (r0 : Nat) (x1 : Int) (r2 : Nat) (S : mSt) (Q : mSt → Int → Prop) : Prop :=
  w_X11_soaps N r0 x1 S (fun (S1 : mSt) (v1 : Int) => ∀ S2 : mSt, S2 = mup S1 r2 0 v1 → Q S2 0) (fun (En : String) (S1 : mSt) => (En = "java/lang/IndexOutOfBoundsException" ∧ Q S1 1))
theorem T_L_soaps {l : Launch} (hl0 : l.stackTraces = false) {g : mG} {b : Nat} (N : Nat) (r0 : Nat) (kr0 : KX r0 = (0, 9, 0)) (x1 : Int) (ox1 : okI x1) (r2 : Nat) (kr2 : KX r2 = (6, 1, 0)) {S : mSt} {Q : mSt → Int → Prop} (h : w_L_soaps N r0 x1 r2 S Q) (sz : Nat) : vx_Met l yL_soaps (Cond.codeWith yL_soaps cL_soaps 4 (some FieldType.int) [(0, 9, 12, 24)] :: wsG) { frames := 8, cells := 1, slots := 6, locals := 146 } (mPc g b KX S [.ref (b + r0), .int (mI x1), .ref (b + r2)] sz) (mQi g b KX Q (mA b KX sz)) (mEx g b KX (fun _ _ => False) (mA b KX sz)) 1 6 (mA b KX sz) :=
  m_ofH (av := [.ref (b + r0), .int (mI x1), .ref (b + r2)]) (Qf := fun A => mQi g b KX Q A) (Xf := fun A => mEx g b KX (fun _ _ => False) A) hl0 (by decide) (Nat.le_of_ble_eq_true rfl) (fun p e s m args below meth c ls C hW hl => by
    have C : mCH p l s m args meth c cL_soaps "MoonWashLaw" 4 (some FieldType.int) g [(0, 9, 12, 24)] := C
    have hS : va_S (mA b KX s.heap.size) s.heap s.heap [] := va_S.rf
    have hl : lv_has ls 4 [(0, .ref (b + r0)), (1, .int (mI x1)), (2, .ref (b + r2))] := hl
    unfold w_L_soaps at h
    refine m_aload_n (pc := 0) C.1 dL_soaps_0 rfl hl 2 rfl ?_
    refine m_iconst (pc := 1) C.1 dL_soaps_1 ?_
    refine m_aload_n (pc := 2) C.1 dL_soaps_2 rfl hl 0 rfl ?_
    refine m_iload_n (pc := 3) C.1 dL_soaps_3 rfl hl 1 rfl ?_
    refine m_callVix (pc := 4) C.1 C.2.2.1 hl.1 C.2.1 hW hS (As := [.int (mI x1)]) (rest := [.int (mI 0), .ref (b + r2)]) (r := r0) (T_X11_soaps C.2.2.2.2.2.2 N r0 kr0 x1 ox1 h) kr0 rfl q_1206 q_1207 q_1208 q_81 q_1209 pl_X11_soaps (by decide) (Nat.le_of_ble_eq_true rfl) dL_soaps_4 (fun En S1 H locs ce q9 hE hW1 hS h1 h2 h3 => ?_) (fun v1 S1 H locs ov1 h hW1 hS => ?_)
    · rcases hE with ⟨rfl, h⟩
      · refine m_catch (pc := 4) C 0 rfl (fun z hz => absurd hz List.not_mem_nil) rfl (by decide) q_930 n_941 h1 h2 h3 ?_
        refine m_astore_n (pc := 12) C.1 dL_soaps_12 rfl hl (by decide) rfl (fun ls hl => ?_)
        refine m_iconst (pc := 13) C.1 dL_soaps_13 ?_
        exact m_iret (pc := 14) C.1 C.2.2.2.1 C.2.2.2.2.1 hW1 hS (by decide : okI 1) h (by decide) (by decide) dL_soaps_14
    · refine m_i2l (pc := 7) C.1 ov1 dL_soaps_7 ?_
      refine m_last (pc := 8) C.1 C.2.1 hW1 hS kr2 (by decide : okI 0) ov1 (by decide) (by decide) dL_soaps_8 (fun S2 H locs e2 hW2 hS => ?_)
      replace h := h S2 e2
      refine m_goto (pc := 9) (tgt := 15) C.1 dL_soaps_9 (by decide) ?_
      refine m_iconst (pc := 15) C.1 dL_soaps_15 ?_
      exact m_iret (pc := 16) C.1 C.2.2.2.1 C.2.2.2.2.1 hW2 hS (by decide : okI 0) h (by decide) (by decide) dL_soaps_16) sz
def w_L_washes (N : Nat) (r0 : Nat) (x1 : Int) (x2 : Int) (r3 : Nat) (S : mSt) (Q : mSt → Int → Prop) : Prop :=
  w_X11_washes N r0 x1 x2 S (fun (S1 : mSt) (v1 : Int) => ∀ S2 : mSt, S2 = mup S1 r3 0 v1 → Q S2 0) (fun (En : String) (S1 : mSt) => (En = "java/lang/IndexOutOfBoundsException" ∧ Q S1 1))
theorem T_L_washes {l : Launch} (hl0 : l.stackTraces = false) {g : mG} {b : Nat} (N : Nat) (r0 : Nat) (kr0 : KX r0 = (0, 9, 0)) (x1 : Int) (ox1 : okI x1) (x2 : Int) (ox2 : okI x2) (r3 : Nat) (kr3 : KX r3 = (6, 1, 0)) {S : mSt} {Q : mSt → Int → Prop} (h : w_L_washes N r0 x1 x2 r3 S Q) (sz : Nat) : vx_Met l yL_washes (Cond.codeWith yL_washes cL_washes 5 (some FieldType.int) [(0, 10, 13, 24)] :: wsG) { frames := 8, cells := 2, slots := 12, locals := 145 } (mPc g b KX S [.ref (b + r0), .int (mI x1), .int (mI x2), .ref (b + r3)] sz) (mQi g b KX Q (mA b KX sz)) (mEx g b KX (fun _ _ => False) (mA b KX sz)) 2 12 (mA b KX sz) :=
  m_ofH (av := [.ref (b + r0), .int (mI x1), .int (mI x2), .ref (b + r3)]) (Qf := fun A => mQi g b KX Q A) (Xf := fun A => mEx g b KX (fun _ _ => False) A) hl0 (by decide) (Nat.le_of_ble_eq_true rfl) (fun p e s m args below meth c ls C hW hl => by
    have C : mCH p l s m args meth c cL_washes "MoonWashLaw" 5 (some FieldType.int) g [(0, 10, 13, 24)] := C
    have hS : va_S (mA b KX s.heap.size) s.heap s.heap [] := va_S.rf
    have hl : lv_has ls 5 [(0, .ref (b + r0)), (1, .int (mI x1)), (2, .int (mI x2)), (3, .ref (b + r3))] := hl
    unfold w_L_washes at h
    refine m_aload_n (pc := 0) C.1 dL_washes_0 rfl hl 3 rfl ?_
    refine m_iconst (pc := 1) C.1 dL_washes_1 ?_
    refine m_aload_n (pc := 2) C.1 dL_washes_2 rfl hl 0 rfl ?_
    refine m_iload_n (pc := 3) C.1 dL_washes_3 rfl hl 1 rfl ?_
    refine m_iload_n (pc := 4) C.1 dL_washes_4 rfl hl 2 rfl ?_
    refine m_callVix (pc := 5) C.1 C.2.2.1 hl.1 C.2.1 hW hS (As := [.int (mI x1), .int (mI x2)]) (rest := [.int (mI 0), .ref (b + r3)]) (r := r0) (T_X11_washes C.2.2.2.2.2.2 N r0 kr0 x1 ox1 x2 ox2 h) kr0 rfl q_1214 q_1215 q_1216 q_81 q_1217 pl_X11_washes (by decide) (Nat.le_of_ble_eq_true rfl) dL_washes_5 (fun En S1 H locs ce q9 hE hW1 hS h1 h2 h3 => ?_) (fun v1 S1 H locs ov1 h hW1 hS => ?_)
    · rcases hE with ⟨rfl, h⟩
      · refine m_catch (pc := 5) C 0 rfl (fun z hz => absurd hz List.not_mem_nil) rfl (by decide) q_930 n_941 h1 h2 h3 ?_
        refine m_astore (pc := 13) C.1 dL_washes_13 hl (by decide) rfl (fun ls hl => ?_)
        refine m_iconst (pc := 15) C.1 dL_washes_15 ?_
        exact m_iret (pc := 16) C.1 C.2.2.2.1 C.2.2.2.2.1 hW1 hS (by decide : okI 1) h (by decide) (by decide) dL_washes_16
    · refine m_i2l (pc := 8) C.1 ov1 dL_washes_8 ?_
      refine m_last (pc := 9) C.1 C.2.1 hW1 hS kr3 (by decide : okI 0) ov1 (by decide) (by decide) dL_washes_9 (fun S2 H locs e2 hW2 hS => ?_)
      replace h := h S2 e2
      refine m_goto (pc := 10) (tgt := 17) C.1 dL_washes_10 (by decide) ?_
      refine m_iconst (pc := 17) C.1 dL_washes_17 ?_
      exact m_iret (pc := 18) C.1 C.2.2.2.1 C.2.2.2.2.1 hW2 hS (by decide : okI 0) h (by decide) (by decide) dL_washes_18) sz
def w_L_soonest (N : Nat) (r0 : Nat) (x1 : Int) (x2 : Int) (r3 : Nat) (S : mSt) (Q : mSt → Int → Prop) : Prop :=
  w_X11_soonest N r0 x1 x2 S (fun (S1 : mSt) (v1 : Int) => ∀ S2 : mSt, S2 = mup S1 r3 0 v1 → Q S2 0) (fun (En : String) (S1 : mSt) => (En = "java/lang/IndexOutOfBoundsException" ∧ Q S1 1) ∨ (En = "java/lang/IllegalArgumentException" ∧ Q S1 2))
theorem T_L_soonest {l : Launch} (hl0 : l.stackTraces = false) {g : mG} {b : Nat} (N : Nat) (r0 : Nat) (kr0 : KX r0 = (0, 9, 0)) (x1 : Int) (ox1 : okI x1) (x2 : Int) (ox2 : okI x2) (r3 : Nat) (kr3 : KX r3 = (6, 1, 0)) {S : mSt} {Q : mSt → Int → Prop} (h : w_L_soonest N r0 x1 x2 r3 S Q) (sz : Nat) : vx_Met l yL_soonest (Cond.codeWith yL_soonest cL_soonest 5 (some FieldType.int) [(0, 10, 13, 24), (0, 10, 17, 13)] :: wsG) { frames := 8, cells := 2, slots := 12, locals := 189 } (mPc g b KX S [.ref (b + r0), .int (mI x1), .int (mI x2), .ref (b + r3)] sz) (mQi g b KX Q (mA b KX sz)) (mEx g b KX (fun _ _ => False) (mA b KX sz)) 2 12 (mA b KX sz) :=
  m_ofH (av := [.ref (b + r0), .int (mI x1), .int (mI x2), .ref (b + r3)]) (Qf := fun A => mQi g b KX Q A) (Xf := fun A => mEx g b KX (fun _ _ => False) A) hl0 (by decide) (Nat.le_of_ble_eq_true rfl) (fun p e s m args below meth c ls C hW hl => by
    have C : mCH p l s m args meth c cL_soonest "MoonWashLaw" 5 (some FieldType.int) g [(0, 10, 13, 24), (0, 10, 17, 13)] := C
    have hS : va_S (mA b KX s.heap.size) s.heap s.heap [] := va_S.rf
    have hl : lv_has ls 5 [(0, .ref (b + r0)), (1, .int (mI x1)), (2, .int (mI x2)), (3, .ref (b + r3))] := hl
    unfold w_L_soonest at h
    refine m_aload_n (pc := 0) C.1 dL_soonest_0 rfl hl 3 rfl ?_
    refine m_iconst (pc := 1) C.1 dL_soonest_1 ?_
    refine m_aload_n (pc := 2) C.1 dL_soonest_2 rfl hl 0 rfl ?_
    refine m_iload_n (pc := 3) C.1 dL_soonest_3 rfl hl 1 rfl ?_
    refine m_iload_n (pc := 4) C.1 dL_soonest_4 rfl hl 2 rfl ?_
    refine m_callVix (pc := 5) C.1 C.2.2.1 hl.1 C.2.1 hW hS (As := [.int (mI x1), .int (mI x2)]) (rest := [.int (mI 0), .ref (b + r3)]) (r := r0) (T_X11_soonest C.2.2.2.2.2.2 N r0 kr0 x1 ox1 x2 ox2 h) kr0 rfl q_1221 q_1222 q_1223 q_81 q_1224 pl_X11_soonest (by decide) (Nat.le_of_ble_eq_true rfl) dL_soonest_5 (fun En S1 H locs ce q9 hE hW1 hS h1 h2 h3 => ?_) (fun v1 S1 H locs ov1 h hW1 hS => ?_)
    · rcases hE with ⟨rfl, h⟩ | ⟨rfl, h⟩
      · refine m_catch (pc := 5) C 0 rfl (fun z hz => absurd hz List.not_mem_nil) rfl (by decide) q_930 n_941 h1 h2 h3 ?_
        refine m_astore (pc := 13) C.1 dL_soonest_13 hl (by decide) rfl (fun ls hl => ?_)
        refine m_iconst (pc := 15) C.1 dL_soonest_15 ?_
        exact m_iret (pc := 16) C.1 C.2.2.2.1 C.2.2.2.2.1 hW1 hS (by decide : okI 1) h (by decide) (by decide) dL_soonest_16
      · refine m_catch (pc := 5) C 1 rfl (List.forall_mem_cons.mpr ⟨⟨by decide, "java/lang/IndexOutOfBoundsException", q_930, by decide +kernel⟩, fun z hz => absurd hz List.not_mem_nil⟩) rfl (by decide) q_593 n_773 h1 h2 h3 ?_
        refine m_astore (pc := 17) C.1 dL_soonest_17 hl (by decide) rfl (fun ls hl => ?_)
        refine m_iconst (pc := 19) C.1 dL_soonest_19 ?_
        exact m_iret (pc := 20) C.1 C.2.2.2.1 C.2.2.2.2.1 hW1 hS (by decide : okI 2) h (by decide) (by decide) dL_soonest_20
    · refine m_i2l (pc := 8) C.1 ov1 dL_soonest_8 ?_
      refine m_last (pc := 9) C.1 C.2.1 hW1 hS kr3 (by decide : okI 0) ov1 (by decide) (by decide) dL_soonest_9 (fun S2 H locs e2 hW2 hS => ?_)
      replace h := h S2 e2
      refine m_goto (pc := 10) (tgt := 21) C.1 dL_soonest_10 (by decide) ?_
      refine m_iconst (pc := 21) C.1 dL_soonest_21 ?_
      exact m_iret (pc := 22) C.1 C.2.2.2.1 C.2.2.2.2.1 hW2 hS (by decide : okI 0) h (by decide) (by decide) dL_soonest_22) sz
def w_L_dried (N : Nat) (r0 : Nat) (x1 : Int) (x2 : Int) (r3 : Nat) (S : mSt) (Q : mSt → Int → Prop) : Prop :=
  w_X11_dried N r0 x1 x2 S (fun (S1 : mSt) (v1 : Int) => ∀ S2 : mSt, S2 = mup S1 r3 0 v1 → Q S2 0) (fun (En : String) (S1 : mSt) => (En = "java/lang/IndexOutOfBoundsException" ∧ Q S1 1) ∨ (En = "java/lang/IllegalArgumentException" ∧ Q S1 2))
theorem T_L_dried {l : Launch} (hl0 : l.stackTraces = false) {g : mG} {b : Nat} (N : Nat) (r0 : Nat) (kr0 : KX r0 = (0, 9, 0)) (x1 : Int) (ox1 : okI x1) (x2 : Int) (ox2 : okI x2) (r3 : Nat) (kr3 : KX r3 = (6, 1, 0)) {S : mSt} {Q : mSt → Int → Prop} (h : w_L_dried N r0 x1 x2 r3 S Q) (sz : Nat) : vx_Met l yL_dried (Cond.codeWith yL_dried cL_dried 5 (some FieldType.int) [(0, 10, 13, 24), (0, 10, 17, 13)] :: wsG) { frames := 8, cells := 2, slots := 12, locals := 164 } (mPc g b KX S [.ref (b + r0), .int (mI x1), .int (mI x2), .ref (b + r3)] sz) (mQi g b KX Q (mA b KX sz)) (mEx g b KX (fun _ _ => False) (mA b KX sz)) 2 12 (mA b KX sz) :=
  m_ofH (av := [.ref (b + r0), .int (mI x1), .int (mI x2), .ref (b + r3)]) (Qf := fun A => mQi g b KX Q A) (Xf := fun A => mEx g b KX (fun _ _ => False) A) hl0 (by decide) (Nat.le_of_ble_eq_true rfl) (fun p e s m args below meth c ls C hW hl => by
    have C : mCH p l s m args meth c cL_dried "MoonWashLaw" 5 (some FieldType.int) g [(0, 10, 13, 24), (0, 10, 17, 13)] := C
    have hS : va_S (mA b KX s.heap.size) s.heap s.heap [] := va_S.rf
    have hl : lv_has ls 5 [(0, .ref (b + r0)), (1, .int (mI x1)), (2, .int (mI x2)), (3, .ref (b + r3))] := hl
    unfold w_L_dried at h
    refine m_aload_n (pc := 0) C.1 dL_dried_0 rfl hl 3 rfl ?_
    refine m_iconst (pc := 1) C.1 dL_dried_1 ?_
    refine m_aload_n (pc := 2) C.1 dL_dried_2 rfl hl 0 rfl ?_
    refine m_iload_n (pc := 3) C.1 dL_dried_3 rfl hl 1 rfl ?_
    refine m_iload_n (pc := 4) C.1 dL_dried_4 rfl hl 2 rfl ?_
    refine m_callVix (pc := 5) C.1 C.2.2.1 hl.1 C.2.1 hW hS (As := [.int (mI x1), .int (mI x2)]) (rest := [.int (mI 0), .ref (b + r3)]) (r := r0) (T_X11_dried C.2.2.2.2.2.2 N r0 kr0 x1 ox1 x2 ox2 h) kr0 rfl q_1263 q_1264 q_1265 q_81 q_1266 pl_X11_dried (by decide) (Nat.le_of_ble_eq_true rfl) dL_dried_5 (fun En S1 H locs ce q9 hE hW1 hS h1 h2 h3 => ?_) (fun v1 S1 H locs ov1 h hW1 hS => ?_)
    · rcases hE with ⟨rfl, h⟩ | ⟨rfl, h⟩
      · refine m_catch (pc := 5) C 0 rfl (fun z hz => absurd hz List.not_mem_nil) rfl (by decide) q_930 n_941 h1 h2 h3 ?_
        refine m_astore (pc := 13) C.1 dL_dried_13 hl (by decide) rfl (fun ls hl => ?_)
        refine m_iconst (pc := 15) C.1 dL_dried_15 ?_
        exact m_iret (pc := 16) C.1 C.2.2.2.1 C.2.2.2.2.1 hW1 hS (by decide : okI 1) h (by decide) (by decide) dL_dried_16
      · refine m_catch (pc := 5) C 1 rfl (List.forall_mem_cons.mpr ⟨⟨by decide, "java/lang/IndexOutOfBoundsException", q_930, by decide +kernel⟩, fun z hz => absurd hz List.not_mem_nil⟩) rfl (by decide) q_593 n_773 h1 h2 h3 ?_
        refine m_astore (pc := 17) C.1 dL_dried_17 hl (by decide) rfl (fun ls hl => ?_)
        refine m_iconst (pc := 19) C.1 dL_dried_19 ?_
        exact m_iret (pc := 20) C.1 C.2.2.2.1 C.2.2.2.2.1 hW1 hS (by decide : okI 2) h (by decide) (by decide) dL_dried_20
    · refine m_i2l (pc := 8) C.1 ov1 dL_dried_8 ?_
      refine m_last (pc := 9) C.1 C.2.1 hW1 hS kr3 (by decide : okI 0) ov1 (by decide) (by decide) dL_dried_9 (fun S2 H locs e2 hW2 hS => ?_)
      replace h := h S2 e2
      refine m_goto (pc := 10) (tgt := 21) C.1 dL_dried_10 (by decide) ?_
      refine m_iconst (pc := 21) C.1 dL_dried_21 ?_
      exact m_iret (pc := 22) C.1 C.2.2.2.1 C.2.2.2.2.1 hW2 hS (by decide : okI 0) h (by decide) (by decide) dL_dried_22) sz
def w_L_ahead (N : Nat) (r0 : Nat) (x1 : Int) (x2 : Int) (x3 : Int) (x4 : Int) (r5 : Nat) (S : mSt) (Q : mSt → Int → Prop) : Prop :=
  w_X11_ahead N r0 x1 x2 x3 x4 S (fun (S1 : mSt) (v1 : Int) => ∀ S2 : mSt, S2 = mup S1 r5 0 v1 → Q S2 0) (fun (En : String) (S1 : mSt) => (En = "java/lang/IndexOutOfBoundsException" ∧ Q S1 1) ∨ (En = "java/lang/IllegalArgumentException" ∧ Q S1 2) ∨ (En = "java/util/NoSuchElementException" ∧ Q S1 3))
theorem T_L_ahead {l : Launch} (hl0 : l.stackTraces = false) {g : mG} {b : Nat} (N : Nat) (r0 : Nat) (kr0 : KX r0 = (0, 9, 0)) (x1 : Int) (ox1 : okI x1) (x2 : Int) (ox2 : okI x2) (x3 : Int) (ox3 : okI x3) (x4 : Int) (ox4 : okI x4) (r5 : Nat) (kr5 : KX r5 = (6, 1, 0)) {S : mSt} {Q : mSt → Int → Prop} (h : w_L_ahead N r0 x1 x2 x3 x4 r5 S Q) (sz : Nat) : vx_Met l yL_ahead (Cond.codeWith yL_ahead cL_ahead 7 (some FieldType.int) [(0, 14, 17, 24), (0, 14, 21, 13), (0, 14, 25, 26)] :: wsG) { frames := 8, cells := 4, slots := 24, locals := 166 } (mPc g b KX S [.ref (b + r0), .int (mI x1), .int (mI x2), .int (mI x3), .int (mI x4), .ref (b + r5)] sz) (mQi g b KX Q (mA b KX sz)) (mEx g b KX (fun _ _ => False) (mA b KX sz)) 4 24 (mA b KX sz) :=
  m_ofH (av := [.ref (b + r0), .int (mI x1), .int (mI x2), .int (mI x3), .int (mI x4), .ref (b + r5)]) (Qf := fun A => mQi g b KX Q A) (Xf := fun A => mEx g b KX (fun _ _ => False) A) hl0 (by decide) (Nat.le_of_ble_eq_true rfl) (fun p e s m args below meth c ls C hW hl => by
    have C : mCH p l s m args meth c cL_ahead "MoonWashLaw" 7 (some FieldType.int) g [(0, 14, 17, 24), (0, 14, 21, 13), (0, 14, 25, 26)] := C
    have hS : va_S (mA b KX s.heap.size) s.heap s.heap [] := va_S.rf
    have hl : lv_has ls 7 [(0, .ref (b + r0)), (1, .int (mI x1)), (2, .int (mI x2)), (3, .int (mI x3)), (4, .int (mI x4)), (5, .ref (b + r5))] := hl
    unfold w_L_ahead at h
    refine m_aload (pc := 0) C.1 dL_ahead_0 hl 5 rfl ?_
    refine m_iconst (pc := 2) C.1 dL_ahead_2 ?_
    refine m_aload_n (pc := 3) C.1 dL_ahead_3 rfl hl 0 rfl ?_
    refine m_iload_n (pc := 4) C.1 dL_ahead_4 rfl hl 1 rfl ?_
    refine m_iload_n (pc := 5) C.1 dL_ahead_5 rfl hl 2 rfl ?_
    refine m_iload_n (pc := 6) C.1 dL_ahead_6 rfl hl 3 rfl ?_
    refine m_iload (pc := 7) C.1 dL_ahead_7 hl 4 rfl ?_
    refine m_callVix (pc := 9) C.1 C.2.2.1 hl.1 C.2.1 hW hS (As := [.int (mI x1), .int (mI x2), .int (mI x3), .int (mI x4)]) (rest := [.int (mI 0), .ref (b + r5)]) (r := r0) (T_X11_ahead C.2.2.2.2.2.2 N r0 kr0 x1 ox1 x2 ox2 x3 ox3 x4 ox4 h) kr0 rfl q_1270 q_1271 q_1272 q_81 q_1273 pl_X11_ahead (by decide) (Nat.le_of_ble_eq_true rfl) dL_ahead_9 (fun En S1 H locs ce q9 hE hW1 hS h1 h2 h3 => ?_) (fun v1 S1 H locs ov1 h hW1 hS => ?_)
    · rcases hE with ⟨rfl, h⟩ | ⟨rfl, h⟩ | ⟨rfl, h⟩
      · refine m_catch (pc := 9) C 0 rfl (fun z hz => absurd hz List.not_mem_nil) rfl (by decide) q_930 n_941 h1 h2 h3 ?_
        refine m_astore (pc := 17) C.1 dL_ahead_17 hl (by decide) rfl (fun ls hl => ?_)
        refine m_iconst (pc := 19) C.1 dL_ahead_19 ?_
        exact m_iret (pc := 20) C.1 C.2.2.2.1 C.2.2.2.2.1 hW1 hS (by decide : okI 1) h (by decide) (by decide) dL_ahead_20
      · refine m_catch (pc := 9) C 1 rfl (List.forall_mem_cons.mpr ⟨⟨by decide, "java/lang/IndexOutOfBoundsException", q_930, by decide +kernel⟩, fun z hz => absurd hz List.not_mem_nil⟩) rfl (by decide) q_593 n_773 h1 h2 h3 ?_
        refine m_astore (pc := 21) C.1 dL_ahead_21 hl (by decide) rfl (fun ls hl => ?_)
        refine m_iconst (pc := 23) C.1 dL_ahead_23 ?_
        exact m_iret (pc := 24) C.1 C.2.2.2.1 C.2.2.2.2.1 hW1 hS (by decide : okI 2) h (by decide) (by decide) dL_ahead_24
      · refine m_catch (pc := 9) C 2 rfl (List.forall_mem_cons.mpr ⟨⟨by decide, "java/lang/IndexOutOfBoundsException", q_930, by decide +kernel⟩, List.forall_mem_cons.mpr ⟨⟨by decide, "java/lang/IllegalArgumentException", q_593, by decide +kernel⟩, fun z hz => absurd hz List.not_mem_nil⟩⟩) rfl (by decide) q_931 n_977 h1 h2 h3 ?_
        refine m_astore (pc := 25) C.1 dL_ahead_25 hl (by decide) rfl (fun ls hl => ?_)
        refine m_iconst (pc := 27) C.1 dL_ahead_27 ?_
        exact m_iret (pc := 28) C.1 C.2.2.2.1 C.2.2.2.2.1 hW1 hS (by decide : okI 3) h (by decide) (by decide) dL_ahead_28
    · refine m_i2l (pc := 12) C.1 ov1 dL_ahead_12 ?_
      refine m_last (pc := 13) C.1 C.2.1 hW1 hS kr5 (by decide : okI 0) ov1 (by decide) (by decide) dL_ahead_13 (fun S2 H locs e2 hW2 hS => ?_)
      replace h := h S2 e2
      refine m_goto (pc := 14) (tgt := 29) C.1 dL_ahead_14 (by decide) ?_
      refine m_iconst (pc := 29) C.1 dL_ahead_29 ?_
      exact m_iret (pc := 30) C.1 C.2.2.2.1 C.2.2.2.2.1 hW2 hS (by decide : okI 0) h (by decide) (by decide) dL_ahead_30) sz
def w_L_stained (N : Nat) (r0 : Nat) (x1 : Int) (r2 : Nat) (S : mSt) (Q : mSt → Int → Prop) : Prop :=
  w_X11_stained N r0 x1 S (fun (S1 : mSt) (v1 : Int) => ∀ S2 : mSt, S2 = mup S1 r2 0 v1 → Q S2 0) (fun (En : String) (S1 : mSt) => (En = "java/lang/IllegalArgumentException" ∧ Q S1 1))
theorem T_L_stained {l : Launch} (hl0 : l.stackTraces = false) {g : mG} {b : Nat} (N : Nat) (r0 : Nat) (kr0 : KX r0 = (0, 9, 0)) (x1 : Int) (ox1 : okI x1) (r2 : Nat) (kr2 : KX r2 = (6, 1, 0)) {S : mSt} {Q : mSt → Int → Prop} (h : w_L_stained N r0 x1 r2 S Q) (sz : Nat) : vx_Met l yL_stained (Cond.codeWith yL_stained cL_stained 4 (some FieldType.int) [(0, 9, 12, 13)] :: wsG) { frames := 8, cells := 1, slots := 6, locals := 150 } (mPc g b KX S [.ref (b + r0), .int (mI x1), .ref (b + r2)] sz) (mQi g b KX Q (mA b KX sz)) (mEx g b KX (fun _ _ => False) (mA b KX sz)) 1 6 (mA b KX sz) :=
  m_ofH (av := [.ref (b + r0), .int (mI x1), .ref (b + r2)]) (Qf := fun A => mQi g b KX Q A) (Xf := fun A => mEx g b KX (fun _ _ => False) A) hl0 (by decide) (Nat.le_of_ble_eq_true rfl) (fun p e s m args below meth c ls C hW hl => by
    have C : mCH p l s m args meth c cL_stained "MoonWashLaw" 4 (some FieldType.int) g [(0, 9, 12, 13)] := C
    have hS : va_S (mA b KX s.heap.size) s.heap s.heap [] := va_S.rf
    have hl : lv_has ls 4 [(0, .ref (b + r0)), (1, .int (mI x1)), (2, .ref (b + r2))] := hl
    unfold w_L_stained at h
    refine m_aload_n (pc := 0) C.1 dL_stained_0 rfl hl 2 rfl ?_
    refine m_iconst (pc := 1) C.1 dL_stained_1 ?_
    refine m_aload_n (pc := 2) C.1 dL_stained_2 rfl hl 0 rfl ?_
    refine m_iload_n (pc := 3) C.1 dL_stained_3 rfl hl 1 rfl ?_
    refine m_callVix (pc := 4) C.1 C.2.2.1 hl.1 C.2.1 hW hS (As := [.int (mI x1)]) (rest := [.int (mI 0), .ref (b + r2)]) (r := r0) (T_X11_stained C.2.2.2.2.2.2 N r0 kr0 x1 ox1 h) kr0 rfl q_1282 q_1283 q_1284 q_81 q_1285 pl_X11_stained (by decide) (Nat.le_of_ble_eq_true rfl) dL_stained_4 (fun En S1 H locs ce q9 hE hW1 hS h1 h2 h3 => ?_) (fun v1 S1 H locs ov1 h hW1 hS => ?_)
    · rcases hE with ⟨rfl, h⟩
      · refine m_catch (pc := 4) C 0 rfl (fun z hz => absurd hz List.not_mem_nil) rfl (by decide) q_593 n_773 h1 h2 h3 ?_
        refine m_astore_n (pc := 12) C.1 dL_stained_12 rfl hl (by decide) rfl (fun ls hl => ?_)
        refine m_iconst (pc := 13) C.1 dL_stained_13 ?_
        exact m_iret (pc := 14) C.1 C.2.2.2.1 C.2.2.2.2.1 hW1 hS (by decide : okI 1) h (by decide) (by decide) dL_stained_14
    · refine m_i2l (pc := 7) C.1 ov1 dL_stained_7 ?_
      refine m_last (pc := 8) C.1 C.2.1 hW1 hS kr2 (by decide : okI 0) ov1 (by decide) (by decide) dL_stained_8 (fun S2 H locs e2 hW2 hS => ?_)
      replace h := h S2 e2
      refine m_goto (pc := 9) (tgt := 15) C.1 dL_stained_9 (by decide) ?_
      refine m_iconst (pc := 15) C.1 dL_stained_15 ?_
      exact m_iret (pc := 16) C.1 C.2.2.2.1 C.2.2.2.2.1 hW2 hS (by decide : okI 0) h (by decide) (by decide) dL_stained_16) sz
def w_L_tries (N : Nat) (r0 : Nat) (r1 : Nat) (S : mSt) (Q : mSt → Int → Prop) : Prop :=
  w_X11_tries N r0 S (fun (S1 : mSt) (v1 : Int) => ∀ S2 : mSt, S2 = mup S1 r1 0 v1 → Q S2 0) (fun (En : String) (S1 : mSt) => (En = "java/lang/IllegalArgumentException" ∧ Q S1 1))
theorem T_L_tries {l : Launch} (hl0 : l.stackTraces = false) {g : mG} {b : Nat} (N : Nat) (r0 : Nat) (kr0 : KX r0 = (0, 9, 0)) (r1 : Nat) (kr1 : KX r1 = (6, 1, 0)) {S : mSt} {Q : mSt → Int → Prop} (h : w_L_tries N r0 r1 S Q) (sz : Nat) : vx_Met l yL_tries (Cond.codeWith yL_tries cL_tries 3 (some FieldType.int) [(0, 8, 11, 13)] :: wsG) { frames := 8, cells := 1, slots := 6, locals := 153 } (mPc g b KX S [.ref (b + r0), .ref (b + r1)] sz) (mQi g b KX Q (mA b KX sz)) (mEx g b KX (fun _ _ => False) (mA b KX sz)) 1 6 (mA b KX sz) :=
  m_ofH (av := [.ref (b + r0), .ref (b + r1)]) (Qf := fun A => mQi g b KX Q A) (Xf := fun A => mEx g b KX (fun _ _ => False) A) hl0 (by decide) (Nat.le_of_ble_eq_true rfl) (fun p e s m args below meth c ls C hW hl => by
    have C : mCH p l s m args meth c cL_tries "MoonWashLaw" 3 (some FieldType.int) g [(0, 8, 11, 13)] := C
    have hS : va_S (mA b KX s.heap.size) s.heap s.heap [] := va_S.rf
    have hl : lv_has ls 3 [(0, .ref (b + r0)), (1, .ref (b + r1))] := hl
    unfold w_L_tries at h
    refine m_aload_n (pc := 0) C.1 dL_tries_0 rfl hl 1 rfl ?_
    refine m_iconst (pc := 1) C.1 dL_tries_1 ?_
    refine m_aload_n (pc := 2) C.1 dL_tries_2 rfl hl 0 rfl ?_
    refine m_callVix (pc := 3) C.1 C.2.2.1 hl.1 C.2.1 hW hS (As := []) (rest := [.int (mI 0), .ref (b + r1)]) (r := r0) (T_X11_tries C.2.2.2.2.2.2 N r0 kr0 h) kr0 rfl q_1296 q_1297 q_1298 q_81 q_1299 pl_X11_tries (by decide) (Nat.le_of_ble_eq_true rfl) dL_tries_3 (fun En S1 H locs ce q9 hE hW1 hS h1 h2 h3 => ?_) (fun v1 S1 H locs ov1 h hW1 hS => ?_)
    · rcases hE with ⟨rfl, h⟩
      · refine m_catch (pc := 3) C 0 rfl (fun z hz => absurd hz List.not_mem_nil) rfl (by decide) q_593 n_773 h1 h2 h3 ?_
        refine m_astore_n (pc := 11) C.1 dL_tries_11 rfl hl (by decide) rfl (fun ls hl => ?_)
        refine m_iconst (pc := 12) C.1 dL_tries_12 ?_
        exact m_iret (pc := 13) C.1 C.2.2.2.1 C.2.2.2.2.1 hW1 hS (by decide : okI 1) h (by decide) (by decide) dL_tries_13
    · refine m_i2l (pc := 6) C.1 ov1 dL_tries_6 ?_
      refine m_last (pc := 7) C.1 C.2.1 hW1 hS kr1 (by decide : okI 0) ov1 (by decide) (by decide) dL_tries_7 (fun S2 H locs e2 hW2 hS => ?_)
      replace h := h S2 e2
      refine m_goto (pc := 8) (tgt := 14) C.1 dL_tries_8 (by decide) ?_
      refine m_iconst (pc := 14) C.1 dL_tries_14 ?_
      exact m_iret (pc := 15) C.1 C.2.2.2.1 C.2.2.2.2.1 hW2 hS (by decide : okI 0) h (by decide) (by decide) dL_tries_15) sz
def w_L_tide (N : Nat) (r0 : Nat) (x1 : Int) (x2 : Int) (r3 : Nat) (S : mSt) (Q : mSt → Int → Prop) : Prop :=
  w_X11_tide N r0 x1 x2 S (fun (S1 : mSt) (v1 : Int) => ∀ S2 : mSt, S2 = mup S1 r3 0 v1 → Q S2 0) (fun (En : String) (S1 : mSt) => (En = "java/lang/IllegalArgumentException" ∧ Q S1 1))
theorem T_L_tide {l : Launch} (hl0 : l.stackTraces = false) {g : mG} {b : Nat} (N : Nat) (r0 : Nat) (kr0 : KX r0 = (0, 9, 0)) (x1 : Int) (ox1 : okI x1) (x2 : Int) (ox2 : okI x2) (r3 : Nat) (kr3 : KX r3 = (6, 1, 0)) {S : mSt} {Q : mSt → Int → Prop} (h : w_L_tide N r0 x1 x2 r3 S Q) (sz : Nat) : vx_Met l yL_tide (Cond.codeWith yL_tide cL_tide 5 (some FieldType.int) [(0, 10, 13, 13)] :: wsG) { frames := 8, cells := 2, slots := 12, locals := 165 } (mPc g b KX S [.ref (b + r0), .int (mI x1), .int (mI x2), .ref (b + r3)] sz) (mQi g b KX Q (mA b KX sz)) (mEx g b KX (fun _ _ => False) (mA b KX sz)) 2 12 (mA b KX sz) :=
  m_ofH (av := [.ref (b + r0), .int (mI x1), .int (mI x2), .ref (b + r3)]) (Qf := fun A => mQi g b KX Q A) (Xf := fun A => mEx g b KX (fun _ _ => False) A) hl0 (by decide) (Nat.le_of_ble_eq_true rfl) (fun p e s m args below meth c ls C hW hl => by
    have C : mCH p l s m args meth c cL_tide "MoonWashLaw" 5 (some FieldType.int) g [(0, 10, 13, 13)] := C
    have hS : va_S (mA b KX s.heap.size) s.heap s.heap [] := va_S.rf
    have hl : lv_has ls 5 [(0, .ref (b + r0)), (1, .int (mI x1)), (2, .int (mI x2)), (3, .ref (b + r3))] := hl
    unfold w_L_tide at h
    refine m_aload_n (pc := 0) C.1 dL_tide_0 rfl hl 3 rfl ?_
    refine m_iconst (pc := 1) C.1 dL_tide_1 ?_
    refine m_aload_n (pc := 2) C.1 dL_tide_2 rfl hl 0 rfl ?_
    refine m_iload_n (pc := 3) C.1 dL_tide_3 rfl hl 1 rfl ?_
    refine m_iload_n (pc := 4) C.1 dL_tide_4 rfl hl 2 rfl ?_
    refine m_callVix (pc := 5) C.1 C.2.2.1 hl.1 C.2.1 hW hS (As := [.int (mI x1), .int (mI x2)]) (rest := [.int (mI 0), .ref (b + r3)]) (r := r0) (T_X11_tide C.2.2.2.2.2.2 N r0 kr0 x1 ox1 x2 ox2 h) kr0 rfl q_1303 q_1304 q_1305 q_81 q_1306 pl_X11_tide (by decide) (Nat.le_of_ble_eq_true rfl) dL_tide_5 (fun En S1 H locs ce q9 hE hW1 hS h1 h2 h3 => ?_) (fun v1 S1 H locs ov1 h hW1 hS => ?_)
    · rcases hE with ⟨rfl, h⟩
      · refine m_catch (pc := 5) C 0 rfl (fun z hz => absurd hz List.not_mem_nil) rfl (by decide) q_593 n_773 h1 h2 h3 ?_
        refine m_astore (pc := 13) C.1 dL_tide_13 hl (by decide) rfl (fun ls hl => ?_)
        refine m_iconst (pc := 15) C.1 dL_tide_15 ?_
        exact m_iret (pc := 16) C.1 C.2.2.2.1 C.2.2.2.2.1 hW1 hS (by decide : okI 1) h (by decide) (by decide) dL_tide_16
    · refine m_i2l (pc := 8) C.1 ov1 dL_tide_8 ?_
      refine m_last (pc := 9) C.1 C.2.1 hW1 hS kr3 (by decide : okI 0) ov1 (by decide) (by decide) dL_tide_9 (fun S2 H locs e2 hW2 hS => ?_)
      replace h := h S2 e2
      refine m_goto (pc := 10) (tgt := 17) C.1 dL_tide_10 (by decide) ?_
      refine m_iconst (pc := 17) C.1 dL_tide_17 ?_
      exact m_iret (pc := 18) C.1 C.2.2.2.1 C.2.2.2.2.1 hW2 hS (by decide : okI 0) h (by decide) (by decide) dL_tide_18) sz
def w_L_late (N : Nat) (r0 : Nat) (x1 : Int) (r2 : Nat) (S : mSt) (Q : mSt → Int → Prop) : Prop :=
  w_X11_late N r0 x1 S (fun (S1 : mSt) (v1 : Int) => ∀ S2 : mSt, S2 = mup S1 r2 0 v1 → Q S2 0) (fun (En : String) (S1 : mSt) => (En = "java/lang/IllegalArgumentException" ∧ Q S1 1))
theorem T_L_late {l : Launch} (hl0 : l.stackTraces = false) {g : mG} {b : Nat} (N : Nat) (r0 : Nat) (kr0 : KX r0 = (0, 9, 0)) (x1 : Int) (ox1 : okI x1) (r2 : Nat) (kr2 : KX r2 = (6, 1, 0)) {S : mSt} {Q : mSt → Int → Prop} (h : w_L_late N r0 x1 r2 S Q) (sz : Nat) : vx_Met l yL_late (Cond.codeWith yL_late cL_late 4 (some FieldType.int) [(0, 9, 12, 13)] :: wsG) { frames := 8, cells := 1, slots := 6, locals := 187 } (mPc g b KX S [.ref (b + r0), .int (mI x1), .ref (b + r2)] sz) (mQi g b KX Q (mA b KX sz)) (mEx g b KX (fun _ _ => False) (mA b KX sz)) 1 6 (mA b KX sz) :=
  m_ofH (av := [.ref (b + r0), .int (mI x1), .ref (b + r2)]) (Qf := fun A => mQi g b KX Q A) (Xf := fun A => mEx g b KX (fun _ _ => False) A) hl0 (by decide) (Nat.le_of_ble_eq_true rfl) (fun p e s m args below meth c ls C hW hl => by
    have C : mCH p l s m args meth c cL_late "MoonWashLaw" 4 (some FieldType.int) g [(0, 9, 12, 13)] := C
    have hS : va_S (mA b KX s.heap.size) s.heap s.heap [] := va_S.rf
    have hl : lv_has ls 4 [(0, .ref (b + r0)), (1, .int (mI x1)), (2, .ref (b + r2))] := hl
    unfold w_L_late at h
    refine m_aload_n (pc := 0) C.1 dL_late_0 rfl hl 2 rfl ?_
    refine m_iconst (pc := 1) C.1 dL_late_1 ?_
    refine m_aload_n (pc := 2) C.1 dL_late_2 rfl hl 0 rfl ?_
    refine m_iload_n (pc := 3) C.1 dL_late_3 rfl hl 1 rfl ?_
    refine m_callVix (pc := 4) C.1 C.2.2.1 hl.1 C.2.1 hW hS (As := [.int (mI x1)]) (rest := [.int (mI 0), .ref (b + r2)]) (r := r0) (T_X11_late C.2.2.2.2.2.2 N r0 kr0 x1 ox1 h) kr0 rfl q_1310 q_1311 q_1312 q_81 q_1313 pl_X11_late (by decide) (Nat.le_of_ble_eq_true rfl) dL_late_4 (fun En S1 H locs ce q9 hE hW1 hS h1 h2 h3 => ?_) (fun v1 S1 H locs ov1 h hW1 hS => ?_)
    · rcases hE with ⟨rfl, h⟩
      · refine m_catch (pc := 4) C 0 rfl (fun z hz => absurd hz List.not_mem_nil) rfl (by decide) q_593 n_773 h1 h2 h3 ?_
        refine m_astore_n (pc := 12) C.1 dL_late_12 rfl hl (by decide) rfl (fun ls hl => ?_)
        refine m_iconst (pc := 13) C.1 dL_late_13 ?_
        exact m_iret (pc := 14) C.1 C.2.2.2.1 C.2.2.2.2.1 hW1 hS (by decide : okI 1) h (by decide) (by decide) dL_late_14
    · refine m_i2l (pc := 7) C.1 ov1 dL_late_7 ?_
      refine m_last (pc := 8) C.1 C.2.1 hW1 hS kr2 (by decide : okI 0) ov1 (by decide) (by decide) dL_late_8 (fun S2 H locs e2 hW2 hS => ?_)
      replace h := h S2 e2
      refine m_goto (pc := 9) (tgt := 15) C.1 dL_late_9 (by decide) ?_
      refine m_iconst (pc := 15) C.1 dL_late_15 ?_
      exact m_iret (pc := 16) C.1 C.2.2.2.1 C.2.2.2.2.1 hW2 hS (by decide : okI 0) h (by decide) (by decide) dL_late_16) sz
def w_L_enough (N : Nat) (r0 : Nat) (x1 : Int) (r2 : Nat) (S : mSt) (Q : mSt → Int → Prop) : Prop :=
  w_X11_enough N r0 x1 S (fun (S1 : mSt) (v1 : Int) => ∀ S2 : mSt, S2 = mup S1 r2 0 v1 → Q S2 0) (fun (En : String) (S1 : mSt) => (En = "java/lang/IllegalArgumentException" ∧ Q S1 1))
theorem T_L_enough {l : Launch} (hl0 : l.stackTraces = false) {g : mG} {b : Nat} (N : Nat) (r0 : Nat) (kr0 : KX r0 = (0, 9, 0)) (x1 : Int) (ox1 : okI x1) (r2 : Nat) (kr2 : KX r2 = (6, 1, 0)) {S : mSt} {Q : mSt → Int → Prop} (h : w_L_enough N r0 x1 r2 S Q) (sz : Nat) : vx_Met l yL_enough (Cond.codeWith yL_enough cL_enough 4 (some FieldType.int) [(0, 9, 12, 13)] :: wsG) { frames := 8, cells := 1, slots := 6, locals := 144 } (mPc g b KX S [.ref (b + r0), .int (mI x1), .ref (b + r2)] sz) (mQi g b KX Q (mA b KX sz)) (mEx g b KX (fun _ _ => False) (mA b KX sz)) 1 6 (mA b KX sz) :=
  m_ofH (av := [.ref (b + r0), .int (mI x1), .ref (b + r2)]) (Qf := fun A => mQi g b KX Q A) (Xf := fun A => mEx g b KX (fun _ _ => False) A) hl0 (by decide) (Nat.le_of_ble_eq_true rfl) (fun p e s m args below meth c ls C hW hl => by
    have C : mCH p l s m args meth c cL_enough "MoonWashLaw" 4 (some FieldType.int) g [(0, 9, 12, 13)] := C
    have hS : va_S (mA b KX s.heap.size) s.heap s.heap [] := va_S.rf
    have hl : lv_has ls 4 [(0, .ref (b + r0)), (1, .int (mI x1)), (2, .ref (b + r2))] := hl
    unfold w_L_enough at h
    refine m_aload_n (pc := 0) C.1 dL_enough_0 rfl hl 2 rfl ?_
    refine m_iconst (pc := 1) C.1 dL_enough_1 ?_
    refine m_aload_n (pc := 2) C.1 dL_enough_2 rfl hl 0 rfl ?_
    refine m_iload_n (pc := 3) C.1 dL_enough_3 rfl hl 1 rfl ?_
    refine m_callVix (pc := 4) C.1 C.2.2.1 hl.1 C.2.1 hW hS (As := [.int (mI x1)]) (rest := [.int (mI 0), .ref (b + r2)]) (r := r0) (T_X11_enough C.2.2.2.2.2.2 N r0 kr0 x1 ox1 h) kr0 rfl q_1321 q_1322 q_1323 q_81 q_1324 pl_X11_enough (by decide) (Nat.le_of_ble_eq_true rfl) dL_enough_4 (fun En S1 H locs ce q9 hE hW1 hS h1 h2 h3 => ?_) (fun v1 S1 H locs ov1 h hW1 hS => ?_)
    · rcases hE with ⟨rfl, h⟩
      · refine m_catch (pc := 4) C 0 rfl (fun z hz => absurd hz List.not_mem_nil) rfl (by decide) q_593 n_773 h1 h2 h3 ?_
        refine m_astore_n (pc := 12) C.1 dL_enough_12 rfl hl (by decide) rfl (fun ls hl => ?_)
        refine m_iconst (pc := 13) C.1 dL_enough_13 ?_
        exact m_iret (pc := 14) C.1 C.2.2.2.1 C.2.2.2.2.1 hW1 hS (by decide : okI 1) h (by decide) (by decide) dL_enough_14
    · refine m_i2l (pc := 7) C.1 ov1 dL_enough_7 ?_
      refine m_last (pc := 8) C.1 C.2.1 hW1 hS kr2 (by decide : okI 0) ov1 (by decide) (by decide) dL_enough_8 (fun S2 H locs e2 hW2 hS => ?_)
      replace h := h S2 e2
      refine m_goto (pc := 9) (tgt := 15) C.1 dL_enough_9 (by decide) ?_
      refine m_iconst (pc := 15) C.1 dL_enough_15 ?_
      exact m_iret (pc := 16) C.1 C.2.2.2.1 C.2.2.2.2.1 hW2 hS (by decide : okI 0) h (by decide) (by decide) dL_enough_16) sz
def w_L_wears (N : Nat) (r0 : Nat) (x1 : Int) (x2 : Int) (r3 : Nat) (S : mSt) (Q : mSt → Int → Prop) : Prop :=
  w_X11_wears N r0 x1 x2 S (fun (S1 : mSt) (v1 : Int) => ∀ S2 : mSt, S2 = mup S1 r3 0 v1 → Q S2 0) (fun (En : String) (S1 : mSt) => (En = "java/lang/IndexOutOfBoundsException" ∧ Q S1 1))
theorem T_L_wears {l : Launch} (hl0 : l.stackTraces = false) {g : mG} {b : Nat} (N : Nat) (r0 : Nat) (kr0 : KX r0 = (0, 9, 0)) (x1 : Int) (ox1 : okI x1) (x2 : Int) (ox2 : okI x2) (r3 : Nat) (kr3 : KX r3 = (6, 1, 0)) {S : mSt} {Q : mSt → Int → Prop} (h : w_L_wears N r0 x1 x2 r3 S Q) (sz : Nat) : vx_Met l yL_wears (Cond.codeWith yL_wears cL_wears 5 (some FieldType.int) [(0, 10, 13, 24)] :: wsG) { frames := 8, cells := 2, slots := 12, locals := 144 } (mPc g b KX S [.ref (b + r0), .int (mI x1), .int (mI x2), .ref (b + r3)] sz) (mQi g b KX Q (mA b KX sz)) (mEx g b KX (fun _ _ => False) (mA b KX sz)) 2 12 (mA b KX sz) :=
  m_ofH (av := [.ref (b + r0), .int (mI x1), .int (mI x2), .ref (b + r3)]) (Qf := fun A => mQi g b KX Q A) (Xf := fun A => mEx g b KX (fun _ _ => False) A) hl0 (by decide) (Nat.le_of_ble_eq_true rfl) (fun p e s m args below meth c ls C hW hl => by
    have C : mCH p l s m args meth c cL_wears "MoonWashLaw" 5 (some FieldType.int) g [(0, 10, 13, 24)] := C
    have hS : va_S (mA b KX s.heap.size) s.heap s.heap [] := va_S.rf
    have hl : lv_has ls 5 [(0, .ref (b + r0)), (1, .int (mI x1)), (2, .int (mI x2)), (3, .ref (b + r3))] := hl
    unfold w_L_wears at h
    refine m_aload_n (pc := 0) C.1 dL_wears_0 rfl hl 3 rfl ?_
    refine m_iconst (pc := 1) C.1 dL_wears_1 ?_
    refine m_aload_n (pc := 2) C.1 dL_wears_2 rfl hl 0 rfl ?_
    refine m_iload_n (pc := 3) C.1 dL_wears_3 rfl hl 1 rfl ?_
    refine m_iload_n (pc := 4) C.1 dL_wears_4 rfl hl 2 rfl ?_
    refine m_callVix (pc := 5) C.1 C.2.2.1 hl.1 C.2.1 hW hS (As := [.int (mI x1), .int (mI x2)]) (rest := [.int (mI 0), .ref (b + r3)]) (r := r0) (T_X11_wears C.2.2.2.2.2.2 N r0 kr0 x1 ox1 x2 ox2 h) kr0 rfl q_1328 q_1329 q_1330 q_81 q_1331 pl_X11_wears (by decide) (Nat.le_of_ble_eq_true rfl) dL_wears_5 (fun En S1 H locs ce q9 hE hW1 hS h1 h2 h3 => ?_) (fun v1 S1 H locs ov1 h hW1 hS => ?_)
    · rcases hE with ⟨rfl, h⟩
      · refine m_catch (pc := 5) C 0 rfl (fun z hz => absurd hz List.not_mem_nil) rfl (by decide) q_930 n_941 h1 h2 h3 ?_
        refine m_astore (pc := 13) C.1 dL_wears_13 hl (by decide) rfl (fun ls hl => ?_)
        refine m_iconst (pc := 15) C.1 dL_wears_15 ?_
        exact m_iret (pc := 16) C.1 C.2.2.2.1 C.2.2.2.2.1 hW1 hS (by decide : okI 1) h (by decide) (by decide) dL_wears_16
    · refine m_i2l (pc := 8) C.1 ov1 dL_wears_8 ?_
      refine m_last (pc := 9) C.1 C.2.1 hW1 hS kr3 (by decide : okI 0) ov1 (by decide) (by decide) dL_wears_9 (fun S2 H locs e2 hW2 hS => ?_)
      replace h := h S2 e2
      refine m_goto (pc := 10) (tgt := 17) C.1 dL_wears_10 (by decide) ?_
      refine m_iconst (pc := 17) C.1 dL_wears_17 ?_
      exact m_iret (pc := 18) C.1 C.2.2.2.1 C.2.2.2.2.1 hW2 hS (by decide : okI 0) h (by decide) (by decide) dL_wears_18) sz
def w_L_trial (N : Nat) (r0 : Nat) (x1 : Int) (x2 : Int) (r3 : Nat) (S : mSt) (Q : mSt → Int → Prop) : Prop :=
  w_X11_trial N r0 x1 x2 S (fun (S1 : mSt) (v1 : Int) => ∀ S2 : mSt, S2 = mup S1 r3 0 v1 → Q S2 0) (fun (En : String) (S1 : mSt) => (En = "java/lang/IllegalArgumentException" ∧ Q S1 1))
theorem T_L_trial {l : Launch} (hl0 : l.stackTraces = false) {g : mG} {b : Nat} (N : Nat) (r0 : Nat) (kr0 : KX r0 = (0, 9, 0)) (x1 : Int) (ox1 : okI x1) (x2 : Int) (ox2 : okI x2) (r3 : Nat) (kr3 : KX r3 = (6, 1, 0)) {S : mSt} {Q : mSt → Int → Prop} (h : w_L_trial N r0 x1 x2 r3 S Q) (sz : Nat) : vx_Met l yL_trial (Cond.codeWith yL_trial cL_trial 5 (some FieldType.int) [(0, 10, 13, 13)] :: wsG) { frames := 8, cells := 1, slots := 6, locals := 207 } (mPc g b KX S [.ref (b + r0), .int (mI x1), .int (mI x2), .ref (b + r3)] sz) (mQi g b KX Q (mA b KX sz)) (mEx g b KX (fun _ _ => False) (mA b KX sz)) 1 6 (mA b KX sz) :=
  m_ofH (av := [.ref (b + r0), .int (mI x1), .int (mI x2), .ref (b + r3)]) (Qf := fun A => mQi g b KX Q A) (Xf := fun A => mEx g b KX (fun _ _ => False) A) hl0 (by decide) (Nat.le_of_ble_eq_true rfl) (fun p e s m args below meth c ls C hW hl => by
    have C : mCH p l s m args meth c cL_trial "MoonWashLaw" 5 (some FieldType.int) g [(0, 10, 13, 13)] := C
    have hS : va_S (mA b KX s.heap.size) s.heap s.heap [] := va_S.rf
    have hl : lv_has ls 5 [(0, .ref (b + r0)), (1, .int (mI x1)), (2, .int (mI x2)), (3, .ref (b + r3))] := hl
    unfold w_L_trial at h
    refine m_aload_n (pc := 0) C.1 dL_trial_0 rfl hl 3 rfl ?_
    refine m_iconst (pc := 1) C.1 dL_trial_1 ?_
    refine m_aload_n (pc := 2) C.1 dL_trial_2 rfl hl 0 rfl ?_
    refine m_iload_n (pc := 3) C.1 dL_trial_3 rfl hl 1 rfl ?_
    refine m_iload_n (pc := 4) C.1 dL_trial_4 rfl hl 2 rfl ?_
    refine m_callVix (pc := 5) C.1 C.2.2.1 hl.1 C.2.1 hW hS (As := [.int (mI x1), .int (mI x2)]) (rest := [.int (mI 0), .ref (b + r3)]) (r := r0) (T_X11_trial C.2.2.2.2.2.2 N r0 kr0 x1 ox1 x2 ox2 h) kr0 rfl q_1335 q_1336 q_1337 q_81 q_1338 pl_X11_trial (by decide) (Nat.le_of_ble_eq_true rfl) dL_trial_5 (fun En S1 H locs ce q9 hE hW1 hS h1 h2 h3 => ?_) (fun v1 S1 H locs ov1 h hW1 hS => ?_)
    · rcases hE with ⟨rfl, h⟩
      · refine m_catch (pc := 5) C 0 rfl (fun z hz => absurd hz List.not_mem_nil) rfl (by decide) q_593 n_773 h1 h2 h3 ?_
        refine m_astore (pc := 13) C.1 dL_trial_13 hl (by decide) rfl (fun ls hl => ?_)
        refine m_iconst (pc := 15) C.1 dL_trial_15 ?_
        exact m_iret (pc := 16) C.1 C.2.2.2.1 C.2.2.2.2.1 hW1 hS (by decide : okI 1) h (by decide) (by decide) dL_trial_16
    · refine m_i2l (pc := 8) C.1 ov1 dL_trial_8 ?_
      refine m_last (pc := 9) C.1 C.2.1 hW1 hS kr3 (by decide : okI 0) ov1 (by decide) (by decide) dL_trial_9 (fun S2 H locs e2 hW2 hS => ?_)
      replace h := h S2 e2
      refine m_goto (pc := 10) (tgt := 17) C.1 dL_trial_10 (by decide) ?_
      refine m_iconst (pc := 17) C.1 dL_trial_17 ?_
      exact m_iret (pc := 18) C.1 C.2.2.2.1 C.2.2.2.2.1 hW2 hS (by decide : okI 0) h (by decide) (by decide) dL_trial_18) sz
def w_L_span (N : Nat) (r0 : Nat) (x1 : Int) (x2 : Int) (r3 : Nat) (S : mSt) (Q : mSt → Int → Prop) : Prop :=
  w_X11_span N r0 x1 x2 S (fun (S1 : mSt) (v1 : Int) => ∀ S2 : mSt, S2 = mup S1 r3 0 v1 → Q S2 0) (fun (En : String) (S1 : mSt) => (En = "java/lang/IllegalArgumentException" ∧ Q S1 1))
theorem T_L_span {l : Launch} (hl0 : l.stackTraces = false) {g : mG} {b : Nat} (N : Nat) (r0 : Nat) (kr0 : KX r0 = (0, 9, 0)) (x1 : Int) (ox1 : okI x1) (x2 : Int) (ox2 : okI x2) (r3 : Nat) (kr3 : KX r3 = (6, 1, 0)) {S : mSt} {Q : mSt → Int → Prop} (h : w_L_span N r0 x1 x2 r3 S Q) (sz : Nat) : vx_Met l yL_span (Cond.codeWith yL_span cL_span 5 (some FieldType.int) [(0, 10, 13, 13)] :: wsG) { frames := 8, cells := 1, slots := 6, locals := 210 } (mPc g b KX S [.ref (b + r0), .int (mI x1), .int (mI x2), .ref (b + r3)] sz) (mQi g b KX Q (mA b KX sz)) (mEx g b KX (fun _ _ => False) (mA b KX sz)) 1 6 (mA b KX sz) :=
  m_ofH (av := [.ref (b + r0), .int (mI x1), .int (mI x2), .ref (b + r3)]) (Qf := fun A => mQi g b KX Q A) (Xf := fun A => mEx g b KX (fun _ _ => False) A) hl0 (by decide) (Nat.le_of_ble_eq_true rfl) (fun p e s m args below meth c ls C hW hl => by
    have C : mCH p l s m args meth c cL_span "MoonWashLaw" 5 (some FieldType.int) g [(0, 10, 13, 13)] := C
    have hS : va_S (mA b KX s.heap.size) s.heap s.heap [] := va_S.rf
    have hl : lv_has ls 5 [(0, .ref (b + r0)), (1, .int (mI x1)), (2, .int (mI x2)), (3, .ref (b + r3))] := hl
    unfold w_L_span at h
    refine m_aload_n (pc := 0) C.1 dL_span_0 rfl hl 3 rfl ?_
    refine m_iconst (pc := 1) C.1 dL_span_1 ?_
    refine m_aload_n (pc := 2) C.1 dL_span_2 rfl hl 0 rfl ?_
    refine m_iload_n (pc := 3) C.1 dL_span_3 rfl hl 1 rfl ?_
    refine m_iload_n (pc := 4) C.1 dL_span_4 rfl hl 2 rfl ?_
    refine m_callVix (pc := 5) C.1 C.2.2.1 hl.1 C.2.1 hW hS (As := [.int (mI x1), .int (mI x2)]) (rest := [.int (mI 0), .ref (b + r3)]) (r := r0) (T_X11_span C.2.2.2.2.2.2 N r0 kr0 x1 ox1 x2 ox2 h) kr0 rfl q_1351 q_1352 q_1353 q_81 q_1354 pl_X11_span (by decide) (Nat.le_of_ble_eq_true rfl) dL_span_5 (fun En S1 H locs ce q9 hE hW1 hS h1 h2 h3 => ?_) (fun v1 S1 H locs ov1 h hW1 hS => ?_)
    · rcases hE with ⟨rfl, h⟩
      · refine m_catch (pc := 5) C 0 rfl (fun z hz => absurd hz List.not_mem_nil) rfl (by decide) q_593 n_773 h1 h2 h3 ?_
        refine m_astore (pc := 13) C.1 dL_span_13 hl (by decide) rfl (fun ls hl => ?_)
        refine m_iconst (pc := 15) C.1 dL_span_15 ?_
        exact m_iret (pc := 16) C.1 C.2.2.2.1 C.2.2.2.2.1 hW1 hS (by decide : okI 1) h (by decide) (by decide) dL_span_16
    · refine m_i2l (pc := 8) C.1 ov1 dL_span_8 ?_
      refine m_last (pc := 9) C.1 C.2.1 hW1 hS kr3 (by decide : okI 0) ov1 (by decide) (by decide) dL_span_9 (fun S2 H locs e2 hW2 hS => ?_)
      replace h := h S2 e2
      refine m_goto (pc := 10) (tgt := 17) C.1 dL_span_10 (by decide) ?_
      refine m_iconst (pc := 17) C.1 dL_span_17 ?_
      exact m_iret (pc := 18) C.1 C.2.2.2.1 C.2.2.2.2.1 hW2 hS (by decide : okI 0) h (by decide) (by decide) dL_span_18) sz
def w_L_led (N : Nat) (r0 : Nat) (x1 : Int) (x2 : Int) (r3 : Nat) (S : mSt) (Q : mSt → Int → Prop) : Prop :=
  w_X11_led N r0 x1 x2 S (fun (S1 : mSt) (v1 : Int) => ∀ S2 : mSt, S2 = mup S1 r3 0 v1 → Q S2 0) (fun (En : String) (S1 : mSt) => (En = "java/lang/IndexOutOfBoundsException" ∧ Q S1 1))
theorem T_L_led {l : Launch} (hl0 : l.stackTraces = false) {g : mG} {b : Nat} (N : Nat) (r0 : Nat) (kr0 : KX r0 = (0, 9, 0)) (x1 : Int) (ox1 : okI x1) (x2 : Int) (ox2 : okI x2) (r3 : Nat) (kr3 : KX r3 = (6, 1, 0)) {S : mSt} {Q : mSt → Int → Prop} (h : w_L_led N r0 x1 x2 r3 S Q) (sz : Nat) : vx_Met l yL_led (Cond.codeWith yL_led cL_led 5 (some FieldType.int) [(0, 10, 13, 24)] :: wsG) { frames := 8, cells := 1, slots := 6, locals := 145 } (mPc g b KX S [.ref (b + r0), .int (mI x1), .int (mI x2), .ref (b + r3)] sz) (mQi g b KX Q (mA b KX sz)) (mEx g b KX (fun _ _ => False) (mA b KX sz)) 1 6 (mA b KX sz) :=
  m_ofH (av := [.ref (b + r0), .int (mI x1), .int (mI x2), .ref (b + r3)]) (Qf := fun A => mQi g b KX Q A) (Xf := fun A => mEx g b KX (fun _ _ => False) A) hl0 (by decide) (Nat.le_of_ble_eq_true rfl) (fun p e s m args below meth c ls C hW hl => by
    have C : mCH p l s m args meth c cL_led "MoonWashLaw" 5 (some FieldType.int) g [(0, 10, 13, 24)] := C
    have hS : va_S (mA b KX s.heap.size) s.heap s.heap [] := va_S.rf
    have hl : lv_has ls 5 [(0, .ref (b + r0)), (1, .int (mI x1)), (2, .int (mI x2)), (3, .ref (b + r3))] := hl
    unfold w_L_led at h
    refine m_aload_n (pc := 0) C.1 dL_led_0 rfl hl 3 rfl ?_
    refine m_iconst (pc := 1) C.1 dL_led_1 ?_
    refine m_aload_n (pc := 2) C.1 dL_led_2 rfl hl 0 rfl ?_
    refine m_iload_n (pc := 3) C.1 dL_led_3 rfl hl 1 rfl ?_
    refine m_iload_n (pc := 4) C.1 dL_led_4 rfl hl 2 rfl ?_
    refine m_callVix (pc := 5) C.1 C.2.2.1 hl.1 C.2.1 hW hS (As := [.int (mI x1), .int (mI x2)]) (rest := [.int (mI 0), .ref (b + r3)]) (r := r0) (T_X11_led C.2.2.2.2.2.2 N r0 kr0 x1 ox1 x2 ox2 h) kr0 rfl q_1358 q_1359 q_1360 q_81 q_1361 pl_X11_led (by decide) (Nat.le_of_ble_eq_true rfl) dL_led_5 (fun En S1 H locs ce q9 hE hW1 hS h1 h2 h3 => ?_) (fun v1 S1 H locs ov1 h hW1 hS => ?_)
    · rcases hE with ⟨rfl, h⟩
      · refine m_catch (pc := 5) C 0 rfl (fun z hz => absurd hz List.not_mem_nil) rfl (by decide) q_930 n_941 h1 h2 h3 ?_
        refine m_astore (pc := 13) C.1 dL_led_13 hl (by decide) rfl (fun ls hl => ?_)
        refine m_iconst (pc := 15) C.1 dL_led_15 ?_
        exact m_iret (pc := 16) C.1 C.2.2.2.1 C.2.2.2.2.1 hW1 hS (by decide : okI 1) h (by decide) (by decide) dL_led_16
    · refine m_i2l (pc := 8) C.1 ov1 dL_led_8 ?_
      refine m_last (pc := 9) C.1 C.2.1 hW1 hS kr3 (by decide : okI 0) ov1 (by decide) (by decide) dL_led_9 (fun S2 H locs e2 hW2 hS => ?_)
      replace h := h S2 e2
      refine m_goto (pc := 10) (tgt := 17) C.1 dL_led_10 (by decide) ?_
      refine m_iconst (pc := 17) C.1 dL_led_17 ?_
      exact m_iret (pc := 18) C.1 C.2.2.2.1 C.2.2.2.2.1 hW2 hS (by decide : okI 0) h (by decide) (by decide) dL_led_18) sz
def w_L_log (N : Nat) (r0 : Nat) (x1 : Int) (x2 : Int) (r3 : Nat) (S : mSt) (Q : mSt → Int → Prop) : Prop :=
  w_X11_log N r0 x1 x2 S (fun (S1 : mSt) (v1 : Int) => ∀ S2 : mSt, S2 = mup S1 r3 0 v1 → Q S2 0) (fun (En : String) (S1 : mSt) => (En = "java/util/NoSuchElementException" ∧ Q S1 1))
theorem T_L_log {l : Launch} (hl0 : l.stackTraces = false) {g : mG} {b : Nat} (N : Nat) (r0 : Nat) (kr0 : KX r0 = (0, 9, 0)) (x1 : Int) (ox1 : okI x1) (x2 : Int) (ox2 : okI x2) (r3 : Nat) (kr3 : KX r3 = (6, 1, 0)) {S : mSt} {Q : mSt → Int → Prop} (h : w_L_log N r0 x1 x2 r3 S Q) (sz : Nat) : vx_Met l yL_log (Cond.codeWith yL_log cL_log 5 (some FieldType.int) [(0, 10, 13, 26)] :: wsG) { frames := 7, cells := 1, slots := 6, locals := 122 } (mPc g b KX S [.ref (b + r0), .int (mI x1), .int (mI x2), .ref (b + r3)] sz) (mQi g b KX Q (mA b KX sz)) (mEx g b KX (fun _ _ => False) (mA b KX sz)) 1 6 (mA b KX sz) :=
  m_ofH (av := [.ref (b + r0), .int (mI x1), .int (mI x2), .ref (b + r3)]) (Qf := fun A => mQi g b KX Q A) (Xf := fun A => mEx g b KX (fun _ _ => False) A) hl0 (by decide) (Nat.le_of_ble_eq_true rfl) (fun p e s m args below meth c ls C hW hl => by
    have C : mCH p l s m args meth c cL_log "MoonWashLaw" 5 (some FieldType.int) g [(0, 10, 13, 26)] := C
    have hS : va_S (mA b KX s.heap.size) s.heap s.heap [] := va_S.rf
    have hl : lv_has ls 5 [(0, .ref (b + r0)), (1, .int (mI x1)), (2, .int (mI x2)), (3, .ref (b + r3))] := hl
    unfold w_L_log at h
    refine m_aload_n (pc := 0) C.1 dL_log_0 rfl hl 3 rfl ?_
    refine m_iconst (pc := 1) C.1 dL_log_1 ?_
    refine m_aload_n (pc := 2) C.1 dL_log_2 rfl hl 0 rfl ?_
    refine m_iload_n (pc := 3) C.1 dL_log_3 rfl hl 1 rfl ?_
    refine m_iload_n (pc := 4) C.1 dL_log_4 rfl hl 2 rfl ?_
    refine m_callVix (pc := 5) C.1 C.2.2.1 hl.1 C.2.1 hW hS (As := [.int (mI x1), .int (mI x2)]) (rest := [.int (mI 0), .ref (b + r3)]) (r := r0) (T_X11_log C.2.2.2.2.2.2 N r0 kr0 x1 ox1 x2 ox2 h) kr0 rfl q_1369 q_1370 q_1371 q_81 q_1372 pl_X11_log (by decide) (Nat.le_of_ble_eq_true rfl) dL_log_5 (fun En S1 H locs ce q9 hE hW1 hS h1 h2 h3 => ?_) (fun v1 S1 H locs ov1 h hW1 hS => ?_)
    · rcases hE with ⟨rfl, h⟩
      · refine m_catch (pc := 5) C 0 rfl (fun z hz => absurd hz List.not_mem_nil) rfl (by decide) q_931 n_977 h1 h2 h3 ?_
        refine m_astore (pc := 13) C.1 dL_log_13 hl (by decide) rfl (fun ls hl => ?_)
        refine m_iconst (pc := 15) C.1 dL_log_15 ?_
        exact m_iret (pc := 16) C.1 C.2.2.2.1 C.2.2.2.2.1 hW1 hS (by decide : okI 1) h (by decide) (by decide) dL_log_16
    · refine m_i2l (pc := 8) C.1 ov1 dL_log_8 ?_
      refine m_last (pc := 9) C.1 C.2.1 hW1 hS kr3 (by decide : okI 0) ov1 (by decide) (by decide) dL_log_9 (fun S2 H locs e2 hW2 hS => ?_)
      replace h := h S2 e2
      refine m_goto (pc := 10) (tgt := 17) C.1 dL_log_10 (by decide) ?_
      refine m_iconst (pc := 17) C.1 dL_log_17 ?_
      exact m_iret (pc := 18) C.1 C.2.2.2.1 C.2.2.2.2.1 hW2 hS (by decide : okI 0) h (by decide) (by decide) dL_log_18) sz
