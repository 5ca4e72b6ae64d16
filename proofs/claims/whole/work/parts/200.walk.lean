set_option maxHeartbeats 4000000
set_option maxRecDepth 20000
section
variable {p : Program} {l : Launch} {e : Env} {s : State} {m : MethodId} {args : Array Value} {below : List Frame} {meth : Method} {c : Code} {g : mG} {b : Nat}
end
def w_X10_sees (N : Nat) (r0 : Nat) (t1 : Nat) (S : mSt) (Q : mSt → Int → Prop) : Prop :=
  (((S r0 6) ≠ (-1) → Q S 0) ∧ ((S r0 6) = (-1) → (0 ≤ (S r0 5) ∧ (S r0 5) < 401 ∧ ∀ t2 : Nat, (t2 : Int) = S (r0 + 2) (S r0 5) → ((t2 ≠ t1 → Q S 0) ∧ (t2 = t1 → Q S 1)))))
theorem T_X10_sees {l : Launch} (hl0 : l.stackTraces = false) {g : mG} {b : Nat} (N : Nat) (r0 : Nat) (kr0 : KX r0 = (0, 8, 0)) (t1 : Nat) (ht1 : t1 < 36) {S : mSt} {Q : mSt → Int → Prop} (h : w_X10_sees N r0 t1 S Q) (sz : Nat) : vx_Met l yX10_sees (Cond.code yX10_sees cX10_sees 2 (some FieldType.boolean) :: wsG) { frames := 0, cells := 0, slots := 0, locals := 0 } (mPc g b KX S [.ref (b + r0), .ref (g.ad t1)] sz) (mQi g b KX Q (mA b KX sz)) (mEx g b KX (fun _ _ => False) (mA b KX sz)) 0 0 (mA b KX sz) :=
  m_of (av := [.ref (b + r0), .ref (g.ad t1)]) (Qf := fun A => mQi g b KX Q A) (Xf := fun A => mEx g b KX (fun _ _ => False) A) (by decide) (Nat.le_of_ble_eq_true rfl) (fun p e s m args below meth c ls X hK hml hr hlk hout hnm hW hl => by
    have C : mC p l s m args meth c cX10_sees "MoonWash$Words" 2 (some FieldType.boolean) g := ⟨X, hK, hml, hr, hlk, hout, hl0⟩
    have hS : va_S (mA b KX s.heap.size) s.heap s.heap [] := va_S.rf
    have hl : lv_has ls 2 [(0, .ref (b + r0)), (1, .ref (g.ad t1))] := hl
    unfold w_X10_sees at h
    refine m_aload_n (pc := 0) C.1 dX10_sees_0 rfl hl 0 rfl ?_
    refine g_8_6 (pc := 1) C hW kr0 q_290 dX10_sees_1 ?_
    refine m_iconst (pc := 4) C.1 dX10_sees_4 ?_
    refine m_icmp_ne (pc := 5) (tgt := 25) C.1 (hW.2.1 _ _) (by decide : okI (-1)) dX10_sees_5 (by decide) (fun hc => ?_) (fun hc => ?_)
    · replace h := h.1 hc
      refine m_iconst (pc := 25) C.1 dX10_sees_25 ?_
      exact m_zret (pc := 26) C.1 C.2.2.2.1 C.2.2.2.2.1 hW hS (by decide) h (by decide) (by decide) dX10_sees_26
    · replace h := h.2 hc
      refine m_aload_n (pc := 8) C.1 dX10_sees_8 rfl hl 0 rfl ?_
      refine g_8_1 (pc := 9) C hW kr0 q_285 dX10_sees_9 ?_
      refine m_aload_n (pc := 12) C.1 dX10_sees_12 rfl hl 0 rfl ?_
      refine g_8_5 (pc := 13) C hW kr0 q_289 dX10_sees_13 ?_
      obtain ⟨hb1a, hb1b, h⟩ := h
      refine m_aald5 (pc := 16) C.1 C.2.1 hW (k_8_1 kr0) (hW.2.1 _ _) hb1a hb1b dX10_sees_16 (fun t2 et2 ht2 => ?_)
      replace h := h t2 et2
      refine m_aload_n (pc := 17) C.1 dX10_sees_17 rfl hl 1 rfl ?_
      refine m_acmp_ne (pc := 18) (tgt := 25) C.1 C.2.1 ht2 ht1 dX10_sees_18 (by decide) (fun hc => ?_) (fun hc => ?_)
      · replace h := h.1 hc
        refine m_iconst (pc := 25) C.1 dX10_sees_25 ?_
        exact m_zret (pc := 26) C.1 C.2.2.2.1 C.2.2.2.2.1 hW hS (by decide) h (by decide) (by decide) dX10_sees_26
      · replace h := h.2 hc
        refine m_iconst (pc := 21) C.1 dX10_sees_21 ?_
        refine m_goto (pc := 22) (tgt := 26) C.1 dX10_sees_22 (by decide) ?_
        exact m_zret (pc := 26) C.1 C.2.2.2.1 C.2.2.2.2.1 hW hS (by decide) h (by decide) (by decide) dX10_sees_26) sz
section
variable {p : Program} {l : Launch} {e : Env} {s : State} {m : MethodId} {args : Array Value} {below : List Frame} {meth : Method} {c : Code} {g : mG} {b : Nat}
end
def w_X10_refuse (N : Nat) (r0 : Nat) (S : mSt) (Q : mSt → Prop) : Prop :=
  (((S r0 6) ≠ (-1) → Q S) ∧ ((S r0 6) = (-1) → (0 ≤ (S r0 5) ∧ (S r0 5) < 401 ∧ ∀ S2 : mSt, S2 = mup S r0 6 (S (r0 + 3) (S r0 5)) → Q S2)))
theorem T_X10_refuse {l : Launch} (hl0 : l.stackTraces = false) {g : mG} {b : Nat} (N : Nat) (r0 : Nat) (kr0 : KX r0 = (0, 8, 0)) {S : mSt} {Q : mSt → Prop} (h : w_X10_refuse N r0 S Q) (sz : Nat) : vx_Met l yX10_refuse (Cond.code yX10_refuse cX10_refuse 1 none :: wsG) { frames := 0, cells := 0, slots := 0, locals := 0 } (mPc g b KX S [.ref (b + r0)] sz) (mQv g b KX Q (mA b KX sz)) (mEx g b KX (fun _ _ => False) (mA b KX sz)) 0 0 (mA b KX sz) :=
  m_of (av := [.ref (b + r0)]) (Qf := fun A => mQv g b KX Q A) (Xf := fun A => mEx g b KX (fun _ _ => False) A) (by decide) (Nat.le_of_ble_eq_true rfl) (fun p e s m args below meth c ls X hK hml hr hlk hout hnm hW hl => by
    have C : mC p l s m args meth c cX10_refuse "MoonWash$Words" 1 none g := ⟨X, hK, hml, hr, hlk, hout, hl0⟩
    have hS : va_S (mA b KX s.heap.size) s.heap s.heap [] := va_S.rf
    have hl : lv_has ls 1 [(0, .ref (b + r0))] := hl
    unfold w_X10_refuse at h
    refine m_aload_n (pc := 0) C.1 dX10_refuse_0 rfl hl 0 rfl ?_
    refine g_8_6 (pc := 1) C hW kr0 q_290 dX10_refuse_1 ?_
    refine m_iconst (pc := 4) C.1 dX10_refuse_4 ?_
    refine m_icmp_ne (pc := 5) (tgt := 21) C.1 (hW.2.1 _ _) (by decide : okI (-1)) dX10_refuse_5 (by decide) (fun hc => ?_) (fun hc => ?_)
    · replace h := h.1 hc
      exact m_vret (pc := 21) C.1 C.2.2.2.1 C.2.2.2.2.1 hW hS h (by decide) (by decide) dX10_refuse_21
    · replace h := h.2 hc
      refine m_aload_n (pc := 8) C.1 dX10_refuse_8 rfl hl 0 rfl ?_
      refine m_aload_n (pc := 9) C.1 dX10_refuse_9 rfl hl 0 rfl ?_
      refine g_8_2 (pc := 10) C hW kr0 q_286 dX10_refuse_10 ?_
      refine m_aload_n (pc := 13) C.1 dX10_refuse_13 rfl hl 0 rfl ?_
      refine g_8_5 (pc := 14) C hW kr0 q_289 dX10_refuse_14 ?_
      obtain ⟨hb1a, hb1b, h⟩ := h
      refine m_iald (pc := 17) C.1 C.2.1 hW (k_8_2 kr0) (hW.2.1 _ _) hb1a hb1b dX10_refuse_17 ?_
      refine p_8_6 (pc := 18) C hW hS kr0 q_290 (hW.2.1 _ _) dX10_refuse_18 (fun S2 H locs e2 hW2 hS => ?_)
      replace h := h S2 e2
      exact m_vret (pc := 21) C.1 C.2.2.2.1 C.2.2.2.2.1 hW2 hS h (by decide) (by decide) dX10_refuse_21) sz
section
variable {p : Program} {l : Launch} {e : Env} {s : State} {m : MethodId} {args : Array Value} {below : List Frame} {meth : Method} {c : Code} {g : mG} {b : Nat}
end
def w_X10_takes (N : Nat) (r0 : Nat) (t1 : Nat) (S : mSt) (Q : mSt → Int → Prop) : Prop :=
  (((S r0 6) ≠ (-1) → Q S 0) ∧ ((S r0 6) = (-1) → (0 ≤ (S r0 5) ∧ (S r0 5) < 401 ∧ ∀ t2 : Nat, (t2 : Int) = S (r0 + 2) (S r0 5) → ((t2 ≠ t1 → Q S 0) ∧ (t2 = t1 → ((t1 ≠ 0 → ∀ S3 : mSt, S3 = mup S r0 5 (nm ((S r0 5) + 1)) → Q S3 1) ∧ (t1 = 0 → Q S 0)))))))
theorem T_X10_takes {l : Launch} (hl0 : l.stackTraces = false) {g : mG} {b : Nat} (N : Nat) (r0 : Nat) (kr0 : KX r0 = (0, 8, 0)) (t1 : Nat) (ht1 : t1 < 36) {S : mSt} {Q : mSt → Int → Prop} (h : w_X10_takes N r0 t1 S Q) (sz : Nat) : vx_Met l yX10_takes (Cond.code yX10_takes cX10_takes 2 (some FieldType.boolean) :: wsG) { frames := 0, cells := 0, slots := 0, locals := 0 } (mPc g b KX S [.ref (b + r0), .ref (g.ad t1)] sz) (mQi g b KX Q (mA b KX sz)) (mEx g b KX (fun _ _ => False) (mA b KX sz)) 0 0 (mA b KX sz) :=
  m_of (av := [.ref (b + r0), .ref (g.ad t1)]) (Qf := fun A => mQi g b KX Q A) (Xf := fun A => mEx g b KX (fun _ _ => False) A) (by decide) (Nat.le_of_ble_eq_true rfl) (fun p e s m args below meth c ls X hK hml hr hlk hout hnm hW hl => by
    have C : mC p l s m args meth c cX10_takes "MoonWash$Words" 2 (some FieldType.boolean) g := ⟨X, hK, hml, hr, hlk, hout, hl0⟩
    have hS : va_S (mA b KX s.heap.size) s.heap s.heap [] := va_S.rf
    have hl : lv_has ls 2 [(0, .ref (b + r0)), (1, .ref (g.ad t1))] := hl
    unfold w_X10_takes at h
    refine m_aload_n (pc := 0) C.1 dX10_takes_0 rfl hl 0 rfl ?_
    refine g_8_6 (pc := 1) C hW kr0 q_290 dX10_takes_1 ?_
    refine m_iconst (pc := 4) C.1 dX10_takes_4 ?_
    refine m_icmp_ne (pc := 5) (tgt := 28) C.1 (hW.2.1 _ _) (by decide : okI (-1)) dX10_takes_5 (by decide) (fun hc => ?_) (fun hc => ?_)
    · replace h := h.1 hc
      refine m_iconst (pc := 28) C.1 dX10_takes_28 ?_
      exact m_zret (pc := 29) C.1 C.2.2.2.1 C.2.2.2.2.1 hW hS (by decide) h (by decide) (by decide) dX10_takes_29
    · replace h := h.2 hc
      refine m_aload_n (pc := 8) C.1 dX10_takes_8 rfl hl 0 rfl ?_
      refine g_8_1 (pc := 9) C hW kr0 q_285 dX10_takes_9 ?_
      refine m_aload_n (pc := 12) C.1 dX10_takes_12 rfl hl 0 rfl ?_
      refine g_8_5 (pc := 13) C hW kr0 q_289 dX10_takes_13 ?_
      obtain ⟨hb1a, hb1b, h⟩ := h
      refine m_aald5 (pc := 16) C.1 C.2.1 hW (k_8_1 kr0) (hW.2.1 _ _) hb1a hb1b dX10_takes_16 (fun t2 et2 ht2 => ?_)
      replace h := h t2 et2
      refine m_aload_n (pc := 17) C.1 dX10_takes_17 rfl hl 1 rfl ?_
      refine m_acmp_ne (pc := 18) (tgt := 28) C.1 C.2.1 ht2 ht1 dX10_takes_18 (by decide) (fun hc => ?_) (fun hc => ?_)
      · replace h := h.1 hc
        refine m_iconst (pc := 28) C.1 dX10_takes_28 ?_
        exact m_zret (pc := 29) C.1 C.2.2.2.1 C.2.2.2.2.1 hW hS (by decide) h (by decide) (by decide) dX10_takes_29
      · replace h := h.2 hc
        refine m_aload_n (pc := 21) C.1 dX10_takes_21 rfl hl 1 rfl ?_
        refine m_token (pc := 22) C.1 C.2.1 hW hS 0 (by decide) rfl q_282 dX10_takes_22 ?_
        refine m_acmp_ne (pc := 25) (tgt := 30) C.1 C.2.1 ht1 (by decide : 0 < 36) dX10_takes_25 (by decide) (fun hc => ?_) (fun hc => ?_)
        · replace h := h.1 hc
          refine m_aload_n (pc := 30) C.1 dX10_takes_30 rfl hl 0 rfl ?_
          refine lv_dup (pc := 31) C.1.1 C.1.2.1 dX10_takes_31 rfl ?_
          refine g_8_5 (pc := 32) C hW kr0 q_289 dX10_takes_32 ?_
          refine m_iconst (pc := 35) C.1 dX10_takes_35 ?_
          refine m_iadd (pc := 36) C.1 dX10_takes_36 ?_
          refine p_8_5 (pc := 37) C hW hS kr0 q_289 (nm_ok _) dX10_takes_37 (fun S3 H locs e3 hW3 hS => ?_)
          replace h := h S3 e3
          refine m_iconst (pc := 40) C.1 dX10_takes_40 ?_
          exact m_zret (pc := 41) C.1 C.2.2.2.1 C.2.2.2.2.1 hW3 hS (by decide) h (by decide) (by decide) dX10_takes_41
        · replace h := h.2 hc
          refine m_iconst (pc := 28) C.1 dX10_takes_28 ?_
          exact m_zret (pc := 29) C.1 C.2.2.2.1 C.2.2.2.2.1 hW hS (by decide) h (by decide) (by decide) dX10_takes_29) sz
section
variable {p : Program} {l : Launch} {e : Env} {s : State} {m : MethodId} {args : Array Value} {below : List Frame} {meth : Method} {c : Code} {g : mG} {b : Nat}
end
def w_X10_need (N : Nat) (r0 : Nat) (t1 : Nat) (S : mSt) (Q : mSt → Prop) : Prop :=
  w_X10_takes N r0 t1 S (fun (S1 : mSt) (v1 : Int) => ((v1 ≠ 0 → Q S1) ∧ (v1 = 0 → w_X10_refuse N r0 S1 (fun (S2 : mSt) => Q S2))))
theorem T_X10_need {l : Launch} (hl0 : l.stackTraces = false) {g : mG} {b : Nat} (N : Nat) (r0 : Nat) (kr0 : KX r0 = (0, 8, 0)) (t1 : Nat) (ht1 : t1 < 36) {S : mSt} {Q : mSt → Prop} (h : w_X10_need N r0 t1 S Q) (sz : Nat) : vx_Met l yX10_need (Cond.code yX10_need cX10_need 2 none :: wsG) { frames := 1, cells := 0, slots := 0, locals := 21 } (mPc g b KX S [.ref (b + r0), .ref (g.ad t1)] sz) (mQv g b KX Q (mA b KX sz)) (mEx g b KX (fun _ _ => False) (mA b KX sz)) 0 0 (mA b KX sz) :=
  m_of (av := [.ref (b + r0), .ref (g.ad t1)]) (Qf := fun A => mQv g b KX Q A) (Xf := fun A => mEx g b KX (fun _ _ => False) A) (by decide) (Nat.le_of_ble_eq_true rfl) (fun p e s m args below meth c ls X hK hml hr hlk hout hnm hW hl => by
    have C : mC p l s m args meth c cX10_need "MoonWash$Words" 2 none g := ⟨X, hK, hml, hr, hlk, hout, hl0⟩
    have hS : va_S (mA b KX s.heap.size) s.heap s.heap [] := va_S.rf
    have hl : lv_has ls 2 [(0, .ref (b + r0)), (1, .ref (g.ad t1))] := hl
    unfold w_X10_need at h
    refine m_aload_n (pc := 0) C.1 dX10_need_0 rfl hl 0 rfl ?_
    refine m_aload_n (pc := 1) C.1 dX10_need_1 rfl hl 1 rfl ?_
    refine m_callVi (pc := 2) C.1 C.2.2.1 hl.1 C.2.1 hW hS (As := [.ref (g.ad t1)]) (rest := []) (r := r0) (T_X10_takes C.2.2.2.2.2.2 N r0 kr0 t1 ht1 h) kr0 rfl q_707 q_708 q_709 q_85 q_710 pl_X10_takes (by decide) (Nat.le_of_ble_eq_true rfl) dX10_need_2 (fun v1 S1 H locs ov1 h hW1 hS => ?_)
    refine m_if_ne (pc := 5) (tgt := 12) C.1 ov1 dX10_need_5 (by decide) (fun hc => ?_) (fun hc => ?_)
    · replace h := h.1 hc
      exact m_vret (pc := 12) C.1 C.2.2.2.1 C.2.2.2.2.1 hW1 hS h (by decide) (by decide) dX10_need_12
    · replace h := h.2 hc
      refine m_aload_n (pc := 8) C.1 dX10_need_8 rfl hl 0 rfl ?_
      refine m_callVv (pc := 9) C.1 C.2.2.1 hl.1 C.2.1 hW1 hS (As := []) (rest := []) (r := r0) (T_X10_refuse C.2.2.2.2.2.2 N r0 kr0 h) kr0 rfl q_711 q_700 q_701 q_85 q_702 pl_X10_refuse (by decide) (Nat.le_of_ble_eq_true rfl) dX10_need_9 (fun S2 H locs h hW2 hS => ?_)
      exact m_vret (pc := 12) C.1 C.2.2.2.1 C.2.2.2.2.1 hW2 hS h (by decide) (by decide) dX10_need_12) sz
section
variable {p : Program} {l : Launch} {e : Env} {s : State} {m : MethodId} {args : Array Value} {below : List Frame} {meth : Method} {c : Code} {g : mG} {b : Nat}
def w_X10_needNumber_59 (N : Nat) (Q : mSt → Int → Prop)  (r0 : Nat) (x1 : Int) (S : mSt) : Prop :=
  w_X10_refuse N r0 S (fun (S1 : mSt) => Q S1 x1)
theorem W_X10_needNumber_59 (C : mC p l s m args meth c cX10_needNumber "MoonWash$Words" 4 (some FieldType.int) g) (N : Nat) {Q : mSt → Int → Prop}   (r0 : Nat) (kr0 : KX r0 = (0, 8, 0)) (x1 : Int) (ox1 : okI x1) (S : mSt) (H : Heap) (locs : List Loc) (ls : Array Slot) (hl : lv_has ls 4 [(0, .ref (b + r0)), (1, .int (mI x1))]) (hW : mW g b KX S H) (hS : va_S (mA b KX s.heap.size) s.heap H locs) (h : w_X10_needNumber_59 N Q  r0 x1 S) : W p l e { frames := 1, cells := 0, slots := 0, locals := 20 } s m args below meth c H locs 0 0 (vx_MQ below (mQi g b KX Q (mA b KX s.heap.size)) (mEx g b KX (fun _ _ => False) (mA b KX s.heap.size)) args s 0 0 (mA b KX s.heap.size)) (F0 m 59 ls []) := by
  unfold w_X10_needNumber_59 at h
  refine m_aload_n (pc := 59) C.1 dX10_needNumber_59 rfl hl 0 rfl ?_
  refine m_callVv (pc := 60) C.1 C.2.2.1 hl.1 C.2.1 hW hS (As := []) (rest := []) (r := r0) (T_X10_refuse C.2.2.2.2.2.2 N r0 kr0 h) kr0 rfl q_711 q_700 q_701 q_85 q_702 pl_X10_refuse (by decide) (Nat.le_of_ble_eq_true rfl) dX10_needNumber_60 (fun S1 H locs h hW1 hS => ?_)
  refine m_iload_n (pc := 63) C.1 dX10_needNumber_63 rfl hl 1 rfl ?_
  exact m_iret (pc := 64) C.1 C.2.2.2.1 C.2.2.2.2.1 hW1 hS ox1 h (by decide) (by decide) dX10_needNumber_64
def w_X10_needNumber_46 (N : Nat) (Q : mSt → Int → Prop)  (r0 : Nat) (x1 : Int) (xs0 : Int) (S : mSt) : Prop :=
  ∀ v1 : Int, v1 = xs0 → (((S r0 6) ≠ (-1) → w_X10_needNumber_59 N Q  r0 x1 S) ∧ ((S r0 6) = (-1) → ((v1 ≠ 0 → ∀ S2 : mSt, S2 = mup S r0 5 (nm ((S r0 5) + 1)) → (0 ≤ (nm ((S2 r0 5) - 1)) ∧ (nm ((S2 r0 5) - 1)) < 401 ∧ Q S2 (S2 (r0 + 5) (nm ((S2 r0 5) - 1))))) ∧ (v1 = 0 → w_X10_needNumber_59 N Q  r0 x1 S))))
theorem W_X10_needNumber_46 (C : mC p l s m args meth c cX10_needNumber "MoonWash$Words" 4 (some FieldType.int) g) (N : Nat) {Q : mSt → Int → Prop}   (r0 : Nat) (kr0 : KX r0 = (0, 8, 0)) (x1 : Int) (ox1 : okI x1) (xs0 : Int) (oxs0 : okI xs0) (S : mSt) (H : Heap) (locs : List Loc) (ls : Array Slot) (hl : lv_has ls 4 [(0, .ref (b + r0)), (1, .int (mI x1))]) (hW : mW g b KX S H) (hS : va_S (mA b KX s.heap.size) s.heap H locs) (h : w_X10_needNumber_46 N Q  r0 x1 xs0 S) : W p l e { frames := 1, cells := 0, slots := 0, locals := 20 } s m args below meth c H locs 0 0 (vx_MQ below (mQi g b KX Q (mA b KX s.heap.size)) (mEx g b KX (fun _ _ => False) (mA b KX s.heap.size)) args s 0 0 (mA b KX s.heap.size)) (F0 m 46 ls [.int (mI xs0)]) := by
  unfold w_X10_needNumber_46 at h
  refine m_istore_n (pc := 46) C.1 dX10_needNumber_46 rfl hl (by decide) (fun v => [(3, .int v), (0, .ref (b + r0)), (1, .int (mI x1))]) (fun _ => rfl) oxs0 (fun v1 ls ev1 ov1 hl => ?_)
  replace h := h v1 ev1
  refine m_aload_n (pc := 47) C.1 dX10_needNumber_47 rfl hl 1 rfl ?_
  refine g_8_6 (pc := 48) C hW kr0 q_290 dX10_needNumber_48 ?_
  refine m_iconst (pc := 51) C.1 dX10_needNumber_51 ?_
  refine m_icmp_ne (pc := 52) (tgt := 59) C.1 (hW.2.1 _ _) (by decide : okI (-1)) dX10_needNumber_52 (by decide) (fun hc => ?_) (fun hc => ?_)
  · replace h := h.1 hc
    exact W_X10_needNumber_59 C N  r0 kr0 x1 ox1 S _ _ _ (lv_sub hl [1, 2] rfl) hW hS h
  · replace h := h.2 hc
    refine m_iload_n (pc := 55) C.1 dX10_needNumber_55 rfl hl 0 rfl ?_
    refine m_if_ne (pc := 56) (tgt := 65) C.1 ov1 dX10_needNumber_56 (by decide) (fun hc => ?_) (fun hc => ?_)
    · replace h := h.1 hc
      refine m_aload_n (pc := 65) C.1 dX10_needNumber_65 rfl hl 1 rfl ?_
      refine lv_dup (pc := 66) C.1.1 C.1.2.1 dX10_needNumber_66 rfl ?_
      refine g_8_5 (pc := 67) C hW kr0 q_289 dX10_needNumber_67 ?_
      refine m_iconst (pc := 70) C.1 dX10_needNumber_70 ?_
      refine m_iadd (pc := 71) C.1 dX10_needNumber_71 ?_
      refine p_8_5 (pc := 72) C hW hS kr0 q_289 (nm_ok _) dX10_needNumber_72 (fun S2 H locs e2 hW2 hS => ?_)
      replace h := h S2 e2
      refine m_aload_n (pc := 75) C.1 dX10_needNumber_75 rfl hl 1 rfl ?_
      refine g_8_4 (pc := 76) C hW2 kr0 q_288 dX10_needNumber_76 ?_
      refine m_aload_n (pc := 79) C.1 dX10_needNumber_79 rfl hl 1 rfl ?_
      refine g_8_5 (pc := 80) C hW2 kr0 q_289 dX10_needNumber_80 ?_
      refine m_iconst (pc := 83) C.1 dX10_needNumber_83 ?_
      refine m_isub (pc := 84) C.1 dX10_needNumber_84 ?_
      obtain ⟨hb3a, hb3b, h⟩ := h
      refine m_iald (pc := 85) C.1 C.2.1 hW2 (k_8_4 kr0) (nm_ok _) hb3a hb3b dX10_needNumber_85 ?_
      exact m_iret (pc := 86) C.1 C.2.2.2.1 C.2.2.2.2.1 hW2 hS (hW2.2.1 _ _) h (by decide) (by decide) dX10_needNumber_86
    · replace h := h.2 hc
      exact W_X10_needNumber_59 C N  r0 kr0 x1 ox1 S _ _ _ (lv_sub hl [1, 2] rfl) hW hS h
def w_X10_needNumber_45 (N : Nat) (Q : mSt → Int → Prop)  (r0 : Nat) (x1 : Int) (S : mSt) : Prop :=
  w_X10_needNumber_46 N Q  r0 x1 0 S
theorem W_X10_needNumber_45 (C : mC p l s m args meth c cX10_needNumber "MoonWash$Words" 4 (some FieldType.int) g) (N : Nat) {Q : mSt → Int → Prop}   (r0 : Nat) (kr0 : KX r0 = (0, 8, 0)) (x1 : Int) (ox1 : okI x1) (S : mSt) (H : Heap) (locs : List Loc) (ls : Array Slot) (hl : lv_has ls 4 [(0, .ref (b + r0)), (1, .int (mI x1))]) (hW : mW g b KX S H) (hS : va_S (mA b KX s.heap.size) s.heap H locs) (h : w_X10_needNumber_45 N Q  r0 x1 S) : W p l e { frames := 1, cells := 0, slots := 0, locals := 20 } s m args below meth c H locs 0 0 (vx_MQ below (mQi g b KX Q (mA b KX s.heap.size)) (mEx g b KX (fun _ _ => False) (mA b KX s.heap.size)) args s 0 0 (mA b KX s.heap.size)) (F0 m 45 ls []) := by
  unfold w_X10_needNumber_45 at h
  refine m_iconst (pc := 45) C.1 dX10_needNumber_45 ?_
  exact W_X10_needNumber_46 C N  r0 kr0 x1 ox1 0 (by decide : okI 0) S _ _ _ (lv_sub hl [0, 1] rfl) hW hS h
end
def w_X10_needNumber (N : Nat) (r0 : Nat) (x1 : Int) (x2 : Int) (S : mSt) (Q : mSt → Int → Prop) : Prop :=
  (0 ≤ (S r0 5) ∧ (S r0 5) < 401 ∧ ∀ t2 : Nat, (t2 : Int) = S (r0 + 2) (S r0 5) → ((t2 ≠ 1 → w_X10_needNumber_45 N Q  r0 x1 S) ∧ (t2 = 1 → (0 ≤ (S r0 5) ∧ (S r0 5) < 401 ∧ (((S (r0 + 5) (S r0 5)) < x1 → w_X10_needNumber_45 N Q  r0 x1 S) ∧ (x1 ≤ (S (r0 + 5) (S r0 5)) → (0 ≤ (S r0 5) ∧ (S r0 5) < 401 ∧ ((x2 < (S (r0 + 5) (S r0 5)) → w_X10_needNumber_45 N Q  r0 x1 S) ∧ ((S (r0 + 5) (S r0 5)) ≤ x2 → w_X10_needNumber_46 N Q  r0 x1 1 S)))))))))
theorem T_X10_needNumber {l : Launch} (hl0 : l.stackTraces = false) {g : mG} {b : Nat} (N : Nat) (r0 : Nat) (kr0 : KX r0 = (0, 8, 0)) (x1 : Int) (ox1 : okI x1) (x2 : Int) (ox2 : okI x2) {S : mSt} {Q : mSt → Int → Prop} (h : w_X10_needNumber N r0 x1 x2 S Q) (sz : Nat) : vx_Met l yX10_needNumber (Cond.code yX10_needNumber cX10_needNumber 4 (some FieldType.int) :: wsG) { frames := 1, cells := 0, slots := 0, locals := 20 } (mPc g b KX S [.ref (b + r0), .int (mI x1), .int (mI x2)] sz) (mQi g b KX Q (mA b KX sz)) (mEx g b KX (fun _ _ => False) (mA b KX sz)) 0 0 (mA b KX sz) :=
  m_of (av := [.ref (b + r0), .int (mI x1), .int (mI x2)]) (Qf := fun A => mQi g b KX Q A) (Xf := fun A => mEx g b KX (fun _ _ => False) A) (by decide) (Nat.le_of_ble_eq_true rfl) (fun p e s m args below meth c ls X hK hml hr hlk hout hnm hW hl => by
    have C : mC p l s m args meth c cX10_needNumber "MoonWash$Words" 4 (some FieldType.int) g := ⟨X, hK, hml, hr, hlk, hout, hl0⟩
    have hS : va_S (mA b KX s.heap.size) s.heap s.heap [] := va_S.rf
    have hl : lv_has ls 4 [(0, .ref (b + r0)), (1, .int (mI x1)), (2, .int (mI x2))] := hl
    unfold w_X10_needNumber at h
    refine m_aload_n (pc := 0) C.1 dX10_needNumber_0 rfl hl 0 rfl ?_
    refine g_8_1 (pc := 1) C hW kr0 q_285 dX10_needNumber_1 ?_
    refine m_aload_n (pc := 4) C.1 dX10_needNumber_4 rfl hl 0 rfl ?_
    refine g_8_5 (pc := 5) C hW kr0 q_289 dX10_needNumber_5 ?_
    obtain ⟨hb1a, hb1b, h⟩ := h
    refine m_aald5 (pc := 8) C.1 C.2.1 hW (k_8_1 kr0) (hW.2.1 _ _) hb1a hb1b dX10_needNumber_8 (fun t2 et2 ht2 => ?_)
    replace h := h t2 et2
    refine m_token (pc := 9) C.1 C.2.1 hW hS 1 (by decide) rfl q_617 dX10_needNumber_9 ?_
    refine m_acmp_ne (pc := 12) (tgt := 45) C.1 C.2.1 ht2 (by decide : 1 < 36) dX10_needNumber_12 (by decide) (fun hc => ?_) (fun hc => ?_)
    · replace h := h.1 hc
      exact W_X10_needNumber_45 C N  r0 kr0 x1 ox1 S _ _ _ (lv_sub hl [0, 1] rfl) hW hS h
    · replace h := h.2 hc
      refine m_aload_n (pc := 15) C.1 dX10_needNumber_15 rfl hl 0 rfl ?_
      refine g_8_4 (pc := 16) C hW kr0 q_288 dX10_needNumber_16 ?_
      refine m_aload_n (pc := 19) C.1 dX10_needNumber_19 rfl hl 0 rfl ?_
      refine g_8_5 (pc := 20) C hW kr0 q_289 dX10_needNumber_20 ?_
      obtain ⟨hb3a, hb3b, h⟩ := h
      refine m_iald (pc := 23) C.1 C.2.1 hW (k_8_4 kr0) (hW.2.1 _ _) hb3a hb3b dX10_needNumber_23 ?_
      refine m_iload_n (pc := 24) C.1 dX10_needNumber_24 rfl hl 1 rfl ?_
      refine m_icmp_lt (pc := 25) (tgt := 45) C.1 (hW.2.1 _ _) ox1 dX10_needNumber_25 (by decide) (fun hc => ?_) (fun hc => ?_)
      · replace h := h.1 hc
        exact W_X10_needNumber_45 C N  r0 kr0 x1 ox1 S _ _ _ (lv_sub hl [0, 1] rfl) hW hS h
      · replace h := h.2 hc
        refine m_aload_n (pc := 28) C.1 dX10_needNumber_28 rfl hl 0 rfl ?_
        refine g_8_4 (pc := 29) C hW kr0 q_288 dX10_needNumber_29 ?_
        refine m_aload_n (pc := 32) C.1 dX10_needNumber_32 rfl hl 0 rfl ?_
        refine g_8_5 (pc := 33) C hW kr0 q_289 dX10_needNumber_33 ?_
        obtain ⟨hb4a, hb4b, h⟩ := h
        refine m_iald (pc := 36) C.1 C.2.1 hW (k_8_4 kr0) (hW.2.1 _ _) hb4a hb4b dX10_needNumber_36 ?_
        refine m_iload_n (pc := 37) C.1 dX10_needNumber_37 rfl hl 2 rfl ?_
        refine m_icmp_gt (pc := 38) (tgt := 45) C.1 (hW.2.1 _ _) ox2 dX10_needNumber_38 (by decide) (fun hc => ?_) (fun hc => ?_)
        · replace h := h.1 hc
          exact W_X10_needNumber_45 C N  r0 kr0 x1 ox1 S _ _ _ (lv_sub hl [0, 1] rfl) hW hS h
        · replace h := h.2 hc
          refine m_iconst (pc := 41) C.1 dX10_needNumber_41 ?_
          refine m_goto (pc := 42) (tgt := 46) C.1 dX10_needNumber_42 (by decide) ?_
          exact W_X10_needNumber_46 C N  r0 kr0 x1 ox1 1 (by decide : okI 1) S _ _ _ (lv_sub hl [0, 1] rfl) hW hS h) sz
section
variable {p : Program} {l : Launch} {e : Env} {s : State} {m : MethodId} {args : Array Value} {below : List Frame} {meth : Method} {c : Code} {g : mG} {b : Nat}
def w_X10_needKinds_55 (N : Nat) (Q : mSt → Int → Prop)  (r0 : Nat) (S : mSt) : Prop :=
  w_X10_refuse N r0 S (fun (S1 : mSt) => Q S1 0)
theorem W_X10_needKinds_55 (C : mC p l s m args meth c cX10_needKinds "MoonWash$Words" 4 (some FieldType.int) g) (N : Nat) {Q : mSt → Int → Prop}   (r0 : Nat) (kr0 : KX r0 = (0, 8, 0)) (S : mSt) (H : Heap) (locs : List Loc) (ls : Array Slot) (hl : lv_has ls 4 [(0, .ref (b + r0))]) (hW : mW g b KX S H) (hS : va_S (mA b KX s.heap.size) s.heap H locs) (h : w_X10_needKinds_55 N Q  r0 S) : W p l e { frames := 1, cells := 0, slots := 0, locals := 20 } s m args below meth c H locs 0 0 (vx_MQ below (mQi g b KX Q (mA b KX s.heap.size)) (mEx g b KX (fun _ _ => False) (mA b KX s.heap.size)) args s 0 0 (mA b KX s.heap.size)) (F0 m 55 ls []) := by
  unfold w_X10_needKinds_55 at h
  refine m_aload_n (pc := 55) C.1 dX10_needKinds_55 rfl hl 0 rfl ?_
  refine m_callVv (pc := 56) C.1 C.2.2.1 hl.1 C.2.1 hW hS (As := []) (rest := []) (r := r0) (T_X10_refuse C.2.2.2.2.2.2 N r0 kr0 h) kr0 rfl q_711 q_700 q_701 q_85 q_702 pl_X10_refuse (by decide) (Nat.le_of_ble_eq_true rfl) dX10_needKinds_56 (fun S1 H locs h hW1 hS => ?_)
  refine m_iconst (pc := 59) C.1 dX10_needKinds_59 ?_
  exact m_iret (pc := 60) C.1 C.2.2.2.1 C.2.2.2.2.1 hW1 hS (by decide : okI 0) h (by decide) (by decide) dX10_needKinds_60
def w_X10_needKinds_4b (N : Nat) (Q : mSt → Int → Prop) (ko4 : Nat → Int → Int → mSt → Prop) (ko73 : Nat → Int → mSt → Prop) (r0 : Nat) (x1 : Int) (x2 : Int) (S : mSt) : Prop :=
  (0 ≤ (S r0 5) ∧ (S r0 5) < 401 ∧ (((S (r0 + 4) (S r0 5)) ≤ x2 → ko73 r0 x1 S) ∧ (x2 < (S (r0 + 4) (S r0 5)) → (0 ≤ (S r0 5) ∧ (S r0 5) < 401 ∧ (0 ≤ (nm ((S (r0 + 3) (S r0 5)) + x2)) ∧ (nm ((S (r0 + 3) (S r0 5)) + x2)) < 400 ∧ ∀ v4 : Int, v4 = (nm ((S (r0 + 1) (nm ((S (r0 + 3) (S r0 5)) + x2))) - 97)) → ((v4 < 0 → w_X10_needKinds_55 N Q  r0 S) ∧ (0 ≤ v4 → ((5 ≤ v4 → w_X10_needKinds_55 N Q  r0 S) ∧ (v4 < 5 → (((bAnd (bShr x1 v4) 1) ≠ 1 → ∀ v5 : Int, v5 = (bOr x1 (bShl 1 v4)) → ∀ v6 : Int, v6 = nm (x2 + 1) → ko4 r0 v5 v6 S) ∧ ((bAnd (bShr x1 v4) 1) = 1 → w_X10_needKinds_55 N Q  r0 S)))))))))))
theorem W_X10_needKinds_4b (C : mC p l s m args meth c cX10_needKinds "MoonWash$Words" 4 (some FieldType.int) g) (N : Nat) {Q : mSt → Int → Prop} {ko4 : Nat → Int → Int → mSt → Prop} {ko73 : Nat → Int → mSt → Prop} (hko4 : ∀ (r0 : Nat) (kr0 : KX r0 = (0, 8, 0)) (x1 : Int) (ox1 : okI x1) (x2 : Int) (ox2 : okI x2) (S : mSt) (H : Heap) (locs : List Loc) (ls : Array Slot), lv_has ls 4 [(0, .ref (b + r0)), (1, .int (mI x1)), (2, .int (mI x2))] → mW g b KX S H → va_S (mA b KX s.heap.size) s.heap H locs → ko4 r0 x1 x2 S → W p l e { frames := 1, cells := 0, slots := 0, locals := 20 } s m args below meth c H locs 0 0 (vx_MQ below (mQi g b KX Q (mA b KX s.heap.size)) (mEx g b KX (fun _ _ => False) (mA b KX s.heap.size)) args s 0 0 (mA b KX s.heap.size)) (F0 m 4 ls [])) (hko73 : ∀ (r0 : Nat) (kr0 : KX r0 = (0, 8, 0)) (x1 : Int) (ox1 : okI x1) (S : mSt) (H : Heap) (locs : List Loc) (ls : Array Slot), lv_has ls 4 [(0, .ref (b + r0)), (1, .int (mI x1))] → mW g b KX S H → va_S (mA b KX s.heap.size) s.heap H locs → ko73 r0 x1 S → W p l e { frames := 1, cells := 0, slots := 0, locals := 20 } s m args below meth c H locs 0 0 (vx_MQ below (mQi g b KX Q (mA b KX s.heap.size)) (mEx g b KX (fun _ _ => False) (mA b KX s.heap.size)) args s 0 0 (mA b KX s.heap.size)) (F0 m 73 ls [])) (r0 : Nat) (kr0 : KX r0 = (0, 8, 0)) (x1 : Int) (ox1 : okI x1) (x2 : Int) (ox2 : okI x2) (S : mSt) (H : Heap) (locs : List Loc) (ls : Array Slot) (hl : lv_has ls 4 [(0, .ref (b + r0)), (1, .int (mI x1)), (2, .int (mI x2))]) (hW : mW g b KX S H) (hS : va_S (mA b KX s.heap.size) s.heap H locs) (h : w_X10_needKinds_4b N Q ko4 ko73 r0 x1 x2 S) : W p l e { frames := 1, cells := 0, slots := 0, locals := 20 } s m args below meth c H locs 0 0 (vx_MQ below (mQi g b KX Q (mA b KX s.heap.size)) (mEx g b KX (fun _ _ => False) (mA b KX s.heap.size)) args s 0 0 (mA b KX s.heap.size)) (F0 m 4 ls []) := by
  unfold w_X10_needKinds_4b at h
  refine m_iload_n (pc := 4) C.1 dX10_needKinds_4 rfl hl 2 rfl ?_
  refine m_aload_n (pc := 5) C.1 dX10_needKinds_5 rfl hl 0 rfl ?_
  refine g_8_3 (pc := 6) C hW kr0 q_287 dX10_needKinds_6 ?_
  refine m_aload_n (pc := 9) C.1 dX10_needKinds_9 rfl hl 0 rfl ?_
  refine g_8_5 (pc := 10) C hW kr0 q_289 dX10_needKinds_10 ?_
  obtain ⟨hb1a, hb1b, h⟩ := h
  refine m_iald (pc := 13) C.1 C.2.1 hW (k_8_3 kr0) (hW.2.1 _ _) hb1a hb1b dX10_needKinds_13 ?_
  refine m_icmp_ge (pc := 14) (tgt := 73) C.1 ox2 (hW.2.1 _ _) dX10_needKinds_14 (by decide) (fun hc => ?_) (fun hc => ?_)
  · replace h := h.1 hc
    exact hko73 r0 kr0 x1 ox1 S _ _ _ (lv_sub hl [0, 1] rfl) hW hS h
  · replace h := h.2 hc
    refine m_aload_n (pc := 17) C.1 dX10_needKinds_17 rfl hl 0 rfl ?_
    refine g_8_0 (pc := 18) C hW kr0 q_284 dX10_needKinds_18 ?_
    refine m_aload_n (pc := 21) C.1 dX10_needKinds_21 rfl hl 0 rfl ?_
    refine g_8_2 (pc := 22) C hW kr0 q_286 dX10_needKinds_22 ?_
    refine m_aload_n (pc := 25) C.1 dX10_needKinds_25 rfl hl 0 rfl ?_
    refine g_8_5 (pc := 26) C hW kr0 q_289 dX10_needKinds_26 ?_
    obtain ⟨hb2a, hb2b, h⟩ := h
    refine m_iald (pc := 29) C.1 C.2.1 hW (k_8_2 kr0) (hW.2.1 _ _) hb2a hb2b dX10_needKinds_29 ?_
    refine m_iload_n (pc := 30) C.1 dX10_needKinds_30 rfl hl 2 rfl ?_
    refine m_iadd (pc := 31) C.1 dX10_needKinds_31 ?_
    obtain ⟨hb3a, hb3b, h⟩ := h
    refine m_iald (pc := 32) C.1 C.2.1 hW (k_8_0 kr0) (nm_ok _) hb3a hb3b dX10_needKinds_32 ?_
    refine m_bipush (pc := 33) C.1 dX10_needKinds_33 rfl ?_
    refine m_isub (pc := 35) C.1 dX10_needKinds_35 ?_
    refine m_istore_n (pc := 36) C.1 dX10_needKinds_36 rfl hl (by decide) (fun v => [(3, .int v), (0, .ref (b + r0)), (1, .int (mI x1)), (2, .int (mI x2))]) (fun _ => rfl) (nm_ok _) (fun v4 ls ev4 ov4 hl => ?_)
    replace h := h v4 ev4
    refine m_iload_n (pc := 37) C.1 dX10_needKinds_37 rfl hl 0 rfl ?_
    refine m_if_lt (pc := 38) (tgt := 55) C.1 ov4 dX10_needKinds_38 (by decide) (fun hc => ?_) (fun hc => ?_)
    · replace h := h.1 hc
      exact W_X10_needKinds_55 C N  r0 kr0 S _ _ _ (lv_sub hl [1] rfl) hW hS h
    · replace h := h.2 hc
      refine m_iload_n (pc := 41) C.1 dX10_needKinds_41 rfl hl 0 rfl ?_
      refine m_iconst (pc := 42) C.1 dX10_needKinds_42 ?_
      refine m_icmp_ge (pc := 43) (tgt := 55) C.1 ov4 (by decide : okI 5) dX10_needKinds_43 (by decide) (fun hc => ?_) (fun hc => ?_)
      · replace h := h.1 hc
        exact W_X10_needKinds_55 C N  r0 kr0 S _ _ _ (lv_sub hl [1] rfl) hW hS h
      · replace h := h.2 hc
        refine m_iload_n (pc := 46) C.1 dX10_needKinds_46 rfl hl 2 rfl ?_
        refine m_iload_n (pc := 47) C.1 dX10_needKinds_47 rfl hl 0 rfl ?_
        refine m_ishr (pc := 48) C.1 dX10_needKinds_48 ?_
        refine m_iconst (pc := 49) C.1 dX10_needKinds_49 ?_
        refine m_iand (pc := 50) C.1 dX10_needKinds_50 ?_
        refine m_iconst (pc := 51) C.1 dX10_needKinds_51 ?_
        refine m_icmp_ne (pc := 52) (tgt := 61) C.1 (bAnd_ok _ _) (by decide : okI 1) dX10_needKinds_52 (by decide) (fun hc => ?_) (fun hc => ?_)
        · replace h := h.1 hc
          refine m_iload_n (pc := 61) C.1 dX10_needKinds_61 rfl hl 2 rfl ?_
          refine m_iconst (pc := 62) C.1 dX10_needKinds_62 ?_
          refine m_iload_n (pc := 63) C.1 dX10_needKinds_63 rfl hl 0 rfl ?_
          refine m_ishl (pc := 64) C.1 dX10_needKinds_64 ?_
          refine m_ior (pc := 65) C.1 dX10_needKinds_65 ?_
          refine m_istore_n (pc := 66) C.1 dX10_needKinds_66 rfl hl (by decide) (fun v => [(1, .int v), (3, .int (mI v4)), (0, .ref (b + r0)), (2, .int (mI x2))]) (fun _ => rfl) (bOr_ok _ _) (fun v5 ls ev5 ov5 hl => ?_)
          replace h := h v5 ev5
          refine m_iinc (pc := 67) C.1 dX10_needKinds_67 hl (by decide) (q0 := 3) rfl (fun v => [(2, .int v), (1, .int (mI v5)), (3, .int (mI v4)), (0, .ref (b + r0))]) (fun _ => rfl) (fun v6 ls ev6 ov6 hl => ?_)
          replace h := h v6 ev6
          refine m_goto (pc := 70) (tgt := 4) C.1 dX10_needKinds_70 (by decide) ?_
          exact hko4 r0 kr0 v5 ov5 v6 ov6 S _ _ _ (lv_sub hl [3, 1, 0] rfl) hW hS h
        · replace h := h.2 hc
          exact W_X10_needKinds_55 C N  r0 kr0 S _ _ _ (lv_sub hl [1] rfl) hW hS h
def w_X10_needKinds_4 (N : Nat) (Q : mSt → Int → Prop) (ko73 : Nat → Int → mSt → Prop) : Nat → Nat → Int → Int → mSt → Prop
  | 0 => fun _ _ _ _ => False
  | k + 1 => w_X10_needKinds_4b N Q (w_X10_needKinds_4 N Q ko73 k) ko73
theorem W_X10_needKinds_4 (C : mC p l s m args meth c cX10_needKinds "MoonWash$Words" 4 (some FieldType.int) g) (N : Nat) {Q : mSt → Int → Prop} {ko73 : Nat → Int → mSt → Prop} (hko73 : ∀ (r0 : Nat) (kr0 : KX r0 = (0, 8, 0)) (x1 : Int) (ox1 : okI x1) (S : mSt) (H : Heap) (locs : List Loc) (ls : Array Slot), lv_has ls 4 [(0, .ref (b + r0)), (1, .int (mI x1))] → mW g b KX S H → va_S (mA b KX s.heap.size) s.heap H locs → ko73 r0 x1 S → W p l e { frames := 1, cells := 0, slots := 0, locals := 20 } s m args below meth c H locs 0 0 (vx_MQ below (mQi g b KX Q (mA b KX s.heap.size)) (mEx g b KX (fun _ _ => False) (mA b KX s.heap.size)) args s 0 0 (mA b KX s.heap.size)) (F0 m 73 ls [])) : ∀ (k : Nat) (r0 : Nat) (kr0 : KX r0 = (0, 8, 0)) (x1 : Int) (ox1 : okI x1) (x2 : Int) (ox2 : okI x2) (S : mSt) (H : Heap) (locs : List Loc) (ls : Array Slot) (hl : lv_has ls 4 [(0, .ref (b + r0)), (1, .int (mI x1)), (2, .int (mI x2))]) (hW : mW g b KX S H) (hS : va_S (mA b KX s.heap.size) s.heap H locs) (h : w_X10_needKinds_4 N Q ko73 k r0 x1 x2 S), W p l e { frames := 1, cells := 0, slots := 0, locals := 20 } s m args below meth c H locs 0 0 (vx_MQ below (mQi g b KX Q (mA b KX s.heap.size)) (mEx g b KX (fun _ _ => False) (mA b KX s.heap.size)) args s 0 0 (mA b KX s.heap.size)) (F0 m 4 ls []) := by
  intro k
  induction k with
  | zero => intro r0 kr0 x1 ox1 x2 ox2 S H locs ls hl hW hS h; exact False.elim h
  | succ k ih => intro r0 kr0 x1 ox1 x2 ox2 S H locs ls hl hW hS h; exact W_X10_needKinds_4b C N ih hko73 r0 kr0 x1 ox1 x2 ox2 S H locs ls hl hW hS h
def w_X10_needKinds_85 (N : Nat) (Q : mSt → Int → Prop)  (r0 : Nat) (S : mSt) : Prop :=
  w_X10_refuse N r0 S (fun (S1 : mSt) => Q S1 0)
theorem W_X10_needKinds_85 (C : mC p l s m args meth c cX10_needKinds "MoonWash$Words" 4 (some FieldType.int) g) (N : Nat) {Q : mSt → Int → Prop}   (r0 : Nat) (kr0 : KX r0 = (0, 8, 0)) (S : mSt) (H : Heap) (locs : List Loc) (ls : Array Slot) (hl : lv_has ls 4 [(0, .ref (b + r0))]) (hW : mW g b KX S H) (hS : va_S (mA b KX s.heap.size) s.heap H locs) (h : w_X10_needKinds_85 N Q  r0 S) : W p l e { frames := 1, cells := 0, slots := 0, locals := 20 } s m args below meth c H locs 0 0 (vx_MQ below (mQi g b KX Q (mA b KX s.heap.size)) (mEx g b KX (fun _ _ => False) (mA b KX s.heap.size)) args s 0 0 (mA b KX s.heap.size)) (F0 m 85 ls []) := by
  unfold w_X10_needKinds_85 at h
  refine m_aload_n (pc := 85) C.1 dX10_needKinds_85 rfl hl 0 rfl ?_
  refine m_callVv (pc := 86) C.1 C.2.2.1 hl.1 C.2.1 hW hS (As := []) (rest := []) (r := r0) (T_X10_refuse C.2.2.2.2.2.2 N r0 kr0 h) kr0 rfl q_711 q_700 q_701 q_85 q_702 pl_X10_refuse (by decide) (Nat.le_of_ble_eq_true rfl) dX10_needKinds_86 (fun S1 H locs h hW1 hS => ?_)
  refine m_iconst (pc := 89) C.1 dX10_needKinds_89 ?_
  exact m_iret (pc := 90) C.1 C.2.2.2.1 C.2.2.2.2.1 hW1 hS (by decide : okI 0) h (by decide) (by decide) dX10_needKinds_90
end
def w_X10_needKinds (N : Nat) (r0 : Nat) (S : mSt) (Q : mSt → Int → Prop) : Prop :=
  ∀ v1 : Int, v1 = 0 → ∀ v2 : Int, v2 = 0 → w_X10_needKinds_4 N Q (fun (r0_3 : Nat) (x1_3 : Int) (S_3 : mSt) => (((S_3 r0_3 6) ≠ (-1) → w_X10_needKinds_85 N Q  r0_3 S_3) ∧ ((S_3 r0_3 6) = (-1) → ((x1_3 ≠ 0 → ∀ S4 : mSt, S4 = mup S_3 r0_3 5 (nm ((S_3 r0_3 5) + 1)) → Q S4 x1_3) ∧ (x1_3 = 0 → w_X10_needKinds_85 N Q  r0_3 S_3))))) N r0 v1 v2 S
theorem T_X10_needKinds {l : Launch} (hl0 : l.stackTraces = false) {g : mG} {b : Nat} (N : Nat) (r0 : Nat) (kr0 : KX r0 = (0, 8, 0)) {S : mSt} {Q : mSt → Int → Prop} (h : w_X10_needKinds N r0 S Q) (sz : Nat) : vx_Met l yX10_needKinds (Cond.code yX10_needKinds cX10_needKinds 4 (some FieldType.int) :: wsG) { frames := 1, cells := 0, slots := 0, locals := 20 } (mPc g b KX S [.ref (b + r0)] sz) (mQi g b KX Q (mA b KX sz)) (mEx g b KX (fun _ _ => False) (mA b KX sz)) 0 0 (mA b KX sz) :=
  m_of (av := [.ref (b + r0)]) (Qf := fun A => mQi g b KX Q A) (Xf := fun A => mEx g b KX (fun _ _ => False) A) (by decide) (Nat.le_of_ble_eq_true rfl) (fun p e s m args below meth c ls X hK hml hr hlk hout hnm hW hl => by
    have C : mC p l s m args meth c cX10_needKinds "MoonWash$Words" 4 (some FieldType.int) g := ⟨X, hK, hml, hr, hlk, hout, hl0⟩
    have hS : va_S (mA b KX s.heap.size) s.heap s.heap [] := va_S.rf
    have hl : lv_has ls 4 [(0, .ref (b + r0))] := hl
    unfold w_X10_needKinds at h
    refine m_iconst (pc := 0) C.1 dX10_needKinds_0 ?_
    refine m_istore_n (pc := 1) C.1 dX10_needKinds_1 rfl hl (by decide) (fun v => [(1, .int v), (0, .ref (b + r0))]) (fun _ => rfl) (by decide : okI 0) (fun v1 ls ev1 ov1 hl => ?_)
    replace h := h v1 ev1
    refine m_iconst (pc := 2) C.1 dX10_needKinds_2 ?_
    refine m_istore_n (pc := 3) C.1 dX10_needKinds_3 rfl hl (by decide) (fun v => [(2, .int v), (1, .int (mI v1)), (0, .ref (b + r0))]) (fun _ => rfl) (by decide : okI 0) (fun v2 ls ev2 ov2 hl => ?_)
    replace h := h v2 ev2
    refine W_X10_needKinds_4 C N ?_ N r0 kr0 v1 ov1 v2 ov2 S _ _ _ (lv_sub hl [2, 1, 0] rfl) hW hS h
    · intro r0_3 kr0_3 x1_3 ox1_3 S_3 H locs ls hl hW_3 hS h
      refine m_aload_n (pc := 73) C.1 dX10_needKinds_73 rfl hl 0 rfl ?_
      refine g_8_6 (pc := 74) C hW_3 kr0_3 q_290 dX10_needKinds_74 ?_
      refine m_iconst (pc := 77) C.1 dX10_needKinds_77 ?_
      refine m_icmp_ne (pc := 78) (tgt := 85) C.1 (hW_3.2.1 _ _) (by decide : okI (-1)) dX10_needKinds_78 (by decide) (fun hc => ?_) (fun hc => ?_)
      · replace h := h.1 hc
        exact W_X10_needKinds_85 C N  r0_3 kr0_3 S_3 _ _ _ (lv_sub hl [0] rfl) hW_3 hS h
      · replace h := h.2 hc
        refine m_iload_n (pc := 81) C.1 dX10_needKinds_81 rfl hl 1 rfl ?_
        refine m_if_ne (pc := 82) (tgt := 91) C.1 ox1_3 dX10_needKinds_82 (by decide) (fun hc => ?_) (fun hc => ?_)
        · replace h := h.1 hc
          refine m_aload_n (pc := 91) C.1 dX10_needKinds_91 rfl hl 0 rfl ?_
          refine lv_dup (pc := 92) C.1.1 C.1.2.1 dX10_needKinds_92 rfl ?_
          refine g_8_5 (pc := 93) C hW_3 kr0_3 q_289 dX10_needKinds_93 ?_
          refine m_iconst (pc := 96) C.1 dX10_needKinds_96 ?_
          refine m_iadd (pc := 97) C.1 dX10_needKinds_97 ?_
          refine p_8_5 (pc := 98) C hW_3 hS kr0_3 q_289 (nm_ok _) dX10_needKinds_98 (fun S4 H locs e4 hW4 hS => ?_)
          replace h := h S4 e4
          refine m_iload_n (pc := 101) C.1 dX10_needKinds_101 rfl hl 1 rfl ?_
          exact m_iret (pc := 102) C.1 C.2.2.2.1 C.2.2.2.2.1 hW4 hS ox1_3 h (by decide) (by decide) dX10_needKinds_102
        · replace h := h.2 hc
          exact W_X10_needKinds_85 C N  r0_3 kr0_3 S_3 _ _ _ (lv_sub hl [0] rfl) hW_3 hS h) sz
section
variable {p : Program} {l : Launch} {e : Env} {s : State} {m : MethodId} {args : Array Value} {below : List Frame} {meth : Method} {c : Code} {g : mG} {b : Nat}
end
def w_X2_addSoap (N : Nat) (r0 : Nat) (x1 : Int) (x2 : Int) (x3 : Int) (x4 : Int) (S : mSt) (Q : mSt → Prop) : Prop :=
  ((6 ≤ (S r0 2) → Q S) ∧ ((S r0 2) < 6 → ∀ v1 : Int, v1 = (nm ((S r0 2) * 4)) → (0 ≤ v1 ∧ v1 < 24 ∧ ∀ S3 : mSt, S3 = mup S (r0 + 8) v1 x1 → (0 ≤ (nm (v1 + 1)) ∧ (nm (v1 + 1)) < 24 ∧ ∀ S5 : mSt, S5 = mup S3 (r0 + 8) (nm (v1 + 1)) x2 → (0 ≤ (nm (v1 + 2)) ∧ (nm (v1 + 2)) < 24 ∧ ∀ S7 : mSt, S7 = mup S5 (r0 + 8) (nm (v1 + 2)) x3 → (0 ≤ (nm (v1 + 3)) ∧ (nm (v1 + 3)) < 24 ∧ ∀ S9 : mSt, S9 = mup S7 (r0 + 8) (nm (v1 + 3)) x4 → ∀ S10 : mSt, S10 = mup S9 r0 2 (nm ((S9 r0 2) + 1)) → Q S10))))))
theorem T_X2_addSoap {l : Launch} (hl0 : l.stackTraces = false) {g : mG} {b : Nat} (N : Nat) (r0 : Nat) (kr0 : KX r0 = (0, 1, 0)) (x1 : Int) (ox1 : okI x1) (x2 : Int) (ox2 : okI x2) (x3 : Int) (ox3 : okI x3) (x4 : Int) (ox4 : okI x4) {S : mSt} {Q : mSt → Prop} (h : w_X2_addSoap N r0 x1 x2 x3 x4 S Q) (sz : Nat) : vx_Met l yX2_addSoap (Cond.code yX2_addSoap cX2_addSoap 6 none :: wsG) { frames := 0, cells := 0, slots := 0, locals := 0 } (mPc g b KX S [.ref (b + r0), .int (mI x1), .int (mI x2), .int (mI x3), .int (mI x4)] sz) (mQv g b KX Q (mA b KX sz)) (mEx g b KX (fun _ _ => False) (mA b KX sz)) 0 0 (mA b KX sz) :=
  m_of (av := [.ref (b + r0), .int (mI x1), .int (mI x2), .int (mI x3), .int (mI x4)]) (Qf := fun A => mQv g b KX Q A) (Xf := fun A => mEx g b KX (fun _ _ => False) A) (by decide) (Nat.le_of_ble_eq_true rfl) (fun p e s m args below meth c ls X hK hml hr hlk hout hnm hW hl => by
    have C : mC p l s m args meth c cX2_addSoap "MoonWash$Laundry" 6 none g := ⟨X, hK, hml, hr, hlk, hout, hl0⟩
    have hS : va_S (mA b KX s.heap.size) s.heap s.heap [] := va_S.rf
    have hl : lv_has ls 6 [(0, .ref (b + r0)), (1, .int (mI x1)), (2, .int (mI x2)), (3, .int (mI x3)), (4, .int (mI x4))] := hl
    unfold w_X2_addSoap at h
    refine m_aload_n (pc := 0) C.1 dX2_addSoap_0 rfl hl 0 rfl ?_
    refine g_1_2 (pc := 1) C hW kr0 q_190 dX2_addSoap_1 ?_
    refine m_bipush (pc := 4) C.1 dX2_addSoap_4 rfl ?_
    refine m_icmp_ge (pc := 6) (tgt := 66) C.1 (hW.2.1 _ _) (by decide : okI 6) dX2_addSoap_6 (by decide) (fun hc => ?_) (fun hc => ?_)
    · replace h := h.1 hc
      exact m_vret (pc := 66) C.1 C.2.2.2.1 C.2.2.2.2.1 hW hS h (by decide) (by decide) dX2_addSoap_66
    · replace h := h.2 hc
      refine m_aload_n (pc := 9) C.1 dX2_addSoap_9 rfl hl 0 rfl ?_
      refine g_1_2 (pc := 10) C hW kr0 q_190 dX2_addSoap_10 ?_
      refine m_iconst (pc := 13) C.1 dX2_addSoap_13 ?_
      refine m_imul (pc := 14) C.1 dX2_addSoap_14 ?_
      refine m_istore (pc := 15) C.1 dX2_addSoap_15 hl (by decide) (fun v => [(5, .int v), (0, .ref (b + r0)), (1, .int (mI x1)), (2, .int (mI x2)), (3, .int (mI x3)), (4, .int (mI x4))]) (fun _ => rfl) (nm_ok _) (fun v1 ls ev1 ov1 hl => ?_)
      replace h := h v1 ev1
      refine m_aload_n (pc := 17) C.1 dX2_addSoap_17 rfl hl 1 rfl ?_
      refine g_1_1 (pc := 18) C hW kr0 q_188 dX2_addSoap_18 ?_
      refine m_iload (pc := 21) C.1 dX2_addSoap_21 hl 0 rfl ?_
      refine m_iload_n (pc := 23) C.1 dX2_addSoap_23 rfl hl 2 rfl ?_
      obtain ⟨hb2a, hb2b, h⟩ := h
      refine m_iast (pc := 24) C.1 C.2.1 hW hS (k_1_1 kr0) ov1 ox1 hb2a hb2b dX2_addSoap_24 (fun S3 H locs e3 hW3 hS => ?_)
      replace h := h S3 e3
      refine m_aload_n (pc := 25) C.1 dX2_addSoap_25 rfl hl 1 rfl ?_
      refine g_1_1 (pc := 26) C hW3 kr0 q_188 dX2_addSoap_26 ?_
      refine m_iload (pc := 29) C.1 dX2_addSoap_29 hl 0 rfl ?_
      refine m_iconst (pc := 31) C.1 dX2_addSoap_31 ?_
      refine m_iadd (pc := 32) C.1 dX2_addSoap_32 ?_
      refine m_iload_n (pc := 33) C.1 dX2_addSoap_33 rfl hl 3 rfl ?_
      obtain ⟨hb4a, hb4b, h⟩ := h
      refine m_iast (pc := 34) C.1 C.2.1 hW3 hS (k_1_1 kr0) (nm_ok _) ox2 hb4a hb4b dX2_addSoap_34 (fun S5 H locs e5 hW5 hS => ?_)
      replace h := h S5 e5
      refine m_aload_n (pc := 35) C.1 dX2_addSoap_35 rfl hl 1 rfl ?_
      refine g_1_1 (pc := 36) C hW5 kr0 q_188 dX2_addSoap_36 ?_
      refine m_iload (pc := 39) C.1 dX2_addSoap_39 hl 0 rfl ?_
      refine m_iconst (pc := 41) C.1 dX2_addSoap_41 ?_
      refine m_iadd (pc := 42) C.1 dX2_addSoap_42 ?_
      refine m_iload_n (pc := 43) C.1 dX2_addSoap_43 rfl hl 4 rfl ?_
      obtain ⟨hb6a, hb6b, h⟩ := h
      refine m_iast (pc := 44) C.1 C.2.1 hW5 hS (k_1_1 kr0) (nm_ok _) ox3 hb6a hb6b dX2_addSoap_44 (fun S7 H locs e7 hW7 hS => ?_)
      replace h := h S7 e7
      refine m_aload_n (pc := 45) C.1 dX2_addSoap_45 rfl hl 1 rfl ?_
      refine g_1_1 (pc := 46) C hW7 kr0 q_188 dX2_addSoap_46 ?_
      refine m_iload (pc := 49) C.1 dX2_addSoap_49 hl 0 rfl ?_
      refine m_iconst (pc := 51) C.1 dX2_addSoap_51 ?_
      refine m_iadd (pc := 52) C.1 dX2_addSoap_52 ?_
      refine m_iload (pc := 53) C.1 dX2_addSoap_53 hl 5 rfl ?_
      obtain ⟨hb8a, hb8b, h⟩ := h
      refine m_iast (pc := 55) C.1 C.2.1 hW7 hS (k_1_1 kr0) (nm_ok _) ox4 hb8a hb8b dX2_addSoap_55 (fun S9 H locs e9 hW9 hS => ?_)
      replace h := h S9 e9
      refine m_aload_n (pc := 56) C.1 dX2_addSoap_56 rfl hl 1 rfl ?_
      refine lv_dup (pc := 57) C.1.1 C.1.2.1 dX2_addSoap_57 rfl ?_
      refine g_1_2 (pc := 58) C hW9 kr0 q_190 dX2_addSoap_58 ?_
      refine m_iconst (pc := 61) C.1 dX2_addSoap_61 ?_
      refine m_iadd (pc := 62) C.1 dX2_addSoap_62 ?_
      refine p_1_2 (pc := 63) C hW9 hS kr0 q_190 (nm_ok _) dX2_addSoap_63 (fun S10 H locs e10 hW10 hS => ?_)
      replace h := h S10 e10
      exact m_vret (pc := 66) C.1 C.2.2.2.1 C.2.2.2.2.1 hW10 hS h (by decide) (by decide) dX2_addSoap_66) sz
section
variable {p : Program} {l : Launch} {e : Env} {s : State} {m : MethodId} {args : Array Value} {below : List Frame} {meth : Method} {c : Code} {g : mG} {b : Nat}
def w_X0_readSoap_76 (N : Nat) (Q : mSt → Prop)  (r1 : Nat) (x2 : Int) (x3 : Int) (x4 : Int) (xs0 : Int) (S : mSt) : Prop :=
  ∀ v1 : Int, v1 = xs0 → w_X2_addSoap N r1 x2 x3 x4 v1 S (fun (S2 : mSt) => Q S2)
theorem W_X0_readSoap_76 (C : mC p l s m args meth c cX0_readSoap "MoonWash$HouseText" 6 none g) (N : Nat) {Q : mSt → Prop}   (r1 : Nat) (kr1 : KX r1 = (0, 1, 0)) (x2 : Int) (ox2 : okI x2) (x3 : Int) (ox3 : okI x3) (x4 : Int) (ox4 : okI x4) (xs0 : Int) (oxs0 : okI xs0) (S : mSt) (H : Heap) (locs : List Loc) (ls : Array Slot) (hl : lv_has ls 6 [(1, .ref (b + r1)), (2, .int (mI x2)), (3, .int (mI x3)), (4, .int (mI x4))]) (hW : mW g b KX S H) (hS : va_S (mA b KX s.heap.size) s.heap H locs) (h : w_X0_readSoap_76 N Q  r1 x2 x3 x4 xs0 S) : W p l e { frames := 2, cells := 0, slots := 0, locals := 43 } s m args below meth c H locs 0 0 (vx_MQ below (mQv g b KX Q (mA b KX s.heap.size)) (mEx g b KX (fun _ _ => False) (mA b KX s.heap.size)) args s 0 0 (mA b KX s.heap.size)) (F0 m 76 ls [.int (mI xs0)]) := by
  unfold w_X0_readSoap_76 at h
  refine m_istore (pc := 76) C.1 dX0_readSoap_76 hl (by decide) (fun v => [(5, .int v), (1, .ref (b + r1)), (2, .int (mI x2)), (3, .int (mI x3)), (4, .int (mI x4))]) (fun _ => rfl) oxs0 (fun v1 ls ev1 ov1 hl => ?_)
  replace h := h v1 ev1
  refine m_aload_n (pc := 78) C.1 dX0_readSoap_78 rfl hl 1 rfl ?_
  refine m_iload_n (pc := 79) C.1 dX0_readSoap_79 rfl hl 2 rfl ?_
  refine m_iload_n (pc := 80) C.1 dX0_readSoap_80 rfl hl 3 rfl ?_
  refine m_iload (pc := 81) C.1 dX0_readSoap_81 hl 4 rfl ?_
  refine m_iload (pc := 83) C.1 dX0_readSoap_83 hl 0 rfl ?_
  refine m_callVv (pc := 85) C.1 C.2.2.1 hl.1 C.2.1 hW hS (As := [.int (mI x2), .int (mI x3), .int (mI x4), .int (mI v1)]) (rest := []) (r := r1) (T_X2_addSoap C.2.2.2.2.2.2 N r1 kr1 x2 ox2 x3 ox3 x4 ox4 v1 ov1 h) kr1 rfl q_727 q_728 q_729 q_82 q_730 pl_X2_addSoap (by decide) (Nat.le_of_ble_eq_true rfl) dX0_readSoap_85 (fun S2 H locs h hW2 hS => ?_)
  exact m_vret (pc := 88) C.1 C.2.2.2.1 C.2.2.2.2.1 hW2 hS h (by decide) (by decide) dX0_readSoap_88
def w_X0_readSoap_13 (N : Nat) (Q : mSt → Prop)  (r0 : Nat) (r1 : Nat) (S : mSt) : Prop :=
  w_X10_need N r0 9 S (fun (S1 : mSt) => w_X10_needNumber N r0 0 9 S1 (fun (S2 : mSt) (v2 : Int) => ∀ v3 : Int, v3 = v2 → w_X10_need N r0 10 S2 (fun (S4 : mSt) => w_X10_needNumber N r0 1 30 S4 (fun (S5 : mSt) (v5 : Int) => ∀ v6 : Int, v6 = v5 → w_X10_need N r0 11 S5 (fun (S7 : mSt) => w_X10_needNumber N r0 0 3 S7 (fun (S8 : mSt) (v8 : Int) => ∀ v9 : Int, v9 = v8 → w_X10_takes N r0 12 S8 (fun (S10 : mSt) (v10 : Int) => ((v10 = 0 → w_X0_readSoap_76 N Q  r1 v3 v6 v9 0 S10) ∧ (v10 ≠ 0 → w_X10_needKinds N r0 S10 (fun (S11 : mSt) (v11 : Int) => w_X0_readSoap_76 N Q  r1 v3 v6 v9 v11 S11))))))))))
theorem W_X0_readSoap_13 (C : mC p l s m args meth c cX0_readSoap "MoonWash$HouseText" 6 none g) (N : Nat) {Q : mSt → Prop}   (r0 : Nat) (kr0 : KX r0 = (0, 8, 0)) (r1 : Nat) (kr1 : KX r1 = (0, 1, 0)) (S : mSt) (H : Heap) (locs : List Loc) (ls : Array Slot) (hl : lv_has ls 6 [(0, .ref (b + r0)), (1, .ref (b + r1))]) (hW : mW g b KX S H) (hS : va_S (mA b KX s.heap.size) s.heap H locs) (h : w_X0_readSoap_13 N Q  r0 r1 S) : W p l e { frames := 2, cells := 0, slots := 0, locals := 43 } s m args below meth c H locs 0 0 (vx_MQ below (mQv g b KX Q (mA b KX s.heap.size)) (mEx g b KX (fun _ _ => False) (mA b KX s.heap.size)) args s 0 0 (mA b KX s.heap.size)) (F0 m 13 ls []) := by
  unfold w_X0_readSoap_13 at h
  refine m_aload_n (pc := 13) C.1 dX0_readSoap_13 rfl hl 0 rfl ?_
  refine m_token (pc := 14) C.1 C.2.1 hW hS 9 (by decide) rfl q_694 dX0_readSoap_14 ?_
  refine m_callVv (pc := 17) C.1 C.2.2.1 hl.1 C.2.1 hW hS (As := [.ref (g.ad 9)]) (rest := []) (r := r0) (T_X10_need C.2.2.2.2.2.2 N r0 kr0 9 (by decide : 9 < 36) h) kr0 rfl q_703 q_704 q_705 q_85 q_706 pl_X10_need (by decide) (Nat.le_of_ble_eq_true rfl) dX0_readSoap_17 (fun S1 H locs h hW1 hS => ?_)
  refine m_aload_n (pc := 20) C.1 dX0_readSoap_20 rfl hl 0 rfl ?_
  refine m_iconst (pc := 21) C.1 dX0_readSoap_21 ?_
  refine m_bipush (pc := 22) C.1 dX0_readSoap_22 rfl ?_
  refine m_callVi (pc := 24) C.1 C.2.2.1 hl.1 C.2.1 hW1 hS (As := [.int (mI 0), .int (mI 9)]) (rest := []) (r := r0) (T_X10_needNumber C.2.2.2.2.2.2 N r0 kr0 0 (by decide : okI 0) 9 (by decide : okI 9) h) kr0 rfl q_712 q_713 q_714 q_85 q_715 pl_X10_needNumber (by decide) (Nat.le_of_ble_eq_true rfl) dX0_readSoap_24 (fun v2 S2 H locs ov2 h hW2 hS => ?_)
  refine m_istore_n (pc := 27) C.1 dX0_readSoap_27 rfl hl (by decide) (fun v => [(2, .int v), (0, .ref (b + r0)), (1, .ref (b + r1))]) (fun _ => rfl) ov2 (fun v3 ls ev3 ov3 hl => ?_)
  replace h := h v3 ev3
  refine m_aload_n (pc := 28) C.1 dX0_readSoap_28 rfl hl 1 rfl ?_
  refine m_token (pc := 29) C.1 C.2.1 hW2 hS 10 (by decide) rfl q_716 dX0_readSoap_29 ?_
  refine m_callVv (pc := 32) C.1 C.2.2.1 hl.1 C.2.1 hW2 hS (As := [.ref (g.ad 10)]) (rest := []) (r := r0) (T_X10_need C.2.2.2.2.2.2 N r0 kr0 10 (by decide : 10 < 36) h) kr0 rfl q_703 q_704 q_705 q_85 q_706 pl_X10_need (by decide) (Nat.le_of_ble_eq_true rfl) dX0_readSoap_32 (fun S4 H locs h hW4 hS => ?_)
  refine m_aload_n (pc := 35) C.1 dX0_readSoap_35 rfl hl 1 rfl ?_
  refine m_iconst (pc := 36) C.1 dX0_readSoap_36 ?_
  refine m_bipush (pc := 37) C.1 dX0_readSoap_37 rfl ?_
  refine m_callVi (pc := 39) C.1 C.2.2.1 hl.1 C.2.1 hW4 hS (As := [.int (mI 1), .int (mI 30)]) (rest := []) (r := r0) (T_X10_needNumber C.2.2.2.2.2.2 N r0 kr0 1 (by decide : okI 1) 30 (by decide : okI 30) h) kr0 rfl q_712 q_713 q_714 q_85 q_715 pl_X10_needNumber (by decide) (Nat.le_of_ble_eq_true rfl) dX0_readSoap_39 (fun v5 S5 H locs ov5 h hW5 hS => ?_)
  refine m_istore_n (pc := 42) C.1 dX0_readSoap_42 rfl hl (by decide) (fun v => [(3, .int v), (2, .int (mI v3)), (0, .ref (b + r0)), (1, .ref (b + r1))]) (fun _ => rfl) ov5 (fun v6 ls ev6 ov6 hl => ?_)
  replace h := h v6 ev6
  refine m_aload_n (pc := 43) C.1 dX0_readSoap_43 rfl hl 2 rfl ?_
  refine m_token (pc := 44) C.1 C.2.1 hW5 hS 11 (by decide) rfl q_718 dX0_readSoap_44 ?_
  refine m_callVv (pc := 47) C.1 C.2.2.1 hl.1 C.2.1 hW5 hS (As := [.ref (g.ad 11)]) (rest := []) (r := r0) (T_X10_need C.2.2.2.2.2.2 N r0 kr0 11 (by decide : 11 < 36) h) kr0 rfl q_703 q_704 q_705 q_85 q_706 pl_X10_need (by decide) (Nat.le_of_ble_eq_true rfl) dX0_readSoap_47 (fun S7 H locs h hW7 hS => ?_)
  refine m_aload_n (pc := 50) C.1 dX0_readSoap_50 rfl hl 2 rfl ?_
  refine m_iconst (pc := 51) C.1 dX0_readSoap_51 ?_
  refine m_iconst (pc := 52) C.1 dX0_readSoap_52 ?_
  refine m_callVi (pc := 53) C.1 C.2.2.1 hl.1 C.2.1 hW7 hS (As := [.int (mI 0), .int (mI 3)]) (rest := []) (r := r0) (T_X10_needNumber C.2.2.2.2.2.2 N r0 kr0 0 (by decide : okI 0) 3 (by decide : okI 3) h) kr0 rfl q_712 q_713 q_714 q_85 q_715 pl_X10_needNumber (by decide) (Nat.le_of_ble_eq_true rfl) dX0_readSoap_53 (fun v8 S8 H locs ov8 h hW8 hS => ?_)
  refine m_istore (pc := 56) C.1 dX0_readSoap_56 hl (by decide) (fun v => [(4, .int v), (3, .int (mI v6)), (2, .int (mI v3)), (0, .ref (b + r0)), (1, .ref (b + r1))]) (fun _ => rfl) ov8 (fun v9 ls ev9 ov9 hl => ?_)
  replace h := h v9 ev9
  refine m_aload_n (pc := 58) C.1 dX0_readSoap_58 rfl hl 3 rfl ?_
  refine m_token (pc := 59) C.1 C.2.1 hW8 hS 12 (by decide) rfl q_720 dX0_readSoap_59 ?_
  refine m_callVi (pc := 62) C.1 C.2.2.1 hl.1 C.2.1 hW8 hS (As := [.ref (g.ad 12)]) (rest := []) (r := r0) (T_X10_takes C.2.2.2.2.2.2 N r0 kr0 12 (by decide : 12 < 36) h) kr0 rfl q_722 q_708 q_709 q_85 q_710 pl_X10_takes (by decide) (Nat.le_of_ble_eq_true rfl) dX0_readSoap_62 (fun v10 S10 H locs ov10 h hW10 hS => ?_)
  refine m_if_eq (pc := 65) (tgt := 75) C.1 ov10 dX0_readSoap_65 (by decide) (fun hc => ?_) (fun hc => ?_)
  · replace h := h.1 hc
    refine m_iconst (pc := 75) C.1 dX0_readSoap_75 ?_
    exact W_X0_readSoap_76 C N  r1 kr1 v3 ov3 v6 ov6 v9 ov9 0 (by decide : okI 0) S10 _ _ _ (lv_sub hl [4, 2, 1, 0] rfl) hW10 hS h
  · replace h := h.2 hc
    refine m_aload_n (pc := 68) C.1 dX0_readSoap_68 rfl hl 3 rfl ?_
    refine m_callVi (pc := 69) C.1 C.2.2.1 hl.1 C.2.1 hW10 hS (As := []) (rest := []) (r := r0) (T_X10_needKinds C.2.2.2.2.2.2 N r0 kr0 h) kr0 rfl q_723 q_724 q_725 q_85 q_726 pl_X10_needKinds (by decide) (Nat.le_of_ble_eq_true rfl) dX0_readSoap_69 (fun v11 S11 H locs ov11 h hW11 hS => ?_)
    refine m_goto (pc := 72) (tgt := 76) C.1 dX0_readSoap_72 (by decide) ?_
    exact W_X0_readSoap_76 C N  r1 kr1 v3 ov3 v6 ov6 v9 ov9 v11 ov11 S11 _ _ _ (lv_sub hl [4, 2, 1, 0] rfl) hW11 hS h
end
def w_X0_readSoap (N : Nat) (r0 : Nat) (r1 : Nat) (S : mSt) (Q : mSt → Prop) : Prop :=
  (((S r1 2) < 6 → w_X0_readSoap_13 N Q  r0 r1 S) ∧ (6 ≤ (S r1 2) → w_X10_refuse N r0 S (fun (S1 : mSt) => w_X0_readSoap_13 N Q  r0 r1 S1)))
theorem T_X0_readSoap {l : Launch} (hl0 : l.stackTraces = false) {g : mG} {b : Nat} (N : Nat) (r0 : Nat) (kr0 : KX r0 = (0, 8, 0)) (r1 : Nat) (kr1 : KX r1 = (0, 1, 0)) {S : mSt} {Q : mSt → Prop} (h : w_X0_readSoap N r0 r1 S Q) (sz : Nat) : vx_Met l yX0_readSoap (Cond.code yX0_readSoap cX0_readSoap 6 none :: wsG) { frames := 2, cells := 0, slots := 0, locals := 43 } (mPc g b KX S [.ref (b + r0), .ref (b + r1)] sz) (mQv g b KX Q (mA b KX sz)) (mEx g b KX (fun _ _ => False) (mA b KX sz)) 0 0 (mA b KX sz) :=
  m_of (av := [.ref (b + r0), .ref (b + r1)]) (Qf := fun A => mQv g b KX Q A) (Xf := fun A => mEx g b KX (fun _ _ => False) A) (by decide) (Nat.le_of_ble_eq_true rfl) (fun p e s m args below meth c ls X hK hml hr hlk hout hnm hW hl => by
    have C : mC p l s m args meth c cX0_readSoap "MoonWash$HouseText" 6 none g := ⟨X, hK, hml, hr, hlk, hout, hl0⟩
    have hS : va_S (mA b KX s.heap.size) s.heap s.heap [] := va_S.rf
    have hl : lv_has ls 6 [(0, .ref (b + r0)), (1, .ref (b + r1))] := hl
    unfold w_X0_readSoap at h
    refine m_aload_n (pc := 0) C.1 dX0_readSoap_0 rfl hl 1 rfl ?_
    refine g_1_2 (pc := 1) C hW kr1 q_191 dX0_readSoap_1 ?_
    refine m_bipush (pc := 4) C.1 dX0_readSoap_4 rfl ?_
    refine m_icmp_lt (pc := 6) (tgt := 13) C.1 (hW.2.1 _ _) (by decide : okI 6) dX0_readSoap_6 (by decide) (fun hc => ?_) (fun hc => ?_)
    · replace h := h.1 hc
      exact W_X0_readSoap_13 C N  r0 kr0 r1 kr1 S _ _ _ (lv_sub hl [0, 1] rfl) hW hS h
    · replace h := h.2 hc
      refine m_aload_n (pc := 9) C.1 dX0_readSoap_9 rfl hl 0 rfl ?_
      refine m_callVv (pc := 10) C.1 C.2.2.1 hl.1 C.2.1 hW hS (As := []) (rest := []) (r := r0) (T_X10_refuse C.2.2.2.2.2.2 N r0 kr0 h) kr0 rfl q_699 q_700 q_701 q_85 q_702 pl_X10_refuse (by decide) (Nat.le_of_ble_eq_true rfl) dX0_readSoap_10 (fun S1 H locs h hW1 hS => ?_)
      exact W_X0_readSoap_13 C N  r0 kr0 r1 kr1 S1 _ _ _ (lv_sub hl [0, 1] rfl) hW1 hS h) sz
section
variable {p : Program} {l : Launch} {e : Env} {s : State} {m : MethodId} {args : Array Value} {below : List Frame} {meth : Method} {c : Code} {g : mG} {b : Nat}
end
def w_X2_addDue (N : Nat) (r0 : Nat) (x1 : Int) (x2 : Int) (S : mSt) (Q : mSt → Prop) : Prop :=
  ((8 ≤ (S r0 4) → Q S) ∧ ((S r0 4) < 8 → (0 ≤ (nm ((S r0 4) * 2)) ∧ (nm ((S r0 4) * 2)) < 16 ∧ ∀ S2 : mSt, S2 = mup S (r0 + 9) (nm ((S r0 4) * 2)) x1 → (0 ≤ (nm ((nm ((S2 r0 4) * 2)) + 1)) ∧ (nm ((nm ((S2 r0 4) * 2)) + 1)) < 16 ∧ ∀ S4 : mSt, S4 = mup S2 (r0 + 9) (nm ((nm ((S2 r0 4) * 2)) + 1)) x2 → ∀ S5 : mSt, S5 = mup S4 r0 4 (nm ((S4 r0 4) + 1)) → Q S5))))
theorem T_X2_addDue {l : Launch} (hl0 : l.stackTraces = false) {g : mG} {b : Nat} (N : Nat) (r0 : Nat) (kr0 : KX r0 = (0, 1, 0)) (x1 : Int) (ox1 : okI x1) (x2 : Int) (ox2 : okI x2) {S : mSt} {Q : mSt → Prop} (h : w_X2_addDue N r0 x1 x2 S Q) (sz : Nat) : vx_Met l yX2_addDue (Cond.code yX2_addDue cX2_addDue 3 none :: wsG) { frames := 0, cells := 0, slots := 0, locals := 0 } (mPc g b KX S [.ref (b + r0), .int (mI x1), .int (mI x2)] sz) (mQv g b KX Q (mA b KX sz)) (mEx g b KX (fun _ _ => False) (mA b KX sz)) 0 0 (mA b KX sz) :=
  m_of (av := [.ref (b + r0), .int (mI x1), .int (mI x2)]) (Qf := fun A => mQv g b KX Q A) (Xf := fun A => mEx g b KX (fun _ _ => False) A) (by decide) (Nat.le_of_ble_eq_true rfl) (fun p e s m args below meth c ls X hK hml hr hlk hout hnm hW hl => by
    have C : mC p l s m args meth c cX2_addDue "MoonWash$Laundry" 3 none g := ⟨X, hK, hml, hr, hlk, hout, hl0⟩
    have hS : va_S (mA b KX s.heap.size) s.heap s.heap [] := va_S.rf
    have hl : lv_has ls 3 [(0, .ref (b + r0)), (1, .int (mI x1)), (2, .int (mI x2))] := hl
    unfold w_X2_addDue at h
    refine m_aload_n (pc := 0) C.1 dX2_addDue_0 rfl hl 0 rfl ?_
    refine g_1_4 (pc := 1) C hW kr0 q_194 dX2_addDue_1 ?_
    refine m_bipush (pc := 4) C.1 dX2_addDue_4 rfl ?_
    refine m_icmp_ge (pc := 6) (tgt := 45) C.1 (hW.2.1 _ _) (by decide : okI 8) dX2_addDue_6 (by decide) (fun hc => ?_) (fun hc => ?_)
    · replace h := h.1 hc
      exact m_vret (pc := 45) C.1 C.2.2.2.1 C.2.2.2.2.1 hW hS h (by decide) (by decide) dX2_addDue_45
    · replace h := h.2 hc
      refine m_aload_n (pc := 9) C.1 dX2_addDue_9 rfl hl 0 rfl ?_
      refine g_1_3 (pc := 10) C hW kr0 q_193 dX2_addDue_10 ?_
      refine m_aload_n (pc := 13) C.1 dX2_addDue_13 rfl hl 0 rfl ?_
      refine g_1_4 (pc := 14) C hW kr0 q_194 dX2_addDue_14 ?_
      refine m_iconst (pc := 17) C.1 dX2_addDue_17 ?_
      refine m_imul (pc := 18) C.1 dX2_addDue_18 ?_
      refine m_iload_n (pc := 19) C.1 dX2_addDue_19 rfl hl 1 rfl ?_
      obtain ⟨hb1a, hb1b, h⟩ := h
      refine m_iast (pc := 20) C.1 C.2.1 hW hS (k_1_3 kr0) (nm_ok _) ox1 hb1a hb1b dX2_addDue_20 (fun S2 H locs e2 hW2 hS => ?_)
      replace h := h S2 e2
      refine m_aload_n (pc := 21) C.1 dX2_addDue_21 rfl hl 0 rfl ?_
      refine g_1_3 (pc := 22) C hW2 kr0 q_193 dX2_addDue_22 ?_
      refine m_aload_n (pc := 25) C.1 dX2_addDue_25 rfl hl 0 rfl ?_
      refine g_1_4 (pc := 26) C hW2 kr0 q_194 dX2_addDue_26 ?_
      refine m_iconst (pc := 29) C.1 dX2_addDue_29 ?_
      refine m_imul (pc := 30) C.1 dX2_addDue_30 ?_
      refine m_iconst (pc := 31) C.1 dX2_addDue_31 ?_
      refine m_iadd (pc := 32) C.1 dX2_addDue_32 ?_
      refine m_iload_n (pc := 33) C.1 dX2_addDue_33 rfl hl 2 rfl ?_
      obtain ⟨hb3a, hb3b, h⟩ := h
      refine m_iast (pc := 34) C.1 C.2.1 hW2 hS (k_1_3 kr0) (nm_ok _) ox2 hb3a hb3b dX2_addDue_34 (fun S4 H locs e4 hW4 hS => ?_)
      replace h := h S4 e4
      refine m_aload_n (pc := 35) C.1 dX2_addDue_35 rfl hl 0 rfl ?_
      refine lv_dup (pc := 36) C.1.1 C.1.2.1 dX2_addDue_36 rfl ?_
      refine g_1_4 (pc := 37) C hW4 kr0 q_194 dX2_addDue_37 ?_
      refine m_iconst (pc := 40) C.1 dX2_addDue_40 ?_
      refine m_iadd (pc := 41) C.1 dX2_addDue_41 ?_
      refine p_1_4 (pc := 42) C hW4 hS kr0 q_194 (nm_ok _) dX2_addDue_42 (fun S5 H locs e5 hW5 hS => ?_)
      replace h := h S5 e5
      exact m_vret (pc := 45) C.1 C.2.2.2.1 C.2.2.2.2.1 hW5 hS h (by decide) (by decide) dX2_addDue_45) sz
section
variable {p : Program} {l : Launch} {e : Env} {s : State} {m : MethodId} {args : Array Value} {below : List Frame} {meth : Method} {c : Code} {g : mG} {b : Nat}
def w_X0_readDue_13 (N : Nat) (Q : mSt → Prop)  (r0 : Nat) (r1 : Nat) (S : mSt) : Prop :=
  w_X10_need N r0 21 S (fun (S1 : mSt) => w_X10_needNumber N r0 0 999 S1 (fun (S2 : mSt) (v2 : Int) => ∀ v3 : Int, v3 = v2 → w_X10_need N r0 22 S2 (fun (S4 : mSt) => w_X10_needNumber N r0 1 99 S4 (fun (S5 : mSt) (v5 : Int) => w_X2_addDue N r1 v3 v5 S5 (fun (S6 : mSt) => Q S6)))))
theorem W_X0_readDue_13 (C : mC p l s m args meth c cX0_readDue "MoonWash$HouseText" 3 none g) (N : Nat) {Q : mSt → Prop}   (r0 : Nat) (kr0 : KX r0 = (0, 8, 0)) (r1 : Nat) (kr1 : KX r1 = (0, 1, 0)) (S : mSt) (H : Heap) (locs : List Loc) (ls : Array Slot) (hl : lv_has ls 3 [(0, .ref (b + r0)), (1, .ref (b + r1))]) (hW : mW g b KX S H) (hS : va_S (mA b KX s.heap.size) s.heap H locs) (h : w_X0_readDue_13 N Q  r0 r1 S) : W p l e { frames := 2, cells := 0, slots := 0, locals := 43 } s m args below meth c H locs 0 0 (vx_MQ below (mQv g b KX Q (mA b KX s.heap.size)) (mEx g b KX (fun _ _ => False) (mA b KX s.heap.size)) args s 0 0 (mA b KX s.heap.size)) (F0 m 13 ls []) := by
  unfold w_X0_readDue_13 at h
  refine m_aload_n (pc := 13) C.1 dX0_readDue_13 rfl hl 0 rfl ?_
  refine m_token (pc := 14) C.1 C.2.1 hW hS 21 (by decide) rfl q_731 dX0_readDue_14 ?_
  refine m_callVv (pc := 17) C.1 C.2.2.1 hl.1 C.2.1 hW hS (As := [.ref (g.ad 21)]) (rest := []) (r := r0) (T_X10_need C.2.2.2.2.2.2 N r0 kr0 21 (by decide : 21 < 36) h) kr0 rfl q_703 q_704 q_705 q_85 q_706 pl_X10_need (by decide) (Nat.le_of_ble_eq_true rfl) dX0_readDue_17 (fun S1 H locs h hW1 hS => ?_)
  refine m_aload_n (pc := 20) C.1 dX0_readDue_20 rfl hl 0 rfl ?_
  refine m_iconst (pc := 21) C.1 dX0_readDue_21 ?_
  refine m_sipush (pc := 22) C.1 dX0_readDue_22 rfl ?_
  refine m_callVi (pc := 25) C.1 C.2.2.1 hl.1 C.2.1 hW1 hS (As := [.int (mI 0), .int (mI 999)]) (rest := []) (r := r0) (T_X10_needNumber C.2.2.2.2.2.2 N r0 kr0 0 (by decide : okI 0) 999 (by decide : okI 999) h) kr0 rfl q_712 q_713 q_714 q_85 q_715 pl_X10_needNumber (by decide) (Nat.le_of_ble_eq_true rfl) dX0_readDue_25 (fun v2 S2 H locs ov2 h hW2 hS => ?_)
  refine m_istore_n (pc := 28) C.1 dX0_readDue_28 rfl hl (by decide) (fun v => [(2, .int v), (0, .ref (b + r0)), (1, .ref (b + r1))]) (fun _ => rfl) ov2 (fun v3 ls ev3 ov3 hl => ?_)
  replace h := h v3 ev3
  refine m_aload_n (pc := 29) C.1 dX0_readDue_29 rfl hl 1 rfl ?_
  refine m_token (pc := 30) C.1 C.2.1 hW2 hS 22 (by decide) rfl q_736 dX0_readDue_30 ?_
  refine m_callVv (pc := 33) C.1 C.2.2.1 hl.1 C.2.1 hW2 hS (As := [.ref (g.ad 22)]) (rest := []) (r := r0) (T_X10_need C.2.2.2.2.2.2 N r0 kr0 22 (by decide : 22 < 36) h) kr0 rfl q_703 q_704 q_705 q_85 q_706 pl_X10_need (by decide) (Nat.le_of_ble_eq_true rfl) dX0_readDue_33 (fun S4 H locs h hW4 hS => ?_)
  refine m_aload_n (pc := 36) C.1 dX0_readDue_36 rfl hl 2 rfl ?_
  refine m_iload_n (pc := 37) C.1 dX0_readDue_37 rfl hl 0 rfl ?_
  refine m_aload_n (pc := 38) C.1 dX0_readDue_38 rfl hl 1 rfl ?_
  refine m_iconst (pc := 39) C.1 dX0_readDue_39 ?_
  refine m_bipush (pc := 40) C.1 dX0_readDue_40 rfl ?_
  refine m_callVi (pc := 42) C.1 C.2.2.1 hl.1 C.2.1 hW4 hS (As := [.int (mI 1), .int (mI 99)]) (rest := [.int (mI v3), .ref (b + r1)]) (r := r0) (T_X10_needNumber C.2.2.2.2.2.2 N r0 kr0 1 (by decide : okI 1) 99 (by decide : okI 99) h) kr0 rfl q_712 q_713 q_714 q_85 q_715 pl_X10_needNumber (by decide) (Nat.le_of_ble_eq_true rfl) dX0_readDue_42 (fun v5 S5 H locs ov5 h hW5 hS => ?_)
  refine m_callVv (pc := 45) C.1 C.2.2.1 hl.1 C.2.1 hW5 hS (As := [.int (mI v3), .int (mI v5)]) (rest := []) (r := r1) (T_X2_addDue C.2.2.2.2.2.2 N r1 kr1 v3 ov3 v5 ov5 h) kr1 rfl q_738 q_739 q_740 q_82 q_741 pl_X2_addDue (by decide) (Nat.le_of_ble_eq_true rfl) dX0_readDue_45 (fun S6 H locs h hW6 hS => ?_)
  exact m_vret (pc := 48) C.1 C.2.2.2.1 C.2.2.2.2.1 hW6 hS h (by decide) (by decide) dX0_readDue_48
end
def w_X0_readDue (N : Nat) (r0 : Nat) (r1 : Nat) (S : mSt) (Q : mSt → Prop) : Prop :=
  (((S r1 4) < 8 → w_X0_readDue_13 N Q  r0 r1 S) ∧ (8 ≤ (S r1 4) → w_X10_refuse N r0 S (fun (S1 : mSt) => w_X0_readDue_13 N Q  r0 r1 S1)))
theorem T_X0_readDue {l : Launch} (hl0 : l.stackTraces = false) {g : mG} {b : Nat} (N : Nat) (r0 : Nat) (kr0 : KX r0 = (0, 8, 0)) (r1 : Nat) (kr1 : KX r1 = (0, 1, 0)) {S : mSt} {Q : mSt → Prop} (h : w_X0_readDue N r0 r1 S Q) (sz : Nat) : vx_Met l yX0_readDue (Cond.code yX0_readDue cX0_readDue 3 none :: wsG) { frames := 2, cells := 0, slots := 0, locals := 43 } (mPc g b KX S [.ref (b + r0), .ref (b + r1)] sz) (mQv g b KX Q (mA b KX sz)) (mEx g b KX (fun _ _ => False) (mA b KX sz)) 0 0 (mA b KX sz) :=
  m_of (av := [.ref (b + r0), .ref (b + r1)]) (Qf := fun A => mQv g b KX Q A) (Xf := fun A => mEx g b KX (fun _ _ => False) A) (by decide) (Nat.le_of_ble_eq_true rfl) (fun p e s m args below meth c ls X hK hml hr hlk hout hnm hW hl => by
    have C : mC p l s m args meth c cX0_readDue "MoonWash$HouseText" 3 none g := ⟨X, hK, hml, hr, hlk, hout, hl0⟩
    have hS : va_S (mA b KX s.heap.size) s.heap s.heap [] := va_S.rf
    have hl : lv_has ls 3 [(0, .ref (b + r0)), (1, .ref (b + r1))] := hl
    unfold w_X0_readDue at h
    refine m_aload_n (pc := 0) C.1 dX0_readDue_0 rfl hl 1 rfl ?_
    refine g_1_4 (pc := 1) C hW kr1 q_195 dX0_readDue_1 ?_
    refine m_bipush (pc := 4) C.1 dX0_readDue_4 rfl ?_
    refine m_icmp_lt (pc := 6) (tgt := 13) C.1 (hW.2.1 _ _) (by decide : okI 8) dX0_readDue_6 (by decide) (fun hc => ?_) (fun hc => ?_)
    · replace h := h.1 hc
      exact W_X0_readDue_13 C N  r0 kr0 r1 kr1 S _ _ _ (lv_sub hl [0, 1] rfl) hW hS h
    · replace h := h.2 hc
      refine m_aload_n (pc := 9) C.1 dX0_readDue_9 rfl hl 0 rfl ?_
      refine m_callVv (pc := 10) C.1 C.2.2.1 hl.1 C.2.1 hW hS (As := []) (rest := []) (r := r0) (T_X10_refuse C.2.2.2.2.2.2 N r0 kr0 h) kr0 rfl q_699 q_700 q_701 q_85 q_702 pl_X10_refuse (by decide) (Nat.le_of_ble_eq_true rfl) dX0_readDue_10 (fun S1 H locs h hW1 hS => ?_)
      exact W_X0_readDue_13 C N  r0 kr0 r1 kr1 S1 _ _ _ (lv_sub hl [0, 1] rfl) hW1 hS h) sz
section
variable {p : Program} {l : Launch} {e : Env} {s : State} {m : MethodId} {args : Array Value} {below : List Frame} {meth : Method} {c : Code} {g : mG} {b : Nat}
def w_X0_readPart_71 (N : Nat) (Q : mSt → Prop)  (xs0 : Int) (xs1 : Int) (rs2 : Nat) (S : mSt) : Prop :=
  (0 ≤ xs1 ∧ xs1 < 8 ∧ ∀ S2 : mSt, S2 = mup S rs2 xs1 xs0 → Q S2)
theorem W_X0_readPart_71 (C : mC p l s m args meth c cX0_readPart "MoonWash$HouseText" 3 none g) (N : Nat) {Q : mSt → Prop}   (xs0 : Int) (oxs0 : okI xs0) (xs1 : Int) (oxs1 : okI xs1) (rs2 : Nat) (krs2 : KX rs2 = (1, 8, 0)) (S : mSt) (H : Heap) (locs : List Loc) (ls : Array Slot) (hl : lv_has ls 3 []) (hW : mW g b KX S H) (hS : va_S (mA b KX s.heap.size) s.heap H locs) (h : w_X0_readPart_71 N Q  xs0 xs1 rs2 S) : W p l e { frames := 2, cells := 0, slots := 0, locals := 43 } s m args below meth c H locs 0 0 (vx_MQ below (mQv g b KX Q (mA b KX s.heap.size)) (mEx g b KX (fun _ _ => False) (mA b KX s.heap.size)) args s 0 0 (mA b KX s.heap.size)) (F0 m 71 ls [.int (mI xs0), .int (mI xs1), .ref (b + rs2)]) := by
  unfold w_X0_readPart_71 at h
  obtain ⟨hb1a, hb1b, h⟩ := h
  refine m_iast (pc := 71) C.1 C.2.1 hW hS krs2 oxs1 oxs0 hb1a hb1b dX0_readPart_71 (fun S2 H locs e2 hW2 hS => ?_)
  replace h := h S2 e2
  exact m_vret (pc := 72) C.1 C.2.2.2.1 C.2.2.2.2.1 hW2 hS h (by decide) (by decide) dX0_readPart_72
end
def w_X0_readPart (N : Nat) (r0 : Nat) (r1 : Nat) (S : mSt) (Q : mSt → Prop) : Prop :=
  w_X10_needNumber N r0 0 7 S (fun (S1 : mSt) (v1 : Int) => ∀ v2 : Int, v2 = v1 → w_X10_need N r0 14 S1 (fun (S3 : mSt) => w_X10_needNumber N r0 0 9 S3 (fun (S4 : mSt) (v4 : Int) => (0 ≤ v2 ∧ v2 < 8 ∧ ∀ S6 : mSt, S6 = mup S4 (r1 + 1) v2 v4 → w_X10_need N r0 15 S6 (fun (S7 : mSt) => w_X10_needNumber N r0 0 9 S7 (fun (S8 : mSt) (v8 : Int) => (0 ≤ v2 ∧ v2 < 8 ∧ ∀ S10 : mSt, S10 = mup S8 (r1 + 2) v2 v8 → w_X10_takes N r0 17 S10 (fun (S11 : mSt) (v11 : Int) => ((v11 = 0 → w_X0_readPart_71 N Q  0 v2 (r1 + 4) S11) ∧ (v11 ≠ 0 → w_X10_needKinds N r0 S11 (fun (S12 : mSt) (v12 : Int) => w_X0_readPart_71 N Q  v12 v2 (r1 + 4) S12)))))))))))
theorem T_X0_readPart {l : Launch} (hl0 : l.stackTraces = false) {g : mG} {b : Nat} (N : Nat) (r0 : Nat) (kr0 : KX r0 = (0, 8, 0)) (r1 : Nat) (kr1 : KX r1 = (0, 3, 0)) {S : mSt} {Q : mSt → Prop} (h : w_X0_readPart N r0 r1 S Q) (sz : Nat) : vx_Met l yX0_readPart (Cond.code yX0_readPart cX0_readPart 3 none :: wsG) { frames := 2, cells := 0, slots := 0, locals := 43 } (mPc g b KX S [.ref (b + r0), .ref (b + r1)] sz) (mQv g b KX Q (mA b KX sz)) (mEx g b KX (fun _ _ => False) (mA b KX sz)) 0 0 (mA b KX sz) :=
  m_of (av := [.ref (b + r0), .ref (b + r1)]) (Qf := fun A => mQv g b KX Q A) (Xf := fun A => mEx g b KX (fun _ _ => False) A) (by decide) (Nat.le_of_ble_eq_true rfl) (fun p e s m args below meth c ls X hK hml hr hlk hout hnm hW hl => by
    have C : mC p l s m args meth c cX0_readPart "MoonWash$HouseText" 3 none g := ⟨X, hK, hml, hr, hlk, hout, hl0⟩
    have hS : va_S (mA b KX s.heap.size) s.heap s.heap [] := va_S.rf
    have hl : lv_has ls 3 [(0, .ref (b + r0)), (1, .ref (b + r1))] := hl
    unfold w_X0_readPart at h
    refine m_aload_n (pc := 0) C.1 dX0_readPart_0 rfl hl 0 rfl ?_
    refine m_iconst (pc := 1) C.1 dX0_readPart_1 ?_
    refine m_bipush (pc := 2) C.1 dX0_readPart_2 rfl ?_
    refine m_callVi (pc := 4) C.1 C.2.2.1 hl.1 C.2.1 hW hS (As := [.int (mI 0), .int (mI 7)]) (rest := []) (r := r0) (T_X10_needNumber C.2.2.2.2.2.2 N r0 kr0 0 (by decide : okI 0) 7 (by decide : okI 7) h) kr0 rfl q_712 q_713 q_714 q_85 q_715 pl_X10_needNumber (by decide) (Nat.le_of_ble_eq_true rfl) dX0_readPart_4 (fun v1 S1 H locs ov1 h hW1 hS => ?_)
    refine m_istore_n (pc := 7) C.1 dX0_readPart_7 rfl hl (by decide) (fun v => [(2, .int v), (0, .ref (b + r0)), (1, .ref (b + r1))]) (fun _ => rfl) ov1 (fun v2 ls ev2 ov2 hl => ?_)
    replace h := h v2 ev2
    refine m_aload_n (pc := 8) C.1 dX0_readPart_8 rfl hl 1 rfl ?_
    refine m_token (pc := 9) C.1 C.2.1 hW1 hS 14 (by decide) rfl q_747 dX0_readPart_9 ?_
    refine m_callVv (pc := 12) C.1 C.2.2.1 hl.1 C.2.1 hW1 hS (As := [.ref (g.ad 14)]) (rest := []) (r := r0) (T_X10_need C.2.2.2.2.2.2 N r0 kr0 14 (by decide : 14 < 36) h) kr0 rfl q_703 q_704 q_705 q_85 q_706 pl_X10_need (by decide) (Nat.le_of_ble_eq_true rfl) dX0_readPart_12 (fun S3 H locs h hW3 hS => ?_)
    refine m_aload_n (pc := 15) C.1 dX0_readPart_15 rfl hl 2 rfl ?_
    refine g_3_0 (pc := 16) C hW3 kr1 q_131 dX0_readPart_16 ?_
    refine m_iload_n (pc := 19) C.1 dX0_readPart_19 rfl hl 0 rfl ?_
    refine m_aload_n (pc := 20) C.1 dX0_readPart_20 rfl hl 1 rfl ?_
    refine m_iconst (pc := 21) C.1 dX0_readPart_21 ?_
    refine m_bipush (pc := 22) C.1 dX0_readPart_22 rfl ?_
    refine m_callVi (pc := 24) C.1 C.2.2.1 hl.1 C.2.1 hW3 hS (As := [.int (mI 0), .int (mI 9)]) (rest := [.int (mI v2), .ref (b + (r1 + 1))]) (r := r0) (T_X10_needNumber C.2.2.2.2.2.2 N r0 kr0 0 (by decide : okI 0) 9 (by decide : okI 9) h) kr0 rfl q_712 q_713 q_714 q_85 q_715 pl_X10_needNumber (by decide) (Nat.le_of_ble_eq_true rfl) dX0_readPart_24 (fun v4 S4 H locs ov4 h hW4 hS => ?_)
    obtain ⟨hb5a, hb5b, h⟩ := h
    refine m_iast (pc := 27) C.1 C.2.1 hW4 hS (k_3_0 kr1) ov2 ov4 hb5a hb5b dX0_readPart_27 (fun S6 H locs e6 hW6 hS => ?_)
    replace h := h S6 e6
    refine m_aload_n (pc := 28) C.1 dX0_readPart_28 rfl hl 1 rfl ?_
    refine m_token (pc := 29) C.1 C.2.1 hW6 hS 15 (by decide) rfl q_749 dX0_readPart_29 ?_
    refine m_callVv (pc := 32) C.1 C.2.2.1 hl.1 C.2.1 hW6 hS (As := [.ref (g.ad 15)]) (rest := []) (r := r0) (T_X10_need C.2.2.2.2.2.2 N r0 kr0 15 (by decide : 15 < 36) h) kr0 rfl q_703 q_704 q_705 q_85 q_706 pl_X10_need (by decide) (Nat.le_of_ble_eq_true rfl) dX0_readPart_32 (fun S7 H locs h hW7 hS => ?_)
    refine m_aload_n (pc := 35) C.1 dX0_readPart_35 rfl hl 2 rfl ?_
    refine g_3_1 (pc := 36) C hW7 kr1 q_136 dX0_readPart_36 ?_
    refine m_iload_n (pc := 39) C.1 dX0_readPart_39 rfl hl 0 rfl ?_
    refine m_aload_n (pc := 40) C.1 dX0_readPart_40 rfl hl 1 rfl ?_
    refine m_iconst (pc := 41) C.1 dX0_readPart_41 ?_
    refine m_bipush (pc := 42) C.1 dX0_readPart_42 rfl ?_
    refine m_callVi (pc := 44) C.1 C.2.2.1 hl.1 C.2.1 hW7 hS (As := [.int (mI 0), .int (mI 9)]) (rest := [.int (mI v2), .ref (b + (r1 + 2))]) (r := r0) (T_X10_needNumber C.2.2.2.2.2.2 N r0 kr0 0 (by decide : okI 0) 9 (by decide : okI 9) h) kr0 rfl q_712 q_713 q_714 q_85 q_715 pl_X10_needNumber (by decide) (Nat.le_of_ble_eq_true rfl) dX0_readPart_44 (fun v8 S8 H locs ov8 h hW8 hS => ?_)
    obtain ⟨hb9a, hb9b, h⟩ := h
    refine m_iast (pc := 47) C.1 C.2.1 hW8 hS (k_3_1 kr1) ov2 ov8 hb9a hb9b dX0_readPart_47 (fun S10 H locs e10 hW10 hS => ?_)
    replace h := h S10 e10
    refine m_aload_n (pc := 48) C.1 dX0_readPart_48 rfl hl 2 rfl ?_
    refine g_3_3 (pc := 49) C hW10 kr1 q_144 dX0_readPart_49 ?_
    refine m_iload_n (pc := 52) C.1 dX0_readPart_52 rfl hl 0 rfl ?_
    refine m_aload_n (pc := 53) C.1 dX0_readPart_53 rfl hl 1 rfl ?_
    refine m_token (pc := 54) C.1 C.2.1 hW10 hS 17 (by decide) rfl q_751 dX0_readPart_54 ?_
    refine m_callVi (pc := 57) C.1 C.2.2.1 hl.1 C.2.1 hW10 hS (As := [.ref (g.ad 17)]) (rest := [.int (mI v2), .ref (b + (r1 + 4))]) (r := r0) (T_X10_takes C.2.2.2.2.2.2 N r0 kr0 17 (by decide : 17 < 36) h) kr0 rfl q_722 q_708 q_709 q_85 q_710 pl_X10_takes (by decide) (Nat.le_of_ble_eq_true rfl) dX0_readPart_57 (fun v11 S11 H locs ov11 h hW11 hS => ?_)
    refine m_if_eq (pc := 60) (tgt := 70) C.1 ov11 dX0_readPart_60 (by decide) (fun hc => ?_) (fun hc => ?_)
    · replace h := h.1 hc
      refine m_iconst (pc := 70) C.1 dX0_readPart_70 ?_
      exact W_X0_readPart_71 C N  0 (by decide : okI 0) v2 ov2 (r1 + 4) (k_3_3 kr1) S11 _ _ _ (lv_sub hl [] rfl) hW11 hS h
    · replace h := h.2 hc
      refine m_aload_n (pc := 63) C.1 dX0_readPart_63 rfl hl 1 rfl ?_
      refine m_callVi (pc := 64) C.1 C.2.2.1 hl.1 C.2.1 hW11 hS (As := []) (rest := [.int (mI v2), .ref (b + (r1 + 4))]) (r := r0) (T_X10_needKinds C.2.2.2.2.2.2 N r0 kr0 h) kr0 rfl q_723 q_724 q_725 q_85 q_726 pl_X10_needKinds (by decide) (Nat.le_of_ble_eq_true rfl) dX0_readPart_64 (fun v12 S12 H locs ov12 h hW12 hS => ?_)
      refine m_goto (pc := 67) (tgt := 71) C.1 dX0_readPart_67 (by decide) ?_
      exact W_X0_readPart_71 C N  v12 ov12 v2 ov2 (r1 + 4) (k_3_3 kr1) S12 _ _ _ (lv_sub hl [] rfl) hW12 hS h) sz
section
variable {p : Program} {l : Launch} {e : Env} {s : State} {m : MethodId} {args : Array Value} {below : List Frame} {meth : Method} {c : Code} {g : mG} {b : Nat}
end
def w_X0_readLine (N : Nat) (r0 : Nat) (r1 : Nat) (S : mSt) (Q : mSt → Prop) : Prop :=
  w_X10_sees N r0 9 S (fun (S1 : mSt) (v1 : Int) => ((v1 = 0 → w_X10_sees N r0 21 S1 (fun (S2 : mSt) (v2 : Int) => ((v2 = 0 → w_X10_takes N r0 13 S2 (fun (S3 : mSt) (v3 : Int) => ((v3 = 0 → w_X10_takes N r0 18 S3 (fun (S4 : mSt) (v4 : Int) => ((v4 = 0 → w_X10_takes N r0 23 S4 (fun (S5 : mSt) (v5 : Int) => ((v5 = 0 → w_X10_takes N r0 10 S5 (fun (S6 : mSt) (v6 : Int) => ((v6 = 0 → w_X10_takes N r0 24 S6 (fun (S7 : mSt) (v7 : Int) => ((v7 = 0 → w_X10_takes N r0 25 S7 (fun (S8 : mSt) (v8 : Int) => ((v8 = 0 → w_X10_refuse N r0 S8 (fun (S9 : mSt) => Q S9)) ∧ (v8 ≠ 0 → w_X10_needNumber N r0 0 100 S8 (fun (S10 : mSt) (v10 : Int) => ∀ S11 : mSt, S11 = mup S10 r1 9 v10 → Q S11))))) ∧ (v7 ≠ 0 → w_X10_needNumber N r0 0 100 S7 (fun (S12 : mSt) (v12 : Int) => ∀ S13 : mSt, S13 = mup S12 r1 8 v12 → Q S13))))) ∧ (v6 ≠ 0 → w_X10_needNumber N r0 0 99 S6 (fun (S14 : mSt) (v14 : Int) => ∀ S15 : mSt, S15 = mup S14 r1 6 v14 → Q S15))))) ∧ (v5 ≠ 0 → w_X10_needNumber N r0 0 20 S5 (fun (S16 : mSt) (v16 : Int) => ∀ S17 : mSt, S17 = mup S16 r1 7 v16 → Q S17))))) ∧ (v4 ≠ 0 → w_X10_needNumber N r0 0 7 S4 (fun (S18 : mSt) (v18 : Int) => ∀ v19 : Int, v19 = v18 → w_X10_needNumber N r0 0 9 S18 (fun (S20 : mSt) (v20 : Int) => (0 ≤ v19 ∧ v19 < 8 ∧ ∀ S22 : mSt, S22 = mup S20 ((r1 + 1) + 6) v19 v20 → Q S22))))))) ∧ (v3 ≠ 0 → w_X0_readPart N r0 (r1 + 1) S3 (fun (S23 : mSt) => Q S23))))) ∧ (v2 ≠ 0 → w_X0_readDue N r0 r1 S2 (fun (S24 : mSt) => Q S24))))) ∧ (v1 ≠ 0 → w_X0_readSoap N r0 r1 S1 (fun (S25 : mSt) => Q S25))))
theorem T_X0_readLine {l : Launch} (hl0 : l.stackTraces = false) {g : mG} {b : Nat} (N : Nat) (r0 : Nat) (kr0 : KX r0 = (0, 8, 0)) (r1 : Nat) (kr1 : KX r1 = (0, 1, 0)) {S : mSt} {Q : mSt → Prop} (h : w_X0_readLine N r0 r1 S Q) (sz : Nat) : vx_Met l yX0_readLine (Cond.code yX0_readLine cX0_readLine 3 none :: wsG) { frames := 3, cells := 0, slots := 0, locals := 68 } (mPc g b KX S [.ref (b + r0), .ref (b + r1)] sz) (mQv g b KX Q (mA b KX sz)) (mEx g b KX (fun _ _ => False) (mA b KX sz)) 0 0 (mA b KX sz) :=
  m_of (av := [.ref (b + r0), .ref (b + r1)]) (Qf := fun A => mQv g b KX Q A) (Xf := fun A => mEx g b KX (fun _ _ => False) A) (by decide) (Nat.le_of_ble_eq_true rfl) (fun p e s m args below meth c ls X hK hml hr hlk hout hnm hW hl => by
    have C : mC p l s m args meth c cX0_readLine "MoonWash$HouseText" 3 none g := ⟨X, hK, hml, hr, hlk, hout, hl0⟩
    have hS : va_S (mA b KX s.heap.size) s.heap s.heap [] := va_S.rf
    have hl : lv_has ls 3 [(0, .ref (b + r0)), (1, .ref (b + r1))] := hl
    unfold w_X0_readLine at h
    refine m_aload_n (pc := 0) C.1 dX0_readLine_0 rfl hl 0 rfl ?_
    refine m_token (pc := 1) C.1 C.2.1 hW hS 9 (by decide) rfl q_694 dX0_readLine_1 ?_
    refine m_callVi (pc := 4) C.1 C.2.2.1 hl.1 C.2.1 hW hS (As := [.ref (g.ad 9)]) (rest := []) (r := r0) (T_X10_sees C.2.2.2.2.2.2 N r0 kr0 9 (by decide : 9 < 36) h) kr0 rfl q_687 q_688 q_689 q_85 q_690 pl_X10_sees (by decide) (Nat.le_of_ble_eq_true rfl) dX0_readLine_4 (fun v1 S1 H locs ov1 h hW1 hS => ?_)
    refine m_if_eq (pc := 7) (tgt := 18) C.1 ov1 dX0_readLine_7 (by decide) (fun hc => ?_) (fun hc => ?_)
    · replace h := h.1 hc
      refine m_aload_n (pc := 18) C.1 dX0_readLine_18 rfl hl 0 rfl ?_
      refine m_token (pc := 19) C.1 C.2.1 hW1 hS 21 (by decide) rfl q_731 dX0_readLine_19 ?_
      refine m_callVi (pc := 22) C.1 C.2.2.1 hl.1 C.2.1 hW1 hS (As := [.ref (g.ad 21)]) (rest := []) (r := r0) (T_X10_sees C.2.2.2.2.2.2 N r0 kr0 21 (by decide : 21 < 36) h) kr0 rfl q_687 q_688 q_689 q_85 q_690 pl_X10_sees (by decide) (Nat.le_of_ble_eq_true rfl) dX0_readLine_22 (fun v2 S2 H locs ov2 h hW2 hS => ?_)
      refine m_if_eq (pc := 25) (tgt := 36) C.1 ov2 dX0_readLine_25 (by decide) (fun hc => ?_) (fun hc => ?_)
      · replace h := h.1 hc
        refine m_aload_n (pc := 36) C.1 dX0_readLine_36 rfl hl 0 rfl ?_
        refine m_token (pc := 37) C.1 C.2.1 hW2 hS 13 (by decide) rfl q_742 dX0_readLine_37 ?_
        refine m_callVi (pc := 40) C.1 C.2.2.1 hl.1 C.2.1 hW2 hS (As := [.ref (g.ad 13)]) (rest := []) (r := r0) (T_X10_takes C.2.2.2.2.2.2 N r0 kr0 13 (by decide : 13 < 36) h) kr0 rfl q_722 q_708 q_709 q_85 q_710 pl_X10_takes (by decide) (Nat.le_of_ble_eq_true rfl) dX0_readLine_40 (fun v3 S3 H locs ov3 h hW3 hS => ?_)
        refine m_if_eq (pc := 43) (tgt := 57) C.1 ov3 dX0_readLine_43 (by decide) (fun hc => ?_) (fun hc => ?_)
        · replace h := h.1 hc
          refine m_aload_n (pc := 57) C.1 dX0_readLine_57 rfl hl 0 rfl ?_
          refine m_token (pc := 58) C.1 C.2.1 hW3 hS 18 (by decide) rfl q_753 dX0_readLine_58 ?_
          refine m_callVi (pc := 61) C.1 C.2.2.1 hl.1 C.2.1 hW3 hS (As := [.ref (g.ad 18)]) (rest := []) (r := r0) (T_X10_takes C.2.2.2.2.2.2 N r0 kr0 18 (by decide : 18 < 36) h) kr0 rfl q_722 q_708 q_709 q_85 q_710 pl_X10_takes (by decide) (Nat.le_of_ble_eq_true rfl) dX0_readLine_61 (fun v4 S4 H locs ov4 h hW4 hS => ?_)
          refine m_if_eq (pc := 64) (tgt := 94) C.1 ov4 dX0_readLine_64 (by decide) (fun hc => ?_) (fun hc => ?_)
          · replace h := h.1 hc
            refine m_aload_n (pc := 94) C.1 dX0_readLine_94 rfl hl 0 rfl ?_
            refine m_token (pc := 95) C.1 C.2.1 hW4 hS 23 (by decide) rfl q_755 dX0_readLine_95 ?_
            refine m_callVi (pc := 98) C.1 C.2.2.1 hl.1 C.2.1 hW4 hS (As := [.ref (g.ad 23)]) (rest := []) (r := r0) (T_X10_takes C.2.2.2.2.2.2 N r0 kr0 23 (by decide : 23 < 36) h) kr0 rfl q_722 q_708 q_709 q_85 q_710 pl_X10_takes (by decide) (Nat.le_of_ble_eq_true rfl) dX0_readLine_98 (fun v5 S5 H locs ov5 h hW5 hS => ?_)
            refine m_if_eq (pc := 101) (tgt := 118) C.1 ov5 dX0_readLine_101 (by decide) (fun hc => ?_) (fun hc => ?_)
            · replace h := h.1 hc
              refine m_aload_n (pc := 118) C.1 dX0_readLine_118 rfl hl 0 rfl ?_
              refine m_token (pc := 119) C.1 C.2.1 hW5 hS 10 (by decide) rfl q_716 dX0_readLine_119 ?_
              refine m_callVi (pc := 122) C.1 C.2.2.1 hl.1 C.2.1 hW5 hS (As := [.ref (g.ad 10)]) (rest := []) (r := r0) (T_X10_takes C.2.2.2.2.2.2 N r0 kr0 10 (by decide : 10 < 36) h) kr0 rfl q_722 q_708 q_709 q_85 q_710 pl_X10_takes (by decide) (Nat.le_of_ble_eq_true rfl) dX0_readLine_122 (fun v6 S6 H locs ov6 h hW6 hS => ?_)
              refine m_if_eq (pc := 125) (tgt := 142) C.1 ov6 dX0_readLine_125 (by decide) (fun hc => ?_) (fun hc => ?_)
              · replace h := h.1 hc
                refine m_aload_n (pc := 142) C.1 dX0_readLine_142 rfl hl 0 rfl ?_
                refine m_token (pc := 143) C.1 C.2.1 hW6 hS 24 (by decide) rfl q_757 dX0_readLine_143 ?_
                refine m_callVi (pc := 146) C.1 C.2.2.1 hl.1 C.2.1 hW6 hS (As := [.ref (g.ad 24)]) (rest := []) (r := r0) (T_X10_takes C.2.2.2.2.2.2 N r0 kr0 24 (by decide : 24 < 36) h) kr0 rfl q_722 q_708 q_709 q_85 q_710 pl_X10_takes (by decide) (Nat.le_of_ble_eq_true rfl) dX0_readLine_146 (fun v7 S7 H locs ov7 h hW7 hS => ?_)
                refine m_if_eq (pc := 149) (tgt := 166) C.1 ov7 dX0_readLine_149 (by decide) (fun hc => ?_) (fun hc => ?_)
                · replace h := h.1 hc
                  refine m_aload_n (pc := 166) C.1 dX0_readLine_166 rfl hl 0 rfl ?_
                  refine m_token (pc := 167) C.1 C.2.1 hW7 hS 25 (by decide) rfl q_759 dX0_readLine_167 ?_
                  refine m_callVi (pc := 170) C.1 C.2.2.1 hl.1 C.2.1 hW7 hS (As := [.ref (g.ad 25)]) (rest := []) (r := r0) (T_X10_takes C.2.2.2.2.2.2 N r0 kr0 25 (by decide : 25 < 36) h) kr0 rfl q_722 q_708 q_709 q_85 q_710 pl_X10_takes (by decide) (Nat.le_of_ble_eq_true rfl) dX0_readLine_170 (fun v8 S8 H locs ov8 h hW8 hS => ?_)
                  refine m_if_eq (pc := 173) (tgt := 190) C.1 ov8 dX0_readLine_173 (by decide) (fun hc => ?_) (fun hc => ?_)
                  · replace h := h.1 hc
                    refine m_aload_n (pc := 190) C.1 dX0_readLine_190 rfl hl 0 rfl ?_
                    refine m_callVv (pc := 191) C.1 C.2.2.1 hl.1 C.2.1 hW8 hS (As := []) (rest := []) (r := r0) (T_X10_refuse C.2.2.2.2.2.2 N r0 kr0 h) kr0 rfl q_699 q_700 q_701 q_85 q_702 pl_X10_refuse (by decide) (Nat.le_of_ble_eq_true rfl) dX0_readLine_191 (fun S9 H locs h hW9 hS => ?_)
                    exact m_vret (pc := 194) C.1 C.2.2.2.1 C.2.2.2.2.1 hW9 hS h (by decide) (by decide) dX0_readLine_194
                  · replace h := h.2 hc
                    refine m_aload_n (pc := 176) C.1 dX0_readLine_176 rfl hl 1 rfl ?_
                    refine m_aload_n (pc := 177) C.1 dX0_readLine_177 rfl hl 0 rfl ?_
                    refine m_iconst (pc := 178) C.1 dX0_readLine_178 ?_
                    refine m_bipush (pc := 179) C.1 dX0_readLine_179 rfl ?_
                    refine m_callVi (pc := 181) C.1 C.2.2.1 hl.1 C.2.1 hW8 hS (As := [.int (mI 0), .int (mI 100)]) (rest := [.ref (b + r1)]) (r := r0) (T_X10_needNumber C.2.2.2.2.2.2 N r0 kr0 0 (by decide : okI 0) 100 (by decide : okI 100) h) kr0 rfl q_712 q_713 q_714 q_85 q_715 pl_X10_needNumber (by decide) (Nat.le_of_ble_eq_true rfl) dX0_readLine_181 (fun v10 S10 H locs ov10 h hW10 hS => ?_)
                    refine p_1_9 (pc := 184) C hW10 hS kr1 q_209 ov10 dX0_readLine_184 (fun S11 H locs e11 hW11 hS => ?_)
                    replace h := h S11 e11
                    refine m_goto (pc := 187) (tgt := 194) C.1 dX0_readLine_187 (by decide) ?_
                    exact m_vret (pc := 194) C.1 C.2.2.2.1 C.2.2.2.2.1 hW11 hS h (by decide) (by decide) dX0_readLine_194
                · replace h := h.2 hc
                  refine m_aload_n (pc := 152) C.1 dX0_readLine_152 rfl hl 1 rfl ?_
                  refine m_aload_n (pc := 153) C.1 dX0_readLine_153 rfl hl 0 rfl ?_
                  refine m_iconst (pc := 154) C.1 dX0_readLine_154 ?_
                  refine m_bipush (pc := 155) C.1 dX0_readLine_155 rfl ?_
                  refine m_callVi (pc := 157) C.1 C.2.2.1 hl.1 C.2.1 hW7 hS (As := [.int (mI 0), .int (mI 100)]) (rest := [.ref (b + r1)]) (r := r0) (T_X10_needNumber C.2.2.2.2.2.2 N r0 kr0 0 (by decide : okI 0) 100 (by decide : okI 100) h) kr0 rfl q_712 q_713 q_714 q_85 q_715 pl_X10_needNumber (by decide) (Nat.le_of_ble_eq_true rfl) dX0_readLine_157 (fun v12 S12 H locs ov12 h hW12 hS => ?_)
                  refine p_1_8 (pc := 160) C hW12 hS kr1 q_206 ov12 dX0_readLine_160 (fun S13 H locs e13 hW13 hS => ?_)
                  replace h := h S13 e13
                  refine m_goto (pc := 163) (tgt := 194) C.1 dX0_readLine_163 (by decide) ?_
                  exact m_vret (pc := 194) C.1 C.2.2.2.1 C.2.2.2.2.1 hW13 hS h (by decide) (by decide) dX0_readLine_194
              · replace h := h.2 hc
                refine m_aload_n (pc := 128) C.1 dX0_readLine_128 rfl hl 1 rfl ?_
                refine m_aload_n (pc := 129) C.1 dX0_readLine_129 rfl hl 0 rfl ?_
                refine m_iconst (pc := 130) C.1 dX0_readLine_130 ?_
                refine m_bipush (pc := 131) C.1 dX0_readLine_131 rfl ?_
                refine m_callVi (pc := 133) C.1 C.2.2.1 hl.1 C.2.1 hW6 hS (As := [.int (mI 0), .int (mI 99)]) (rest := [.ref (b + r1)]) (r := r0) (T_X10_needNumber C.2.2.2.2.2.2 N r0 kr0 0 (by decide : okI 0) 99 (by decide : okI 99) h) kr0 rfl q_712 q_713 q_714 q_85 q_715 pl_X10_needNumber (by decide) (Nat.le_of_ble_eq_true rfl) dX0_readLine_133 (fun v14 S14 H locs ov14 h hW14 hS => ?_)
                refine p_1_6 (pc := 136) C hW14 hS kr1 q_200 ov14 dX0_readLine_136 (fun S15 H locs e15 hW15 hS => ?_)
                replace h := h S15 e15
                refine m_goto (pc := 139) (tgt := 194) C.1 dX0_readLine_139 (by decide) ?_
                exact m_vret (pc := 194) C.1 C.2.2.2.1 C.2.2.2.2.1 hW15 hS h (by decide) (by decide) dX0_readLine_194
            · replace h := h.2 hc
              refine m_aload_n (pc := 104) C.1 dX0_readLine_104 rfl hl 1 rfl ?_
              refine m_aload_n (pc := 105) C.1 dX0_readLine_105 rfl hl 0 rfl ?_
              refine m_iconst (pc := 106) C.1 dX0_readLine_106 ?_
              refine m_bipush (pc := 107) C.1 dX0_readLine_107 rfl ?_
              refine m_callVi (pc := 109) C.1 C.2.2.1 hl.1 C.2.1 hW5 hS (As := [.int (mI 0), .int (mI 20)]) (rest := [.ref (b + r1)]) (r := r0) (T_X10_needNumber C.2.2.2.2.2.2 N r0 kr0 0 (by decide : okI 0) 20 (by decide : okI 20) h) kr0 rfl q_712 q_713 q_714 q_85 q_715 pl_X10_needNumber (by decide) (Nat.le_of_ble_eq_true rfl) dX0_readLine_109 (fun v16 S16 H locs ov16 h hW16 hS => ?_)
              refine p_1_7 (pc := 112) C hW16 hS kr1 q_203 ov16 dX0_readLine_112 (fun S17 H locs e17 hW17 hS => ?_)
              replace h := h S17 e17
              refine m_goto (pc := 115) (tgt := 194) C.1 dX0_readLine_115 (by decide) ?_
              exact m_vret (pc := 194) C.1 C.2.2.2.1 C.2.2.2.2.1 hW17 hS h (by decide) (by decide) dX0_readLine_194
          · replace h := h.2 hc
            refine m_aload_n (pc := 67) C.1 dX0_readLine_67 rfl hl 0 rfl ?_
            refine m_iconst (pc := 68) C.1 dX0_readLine_68 ?_
            refine m_bipush (pc := 69) C.1 dX0_readLine_69 rfl ?_
            refine m_callVi (pc := 71) C.1 C.2.2.1 hl.1 C.2.1 hW4 hS (As := [.int (mI 0), .int (mI 7)]) (rest := []) (r := r0) (T_X10_needNumber C.2.2.2.2.2.2 N r0 kr0 0 (by decide : okI 0) 7 (by decide : okI 7) h) kr0 rfl q_712 q_713 q_714 q_85 q_715 pl_X10_needNumber (by decide) (Nat.le_of_ble_eq_true rfl) dX0_readLine_71 (fun v18 S18 H locs ov18 h hW18 hS => ?_)
            refine m_istore_n (pc := 74) C.1 dX0_readLine_74 rfl hl (by decide) (fun v => [(2, .int v), (0, .ref (b + r0)), (1, .ref (b + r1))]) (fun _ => rfl) ov18 (fun v19 ls ev19 ov19 hl => ?_)
            replace h := h v19 ev19
            refine m_aload_n (pc := 75) C.1 dX0_readLine_75 rfl hl 2 rfl ?_
            refine g_1_0 (pc := 76) C hW18 kr1 q_186 dX0_readLine_76 ?_
            refine g_3_5 (pc := 79) C hW18 (k_1_0 kr1) q_151 dX0_readLine_79 ?_
            refine m_iload_n (pc := 82) C.1 dX0_readLine_82 rfl hl 0 rfl ?_
            refine m_aload_n (pc := 83) C.1 dX0_readLine_83 rfl hl 1 rfl ?_
            refine m_iconst (pc := 84) C.1 dX0_readLine_84 ?_
            refine m_bipush (pc := 85) C.1 dX0_readLine_85 rfl ?_
            refine m_callVi (pc := 87) C.1 C.2.2.1 hl.1 C.2.1 hW18 hS (As := [.int (mI 0), .int (mI 9)]) (rest := [.int (mI v19), .ref (b + ((r1 + 1) + 6))]) (r := r0) (T_X10_needNumber C.2.2.2.2.2.2 N r0 kr0 0 (by decide : okI 0) 9 (by decide : okI 9) h) kr0 rfl q_712 q_713 q_714 q_85 q_715 pl_X10_needNumber (by decide) (Nat.le_of_ble_eq_true rfl) dX0_readLine_87 (fun v20 S20 H locs ov20 h hW20 hS => ?_)
            obtain ⟨hb21a, hb21b, h⟩ := h
            refine m_iast (pc := 90) C.1 C.2.1 hW20 hS (k_3_5 (k_1_0 kr1)) ov19 ov20 hb21a hb21b dX0_readLine_90 (fun S22 H locs e22 hW22 hS => ?_)
            replace h := h S22 e22
            refine m_goto (pc := 91) (tgt := 194) C.1 dX0_readLine_91 (by decide) ?_
            exact m_vret (pc := 194) C.1 C.2.2.2.1 C.2.2.2.2.1 hW22 hS h (by decide) (by decide) dX0_readLine_194
        · replace h := h.2 hc
          refine m_aload_n (pc := 46) C.1 dX0_readLine_46 rfl hl 0 rfl ?_
          refine m_aload_n (pc := 47) C.1 dX0_readLine_47 rfl hl 1 rfl ?_
          refine g_1_0 (pc := 48) C hW3 kr1 q_186 dX0_readLine_48 ?_
          refine m_callSv (pc := 51) C.1 C.2.2.1 hl.1 C.2.1 hW3 hS (As := [.ref (b + r0), .ref (b + (r1 + 1))]) (rest := []) (T_X0_readPart C.2.2.2.2.2.2 N r0 kr0 (r1 + 1) (k_1_0 kr1) h) q_744 q_745 q_99 q_746 pl_X0_readPart (by decide) (Nat.le_of_ble_eq_true rfl) dX0_readLine_51 (fun S23 H locs h hW23 hS => ?_)
          refine m_goto (pc := 54) (tgt := 194) C.1 dX0_readLine_54 (by decide) ?_
          exact m_vret (pc := 194) C.1 C.2.2.2.1 C.2.2.2.2.1 hW23 hS h (by decide) (by decide) dX0_readLine_194
      · replace h := h.2 hc
        refine m_aload_n (pc := 28) C.1 dX0_readLine_28 rfl hl 0 rfl ?_
        refine m_aload_n (pc := 29) C.1 dX0_readLine_29 rfl hl 1 rfl ?_
        refine m_callSv (pc := 30) C.1 C.2.2.1 hl.1 C.2.1 hW2 hS (As := [.ref (b + r0), .ref (b + r1)]) (rest := []) (T_X0_readDue C.2.2.2.2.2.2 N r0 kr0 r1 kr1 h) q_733 q_734 q_99 q_735 pl_X0_readDue (by decide) (Nat.le_of_ble_eq_true rfl) dX0_readLine_30 (fun S24 H locs h hW24 hS => ?_)
        refine m_goto (pc := 33) (tgt := 194) C.1 dX0_readLine_33 (by decide) ?_
        exact m_vret (pc := 194) C.1 C.2.2.2.1 C.2.2.2.2.1 hW24 hS h (by decide) (by decide) dX0_readLine_194
    · replace h := h.2 hc
      refine m_aload_n (pc := 10) C.1 dX0_readLine_10 rfl hl 0 rfl ?_
      refine m_aload_n (pc := 11) C.1 dX0_readLine_11 rfl hl 1 rfl ?_
      refine m_callSv (pc := 12) C.1 C.2.2.1 hl.1 C.2.1 hW1 hS (As := [.ref (b + r0), .ref (b + r1)]) (rest := []) (T_X0_readSoap C.2.2.2.2.2.2 N r0 kr0 r1 kr1 h) q_696 q_697 q_99 q_698 pl_X0_readSoap (by decide) (Nat.le_of_ble_eq_true rfl) dX0_readLine_12 (fun S25 H locs h hW25 hS => ?_)
      refine m_goto (pc := 15) (tgt := 194) C.1 dX0_readLine_15 (by decide) ?_
      exact m_vret (pc := 194) C.1 C.2.2.2.1 C.2.2.2.2.1 hW25 hS h (by decide) (by decide) dX0_readLine_194) sz
section
variable {p : Program} {l : Launch} {e : Env} {s : State} {m : MethodId} {args : Array Value} {below : List Frame} {meth : Method} {c : Code} {g : mG} {b : Nat}
end
def w_X10_needEnd (N : Nat) (r0 : Nat) (S : mSt) (Q : mSt → Prop) : Prop :=
  (0 ≤ (S r0 5) ∧ (S r0 5) < 401 ∧ ∀ t2 : Nat, (t2 : Int) = S (r0 + 2) (S r0 5) → ((t2 = 0 → Q S) ∧ (t2 ≠ 0 → w_X10_refuse N r0 S (fun (S3 : mSt) => Q S3))))
theorem T_X10_needEnd {l : Launch} (hl0 : l.stackTraces = false) {g : mG} {b : Nat} (N : Nat) (r0 : Nat) (kr0 : KX r0 = (0, 8, 0)) {S : mSt} {Q : mSt → Prop} (h : w_X10_needEnd N r0 S Q) (sz : Nat) : vx_Met l yX10_needEnd (Cond.code yX10_needEnd cX10_needEnd 1 none :: wsG) { frames := 1, cells := 0, slots := 0, locals := 20 } (mPc g b KX S [.ref (b + r0)] sz) (mQv g b KX Q (mA b KX sz)) (mEx g b KX (fun _ _ => False) (mA b KX sz)) 0 0 (mA b KX sz) :=
  m_of (av := [.ref (b + r0)]) (Qf := fun A => mQv g b KX Q A) (Xf := fun A => mEx g b KX (fun _ _ => False) A) (by decide) (Nat.le_of_ble_eq_true rfl) (fun p e s m args below meth c ls X hK hml hr hlk hout hnm hW hl => by
    have C : mC p l s m args meth c cX10_needEnd "MoonWash$Words" 1 none g := ⟨X, hK, hml, hr, hlk, hout, hl0⟩
    have hS : va_S (mA b KX s.heap.size) s.heap s.heap [] := va_S.rf
    have hl : lv_has ls 1 [(0, .ref (b + r0))] := hl
    unfold w_X10_needEnd at h
    refine m_aload_n (pc := 0) C.1 dX10_needEnd_0 rfl hl 0 rfl ?_
    refine g_8_1 (pc := 1) C hW kr0 q_285 dX10_needEnd_1 ?_
    refine m_aload_n (pc := 4) C.1 dX10_needEnd_4 rfl hl 0 rfl ?_
    refine g_8_5 (pc := 5) C hW kr0 q_289 dX10_needEnd_5 ?_
    obtain ⟨hb1a, hb1b, h⟩ := h
    refine m_aald5 (pc := 8) C.1 C.2.1 hW (k_8_1 kr0) (hW.2.1 _ _) hb1a hb1b dX10_needEnd_8 (fun t2 et2 ht2 => ?_)
    replace h := h t2 et2
    refine m_token (pc := 9) C.1 C.2.1 hW hS 0 (by decide) rfl q_282 dX10_needEnd_9 ?_
    refine m_acmp_eq (pc := 12) (tgt := 19) C.1 C.2.1 ht2 (by decide : 0 < 36) dX10_needEnd_12 (by decide) (fun hc => ?_) (fun hc => ?_)
    · replace h := h.1 hc
      exact m_vret (pc := 19) C.1 C.2.2.2.1 C.2.2.2.2.1 hW hS h (by decide) (by decide) dX10_needEnd_19
    · replace h := h.2 hc
      refine m_aload_n (pc := 15) C.1 dX10_needEnd_15 rfl hl 0 rfl ?_
      refine m_callVv (pc := 16) C.1 C.2.2.1 hl.1 C.2.1 hW hS (As := []) (rest := []) (r := r0) (T_X10_refuse C.2.2.2.2.2.2 N r0 kr0 h) kr0 rfl q_711 q_700 q_701 q_85 q_702 pl_X10_refuse (by decide) (Nat.le_of_ble_eq_true rfl) dX10_needEnd_16 (fun S3 H locs h hW3 hS => ?_)
      exact m_vret (pc := 19) C.1 C.2.2.2.1 C.2.2.2.2.1 hW3 hS h (by decide) (by decide) dX10_needEnd_19) sz
section
variable {p : Program} {l : Launch} {e : Env} {s : State} {m : MethodId} {args : Array Value} {below : List Frame} {meth : Method} {c : Code} {g : mG} {b : Nat}
def w_X0_read_13b (N : Nat) (Q : mSt → Prop) (ko13 : Nat → Nat → Int → mSt → Prop) (ko45 : Nat → mSt → Prop) (r0 : Nat) (r1 : Nat) (x2 : Int) (S : mSt) : Prop :=
  ((14 ≤ x2 → ko45 r0 S) ∧ (x2 < 14 → w_X0_readLine N r0 r1 S (fun (S1 : mSt) => w_X10_takes N r0 3 S1 (fun (S2 : mSt) (v2 : Int) => ((v2 ≠ 0 → ∀ v3 : Int, v3 = nm (x2 + 1) → ko13 r0 r1 v3 S2) ∧ (v2 = 0 → w_X10_needEnd N r0 S2 (fun (S4 : mSt) => Q S4)))))))
theorem W_X0_read_13b (C : mC p l s m args meth c cX0_read "MoonWash$HouseText" 3 none g) (N : Nat) {Q : mSt → Prop} {ko13 : Nat → Nat → Int → mSt → Prop} {ko45 : Nat → mSt → Prop} (hko13 : ∀ (r0 : Nat) (kr0 : KX r0 = (0, 8, 0)) (r1 : Nat) (kr1 : KX r1 = (0, 1, 0)) (x2 : Int) (ox2 : okI x2) (S : mSt) (H : Heap) (locs : List Loc) (ls : Array Slot), lv_has ls 3 [(0, .ref (b + r0)), (1, .ref (b + r1)), (2, .int (mI x2))] → mW g b KX S H → va_S (mA b KX s.heap.size) s.heap H locs → ko13 r0 r1 x2 S → W p l e { frames := 4, cells := 0, slots := 0, locals := 90 } s m args below meth c H locs 0 0 (vx_MQ below (mQv g b KX Q (mA b KX s.heap.size)) (mEx g b KX (fun _ _ => False) (mA b KX s.heap.size)) args s 0 0 (mA b KX s.heap.size)) (F0 m 13 ls [])) (hko45 : ∀ (r0 : Nat) (kr0 : KX r0 = (0, 8, 0)) (S : mSt) (H : Heap) (locs : List Loc) (ls : Array Slot), lv_has ls 3 [(0, .ref (b + r0))] → mW g b KX S H → va_S (mA b KX s.heap.size) s.heap H locs → ko45 r0 S → W p l e { frames := 4, cells := 0, slots := 0, locals := 90 } s m args below meth c H locs 0 0 (vx_MQ below (mQv g b KX Q (mA b KX s.heap.size)) (mEx g b KX (fun _ _ => False) (mA b KX s.heap.size)) args s 0 0 (mA b KX s.heap.size)) (F0 m 45 ls [])) (r0 : Nat) (kr0 : KX r0 = (0, 8, 0)) (r1 : Nat) (kr1 : KX r1 = (0, 1, 0)) (x2 : Int) (ox2 : okI x2) (S : mSt) (H : Heap) (locs : List Loc) (ls : Array Slot) (hl : lv_has ls 3 [(0, .ref (b + r0)), (1, .ref (b + r1)), (2, .int (mI x2))]) (hW : mW g b KX S H) (hS : va_S (mA b KX s.heap.size) s.heap H locs) (h : w_X0_read_13b N Q ko13 ko45 r0 r1 x2 S) : W p l e { frames := 4, cells := 0, slots := 0, locals := 90 } s m args below meth c H locs 0 0 (vx_MQ below (mQv g b KX Q (mA b KX s.heap.size)) (mEx g b KX (fun _ _ => False) (mA b KX s.heap.size)) args s 0 0 (mA b KX s.heap.size)) (F0 m 13 ls []) := by
  unfold w_X0_read_13b at h
  refine m_iload_n (pc := 13) C.1 dX0_read_13 rfl hl 2 rfl ?_
  refine m_bipush (pc := 14) C.1 dX0_read_14 rfl ?_
  refine m_icmp_ge (pc := 16) (tgt := 45) C.1 ox2 (by decide : okI 14) dX0_read_16 (by decide) (fun hc => ?_) (fun hc => ?_)
  · replace h := h.1 hc
    exact hko45 r0 kr0 S _ _ _ (lv_sub hl [0] rfl) hW hS h
  · replace h := h.2 hc
    refine m_aload_n (pc := 19) C.1 dX0_read_19 rfl hl 0 rfl ?_
    refine m_aload_n (pc := 20) C.1 dX0_read_20 rfl hl 1 rfl ?_
    refine m_callSv (pc := 21) C.1 C.2.2.1 hl.1 C.2.1 hW hS (As := [.ref (b + r0), .ref (b + r1)]) (rest := []) (T_X0_readLine C.2.2.2.2.2.2 N r0 kr0 r1 kr1 h) q_691 q_692 q_99 q_693 pl_X0_readLine (by decide) (Nat.le_of_ble_eq_true rfl) dX0_read_21 (fun S1 H locs h hW1 hS => ?_)
    refine m_aload_n (pc := 24) C.1 dX0_read_24 rfl hl 0 rfl ?_
    refine m_token (pc := 25) C.1 C.2.1 hW1 hS 3 (by decide) rfl q_761 dX0_read_25 ?_
    refine m_callVi (pc := 28) C.1 C.2.2.1 hl.1 C.2.1 hW1 hS (As := [.ref (g.ad 3)]) (rest := []) (r := r0) (T_X10_takes C.2.2.2.2.2.2 N r0 kr0 3 (by decide : 3 < 36) h) kr0 rfl q_722 q_708 q_709 q_85 q_710 pl_X10_takes (by decide) (Nat.le_of_ble_eq_true rfl) dX0_read_28 (fun v2 S2 H locs ov2 h hW2 hS => ?_)
    refine m_if_ne (pc := 31) (tgt := 39) C.1 ov2 dX0_read_31 (by decide) (fun hc => ?_) (fun hc => ?_)
    · replace h := h.1 hc
      refine m_iinc (pc := 39) C.1 dX0_read_39 hl (by decide) (q0 := 2) rfl (fun v => [(2, .int v), (0, .ref (b + r0)), (1, .ref (b + r1))]) (fun _ => rfl) (fun v3 ls ev3 ov3 hl => ?_)
      replace h := h v3 ev3
      refine m_goto (pc := 42) (tgt := 13) C.1 dX0_read_42 (by decide) ?_
      exact hko13 r0 kr0 r1 kr1 v3 ov3 S2 _ _ _ (lv_sub hl [1, 2, 0] rfl) hW2 hS h
    · replace h := h.2 hc
      refine m_aload_n (pc := 34) C.1 dX0_read_34 rfl hl 0 rfl ?_
      refine m_callVv (pc := 35) C.1 C.2.2.1 hl.1 C.2.1 hW2 hS (As := []) (rest := []) (r := r0) (T_X10_needEnd C.2.2.2.2.2.2 N r0 kr0 h) kr0 rfl q_763 q_764 q_765 q_85 q_766 pl_X10_needEnd (by decide) (Nat.le_of_ble_eq_true rfl) dX0_read_35 (fun S4 H locs h hW4 hS => ?_)
      exact m_vret (pc := 38) C.1 C.2.2.2.1 C.2.2.2.2.1 hW4 hS h (by decide) (by decide) dX0_read_38
def w_X0_read_13 (N : Nat) (Q : mSt → Prop) (ko45 : Nat → mSt → Prop) : Nat → Nat → Nat → Int → mSt → Prop
  | 0 => fun _ _ _ _ => False
  | k + 1 => w_X0_read_13b N Q (w_X0_read_13 N Q ko45 k) ko45
theorem W_X0_read_13 (C : mC p l s m args meth c cX0_read "MoonWash$HouseText" 3 none g) (N : Nat) {Q : mSt → Prop} {ko45 : Nat → mSt → Prop} (hko45 : ∀ (r0 : Nat) (kr0 : KX r0 = (0, 8, 0)) (S : mSt) (H : Heap) (locs : List Loc) (ls : Array Slot), lv_has ls 3 [(0, .ref (b + r0))] → mW g b KX S H → va_S (mA b KX s.heap.size) s.heap H locs → ko45 r0 S → W p l e { frames := 4, cells := 0, slots := 0, locals := 90 } s m args below meth c H locs 0 0 (vx_MQ below (mQv g b KX Q (mA b KX s.heap.size)) (mEx g b KX (fun _ _ => False) (mA b KX s.heap.size)) args s 0 0 (mA b KX s.heap.size)) (F0 m 45 ls [])) : ∀ (k : Nat) (r0 : Nat) (kr0 : KX r0 = (0, 8, 0)) (r1 : Nat) (kr1 : KX r1 = (0, 1, 0)) (x2 : Int) (ox2 : okI x2) (S : mSt) (H : Heap) (locs : List Loc) (ls : Array Slot) (hl : lv_has ls 3 [(0, .ref (b + r0)), (1, .ref (b + r1)), (2, .int (mI x2))]) (hW : mW g b KX S H) (hS : va_S (mA b KX s.heap.size) s.heap H locs) (h : w_X0_read_13 N Q ko45 k r0 r1 x2 S), W p l e { frames := 4, cells := 0, slots := 0, locals := 90 } s m args below meth c H locs 0 0 (vx_MQ below (mQv g b KX Q (mA b KX s.heap.size)) (mEx g b KX (fun _ _ => False) (mA b KX s.heap.size)) args s 0 0 (mA b KX s.heap.size)) (F0 m 13 ls []) := by
  intro k
  induction k with
  | zero => intro r0 kr0 r1 kr1 x2 ox2 S H locs ls hl hW hS h; exact False.elim h
  | succ k ih => intro r0 kr0 r1 kr1 x2 ox2 S H locs ls hl hW hS h; exact W_X0_read_13b C N ih hko45 r0 kr0 r1 kr1 x2 ox2 S H locs ls hl hW hS h
end
def w_X0_read (N : Nat) (r0 : Nat) (r1 : Nat) (S : mSt) (Q : mSt → Prop) : Prop :=
  w_X10_sees N r0 0 S (fun (S1 : mSt) (v1 : Int) => ((v1 = 0 → ∀ v2 : Int, v2 = 0 → w_X0_read_13 N Q (fun (r0_3 : Nat) (S_3 : mSt) => w_X10_refuse N r0_3 S_3 (fun (S4 : mSt) => Q S4)) N r0 r1 v2 S1) ∧ (v1 ≠ 0 → Q S1)))
theorem T_X0_read {l : Launch} (hl0 : l.stackTraces = false) {g : mG} {b : Nat} (N : Nat) (r0 : Nat) (kr0 : KX r0 = (0, 8, 0)) (r1 : Nat) (kr1 : KX r1 = (0, 1, 0)) {S : mSt} {Q : mSt → Prop} (h : w_X0_read N r0 r1 S Q) (sz : Nat) : vx_Met l yX0_read (Cond.code yX0_read cX0_read 3 none :: wsG) { frames := 4, cells := 0, slots := 0, locals := 90 } (mPc g b KX S [.ref (b + r0), .ref (b + r1)] sz) (mQv g b KX Q (mA b KX sz)) (mEx g b KX (fun _ _ => False) (mA b KX sz)) 0 0 (mA b KX sz) :=
  m_of (av := [.ref (b + r0), .ref (b + r1)]) (Qf := fun A => mQv g b KX Q A) (Xf := fun A => mEx g b KX (fun _ _ => False) A) (by decide) (Nat.le_of_ble_eq_true rfl) (fun p e s m args below meth c ls X hK hml hr hlk hout hnm hW hl => by
    have C : mC p l s m args meth c cX0_read "MoonWash$HouseText" 3 none g := ⟨X, hK, hml, hr, hlk, hout, hl0⟩
    have hS : va_S (mA b KX s.heap.size) s.heap s.heap [] := va_S.rf
    have hl : lv_has ls 3 [(0, .ref (b + r0)), (1, .ref (b + r1))] := hl
    unfold w_X0_read at h
    refine m_aload_n (pc := 0) C.1 dX0_read_0 rfl hl 0 rfl ?_
    refine m_token (pc := 1) C.1 C.2.1 hW hS 0 (by decide) rfl q_686 dX0_read_1 ?_
    refine m_callVi (pc := 4) C.1 C.2.2.1 hl.1 C.2.1 hW hS (As := [.ref (g.ad 0)]) (rest := []) (r := r0) (T_X10_sees C.2.2.2.2.2.2 N r0 kr0 0 (by decide : 0 < 36) h) kr0 rfl q_687 q_688 q_689 q_85 q_690 pl_X10_sees (by decide) (Nat.le_of_ble_eq_true rfl) dX0_read_4 (fun v1 S1 H locs ov1 h hW1 hS => ?_)
    refine m_if_eq (pc := 7) (tgt := 11) C.1 ov1 dX0_read_7 (by decide) (fun hc => ?_) (fun hc => ?_)
    · replace h := h.1 hc
      refine m_iconst (pc := 11) C.1 dX0_read_11 ?_
      refine m_istore_n (pc := 12) C.1 dX0_read_12 rfl hl (by decide) (fun v => [(2, .int v), (0, .ref (b + r0)), (1, .ref (b + r1))]) (fun _ => rfl) (by decide : okI 0) (fun v2 ls ev2 ov2 hl => ?_)
      replace h := h v2 ev2
      refine W_X0_read_13 C N ?_ N r0 kr0 r1 kr1 v2 ov2 S1 _ _ _ (lv_sub hl [1, 2, 0] rfl) hW1 hS h
      · intro r0_3 kr0_3 S_3 H locs ls hl hW_3 hS h
        refine m_aload_n (pc := 45) C.1 dX0_read_45 rfl hl 0 rfl ?_
        refine m_callVv (pc := 46) C.1 C.2.2.1 hl.1 C.2.1 hW_3 hS (As := []) (rest := []) (r := r0_3) (T_X10_refuse C.2.2.2.2.2.2 N r0_3 kr0_3 h) kr0_3 rfl q_699 q_700 q_701 q_85 q_702 pl_X10_refuse (by decide) (Nat.le_of_ble_eq_true rfl) dX0_read_46 (fun S4 H locs h hW4 hS => ?_)
        exact m_vret (pc := 49) C.1 C.2.2.2.1 C.2.2.2.2.1 hW4 hS h (by decide) (by decide) dX0_read_49
    · replace h := h.2 hc
      exact m_vret (pc := 10) C.1 C.2.2.2.1 C.2.2.2.2.1 hW1 hS h (by decide) (by decide) dX0_read_10) sz
section
variable {p : Program} {l : Launch} {e : Env} {s : State} {m : MethodId} {args : Array Value} {below : List Frame} {meth : Method} {c : Code} {g : mG} {b : Nat}
end
def w_X5_become (N : Nat) (r0 : Nat) (r1 : Nat) (S : mSt) (Q : mSt → Prop) : Prop :=
  ∀ S1 : mSt, S1 = mcp S (r1 + 1) (r0 + 1) 8 → ∀ S2 : mSt, S2 = mcp S1 (r1 + 2) (r0 + 2) 8 → ∀ S3 : mSt, S3 = mcp S2 (r1 + 3) (r0 + 3) 8 → ∀ S4 : mSt, S4 = mcp S3 (r1 + 4) (r0 + 4) 8 → ∀ S5 : mSt, S5 = mcp S4 (r1 + 5) (r0 + 5) 8 → ∀ S6 : mSt, S6 = mcp S5 (r1 + 6) (r0 + 6) 8 → ∀ S7 : mSt, S7 = mup S6 r0 6 (S6 r1 6) → ∀ S8 : mSt, S8 = mup S7 r0 7 (S7 r1 7) → ∀ S9 : mSt, S9 = mup S8 r0 8 (S8 r1 8) → Q S9
theorem T_X5_become {l : Launch} (hl0 : l.stackTraces = false) {g : mG} {b : Nat} (N : Nat) (r0 : Nat) (kr0 : KX r0 = (0, 3, 0)) (r1 : Nat) (kr1 : KX r1 = (0, 3, 0)) {S : mSt} {Q : mSt → Prop} (h : w_X5_become N r0 r1 S Q) (sz : Nat) : vx_Met l yX5_become (Cond.code yX5_become cX5_become 2 none :: wsG) { frames := 1, cells := 0, slots := 0, locals := 120 } (mPc g b KX S [.ref (b + r0), .ref (b + r1)] sz) (mQv g b KX Q (mA b KX sz)) (mEx g b KX (fun _ _ => False) (mA b KX sz)) 0 0 (mA b KX sz) :=
  m_of (av := [.ref (b + r0), .ref (b + r1)]) (Qf := fun A => mQv g b KX Q A) (Xf := fun A => mEx g b KX (fun _ _ => False) A) (by decide) (Nat.le_of_ble_eq_true rfl) (fun p e s m args below meth c ls X hK hml hr hlk hout hnm hW hl => by
    have C : mC p l s m args meth c cX5_become "MoonWash$Moon" 2 none g := ⟨X, hK, hml, hr, hlk, hout, hl0⟩
    have hS : va_S (mA b KX s.heap.size) s.heap s.heap [] := va_S.rf
    have hl : lv_has ls 2 [(0, .ref (b + r0)), (1, .ref (b + r1))] := hl
    unfold w_X5_become at h
    refine m_aload_n (pc := 0) C.1 dX5_become_0 rfl hl 1 rfl ?_
    refine g_3_0 (pc := 1) C hW kr1 q_130 dX5_become_1 ?_
    refine m_iconst (pc := 4) C.1 dX5_become_4 ?_
    refine m_aload_n (pc := 5) C.1 dX5_become_5 rfl hl 0 rfl ?_
    refine g_3_0 (pc := 6) C hW kr0 q_130 dX5_become_6 ?_
    refine m_iconst (pc := 9) C.1 dX5_become_9 ?_
    refine m_bipush (pc := 10) C.1 dX5_become_10 rfl ?_
    refine m_copy (pc := 12) C.1 C.2.2.1 hl.1 C.2.1 hW hS q_468 q_470 q_469 q_94 (k_3_0 kr1) (k_3_0 kr0) (by decide : okI 8) (by decide) (by decide) (by decide) (by refine ⟨?_, Nat.le_of_ble_eq_true rfl⟩; decide) dX5_become_12 (fun S1 H locs e1 hW1 hS => ?_)
    replace h := h S1 e1
    refine m_aload_n (pc := 15) C.1 dX5_become_15 rfl hl 1 rfl ?_
    refine g_3_1 (pc := 16) C hW1 kr1 q_135 dX5_become_16 ?_
    refine m_iconst (pc := 19) C.1 dX5_become_19 ?_
    refine m_aload_n (pc := 20) C.1 dX5_become_20 rfl hl 0 rfl ?_
    refine g_3_1 (pc := 21) C hW1 kr0 q_135 dX5_become_21 ?_
    refine m_iconst (pc := 24) C.1 dX5_become_24 ?_
    refine m_bipush (pc := 25) C.1 dX5_become_25 rfl ?_
    refine m_copy (pc := 27) C.1 C.2.2.1 hl.1 C.2.1 hW1 hS q_468 q_470 q_469 q_94 (k_3_1 kr1) (k_3_1 kr0) (by decide : okI 8) (by decide) (by decide) (by decide) (by refine ⟨?_, Nat.le_of_ble_eq_true rfl⟩; decide) dX5_become_27 (fun S2 H locs e2 hW2 hS => ?_)
    replace h := h S2 e2
    refine m_aload_n (pc := 30) C.1 dX5_become_30 rfl hl 1 rfl ?_
    refine g_3_2 (pc := 31) C hW2 kr1 q_139 dX5_become_31 ?_
    refine m_iconst (pc := 34) C.1 dX5_become_34 ?_
    refine m_aload_n (pc := 35) C.1 dX5_become_35 rfl hl 0 rfl ?_
    refine g_3_2 (pc := 36) C hW2 kr0 q_139 dX5_become_36 ?_
    refine m_iconst (pc := 39) C.1 dX5_become_39 ?_
    refine m_bipush (pc := 40) C.1 dX5_become_40 rfl ?_
    refine m_copy (pc := 42) C.1 C.2.2.1 hl.1 C.2.1 hW2 hS q_468 q_470 q_469 q_94 (k_3_2 kr1) (k_3_2 kr0) (by decide : okI 8) (by decide) (by decide) (by decide) (by refine ⟨?_, Nat.le_of_ble_eq_true rfl⟩; decide) dX5_become_42 (fun S3 H locs e3 hW3 hS => ?_)
    replace h := h S3 e3
    refine m_aload_n (pc := 45) C.1 dX5_become_45 rfl hl 1 rfl ?_
    refine g_3_3 (pc := 46) C hW3 kr1 q_142 dX5_become_46 ?_
    refine m_iconst (pc := 49) C.1 dX5_become_49 ?_
    refine m_aload_n (pc := 50) C.1 dX5_become_50 rfl hl 0 rfl ?_
    refine g_3_3 (pc := 51) C hW3 kr0 q_142 dX5_become_51 ?_
    refine m_iconst (pc := 54) C.1 dX5_become_54 ?_
    refine m_bipush (pc := 55) C.1 dX5_become_55 rfl ?_
    refine m_copy (pc := 57) C.1 C.2.2.1 hl.1 C.2.1 hW3 hS q_468 q_470 q_469 q_94 (k_3_3 kr1) (k_3_3 kr0) (by decide : okI 8) (by decide) (by decide) (by decide) (by refine ⟨?_, Nat.le_of_ble_eq_true rfl⟩; decide) dX5_become_57 (fun S4 H locs e4 hW4 hS => ?_)
    replace h := h S4 e4
    refine m_aload_n (pc := 60) C.1 dX5_become_60 rfl hl 1 rfl ?_
    refine g_3_4 (pc := 61) C hW4 kr1 q_147 dX5_become_61 ?_
    refine m_iconst (pc := 64) C.1 dX5_become_64 ?_
    refine m_aload_n (pc := 65) C.1 dX5_become_65 rfl hl 0 rfl ?_
    refine g_3_4 (pc := 66) C hW4 kr0 q_147 dX5_become_66 ?_
    refine m_iconst (pc := 69) C.1 dX5_become_69 ?_
    refine m_bipush (pc := 70) C.1 dX5_become_70 rfl ?_
    refine m_copy (pc := 72) C.1 C.2.2.1 hl.1 C.2.1 hW4 hS q_468 q_470 q_469 q_94 (k_3_4 kr1) (k_3_4 kr0) (by decide : okI 8) (by decide) (by decide) (by decide) (by refine ⟨?_, Nat.le_of_ble_eq_true rfl⟩; decide) dX5_become_72 (fun S5 H locs e5 hW5 hS => ?_)
    replace h := h S5 e5
    refine m_aload_n (pc := 75) C.1 dX5_become_75 rfl hl 1 rfl ?_
    refine g_3_5 (pc := 76) C hW5 kr1 q_150 dX5_become_76 ?_
    refine m_iconst (pc := 79) C.1 dX5_become_79 ?_
    refine m_aload_n (pc := 80) C.1 dX5_become_80 rfl hl 0 rfl ?_
    refine g_3_5 (pc := 81) C hW5 kr0 q_150 dX5_become_81 ?_
    refine m_iconst (pc := 84) C.1 dX5_become_84 ?_
    refine m_bipush (pc := 85) C.1 dX5_become_85 rfl ?_
    refine m_copy (pc := 87) C.1 C.2.2.1 hl.1 C.2.1 hW5 hS q_468 q_470 q_469 q_94 (k_3_5 kr1) (k_3_5 kr0) (by decide : okI 8) (by decide) (by decide) (by decide) (by refine ⟨?_, Nat.le_of_ble_eq_true rfl⟩; decide) dX5_become_87 (fun S6 H locs e6 hW6 hS => ?_)
    replace h := h S6 e6
    refine m_aload_n (pc := 90) C.1 dX5_become_90 rfl hl 0 rfl ?_
    refine m_aload_n (pc := 91) C.1 dX5_become_91 rfl hl 1 rfl ?_
    refine g_3_6 (pc := 92) C hW6 kr1 q_154 dX5_become_92 ?_
    refine p_3_6 (pc := 95) C hW6 hS kr0 q_154 (hW6.2.1 _ _) dX5_become_95 (fun S7 H locs e7 hW7 hS => ?_)
    replace h := h S7 e7
    refine m_aload_n (pc := 98) C.1 dX5_become_98 rfl hl 0 rfl ?_
    refine m_aload_n (pc := 99) C.1 dX5_become_99 rfl hl 1 rfl ?_
    refine g_3_7 (pc := 100) C hW7 kr1 q_156 dX5_become_100 ?_
    refine p_3_7 (pc := 103) C hW7 hS kr0 q_156 (hW7.2.1 _ _) dX5_become_103 (fun S8 H locs e8 hW8 hS => ?_)
    replace h := h S8 e8
    refine m_aload_n (pc := 106) C.1 dX5_become_106 rfl hl 0 rfl ?_
    refine m_aload_n (pc := 107) C.1 dX5_become_107 rfl hl 1 rfl ?_
    refine g_3_8 (pc := 108) C hW8 kr1 q_160 dX5_become_108 ?_
    refine p_3_8 (pc := 111) C hW8 hS kr0 q_160 (hW8.2.1 _ _) dX5_become_111 (fun S9 H locs e9 hW9 hS => ?_)
    replace h := h S9 e9
    exact m_vret (pc := 114) C.1 C.2.2.2.1 C.2.2.2.2.1 hW9 hS h (by decide) (by decide) dX5_become_114) sz
section
variable {p : Program} {l : Launch} {e : Env} {s : State} {m : MethodId} {args : Array Value} {below : List Frame} {meth : Method} {c : Code} {g : mG} {b : Nat}
end
def w_X2_become (N : Nat) (r0 : Nat) (r1 : Nat) (S : mSt) (Q : mSt → Prop) : Prop :=
  w_X5_become N (r0 + 1) (r1 + 1) S (fun (S1 : mSt) => ∀ S2 : mSt, S2 = mcp S1 (r1 + 8) (r0 + 8) 24 → ∀ S3 : mSt, S3 = mup S2 r0 2 (S2 r1 2) → ∀ S4 : mSt, S4 = mcp S3 (r1 + 9) (r0 + 9) 16 → ∀ S5 : mSt, S5 = mup S4 r0 4 (S4 r1 4) → ∀ S6 : mSt, S6 = mup S5 r0 5 (S5 r1 5) → ∀ S7 : mSt, S7 = mup S6 r0 6 (S6 r1 6) → ∀ S8 : mSt, S8 = mup S7 r0 7 (S7 r1 7) → ∀ S9 : mSt, S9 = mup S8 r0 8 (S8 r1 8) → ∀ S10 : mSt, S10 = mup S9 r0 9 (S9 r1 9) → ∀ S11 : mSt, S11 = mup S10 r0 10 (S10 r1 10) → ∀ S12 : mSt, S12 = mcp S11 (r1 + 10) (r0 + 10) 240 → ∀ S13 : mSt, S13 = mup S12 r0 12 (S12 r1 12) → Q S13)
theorem T_X2_become {l : Launch} (hl0 : l.stackTraces = false) {g : mG} {b : Nat} (N : Nat) (r0 : Nat) (kr0 : KX r0 = (0, 1, 0)) (r1 : Nat) (kr1 : KX r1 = (0, 1, 0)) {S : mSt} {Q : mSt → Prop} (h : w_X2_become N r0 r1 S Q) (sz : Nat) : vx_Met l yX2_become (Cond.code yX2_become cX2_become 2 none :: wsG) { frames := 2, cells := 0, slots := 0, locals := 141 } (mPc g b KX S [.ref (b + r0), .ref (b + r1)] sz) (mQv g b KX Q (mA b KX sz)) (mEx g b KX (fun _ _ => False) (mA b KX sz)) 0 0 (mA b KX sz) :=
  m_of (av := [.ref (b + r0), .ref (b + r1)]) (Qf := fun A => mQv g b KX Q A) (Xf := fun A => mEx g b KX (fun _ _ => False) A) (by decide) (Nat.le_of_ble_eq_true rfl) (fun p e s m args below meth c ls X hK hml hr hlk hout hnm hW hl => by
    have C : mC p l s m args meth c cX2_become "MoonWash$Laundry" 2 none g := ⟨X, hK, hml, hr, hlk, hout, hl0⟩
    have hS : va_S (mA b KX s.heap.size) s.heap s.heap [] := va_S.rf
    have hl : lv_has ls 2 [(0, .ref (b + r0)), (1, .ref (b + r1))] := hl
    unfold w_X2_become at h
    refine m_aload_n (pc := 0) C.1 dX2_become_0 rfl hl 0 rfl ?_
    refine g_1_0 (pc := 1) C hW kr0 q_184 dX2_become_1 ?_
    refine m_aload_n (pc := 4) C.1 dX2_become_4 rfl hl 1 rfl ?_
    refine g_1_0 (pc := 5) C hW kr1 q_184 dX2_become_5 ?_
    refine m_callVv (pc := 8) C.1 C.2.2.1 hl.1 C.2.1 hW hS (As := [.ref (b + (r1 + 1))]) (rest := []) (r := (r0 + 1)) (T_X5_become C.2.2.2.2.2.2 N (r0 + 1) (k_1_0 kr0) (r1 + 1) (k_1_0 kr1) h) (k_1_0 kr0) rfl q_464 q_465 q_466 q_83 q_467 pl_X5_become (by decide) (Nat.le_of_ble_eq_true rfl) dX2_become_8 (fun S1 H locs h hW1 hS => ?_)
    refine m_aload_n (pc := 11) C.1 dX2_become_11 rfl hl 1 rfl ?_
    refine g_1_1 (pc := 12) C hW1 kr1 q_188 dX2_become_12 ?_
    refine m_iconst (pc := 15) C.1 dX2_become_15 ?_
    refine m_aload_n (pc := 16) C.1 dX2_become_16 rfl hl 0 rfl ?_
    refine g_1_1 (pc := 17) C hW1 kr0 q_188 dX2_become_17 ?_
    refine m_iconst (pc := 20) C.1 dX2_become_20 ?_
    refine m_aload_n (pc := 21) C.1 dX2_become_21 rfl hl 0 rfl ?_
    refine g_1_1 (pc := 22) C hW1 kr0 q_188 dX2_become_22 ?_
    refine m_alen (pc := 25) C.1 C.2.1 hW1 (k_1_1 kr0) (Or.inl rfl) dX2_become_25 ?_
    refine m_copy (pc := 26) C.1 C.2.2.1 hl.1 C.2.1 hW1 hS q_471 q_470 q_469 q_94 (k_1_1 kr1) (k_1_1 kr0) (by decide : okI 24) (by decide) (by decide) (by decide) (by refine ⟨?_, Nat.le_of_ble_eq_true rfl⟩; decide) dX2_become_26 (fun S2 H locs e2 hW2 hS => ?_)
    replace h := h S2 e2
    refine m_aload_n (pc := 29) C.1 dX2_become_29 rfl hl 0 rfl ?_
    refine m_aload_n (pc := 30) C.1 dX2_become_30 rfl hl 1 rfl ?_
    refine g_1_2 (pc := 31) C hW2 kr1 q_190 dX2_become_31 ?_
    refine p_1_2 (pc := 34) C hW2 hS kr0 q_190 (hW2.2.1 _ _) dX2_become_34 (fun S3 H locs e3 hW3 hS => ?_)
    replace h := h S3 e3
    refine m_aload_n (pc := 37) C.1 dX2_become_37 rfl hl 1 rfl ?_
    refine g_1_3 (pc := 38) C hW3 kr1 q_193 dX2_become_38 ?_
    refine m_iconst (pc := 41) C.1 dX2_become_41 ?_
    refine m_aload_n (pc := 42) C.1 dX2_become_42 rfl hl 0 rfl ?_
    refine g_1_3 (pc := 43) C hW3 kr0 q_193 dX2_become_43 ?_
    refine m_iconst (pc := 46) C.1 dX2_become_46 ?_
    refine m_aload_n (pc := 47) C.1 dX2_become_47 rfl hl 0 rfl ?_
    refine g_1_3 (pc := 48) C hW3 kr0 q_193 dX2_become_48 ?_
    refine m_alen (pc := 51) C.1 C.2.1 hW3 (k_1_3 kr0) (Or.inl rfl) dX2_become_51 ?_
    refine m_copy (pc := 52) C.1 C.2.2.1 hl.1 C.2.1 hW3 hS q_471 q_470 q_469 q_94 (k_1_3 kr1) (k_1_3 kr0) (by decide : okI 16) (by decide) (by decide) (by decide) (by refine ⟨?_, Nat.le_of_ble_eq_true rfl⟩; decide) dX2_become_52 (fun S4 H locs e4 hW4 hS => ?_)
    replace h := h S4 e4
    refine m_aload_n (pc := 55) C.1 dX2_become_55 rfl hl 0 rfl ?_
    refine m_aload_n (pc := 56) C.1 dX2_become_56 rfl hl 1 rfl ?_
    refine g_1_4 (pc := 57) C hW4 kr1 q_194 dX2_become_57 ?_
    refine p_1_4 (pc := 60) C hW4 hS kr0 q_194 (hW4.2.1 _ _) dX2_become_60 (fun S5 H locs e5 hW5 hS => ?_)
    replace h := h S5 e5
    refine m_aload_n (pc := 63) C.1 dX2_become_63 rfl hl 0 rfl ?_
    refine m_aload_n (pc := 64) C.1 dX2_become_64 rfl hl 1 rfl ?_
    refine g_1_5 (pc := 65) C hW5 kr1 q_197 dX2_become_65 ?_
    refine p_1_5 (pc := 68) C hW5 hS kr0 q_197 (hW5.2.1 _ _) dX2_become_68 (fun S6 H locs e6 hW6 hS => ?_)
    replace h := h S6 e6
    refine m_aload_n (pc := 71) C.1 dX2_become_71 rfl hl 0 rfl ?_
    refine m_aload_n (pc := 72) C.1 dX2_become_72 rfl hl 1 rfl ?_
    refine g_1_6 (pc := 73) C hW6 kr1 q_199 dX2_become_73 ?_
    refine p_1_6 (pc := 76) C hW6 hS kr0 q_199 (hW6.2.1 _ _) dX2_become_76 (fun S7 H locs e7 hW7 hS => ?_)
    replace h := h S7 e7
    refine m_aload_n (pc := 79) C.1 dX2_become_79 rfl hl 0 rfl ?_
    refine m_aload_n (pc := 80) C.1 dX2_become_80 rfl hl 1 rfl ?_
    refine g_1_7 (pc := 81) C hW7 kr1 q_202 dX2_become_81 ?_
    refine p_1_7 (pc := 84) C hW7 hS kr0 q_202 (hW7.2.1 _ _) dX2_become_84 (fun S8 H locs e8 hW8 hS => ?_)
    replace h := h S8 e8
    refine m_aload_n (pc := 87) C.1 dX2_become_87 rfl hl 0 rfl ?_
    refine m_aload_n (pc := 88) C.1 dX2_become_88 rfl hl 1 rfl ?_
    refine g_1_8 (pc := 89) C hW8 kr1 q_205 dX2_become_89 ?_
    refine p_1_8 (pc := 92) C hW8 hS kr0 q_205 (hW8.2.1 _ _) dX2_become_92 (fun S9 H locs e9 hW9 hS => ?_)
    replace h := h S9 e9
    refine m_aload_n (pc := 95) C.1 dX2_become_95 rfl hl 0 rfl ?_
    refine m_aload_n (pc := 96) C.1 dX2_become_96 rfl hl 1 rfl ?_
    refine g_1_9 (pc := 97) C hW9 kr1 q_208 dX2_become_97 ?_
    refine p_1_9 (pc := 100) C hW9 hS kr0 q_208 (hW9.2.1 _ _) dX2_become_100 (fun S10 H locs e10 hW10 hS => ?_)
    replace h := h S10 e10
    refine m_aload_n (pc := 103) C.1 dX2_become_103 rfl hl 0 rfl ?_
    refine m_aload_n (pc := 104) C.1 dX2_become_104 rfl hl 1 rfl ?_
    refine g_1_10 (pc := 105) C hW10 kr1 q_211 dX2_become_105 ?_
    refine p_1_10 (pc := 108) C hW10 hS kr0 q_211 (hW10.2.1 _ _) dX2_become_108 (fun S11 H locs e11 hW11 hS => ?_)
    replace h := h S11 e11
    refine m_aload_n (pc := 111) C.1 dX2_become_111 rfl hl 1 rfl ?_
    refine g_1_11 (pc := 112) C hW11 kr1 q_213 dX2_become_112 ?_
    refine m_iconst (pc := 115) C.1 dX2_become_115 ?_
    refine m_aload_n (pc := 116) C.1 dX2_become_116 rfl hl 0 rfl ?_
    refine g_1_11 (pc := 117) C hW11 kr0 q_213 dX2_become_117 ?_
    refine m_iconst (pc := 120) C.1 dX2_become_120 ?_
    refine m_aload_n (pc := 121) C.1 dX2_become_121 rfl hl 0 rfl ?_
    refine g_1_11 (pc := 122) C hW11 kr0 q_213 dX2_become_122 ?_
    refine m_alen (pc := 125) C.1 C.2.1 hW11 (k_1_11 kr0) (Or.inl rfl) dX2_become_125 ?_
    refine m_copy (pc := 126) C.1 C.2.2.1 hl.1 C.2.1 hW11 hS q_471 q_470 q_469 q_94 (k_1_11 kr1) (k_1_11 kr0) (by decide : okI 240) (by decide) (by decide) (by decide) (by refine ⟨?_, Nat.le_of_ble_eq_true rfl⟩; decide) dX2_become_126 (fun S12 H locs e12 hW12 hS => ?_)
    replace h := h S12 e12
    refine m_aload_n (pc := 129) C.1 dX2_become_129 rfl hl 0 rfl ?_
    refine m_aload_n (pc := 130) C.1 dX2_become_130 rfl hl 1 rfl ?_
    refine g_1_12 (pc := 131) C hW12 kr1 q_214 dX2_become_131 ?_
    refine p_1_12 (pc := 134) C hW12 hS kr0 q_214 (hW12.2.1 _ _) dX2_become_134 (fun S13 H locs e13 hW13 hS => ?_)
    replace h := h S13 e13
    exact m_vret (pc := 137) C.1 C.2.2.2.1 C.2.2.2.2.1 hW13 hS h (by decide) (by decide) dX2_become_137) sz
section
variable {p : Program} {l : Launch} {e : Env} {s : State} {m : MethodId} {args : Array Value} {below : List Frame} {meth : Method} {c : Code} {g : mG} {b : Nat}
end
def w_X3_become (N : Nat) (r0 : Nat) (r1 : Nat) (S : mSt) (Q : mSt → Prop) : Prop :=
  ∀ S1 : mSt, S1 = mup S r0 0 (S r1 0) → ∀ S2 : mSt, S2 = mup S1 r0 5 (S1 r1 5) → ∀ S3 : mSt, S3 = mcp S2 (r1 + 1) (r0 + 1) 12 → ∀ S4 : mSt, S4 = mcp S3 (r1 + 2) (r0 + 2) 12 → ∀ S5 : mSt, S5 = mcp S4 (r1 + 3) (r0 + 3) 12 → ∀ S6 : mSt, S6 = mcp S5 (r1 + 4) (r0 + 4) 400 → Q S6
theorem T_X3_become {l : Launch} (hl0 : l.stackTraces = false) {g : mG} {b : Nat} (N : Nat) (r0 : Nat) (kr0 : KX r0 = (0, 2, 0)) (r1 : Nat) (kr1 : KX r1 = (0, 2, 0)) {S : mSt} {Q : mSt → Prop} (h : w_X3_become N r0 r1 S Q) (sz : Nat) : vx_Met l yX3_become (Cond.code yX3_become cX3_become 2 none :: wsG) { frames := 1, cells := 0, slots := 0, locals := 120 } (mPc g b KX S [.ref (b + r0), .ref (b + r1)] sz) (mQv g b KX Q (mA b KX sz)) (mEx g b KX (fun _ _ => False) (mA b KX sz)) 0 0 (mA b KX sz) :=
  m_of (av := [.ref (b + r0), .ref (b + r1)]) (Qf := fun A => mQv g b KX Q A) (Xf := fun A => mEx g b KX (fun _ _ => False) A) (by decide) (Nat.le_of_ble_eq_true rfl) (fun p e s m args below meth c ls X hK hml hr hlk hout hnm hW hl => by
    have C : mC p l s m args meth c cX3_become "MoonWash$Law" 2 none g := ⟨X, hK, hml, hr, hlk, hout, hl0⟩
    have hS : va_S (mA b KX s.heap.size) s.heap s.heap [] := va_S.rf
    have hl : lv_has ls 2 [(0, .ref (b + r0)), (1, .ref (b + r1))] := hl
    unfold w_X3_become at h
    refine m_aload_n (pc := 0) C.1 dX3_become_0 rfl hl 0 rfl ?_
    refine m_aload_n (pc := 1) C.1 dX3_become_1 rfl hl 1 rfl ?_
    refine g_2_0 (pc := 2) C hW kr1 q_248 dX3_become_2 ?_
    refine p_2_0 (pc := 5) C hW hS kr0 q_248 (hW.2.1 _ _) dX3_become_5 (fun S1 H locs e1 hW1 hS => ?_)
    replace h := h S1 e1
    refine m_aload_n (pc := 8) C.1 dX3_become_8 rfl hl 0 rfl ?_
    refine m_aload_n (pc := 9) C.1 dX3_become_9 rfl hl 1 rfl ?_
    refine g_2_5 (pc := 10) C hW1 kr1 q_254 dX3_become_10 ?_
    refine p_2_5 (pc := 13) C hW1 hS kr0 q_254 (hW1.2.1 _ _) dX3_become_13 (fun S2 H locs e2 hW2 hS => ?_)
    replace h := h S2 e2
    refine m_aload_n (pc := 16) C.1 dX3_become_16 rfl hl 1 rfl ?_
    refine g_2_1 (pc := 17) C hW2 kr1 q_250 dX3_become_17 ?_
    refine m_iconst (pc := 20) C.1 dX3_become_20 ?_
    refine m_aload_n (pc := 21) C.1 dX3_become_21 rfl hl 0 rfl ?_
    refine g_2_1 (pc := 22) C hW2 kr0 q_250 dX3_become_22 ?_
    refine m_iconst (pc := 25) C.1 dX3_become_25 ?_
    refine m_bipush (pc := 26) C.1 dX3_become_26 rfl ?_
    refine m_copy (pc := 28) C.1 C.2.2.1 hl.1 C.2.1 hW2 hS q_485 q_470 q_469 q_94 (k_2_1 kr1) (k_2_1 kr0) (by decide : okI 12) (by decide) (by decide) (by decide) (by refine ⟨?_, Nat.le_of_ble_eq_true rfl⟩; decide) dX3_become_28 (fun S3 H locs e3 hW3 hS => ?_)
    replace h := h S3 e3
    refine m_aload_n (pc := 31) C.1 dX3_become_31 rfl hl 1 rfl ?_
    refine g_2_2 (pc := 32) C hW3 kr1 q_251 dX3_become_32 ?_
    refine m_iconst (pc := 35) C.1 dX3_become_35 ?_
    refine m_aload_n (pc := 36) C.1 dX3_become_36 rfl hl 0 rfl ?_
    refine g_2_2 (pc := 37) C hW3 kr0 q_251 dX3_become_37 ?_
    refine m_iconst (pc := 40) C.1 dX3_become_40 ?_
    refine m_bipush (pc := 41) C.1 dX3_become_41 rfl ?_
    refine m_copy (pc := 43) C.1 C.2.2.1 hl.1 C.2.1 hW3 hS q_485 q_470 q_469 q_94 (k_2_2 kr1) (k_2_2 kr0) (by decide : okI 12) (by decide) (by decide) (by decide) (by refine ⟨?_, Nat.le_of_ble_eq_true rfl⟩; decide) dX3_become_43 (fun S4 H locs e4 hW4 hS => ?_)
    replace h := h S4 e4
    refine m_aload_n (pc := 46) C.1 dX3_become_46 rfl hl 1 rfl ?_
    refine g_2_3 (pc := 47) C hW4 kr1 q_252 dX3_become_47 ?_
    refine m_iconst (pc := 50) C.1 dX3_become_50 ?_
    refine m_aload_n (pc := 51) C.1 dX3_become_51 rfl hl 0 rfl ?_
    refine g_2_3 (pc := 52) C hW4 kr0 q_252 dX3_become_52 ?_
    refine m_iconst (pc := 55) C.1 dX3_become_55 ?_
    refine m_bipush (pc := 56) C.1 dX3_become_56 rfl ?_
    refine m_copy (pc := 58) C.1 C.2.2.1 hl.1 C.2.1 hW4 hS q_485 q_470 q_469 q_94 (k_2_3 kr1) (k_2_3 kr0) (by decide : okI 12) (by decide) (by decide) (by decide) (by refine ⟨?_, Nat.le_of_ble_eq_true rfl⟩; decide) dX3_become_58 (fun S5 H locs e5 hW5 hS => ?_)
    replace h := h S5 e5
    refine m_aload_n (pc := 61) C.1 dX3_become_61 rfl hl 1 rfl ?_
    refine g_2_4 (pc := 62) C hW5 kr1 q_253 dX3_become_62 ?_
    refine m_iconst (pc := 65) C.1 dX3_become_65 ?_
    refine m_aload_n (pc := 66) C.1 dX3_become_66 rfl hl 0 rfl ?_
    refine g_2_4 (pc := 67) C hW5 kr0 q_253 dX3_become_67 ?_
    refine m_iconst (pc := 70) C.1 dX3_become_70 ?_
    refine m_aload_n (pc := 71) C.1 dX3_become_71 rfl hl 0 rfl ?_
    refine g_2_4 (pc := 72) C hW5 kr0 q_253 dX3_become_72 ?_
    refine m_alen (pc := 75) C.1 C.2.1 hW5 (k_2_4 kr0) (Or.inl rfl) dX3_become_75 ?_
    refine m_copy (pc := 76) C.1 C.2.2.1 hl.1 C.2.1 hW5 hS q_485 q_470 q_469 q_94 (k_2_4 kr1) (k_2_4 kr0) (by decide : okI 400) (by decide) (by decide) (by decide) (by refine ⟨?_, Nat.le_of_ble_eq_true rfl⟩; decide) dX3_become_76 (fun S6 H locs e6 hW6 hS => ?_)
    replace h := h S6 e6
    exact m_vret (pc := 79) C.1 C.2.2.2.1 C.2.2.2.2.1 hW6 hS h (by decide) (by decide) dX3_become_79) sz
section
variable {p : Program} {l : Launch} {e : Env} {s : State} {m : MethodId} {args : Array Value} {below : List Frame} {meth : Method} {c : Code} {g : mG} {b : Nat}
end
def w_X5_isHung (N : Nat) (r0 : Nat) (x1 : Int) (S : mSt) (Q : mSt → Int → Prop) : Prop :=
  (((bAnd (bShr (S r0 6) x1) 1) ≠ 1 → Q S 0) ∧ ((bAnd (bShr (S r0 6) x1) 1) = 1 → Q S 1))
theorem T_X5_isHung {l : Launch} (hl0 : l.stackTraces = false) {g : mG} {b : Nat} (N : Nat) (r0 : Nat) (kr0 : KX r0 = (0, 3, 0)) (x1 : Int) (ox1 : okI x1) {S : mSt} {Q : mSt → Int → Prop} (h : w_X5_isHung N r0 x1 S Q) (sz : Nat) : vx_Met l yX5_isHung (Cond.code yX5_isHung cX5_isHung 2 (some FieldType.boolean) :: wsG) { frames := 0, cells := 0, slots := 0, locals := 0 } (mPc g b KX S [.ref (b + r0), .int (mI x1)] sz) (mQi g b KX Q (mA b KX sz)) (mEx g b KX (fun _ _ => False) (mA b KX sz)) 0 0 (mA b KX sz) :=
  m_of (av := [.ref (b + r0), .int (mI x1)]) (Qf := fun A => mQi g b KX Q A) (Xf := fun A => mEx g b KX (fun _ _ => False) A) (by decide) (Nat.le_of_ble_eq_true rfl) (fun p e s m args below meth c ls X hK hml hr hlk hout hnm hW hl => by
    have C : mC p l s m args meth c cX5_isHung "MoonWash$Moon" 2 (some FieldType.boolean) g := ⟨X, hK, hml, hr, hlk, hout, hl0⟩
    have hS : va_S (mA b KX s.heap.size) s.heap s.heap [] := va_S.rf
    have hl : lv_has ls 2 [(0, .ref (b + r0)), (1, .int (mI x1))] := hl
    unfold w_X5_isHung at h
    refine m_aload_n (pc := 0) C.1 dX5_isHung_0 rfl hl 0 rfl ?_
    refine g_3_6 (pc := 1) C hW kr0 q_154 dX5_isHung_1 ?_
    refine m_iload_n (pc := 4) C.1 dX5_isHung_4 rfl hl 1 rfl ?_
    refine m_ishr (pc := 5) C.1 dX5_isHung_5 ?_
    refine m_iconst (pc := 6) C.1 dX5_isHung_6 ?_
    refine m_iand (pc := 7) C.1 dX5_isHung_7 ?_
    refine m_iconst (pc := 8) C.1 dX5_isHung_8 ?_
    refine m_icmp_ne (pc := 9) (tgt := 16) C.1 (bAnd_ok _ _) (by decide : okI 1) dX5_isHung_9 (by decide) (fun hc => ?_) (fun hc => ?_)
    · replace h := h.1 hc
      refine m_iconst (pc := 16) C.1 dX5_isHung_16 ?_
      exact m_zret (pc := 17) C.1 C.2.2.2.1 C.2.2.2.2.1 hW hS (by decide) h (by decide) (by decide) dX5_isHung_17
    · replace h := h.2 hc
      refine m_iconst (pc := 12) C.1 dX5_isHung_12 ?_
      refine m_goto (pc := 13) (tgt := 17) C.1 dX5_isHung_13 (by decide) ?_
      exact m_zret (pc := 17) C.1 C.2.2.2.1 C.2.2.2.2.1 hW hS (by decide) h (by decide) (by decide) dX5_isHung_17) sz
section
variable {p : Program} {l : Launch} {e : Env} {s : State} {m : MethodId} {args : Array Value} {below : List Frame} {meth : Method} {c : Code} {g : mG} {b : Nat}
end
def w_J6_bitCount_0f7a4 (N : Nat) (x0 : Int) (S : mSt) (Q : mSt → Int → Prop) : Prop :=
  ∀ v1 : Int, v1 = (nm (x0 - (bAnd (bUsh x0 1) 1431655765))) → ∀ v2 : Int, v2 = (nm ((bAnd v1 858993459) + (bAnd (bUsh v1 2) 858993459))) → ∀ v3 : Int, v3 = (bAnd (nm (v2 + (bUsh v2 4))) 252645135) → ∀ v4 : Int, v4 = (nm (v3 + (bUsh v3 8))) → ∀ v5 : Int, v5 = (nm (v4 + (bUsh v4 16))) → Q S (bAnd v5 63)
theorem T_J6_bitCount_0f7a4 {l : Launch} (hl0 : l.stackTraces = false) {g : mG} {b : Nat} (N : Nat) (x0 : Int) (ox0 : okI x0) {S : mSt} {Q : mSt → Int → Prop} (h : w_J6_bitCount_0f7a4 N x0 S Q) (sz : Nat) : vx_Met l yJ6_bitCount_0f7a4 (Cond.code yJ6_bitCount_0f7a4 cJ6_bitCount_0f7a4 1 (some FieldType.int) :: wsG) { frames := 0, cells := 0, slots := 0, locals := 0 } (mPc g b KX S [.int (mI x0)] sz) (mQi g b KX Q (mA b KX sz)) (mEx g b KX (fun _ _ => False) (mA b KX sz)) 0 0 (mA b KX sz) :=
  m_of (av := [.int (mI x0)]) (Qf := fun A => mQi g b KX Q A) (Xf := fun A => mEx g b KX (fun _ _ => False) A) (by decide) (Nat.le_of_ble_eq_true rfl) (fun p e s m args below meth c ls X hK hml hr hlk hout hnm hW hl => by
    have C : mC p l s m args meth c cJ6_bitCount_0f7a4 "java/lang/Integer" 1 (some FieldType.int) g := ⟨X, hK, hml, hr, hlk, hout, hl0⟩
    have hS : va_S (mA b KX s.heap.size) s.heap s.heap [] := va_S.rf
    have hl : lv_has ls 1 [(0, .int (mI x0))] := hl
    unfold w_J6_bitCount_0f7a4 at h
    refine m_iload_n (pc := 0) C.1 dJ6_bitCount_0f7a4_0 rfl hl 0 rfl ?_
    refine m_iload_n (pc := 1) C.1 dJ6_bitCount_0f7a4_1 rfl hl 0 rfl ?_
    refine m_iconst (pc := 2) C.1 dJ6_bitCount_0f7a4_2 ?_
    refine m_iushr (pc := 3) C.1 dJ6_bitCount_0f7a4_3 ?_
    refine m_ldcw (pc := 4) (n := 1431655765) C.1 q_509 rfl dJ6_bitCount_0f7a4_4 ?_
    refine m_iand (pc := 7) C.1 dJ6_bitCount_0f7a4_7 ?_
    refine m_isub (pc := 8) C.1 dJ6_bitCount_0f7a4_8 ?_
    refine m_istore_n (pc := 9) C.1 dJ6_bitCount_0f7a4_9 rfl hl (by decide) (fun v => [(0, .int v)]) (fun _ => rfl) (nm_ok _) (fun v1 ls ev1 ov1 hl => ?_)
    replace h := h v1 ev1
    refine m_iload_n (pc := 10) C.1 dJ6_bitCount_0f7a4_10 rfl hl 0 rfl ?_
    refine m_ldcw (pc := 11) (n := 858993459) C.1 q_510 rfl dJ6_bitCount_0f7a4_11 ?_
    refine m_iand (pc := 14) C.1 dJ6_bitCount_0f7a4_14 ?_
    refine m_iload_n (pc := 15) C.1 dJ6_bitCount_0f7a4_15 rfl hl 0 rfl ?_
    refine m_iconst (pc := 16) C.1 dJ6_bitCount_0f7a4_16 ?_
    refine m_iushr (pc := 17) C.1 dJ6_bitCount_0f7a4_17 ?_
    refine m_ldcw (pc := 18) (n := 858993459) C.1 q_510 rfl dJ6_bitCount_0f7a4_18 ?_
    refine m_iand (pc := 21) C.1 dJ6_bitCount_0f7a4_21 ?_
    refine m_iadd (pc := 22) C.1 dJ6_bitCount_0f7a4_22 ?_
    refine m_istore_n (pc := 23) C.1 dJ6_bitCount_0f7a4_23 rfl hl (by decide) (fun v => [(0, .int v)]) (fun _ => rfl) (nm_ok _) (fun v2 ls ev2 ov2 hl => ?_)
    replace h := h v2 ev2
    refine m_iload_n (pc := 24) C.1 dJ6_bitCount_0f7a4_24 rfl hl 0 rfl ?_
    refine m_iload_n (pc := 25) C.1 dJ6_bitCount_0f7a4_25 rfl hl 0 rfl ?_
    refine m_iconst (pc := 26) C.1 dJ6_bitCount_0f7a4_26 ?_
    refine m_iushr (pc := 27) C.1 dJ6_bitCount_0f7a4_27 ?_
    refine m_iadd (pc := 28) C.1 dJ6_bitCount_0f7a4_28 ?_
    refine m_ldcw (pc := 29) (n := 252645135) C.1 q_511 rfl dJ6_bitCount_0f7a4_29 ?_
    refine m_iand (pc := 32) C.1 dJ6_bitCount_0f7a4_32 ?_
    refine m_istore_n (pc := 33) C.1 dJ6_bitCount_0f7a4_33 rfl hl (by decide) (fun v => [(0, .int v)]) (fun _ => rfl) (bAnd_ok _ _) (fun v3 ls ev3 ov3 hl => ?_)
    replace h := h v3 ev3
    refine m_iload_n (pc := 34) C.1 dJ6_bitCount_0f7a4_34 rfl hl 0 rfl ?_
    refine m_iload_n (pc := 35) C.1 dJ6_bitCount_0f7a4_35 rfl hl 0 rfl ?_
    refine m_bipush (pc := 36) C.1 dJ6_bitCount_0f7a4_36 rfl ?_
    refine m_iushr (pc := 38) C.1 dJ6_bitCount_0f7a4_38 ?_
    refine m_iadd (pc := 39) C.1 dJ6_bitCount_0f7a4_39 ?_
    refine m_istore_n (pc := 40) C.1 dJ6_bitCount_0f7a4_40 rfl hl (by decide) (fun v => [(0, .int v)]) (fun _ => rfl) (nm_ok _) (fun v4 ls ev4 ov4 hl => ?_)
    replace h := h v4 ev4
    refine m_iload_n (pc := 41) C.1 dJ6_bitCount_0f7a4_41 rfl hl 0 rfl ?_
    refine m_iload_n (pc := 42) C.1 dJ6_bitCount_0f7a4_42 rfl hl 0 rfl ?_
    refine m_bipush (pc := 43) C.1 dJ6_bitCount_0f7a4_43 rfl ?_
    refine m_iushr (pc := 45) C.1 dJ6_bitCount_0f7a4_45 ?_
    refine m_iadd (pc := 46) C.1 dJ6_bitCount_0f7a4_46 ?_
    refine m_istore_n (pc := 47) C.1 dJ6_bitCount_0f7a4_47 rfl hl (by decide) (fun v => [(0, .int v)]) (fun _ => rfl) (nm_ok _) (fun v5 ls ev5 ov5 hl => ?_)
    replace h := h v5 ev5
    refine m_iload_n (pc := 48) C.1 dJ6_bitCount_0f7a4_48 rfl hl 0 rfl ?_
    refine m_bipush (pc := 49) C.1 dJ6_bitCount_0f7a4_49 rfl ?_
    refine m_iand (pc := 51) C.1 dJ6_bitCount_0f7a4_51 ?_
    exact m_iret (pc := 52) C.1 C.2.2.2.1 C.2.2.2.2.1 hW hS (bAnd_ok _ _) h (by decide) (by decide) dJ6_bitCount_0f7a4_52) sz
section
variable {p : Program} {l : Launch} {e : Env} {s : State} {m : MethodId} {args : Array Value} {below : List Frame} {meth : Method} {c : Code} {g : mG} {b : Nat}
def w_X3_look_140 (N : Nat) (Q : mSt → Prop)  (xs0 : Int) (xs1 : Int) (rs2 : Nat) (S : mSt) : Prop :=
  (0 ≤ xs1 ∧ xs1 < 10 ∧ ∀ S2 : mSt, S2 = mup S rs2 xs1 xs0 → Q S2)
theorem W_X3_look_140 (C : mC p l s m args meth c cX3_look "MoonWash$Law" 3 none g) (N : Nat) {Q : mSt → Prop}   (xs0 : Int) (oxs0 : okI xs0) (xs1 : Int) (oxs1 : okI xs1) (rs2 : Nat) (krs2 : KX rs2 = (1, 10, 0)) (S : mSt) (H : Heap) (locs : List Loc) (ls : Array Slot) (hl : lv_has ls 3 []) (hW : mW g b KX S H) (hS : va_S (mA b KX s.heap.size) s.heap H locs) (h : w_X3_look_140 N Q  xs0 xs1 rs2 S) : W p l e { frames := 1, cells := 0, slots := 0, locals := 21 } s m args below meth c H locs 0 0 (vx_MQ below (mQv g b KX Q (mA b KX s.heap.size)) (mEx g b KX (fun _ _ => False) (mA b KX s.heap.size)) args s 0 0 (mA b KX s.heap.size)) (F0 m 140 ls [.int (mI xs0), .int (mI xs1), .ref (b + rs2)]) := by
  unfold w_X3_look_140 at h
  obtain ⟨hb1a, hb1b, h⟩ := h
  refine m_iast (pc := 140) C.1 C.2.1 hW hS krs2 oxs1 oxs0 hb1a hb1b dX3_look_140 (fun S2 H locs e2 hW2 hS => ?_)
  replace h := h S2 e2
  exact m_vret (pc := 141) C.1 C.2.2.2.1 C.2.2.2.2.1 hW2 hS h (by decide) (by decide) dX3_look_141
def w_X3_look_120 (N : Nat) (Q : mSt → Prop)  (r0 : Nat) (r1 : Nat) (x2 : Int) (xs0 : Int) (xs1 : Int) (rs2 : Nat) (S : mSt) : Prop :=
  (0 ≤ xs1 ∧ xs1 < 10 ∧ ∀ S2 : mSt, S2 = mup S rs2 xs1 xs0 → w_X5_isHung N r1 x2 S2 (fun (S3 : mSt) (v3 : Int) => ((v3 = 0 → w_X3_look_140 N Q  0 9 (r0 + 5) S3) ∧ (v3 ≠ 0 → w_X3_look_140 N Q  1 9 (r0 + 5) S3))))
theorem W_X3_look_120 (C : mC p l s m args meth c cX3_look "MoonWash$Law" 3 none g) (N : Nat) {Q : mSt → Prop}   (r0 : Nat) (kr0 : KX r0 = (0, 2, 0)) (r1 : Nat) (kr1 : KX r1 = (0, 3, 0)) (x2 : Int) (ox2 : okI x2) (xs0 : Int) (oxs0 : okI xs0) (xs1 : Int) (oxs1 : okI xs1) (rs2 : Nat) (krs2 : KX rs2 = (1, 10, 0)) (S : mSt) (H : Heap) (locs : List Loc) (ls : Array Slot) (hl : lv_has ls 3 [(0, .ref (b + r0)), (1, .ref (b + r1)), (2, .int (mI x2))]) (hW : mW g b KX S H) (hS : va_S (mA b KX s.heap.size) s.heap H locs) (h : w_X3_look_120 N Q  r0 r1 x2 xs0 xs1 rs2 S) : W p l e { frames := 1, cells := 0, slots := 0, locals := 21 } s m args below meth c H locs 0 0 (vx_MQ below (mQv g b KX Q (mA b KX s.heap.size)) (mEx g b KX (fun _ _ => False) (mA b KX s.heap.size)) args s 0 0 (mA b KX s.heap.size)) (F0 m 120 ls [.int (mI xs0), .int (mI xs1), .ref (b + rs2)]) := by
  unfold w_X3_look_120 at h
  obtain ⟨hb1a, hb1b, h⟩ := h
  refine m_iast (pc := 120) C.1 C.2.1 hW hS krs2 oxs1 oxs0 hb1a hb1b dX3_look_120 (fun S2 H locs e2 hW2 hS => ?_)
  replace h := h S2 e2
  refine m_aload_n (pc := 121) C.1 dX3_look_121 rfl hl 0 rfl ?_
  refine g_2_6 (pc := 122) C hW2 kr0 q_255 dX3_look_122 ?_
  refine m_bipush (pc := 125) C.1 dX3_look_125 rfl ?_
  refine m_aload_n (pc := 127) C.1 dX3_look_127 rfl hl 1 rfl ?_
  refine m_iload_n (pc := 128) C.1 dX3_look_128 rfl hl 2 rfl ?_
  refine m_callVi (pc := 129) C.1 C.2.2.1 hl.1 C.2.1 hW2 hS (As := [.int (mI x2)]) (rest := [.int (mI 9), .ref (b + (r0 + 5))]) (r := r1) (T_X5_isHung C.2.2.2.2.2.2 N r1 kr1 x2 ox2 h) kr1 rfl q_490 q_491 q_492 q_83 q_493 pl_X5_isHung (by decide) (Nat.le_of_ble_eq_true rfl) dX3_look_129 (fun v3 S3 H locs ov3 h hW3 hS => ?_)
  refine m_if_eq (pc := 132) (tgt := 139) C.1 ov3 dX3_look_132 (by decide) (fun hc => ?_) (fun hc => ?_)
  · replace h := h.1 hc
    refine m_iconst (pc := 139) C.1 dX3_look_139 ?_
    exact W_X3_look_140 C N  0 (by decide : okI 0) 9 (by decide : okI 9) (r0 + 5) (k_2_6 kr0) S3 _ _ _ (lv_sub hl [] rfl) hW3 hS h
  · replace h := h.2 hc
    refine m_iconst (pc := 135) C.1 dX3_look_135 ?_
    refine m_goto (pc := 136) (tgt := 140) C.1 dX3_look_136 (by decide) ?_
    exact W_X3_look_140 C N  1 (by decide : okI 1) 9 (by decide : okI 9) (r0 + 5) (k_2_6 kr0) S3 _ _ _ (lv_sub hl [] rfl) hW3 hS h
end
def w_X3_look (N : Nat) (r0 : Nat) (r1 : Nat) (x2 : Int) (S : mSt) (Q : mSt → Prop) : Prop :=
  ∀ S1 : mSt, S1 = mup S (r0 + 5) 0 x2 → (0 ≤ x2 ∧ x2 < 8 ∧ ∀ S3 : mSt, S3 = mup S1 (r0 + 5) 1 (S1 (r1 + 1) x2) → (0 ≤ x2 ∧ x2 < 8 ∧ ∀ S5 : mSt, S5 = mup S3 (r0 + 5) 2 (S3 (r1 + 2) x2) → (0 ≤ x2 ∧ x2 < 8 ∧ ∀ S7 : mSt, S7 = mup S5 (r0 + 5) 3 (S5 (r1 + 3) x2) → (0 ≤ x2 ∧ x2 < 8 ∧ w_J6_bitCount_0f7a4 N (S7 (r1 + 4) x2) S7 (fun (S9 : mSt) (v9 : Int) => ∀ S10 : mSt, S10 = mup S9 (r0 + 5) 4 v9 → (0 ≤ x2 ∧ x2 < 8 ∧ (0 ≤ (S10 (r1 + 5) x2) ∧ (S10 (r1 + 5) x2) < 8 ∧ ∀ S13 : mSt, S13 = mup S10 (r0 + 5) 5 (S10 (r1 + 6) (S10 (r1 + 5) x2)) → ∀ S14 : mSt, S14 = mup S13 (r0 + 5) 6 (S13 r1 8) → ∀ S15 : mSt, S15 = mup S14 (r0 + 5) 7 (S14 r1 7) → (((iRem (S15 r1 7) 28) ≠ 14 → w_X3_look_120 N Q  r0 r1 x2 0 8 (r0 + 5) S15) ∧ ((iRem (S15 r1 7) 28) = 14 → w_X3_look_120 N Q  r0 r1 x2 1 8 (r0 + 5) S15)))))))))
theorem T_X3_look {l : Launch} (hl0 : l.stackTraces = false) {g : mG} {b : Nat} (N : Nat) (r0 : Nat) (kr0 : KX r0 = (0, 2, 0)) (r1 : Nat) (kr1 : KX r1 = (0, 3, 0)) (x2 : Int) (ox2 : okI x2) {S : mSt} {Q : mSt → Prop} (h : w_X3_look N r0 r1 x2 S Q) (sz : Nat) : vx_Met l yX3_look (Cond.code yX3_look cX3_look 3 none :: wsG) { frames := 1, cells := 0, slots := 0, locals := 21 } (mPc g b KX S [.ref (b + r0), .ref (b + r1), .int (mI x2)] sz) (mQv g b KX Q (mA b KX sz)) (mEx g b KX (fun _ _ => False) (mA b KX sz)) 0 0 (mA b KX sz) :=
  m_of (av := [.ref (b + r0), .ref (b + r1), .int (mI x2)]) (Qf := fun A => mQv g b KX Q A) (Xf := fun A => mEx g b KX (fun _ _ => False) A) (by decide) (Nat.le_of_ble_eq_true rfl) (fun p e s m args below meth c ls X hK hml hr hlk hout hnm hW hl => by
    have C : mC p l s m args meth c cX3_look "MoonWash$Law" 3 none g := ⟨X, hK, hml, hr, hlk, hout, hl0⟩
    have hS : va_S (mA b KX s.heap.size) s.heap s.heap [] := va_S.rf
    have hl : lv_has ls 3 [(0, .ref (b + r0)), (1, .ref (b + r1)), (2, .int (mI x2))] := hl
    unfold w_X3_look at h
    refine m_aload_n (pc := 0) C.1 dX3_look_0 rfl hl 0 rfl ?_
    refine g_2_6 (pc := 1) C hW kr0 q_255 dX3_look_1 ?_
    refine m_iconst (pc := 4) C.1 dX3_look_4 ?_
    refine m_iload_n (pc := 5) C.1 dX3_look_5 rfl hl 2 rfl ?_
    refine m_iast (pc := 6) C.1 C.2.1 hW hS (k_2_6 kr0) (by decide : okI 0) ox2 (by decide) (by decide) dX3_look_6 (fun S1 H locs e1 hW1 hS => ?_)
    replace h := h S1 e1
    refine m_aload_n (pc := 7) C.1 dX3_look_7 rfl hl 0 rfl ?_
    refine g_2_6 (pc := 8) C hW1 kr0 q_255 dX3_look_8 ?_
    refine m_iconst (pc := 11) C.1 dX3_look_11 ?_
    refine m_aload_n (pc := 12) C.1 dX3_look_12 rfl hl 1 rfl ?_
    refine g_3_0 (pc := 13) C hW1 kr1 q_132 dX3_look_13 ?_
    refine m_iload_n (pc := 16) C.1 dX3_look_16 rfl hl 2 rfl ?_
    obtain ⟨hb2a, hb2b, h⟩ := h
    refine m_iald (pc := 17) C.1 C.2.1 hW1 (k_3_0 kr1) ox2 hb2a hb2b dX3_look_17 ?_
    refine m_iast (pc := 18) C.1 C.2.1 hW1 hS (k_2_6 kr0) (by decide : okI 1) (hW1.2.1 _ _) (by decide) (by decide) dX3_look_18 (fun S3 H locs e3 hW3 hS => ?_)
    replace h := h S3 e3
    refine m_aload_n (pc := 19) C.1 dX3_look_19 rfl hl 0 rfl ?_
    refine g_2_6 (pc := 20) C hW3 kr0 q_255 dX3_look_20 ?_
    refine m_iconst (pc := 23) C.1 dX3_look_23 ?_
    refine m_aload_n (pc := 24) C.1 dX3_look_24 rfl hl 1 rfl ?_
    refine g_3_1 (pc := 25) C hW3 kr1 q_138 dX3_look_25 ?_
    refine m_iload_n (pc := 28) C.1 dX3_look_28 rfl hl 2 rfl ?_
    obtain ⟨hb4a, hb4b, h⟩ := h
    refine m_iald (pc := 29) C.1 C.2.1 hW3 (k_3_1 kr1) ox2 hb4a hb4b dX3_look_29 ?_
    refine m_iast (pc := 30) C.1 C.2.1 hW3 hS (k_2_6 kr0) (by decide : okI 2) (hW3.2.1 _ _) (by decide) (by decide) dX3_look_30 (fun S5 H locs e5 hW5 hS => ?_)
    replace h := h S5 e5
    refine m_aload_n (pc := 31) C.1 dX3_look_31 rfl hl 0 rfl ?_
    refine g_2_6 (pc := 32) C hW5 kr0 q_255 dX3_look_32 ?_
    refine m_iconst (pc := 35) C.1 dX3_look_35 ?_
    refine m_aload_n (pc := 36) C.1 dX3_look_36 rfl hl 1 rfl ?_
    refine g_3_2 (pc := 37) C hW5 kr1 q_140 dX3_look_37 ?_
    refine m_iload_n (pc := 40) C.1 dX3_look_40 rfl hl 2 rfl ?_
    obtain ⟨hb6a, hb6b, h⟩ := h
    refine m_iald (pc := 41) C.1 C.2.1 hW5 (k_3_2 kr1) ox2 hb6a hb6b dX3_look_41 ?_
    refine m_iast (pc := 42) C.1 C.2.1 hW5 hS (k_2_6 kr0) (by decide : okI 3) (hW5.2.1 _ _) (by decide) (by decide) dX3_look_42 (fun S7 H locs e7 hW7 hS => ?_)
    replace h := h S7 e7
    refine m_aload_n (pc := 43) C.1 dX3_look_43 rfl hl 0 rfl ?_
    refine g_2_6 (pc := 44) C hW7 kr0 q_255 dX3_look_44 ?_
    refine m_iconst (pc := 47) C.1 dX3_look_47 ?_
    refine m_aload_n (pc := 48) C.1 dX3_look_48 rfl hl 1 rfl ?_
    refine g_3_3 (pc := 49) C hW7 kr1 q_143 dX3_look_49 ?_
    refine m_iload_n (pc := 52) C.1 dX3_look_52 rfl hl 2 rfl ?_
    obtain ⟨hb8a, hb8b, h⟩ := h
    refine m_iald (pc := 53) C.1 C.2.1 hW7 (k_3_3 kr1) ox2 hb8a hb8b dX3_look_53 ?_
    refine m_callSi (pc := 54) C.1 C.2.2.1 hl.1 C.2.1 hW7 hS (As := [.int (mI (S7 (r1 + 4) x2))]) (rest := [.int (mI 4), .ref (b + (r0 + 5))]) (T_J6_bitCount_0f7a4 C.2.2.2.2.2.2 N (S7 (r1 + 4) x2) (hW7.2.1 _ _) h) q_506 q_507 q_107 q_508 pl_J6_bitCount_0f7a4 (by decide) (Nat.le_of_ble_eq_true rfl) dX3_look_54 (fun v9 S9 H locs ov9 h hW9 hS => ?_)
    refine m_iast (pc := 57) C.1 C.2.1 hW9 hS (k_2_6 kr0) (by decide : okI 4) ov9 (by decide) (by decide) dX3_look_57 (fun S10 H locs e10 hW10 hS => ?_)
    replace h := h S10 e10
    refine m_aload_n (pc := 58) C.1 dX3_look_58 rfl hl 0 rfl ?_
    refine g_2_6 (pc := 59) C hW10 kr0 q_255 dX3_look_59 ?_
    refine m_iconst (pc := 62) C.1 dX3_look_62 ?_
    refine m_aload_n (pc := 63) C.1 dX3_look_63 rfl hl 1 rfl ?_
    refine g_3_5 (pc := 64) C hW10 kr1 q_152 dX3_look_64 ?_
    refine m_aload_n (pc := 67) C.1 dX3_look_67 rfl hl 1 rfl ?_
    refine g_3_4 (pc := 68) C hW10 kr1 q_148 dX3_look_68 ?_
    refine m_iload_n (pc := 71) C.1 dX3_look_71 rfl hl 2 rfl ?_
    obtain ⟨hb11a, hb11b, h⟩ := h
    refine m_iald (pc := 72) C.1 C.2.1 hW10 (k_3_4 kr1) ox2 hb11a hb11b dX3_look_72 ?_
    obtain ⟨hb12a, hb12b, h⟩ := h
    refine m_iald (pc := 73) C.1 C.2.1 hW10 (k_3_5 kr1) (hW10.2.1 _ _) hb12a hb12b dX3_look_73 ?_
    refine m_iast (pc := 74) C.1 C.2.1 hW10 hS (k_2_6 kr0) (by decide : okI 5) (hW10.2.1 _ _) (by decide) (by decide) dX3_look_74 (fun S13 H locs e13 hW13 hS => ?_)
    replace h := h S13 e13
    refine m_aload_n (pc := 75) C.1 dX3_look_75 rfl hl 0 rfl ?_
    refine g_2_6 (pc := 76) C hW13 kr0 q_255 dX3_look_76 ?_
    refine m_bipush (pc := 79) C.1 dX3_look_79 rfl ?_
    refine m_aload_n (pc := 81) C.1 dX3_look_81 rfl hl 1 rfl ?_
    refine g_3_8 (pc := 82) C hW13 kr1 q_161 dX3_look_82 ?_
    refine m_iast (pc := 85) C.1 C.2.1 hW13 hS (k_2_6 kr0) (by decide : okI 6) (hW13.2.1 _ _) (by decide) (by decide) dX3_look_85 (fun S14 H locs e14 hW14 hS => ?_)
    replace h := h S14 e14
    refine m_aload_n (pc := 86) C.1 dX3_look_86 rfl hl 0 rfl ?_
    refine g_2_6 (pc := 87) C hW14 kr0 q_255 dX3_look_87 ?_
    refine m_bipush (pc := 90) C.1 dX3_look_90 rfl ?_
    refine m_aload_n (pc := 92) C.1 dX3_look_92 rfl hl 1 rfl ?_
    refine g_3_7 (pc := 93) C hW14 kr1 q_157 dX3_look_93 ?_
    refine m_iast (pc := 96) C.1 C.2.1 hW14 hS (k_2_6 kr0) (by decide : okI 7) (hW14.2.1 _ _) (by decide) (by decide) dX3_look_96 (fun S15 H locs e15 hW15 hS => ?_)
    replace h := h S15 e15
    refine m_aload_n (pc := 97) C.1 dX3_look_97 rfl hl 0 rfl ?_
    refine g_2_6 (pc := 98) C hW15 kr0 q_255 dX3_look_98 ?_
    refine m_bipush (pc := 101) C.1 dX3_look_101 rfl ?_
    refine m_aload_n (pc := 103) C.1 dX3_look_103 rfl hl 1 rfl ?_
    refine g_3_7 (pc := 104) C hW15 kr1 q_157 dX3_look_104 ?_
    refine m_bipush (pc := 107) C.1 dX3_look_107 rfl ?_
    refine m_irem (pc := 109) C.1 (by decide : okI 28) (by decide) dX3_look_109 ?_
    refine m_bipush (pc := 110) C.1 dX3_look_110 rfl ?_
    refine m_icmp_ne (pc := 112) (tgt := 119) C.1 (iRem_ok _ _) (by decide : okI 14) dX3_look_112 (by decide) (fun hc => ?_) (fun hc => ?_)
    · replace h := h.1 hc
      refine m_iconst (pc := 119) C.1 dX3_look_119 ?_
      exact W_X3_look_120 C N  r0 kr0 r1 kr1 x2 ox2 0 (by decide : okI 0) 8 (by decide : okI 8) (r0 + 5) (k_2_6 kr0) S15 _ _ _ (lv_sub hl [0, 1, 2] rfl) hW15 hS h
    · replace h := h.2 hc
      refine m_iconst (pc := 115) C.1 dX3_look_115 ?_
      refine m_goto (pc := 116) (tgt := 120) C.1 dX3_look_116 (by decide) ?_
      exact W_X3_look_120 C N  r0 kr0 r1 kr1 x2 ox2 1 (by decide : okI 1) 8 (by decide : okI 8) (r0 + 5) (k_2_6 kr0) S15 _ _ _ (lv_sub hl [0, 1, 2] rfl) hW15 hS h) sz
section
variable {p : Program} {l : Launch} {e : Env} {s : State} {m : MethodId} {args : Array Value} {below : List Frame} {meth : Method} {c : Code} {g : mG} {b : Nat}
end
def w_X3_joined (N : Nat) (x0 : Int) (x1 : Int) (x2 : Int) (S : mSt) (Q : mSt → Int → Prop) : Prop :=
  ((x0 = 1011 → Q S (nm (x1 + x2))) ∧ (x0 = 1012 → ((x2 ≤ x1 → Q S 0) ∧ (x1 < x2 → Q S 1))) ∧ (x0 = 1013 → ((x1 ≤ x2 → Q S 0) ∧ (x2 < x1 → Q S 1))) ∧ (x0 = 1014 → Q S (bAnd x1 x2)) ∧ ((x0 < 1011 ∨ 1014 < x0) → Q S (bOr x1 x2)))
theorem T_X3_joined {l : Launch} (hl0 : l.stackTraces = false) {g : mG} {b : Nat} (N : Nat) (x0 : Int) (ox0 : okI x0) (x1 : Int) (ox1 : okI x1) (x2 : Int) (ox2 : okI x2) {S : mSt} {Q : mSt → Int → Prop} (h : w_X3_joined N x0 x1 x2 S Q) (sz : Nat) : vx_Met l yX3_joined (Cond.code yX3_joined cX3_joined 3 (some FieldType.int) :: wsG) { frames := 0, cells := 0, slots := 0, locals := 0 } (mPc g b KX S [.int (mI x0), .int (mI x1), .int (mI x2)] sz) (mQi g b KX Q (mA b KX sz)) (mEx g b KX (fun _ _ => False) (mA b KX sz)) 0 0 (mA b KX sz) :=
  m_of (av := [.int (mI x0), .int (mI x1), .int (mI x2)]) (Qf := fun A => mQi g b KX Q A) (Xf := fun A => mEx g b KX (fun _ _ => False) A) (by decide) (Nat.le_of_ble_eq_true rfl) (fun p e s m args below meth c ls X hK hml hr hlk hout hnm hW hl => by
    have C : mC p l s m args meth c cX3_joined "MoonWash$Law" 3 (some FieldType.int) g := ⟨X, hK, hml, hr, hlk, hout, hl0⟩
    have hS : va_S (mA b KX s.heap.size) s.heap s.heap [] := va_S.rf
    have hl : lv_has ls 3 [(0, .int (mI x0)), (1, .int (mI x1)), (2, .int (mI x2))] := hl
    unfold w_X3_joined at h
    refine m_iload_n (pc := 0) C.1 dX3_joined_0 rfl hl 0 rfl ?_
    by_cases hc1_1011 : x0 = 1011
    · replace h := h.1 hc1_1011
      refine m_tabIn (pc := 1) (tgt := 32) C.1 ox0 hc1_1011 (by decide) (by decide) rfl dX3_joined_1 (by decide) ?_
      refine m_iload_n (pc := 32) C.1 dX3_joined_32 rfl hl 1 rfl ?_
      refine m_iload_n (pc := 33) C.1 dX3_joined_33 rfl hl 2 rfl ?_
      refine m_iadd (pc := 34) C.1 dX3_joined_34 ?_
      exact m_iret (pc := 35) C.1 C.2.2.2.1 C.2.2.2.2.1 hW hS (nm_ok _) h (by decide) (by decide) dX3_joined_35
    replace h := h.2
    by_cases hc1_1012 : x0 = 1012
    · replace h := h.1 hc1_1012
      refine m_tabIn (pc := 1) (tgt := 36) C.1 ox0 hc1_1012 (by decide) (by decide) rfl dX3_joined_1 (by decide) ?_
      refine m_iload_n (pc := 36) C.1 dX3_joined_36 rfl hl 1 rfl ?_
      refine m_iload_n (pc := 37) C.1 dX3_joined_37 rfl hl 2 rfl ?_
      refine m_icmp_ge (pc := 38) (tgt := 45) C.1 ox1 ox2 dX3_joined_38 (by decide) (fun hc => ?_) (fun hc => ?_)
      · replace h := h.1 hc
        refine m_iconst (pc := 45) C.1 dX3_joined_45 ?_
        exact m_iret (pc := 46) C.1 C.2.2.2.1 C.2.2.2.2.1 hW hS (by decide : okI 0) h (by decide) (by decide) dX3_joined_46
      · replace h := h.2 hc
        refine m_iconst (pc := 41) C.1 dX3_joined_41 ?_
        refine m_goto (pc := 42) (tgt := 46) C.1 dX3_joined_42 (by decide) ?_
        exact m_iret (pc := 46) C.1 C.2.2.2.1 C.2.2.2.2.1 hW hS (by decide : okI 1) h (by decide) (by decide) dX3_joined_46
    replace h := h.2
    by_cases hc1_1013 : x0 = 1013
    · replace h := h.1 hc1_1013
      refine m_tabIn (pc := 1) (tgt := 47) C.1 ox0 hc1_1013 (by decide) (by decide) rfl dX3_joined_1 (by decide) ?_
      refine m_iload_n (pc := 47) C.1 dX3_joined_47 rfl hl 1 rfl ?_
      refine m_iload_n (pc := 48) C.1 dX3_joined_48 rfl hl 2 rfl ?_
      refine m_icmp_le (pc := 49) (tgt := 56) C.1 ox1 ox2 dX3_joined_49 (by decide) (fun hc => ?_) (fun hc => ?_)
      · replace h := h.1 hc
        refine m_iconst (pc := 56) C.1 dX3_joined_56 ?_
        exact m_iret (pc := 57) C.1 C.2.2.2.1 C.2.2.2.2.1 hW hS (by decide : okI 0) h (by decide) (by decide) dX3_joined_57
      · replace h := h.2 hc
        refine m_iconst (pc := 52) C.1 dX3_joined_52 ?_
        refine m_goto (pc := 53) (tgt := 57) C.1 dX3_joined_53 (by decide) ?_
        exact m_iret (pc := 57) C.1 C.2.2.2.1 C.2.2.2.2.1 hW hS (by decide : okI 1) h (by decide) (by decide) dX3_joined_57
    replace h := h.2
    by_cases hc1_1014 : x0 = 1014
    · replace h := h.1 hc1_1014
      refine m_tabIn (pc := 1) (tgt := 58) C.1 ox0 hc1_1014 (by decide) (by decide) rfl dX3_joined_1 (by decide) ?_
      refine m_iload_n (pc := 58) C.1 dX3_joined_58 rfl hl 1 rfl ?_
      refine m_iload_n (pc := 59) C.1 dX3_joined_59 rfl hl 2 rfl ?_
      refine m_iand (pc := 60) C.1 dX3_joined_60 ?_
      exact m_iret (pc := 61) C.1 C.2.2.2.1 C.2.2.2.2.1 hW hS (bAnd_ok _ _) h (by decide) (by decide) dX3_joined_61
    replace h := h.2
    have hc1 : x0 < 1011 ∨ 1014 < x0 := by omega
    replace h := h hc1
    refine m_tabOut (pc := 1) (tgt := 62) C.1 ox0 hc1 dX3_joined_1 (by decide) ?_
    refine m_iload_n (pc := 62) C.1 dX3_joined_62 rfl hl 1 rfl ?_
    refine m_iload_n (pc := 63) C.1 dX3_joined_63 rfl hl 2 rfl ?_
    refine m_ior (pc := 64) C.1 dX3_joined_64 ?_
    exact m_iret (pc := 65) C.1 C.2.2.2.1 C.2.2.2.2.1 hW hS (bOr_ok _ _) h (by decide) (by decide) dX3_joined_65) sz
section
variable {p : Program} {l : Launch} {e : Env} {s : State} {m : MethodId} {args : Array Value} {below : List Frame} {meth : Method} {c : Code} {g : mG} {b : Nat}
def w_X3_holds_149 (N : Nat) (Q : mSt → Int → Prop) (ko5 : Nat → Int → Int → Int → mSt → Prop) (r0 : Nat) (x2 : Int) (x3 : Int) (x4 : Int) (S : mSt) : Prop :=
  ∀ v1 : Int, v1 = nm (x4 + 1) → ko5 r0 x2 x3 v1 S
theorem W_X3_holds_149 (C : mC p l s m args meth c cX3_holds "MoonWash$Law" 6 (some FieldType.boolean) g) (N : Nat) {Q : mSt → Int → Prop} {ko5 : Nat → Int → Int → Int → mSt → Prop} (hko5 : ∀ (r0 : Nat) (kr0 : KX r0 = (0, 2, 0)) (x2 : Int) (ox2 : okI x2) (x3 : Int) (ox3 : okI x3) (x4 : Int) (ox4 : okI x4) (S : mSt) (H : Heap) (locs : List Loc) (ls : Array Slot), lv_has ls 6 [(0, .ref (b + r0)), (2, .int (mI x2)), (3, .int (mI x3)), (4, .int (mI x4))] → mW g b KX S H → va_S (mA b KX s.heap.size) s.heap H locs → ko5 r0 x2 x3 x4 S → W p l e { frames := 1, cells := 0, slots := 0, locals := 22 } s m args below meth c H locs 0 0 (vx_MQ below (mQi g b KX Q (mA b KX s.heap.size)) (mEx g b KX (fun _ _ => False) (mA b KX s.heap.size)) args s 0 0 (mA b KX s.heap.size)) (F0 m 5 ls [])) (r0 : Nat) (kr0 : KX r0 = (0, 2, 0)) (x2 : Int) (ox2 : okI x2) (x3 : Int) (ox3 : okI x3) (x4 : Int) (ox4 : okI x4) (S : mSt) (H : Heap) (locs : List Loc) (ls : Array Slot) (hl : lv_has ls 6 [(0, .ref (b + r0)), (2, .int (mI x2)), (3, .int (mI x3)), (4, .int (mI x4))]) (hW : mW g b KX S H) (hS : va_S (mA b KX s.heap.size) s.heap H locs) (h : w_X3_holds_149 N Q ko5 r0 x2 x3 x4 S) : W p l e { frames := 1, cells := 0, slots := 0, locals := 22 } s m args below meth c H locs 0 0 (vx_MQ below (mQi g b KX Q (mA b KX s.heap.size)) (mEx g b KX (fun _ _ => False) (mA b KX s.heap.size)) args s 0 0 (mA b KX s.heap.size)) (F0 m 149 ls []) := by
  unfold w_X3_holds_149 at h
  refine m_iinc (pc := 149) C.1 dX3_holds_149 hl (by decide) (q0 := 3) rfl (fun v => [(4, .int v), (0, .ref (b + r0)), (2, .int (mI x2)), (3, .int (mI x3))]) (fun _ => rfl) (fun v1 ls ev1 ov1 hl => ?_)
  replace h := h v1 ev1
  refine m_goto (pc := 152) (tgt := 5) C.1 dX3_holds_152 (by decide) ?_
  exact hko5 r0 kr0 x2 ox2 x3 ox3 v1 ov1 S _ _ _ (lv_sub hl [1, 2, 3, 0] rfl) hW hS h
def w_X3_holds_73 (N : Nat) (Q : mSt → Int → Prop) (ko5 : Nat → Int → Int → Int → mSt → Prop) (r0 : Nat) (x2 : Int) (x3 : Int) (x4 : Int) (xs0 : Int) (xs1 : Int) (rs2 : Nat) (S : mSt) : Prop :=
  (0 ≤ xs1 ∧ xs1 < 32 ∧ ∀ S2 : mSt, S2 = mup S rs2 xs1 xs0 → ∀ v3 : Int, v3 = nm (x3 + 1) → w_X3_holds_149 N Q ko5 r0 x2 v3 x4 S2)
theorem W_X3_holds_73 (C : mC p l s m args meth c cX3_holds "MoonWash$Law" 6 (some FieldType.boolean) g) (N : Nat) {Q : mSt → Int → Prop} {ko5 : Nat → Int → Int → Int → mSt → Prop} (hko5 : ∀ (r0 : Nat) (kr0 : KX r0 = (0, 2, 0)) (x2 : Int) (ox2 : okI x2) (x3 : Int) (ox3 : okI x3) (x4 : Int) (ox4 : okI x4) (S : mSt) (H : Heap) (locs : List Loc) (ls : Array Slot), lv_has ls 6 [(0, .ref (b + r0)), (2, .int (mI x2)), (3, .int (mI x3)), (4, .int (mI x4))] → mW g b KX S H → va_S (mA b KX s.heap.size) s.heap H locs → ko5 r0 x2 x3 x4 S → W p l e { frames := 1, cells := 0, slots := 0, locals := 22 } s m args below meth c H locs 0 0 (vx_MQ below (mQi g b KX Q (mA b KX s.heap.size)) (mEx g b KX (fun _ _ => False) (mA b KX s.heap.size)) args s 0 0 (mA b KX s.heap.size)) (F0 m 5 ls [])) (r0 : Nat) (kr0 : KX r0 = (0, 2, 0)) (x2 : Int) (ox2 : okI x2) (x3 : Int) (ox3 : okI x3) (x4 : Int) (ox4 : okI x4) (xs0 : Int) (oxs0 : okI xs0) (xs1 : Int) (oxs1 : okI xs1) (rs2 : Nat) (krs2 : KX rs2 = (1, 32, 0)) (S : mSt) (H : Heap) (locs : List Loc) (ls : Array Slot) (hl : lv_has ls 6 [(0, .ref (b + r0)), (2, .int (mI x2)), (3, .int (mI x3)), (4, .int (mI x4))]) (hW : mW g b KX S H) (hS : va_S (mA b KX s.heap.size) s.heap H locs) (h : w_X3_holds_73 N Q ko5 r0 x2 x3 x4 xs0 xs1 rs2 S) : W p l e { frames := 1, cells := 0, slots := 0, locals := 22 } s m args below meth c H locs 0 0 (vx_MQ below (mQi g b KX Q (mA b KX s.heap.size)) (mEx g b KX (fun _ _ => False) (mA b KX s.heap.size)) args s 0 0 (mA b KX s.heap.size)) (F0 m 73 ls [.int (mI xs0), .int (mI xs1), .ref (b + rs2)]) := by
  unfold w_X3_holds_73 at h
  obtain ⟨hb1a, hb1b, h⟩ := h
  refine m_iast (pc := 73) C.1 C.2.1 hW hS krs2 oxs1 oxs0 hb1a hb1b dX3_holds_73 (fun S2 H locs e2 hW2 hS => ?_)
  replace h := h S2 e2
  refine m_iinc (pc := 74) C.1 dX3_holds_74 hl (by decide) (q0 := 2) rfl (fun v => [(3, .int v), (0, .ref (b + r0)), (2, .int (mI x2)), (4, .int (mI x4))]) (fun _ => rfl) (fun v3 ls ev3 ov3 hl => ?_)
  replace h := h v3 ev3
  refine m_goto (pc := 77) (tgt := 149) C.1 dX3_holds_77 (by decide) ?_
  exact W_X3_holds_149 C N hko5 r0 kr0 x2 ox2 v3 ov3 x4 ox4 S2 _ _ _ (lv_sub hl [1, 2, 0, 3] rfl) hW2 hS h
def w_X3_holds_5b (N : Nat) (Q : mSt → Int → Prop) (ko5 : Nat → Int → Int → Int → mSt → Prop) (ko155 : Nat → Int → mSt → Prop) (r0 : Nat) (x2 : Int) (x3 : Int) (x4 : Int) (S : mSt) : Prop :=
  ((x2 ≤ x4 → ko155 r0 x3 S) ∧ (x4 < x2 → ((400 ≤ x4 → ko155 r0 x3 S) ∧ (x4 < 400 → (0 ≤ x4 ∧ x4 < 400 ∧ ∀ v2 : Int, v2 = (S (r0 + 4) x4) → ((1010 ≤ v2 → ((v2 ≠ 1010 → ((x3 < 2 → w_X3_holds_149 N Q ko5 r0 x2 x3 x4 S) ∧ (2 ≤ x3 → ∀ v3 : Int, v3 = nm (x3 + (-1)) → (0 ≤ (nm (v3 - 1)) ∧ (nm (v3 - 1)) < 32 ∧ (0 ≤ v3 ∧ v3 < 32 ∧ w_X3_joined N v2 (S (r0 + 6) (nm (v3 - 1))) (S (r0 + 6) v3) S (fun (S6 : mSt) (v6 : Int) => (0 ≤ (nm (v3 - 1)) ∧ (nm (v3 - 1)) < 32 ∧ ∀ S8 : mSt, S8 = mup S6 (r0 + 6) (nm (v3 - 1)) v6 → w_X3_holds_149 N Q ko5 r0 x2 v3 x4 S8))))))) ∧ (v2 = 1010 → ((x3 < 1 → w_X3_holds_149 N Q ko5 r0 x2 x3 x4 S) ∧ (1 ≤ x3 → (0 ≤ (nm (x3 - 1)) ∧ (nm (x3 - 1)) < 32 ∧ (0 ≤ (nm (x3 - 1)) ∧ (nm (x3 - 1)) < 32 ∧ ∀ S11 : mSt, S11 = mup S (r0 + 6) (nm (x3 - 1)) (nm (1 - (S (r0 + 6) (nm (x3 - 1))))) → w_X3_holds_149 N Q ko5 r0 x2 x3 x4 S11))))))) ∧ (v2 < 1010 → ((32 ≤ x3 → w_X3_holds_149 N Q ko5 r0 x2 x3 x4 S) ∧ (x3 < 32 → ((1000 ≤ v2 → (0 ≤ (nm (v2 - 1000)) ∧ (nm (v2 - 1000)) < 10 ∧ w_X3_holds_73 N Q ko5 r0 x2 x3 x4 (S (r0 + 5) (nm (v2 - 1000))) x3 (r0 + 6) S)) ∧ (v2 < 1000 → w_X3_holds_73 N Q ko5 r0 x2 x3 x4 v2 x3 (r0 + 6) S)))))))))))
theorem W_X3_holds_5b (C : mC p l s m args meth c cX3_holds "MoonWash$Law" 6 (some FieldType.boolean) g) (N : Nat) {Q : mSt → Int → Prop} {ko5 : Nat → Int → Int → Int → mSt → Prop} {ko155 : Nat → Int → mSt → Prop} (hko5 : ∀ (r0 : Nat) (kr0 : KX r0 = (0, 2, 0)) (x2 : Int) (ox2 : okI x2) (x3 : Int) (ox3 : okI x3) (x4 : Int) (ox4 : okI x4) (S : mSt) (H : Heap) (locs : List Loc) (ls : Array Slot), lv_has ls 6 [(0, .ref (b + r0)), (2, .int (mI x2)), (3, .int (mI x3)), (4, .int (mI x4))] → mW g b KX S H → va_S (mA b KX s.heap.size) s.heap H locs → ko5 r0 x2 x3 x4 S → W p l e { frames := 1, cells := 0, slots := 0, locals := 22 } s m args below meth c H locs 0 0 (vx_MQ below (mQi g b KX Q (mA b KX s.heap.size)) (mEx g b KX (fun _ _ => False) (mA b KX s.heap.size)) args s 0 0 (mA b KX s.heap.size)) (F0 m 5 ls [])) (hko155 : ∀ (r0 : Nat) (kr0 : KX r0 = (0, 2, 0)) (x3 : Int) (ox3 : okI x3) (S : mSt) (H : Heap) (locs : List Loc) (ls : Array Slot), lv_has ls 6 [(0, .ref (b + r0)), (3, .int (mI x3))] → mW g b KX S H → va_S (mA b KX s.heap.size) s.heap H locs → ko155 r0 x3 S → W p l e { frames := 1, cells := 0, slots := 0, locals := 22 } s m args below meth c H locs 0 0 (vx_MQ below (mQi g b KX Q (mA b KX s.heap.size)) (mEx g b KX (fun _ _ => False) (mA b KX s.heap.size)) args s 0 0 (mA b KX s.heap.size)) (F0 m 155 ls [])) (r0 : Nat) (kr0 : KX r0 = (0, 2, 0)) (x2 : Int) (ox2 : okI x2) (x3 : Int) (ox3 : okI x3) (x4 : Int) (ox4 : okI x4) (S : mSt) (H : Heap) (locs : List Loc) (ls : Array Slot) (hl : lv_has ls 6 [(0, .ref (b + r0)), (2, .int (mI x2)), (3, .int (mI x3)), (4, .int (mI x4))]) (hW : mW g b KX S H) (hS : va_S (mA b KX s.heap.size) s.heap H locs) (h : w_X3_holds_5b N Q ko5 ko155 r0 x2 x3 x4 S) : W p l e { frames := 1, cells := 0, slots := 0, locals := 22 } s m args below meth c H locs 0 0 (vx_MQ below (mQi g b KX Q (mA b KX s.heap.size)) (mEx g b KX (fun _ _ => False) (mA b KX s.heap.size)) args s 0 0 (mA b KX s.heap.size)) (F0 m 5 ls []) := by
  unfold w_X3_holds_5b at h
  refine m_iload (pc := 5) C.1 dX3_holds_5 hl 3 rfl ?_
  refine m_iload_n (pc := 7) C.1 dX3_holds_7 rfl hl 1 rfl ?_
  refine m_icmp_ge (pc := 8) (tgt := 155) C.1 ox4 ox2 dX3_holds_8 (by decide) (fun hc => ?_) (fun hc => ?_)
  · replace h := h.1 hc
    exact hko155 r0 kr0 x3 ox3 S _ _ _ (lv_sub hl [0, 2] rfl) hW hS h
  · replace h := h.2 hc
    refine m_iload (pc := 11) C.1 dX3_holds_11 hl 3 rfl ?_
    refine m_aload_n (pc := 13) C.1 dX3_holds_13 rfl hl 0 rfl ?_
    refine g_2_4 (pc := 14) C hW kr0 q_253 dX3_holds_14 ?_
    refine m_alen (pc := 17) C.1 C.2.1 hW (k_2_4 kr0) (Or.inl rfl) dX3_holds_17 ?_
    refine m_icmp_ge (pc := 18) (tgt := 155) C.1 ox4 (by decide : okI 400) dX3_holds_18 (by decide) (fun hc => ?_) (fun hc => ?_)
    · replace h := h.1 hc
      exact hko155 r0 kr0 x3 ox3 S _ _ _ (lv_sub hl [0, 2] rfl) hW hS h
    · replace h := h.2 hc
      refine m_aload_n (pc := 21) C.1 dX3_holds_21 rfl hl 0 rfl ?_
      refine g_2_4 (pc := 22) C hW kr0 q_253 dX3_holds_22 ?_
      refine m_iload (pc := 25) C.1 dX3_holds_25 hl 3 rfl ?_
      obtain ⟨hb1a, hb1b, h⟩ := h
      refine m_iald (pc := 27) C.1 C.2.1 hW (k_2_4 kr0) ox4 hb1a hb1b dX3_holds_27 ?_
      refine m_istore (pc := 28) C.1 dX3_holds_28 hl (by decide) (fun v => [(5, .int v), (0, .ref (b + r0)), (2, .int (mI x2)), (3, .int (mI x3)), (4, .int (mI x4))]) (fun _ => rfl) (hW.2.1 _ _) (fun v2 ls ev2 ov2 hl => ?_)
      replace h := h v2 ev2
      refine m_iload (pc := 30) C.1 dX3_holds_30 hl 0 rfl ?_
      refine m_sipush (pc := 32) C.1 dX3_holds_32 rfl ?_
      refine m_icmp_ge (pc := 35) (tgt := 80) C.1 ov2 (by decide : okI 1010) dX3_holds_35 (by decide) (fun hc => ?_) (fun hc => ?_)
      · replace h := h.1 hc
        refine m_iload (pc := 80) C.1 dX3_holds_80 hl 0 rfl ?_
        refine m_sipush (pc := 82) C.1 dX3_holds_82 rfl ?_
        refine m_icmp_ne (pc := 85) (tgt := 114) C.1 ov2 (by decide : okI 1010) dX3_holds_85 (by decide) (fun hc => ?_) (fun hc => ?_)
        · replace h := h.1 hc
          refine m_iload_n (pc := 114) C.1 dX3_holds_114 rfl hl 3 rfl ?_
          refine m_iconst (pc := 115) C.1 dX3_holds_115 ?_
          refine m_icmp_lt (pc := 116) (tgt := 149) C.1 ox3 (by decide : okI 2) dX3_holds_116 (by decide) (fun hc => ?_) (fun hc => ?_)
          · replace h := h.1 hc
            exact W_X3_holds_149 C N hko5 r0 kr0 x2 ox2 x3 ox3 x4 ox4 S _ _ _ (lv_sub hl [1, 2, 3, 4] rfl) hW hS h
          · replace h := h.2 hc
            refine m_iinc (pc := 119) C.1 dX3_holds_119 hl (by decide) (q0 := 3) rfl (fun v => [(3, .int v), (5, .int (mI v2)), (0, .ref (b + r0)), (2, .int (mI x2)), (4, .int (mI x4))]) (fun _ => rfl) (fun v3 ls ev3 ov3 hl => ?_)
            replace h := h v3 ev3
            refine m_aload_n (pc := 122) C.1 dX3_holds_122 rfl hl 2 rfl ?_
            refine g_2_7 (pc := 123) C hW kr0 q_256 dX3_holds_123 ?_
            refine m_iload_n (pc := 126) C.1 dX3_holds_126 rfl hl 0 rfl ?_
            refine m_iconst (pc := 127) C.1 dX3_holds_127 ?_
            refine m_isub (pc := 128) C.1 dX3_holds_128 ?_
            refine m_iload (pc := 129) C.1 dX3_holds_129 hl 1 rfl ?_
            refine m_aload_n (pc := 131) C.1 dX3_holds_131 rfl hl 2 rfl ?_
            refine g_2_7 (pc := 132) C hW kr0 q_256 dX3_holds_132 ?_
            refine m_iload_n (pc := 135) C.1 dX3_holds_135 rfl hl 0 rfl ?_
            refine m_iconst (pc := 136) C.1 dX3_holds_136 ?_
            refine m_isub (pc := 137) C.1 dX3_holds_137 ?_
            obtain ⟨hb4a, hb4b, h⟩ := h
            refine m_iald (pc := 138) C.1 C.2.1 hW (k_2_7 kr0) (nm_ok _) hb4a hb4b dX3_holds_138 ?_
            refine m_aload_n (pc := 139) C.1 dX3_holds_139 rfl hl 2 rfl ?_
            refine g_2_7 (pc := 140) C hW kr0 q_256 dX3_holds_140 ?_
            refine m_iload_n (pc := 143) C.1 dX3_holds_143 rfl hl 0 rfl ?_
            obtain ⟨hb5a, hb5b, h⟩ := h
            refine m_iald (pc := 144) C.1 C.2.1 hW (k_2_7 kr0) ov3 hb5a hb5b dX3_holds_144 ?_
            refine m_callSi (pc := 145) C.1 C.2.2.1 hl.1 C.2.1 hW hS (As := [.int (mI v2), .int (mI (S (r0 + 6) (nm (v3 - 1)))), .int (mI (S (r0 + 6) v3))]) (rest := [.int (mI (nm (v3 - 1))), .ref (b + (r0 + 6))]) (T_X3_joined C.2.2.2.2.2.2 N v2 ov2 (S (r0 + 6) (nm (v3 - 1))) (hW.2.1 _ _) (S (r0 + 6) v3) (hW.2.1 _ _) h) q_516 q_517 q_84 q_518 pl_X3_joined (by decide) (Nat.le_of_ble_eq_true rfl) dX3_holds_145 (fun v6 S6 H locs ov6 h hW6 hS => ?_)
            obtain ⟨hb7a, hb7b, h⟩ := h
            refine m_iast (pc := 148) C.1 C.2.1 hW6 hS (k_2_7 kr0) (nm_ok _) ov6 hb7a hb7b dX3_holds_148 (fun S8 H locs e8 hW8 hS => ?_)
            replace h := h S8 e8
            exact W_X3_holds_149 C N hko5 r0 kr0 x2 ox2 v3 ov3 x4 ox4 S8 _ _ _ (lv_sub hl [2, 3, 0, 4] rfl) hW8 hS h
        · replace h := h.2 hc
          refine m_iload_n (pc := 88) C.1 dX3_holds_88 rfl hl 3 rfl ?_
          refine m_iconst (pc := 89) C.1 dX3_holds_89 ?_
          refine m_icmp_lt (pc := 90) (tgt := 149) C.1 ox3 (by decide : okI 1) dX3_holds_90 (by decide) (fun hc => ?_) (fun hc => ?_)
          · replace h := h.1 hc
            exact W_X3_holds_149 C N hko5 r0 kr0 x2 ox2 x3 ox3 x4 ox4 S _ _ _ (lv_sub hl [1, 2, 3, 4] rfl) hW hS h
          · replace h := h.2 hc
            refine m_aload_n (pc := 93) C.1 dX3_holds_93 rfl hl 1 rfl ?_
            refine g_2_7 (pc := 94) C hW kr0 q_256 dX3_holds_94 ?_
            refine m_iload_n (pc := 97) C.1 dX3_holds_97 rfl hl 3 rfl ?_
            refine m_iconst (pc := 98) C.1 dX3_holds_98 ?_
            refine m_isub (pc := 99) C.1 dX3_holds_99 ?_
            refine m_iconst (pc := 100) C.1 dX3_holds_100 ?_
            refine m_aload_n (pc := 101) C.1 dX3_holds_101 rfl hl 1 rfl ?_
            refine g_2_7 (pc := 102) C hW kr0 q_256 dX3_holds_102 ?_
            refine m_iload_n (pc := 105) C.1 dX3_holds_105 rfl hl 3 rfl ?_
            refine m_iconst (pc := 106) C.1 dX3_holds_106 ?_
            refine m_isub (pc := 107) C.1 dX3_holds_107 ?_
            obtain ⟨hb9a, hb9b, h⟩ := h
            refine m_iald (pc := 108) C.1 C.2.1 hW (k_2_7 kr0) (nm_ok _) hb9a hb9b dX3_holds_108 ?_
            refine m_isub (pc := 109) C.1 dX3_holds_109 ?_
            obtain ⟨hb10a, hb10b, h⟩ := h
            refine m_iast (pc := 110) C.1 C.2.1 hW hS (k_2_7 kr0) (nm_ok _) (nm_ok _) hb10a hb10b dX3_holds_110 (fun S11 H locs e11 hW11 hS => ?_)
            replace h := h S11 e11
            refine m_goto (pc := 111) (tgt := 149) C.1 dX3_holds_111 (by decide) ?_
            exact W_X3_holds_149 C N hko5 r0 kr0 x2 ox2 x3 ox3 x4 ox4 S11 _ _ _ (lv_sub hl [1, 2, 3, 4] rfl) hW11 hS h
      · replace h := h.2 hc
        refine m_iload_n (pc := 38) C.1 dX3_holds_38 rfl hl 3 rfl ?_
        refine m_bipush (pc := 39) C.1 dX3_holds_39 rfl ?_
        refine m_icmp_ge (pc := 41) (tgt := 149) C.1 ox3 (by decide : okI 32) dX3_holds_41 (by decide) (fun hc => ?_) (fun hc => ?_)
        · replace h := h.1 hc
          exact W_X3_holds_149 C N hko5 r0 kr0 x2 ox2 x3 ox3 x4 ox4 S _ _ _ (lv_sub hl [1, 2, 3, 4] rfl) hW hS h
        · replace h := h.2 hc
          refine m_aload_n (pc := 44) C.1 dX3_holds_44 rfl hl 1 rfl ?_
          refine g_2_7 (pc := 45) C hW kr0 q_256 dX3_holds_45 ?_
          refine m_iload_n (pc := 48) C.1 dX3_holds_48 rfl hl 3 rfl ?_
          refine m_iload (pc := 49) C.1 dX3_holds_49 hl 0 rfl ?_
          refine m_sipush (pc := 51) C.1 dX3_holds_51 rfl ?_
          refine m_icmp_ge (pc := 54) (tgt := 62) C.1 ov2 (by decide : okI 1000) dX3_holds_54 (by decide) (fun hc => ?_) (fun hc => ?_)
          · replace h := h.1 hc
            refine m_aload_n (pc := 62) C.1 dX3_holds_62 rfl hl 1 rfl ?_
            refine g_2_6 (pc := 63) C hW kr0 q_255 dX3_holds_63 ?_
            refine m_iload (pc := 66) C.1 dX3_holds_66 hl 0 rfl ?_
            refine m_sipush (pc := 68) C.1 dX3_holds_68 rfl ?_
            refine m_isub (pc := 71) C.1 dX3_holds_71 ?_
            obtain ⟨hb12a, hb12b, h⟩ := h
            refine m_iald (pc := 72) C.1 C.2.1 hW (k_2_6 kr0) (nm_ok _) hb12a hb12b dX3_holds_72 ?_
            exact W_X3_holds_73 C N hko5 r0 kr0 x2 ox2 x3 ox3 x4 ox4 (S (r0 + 5) (nm (v2 - 1000))) (hW.2.1 _ _) x3 ox3 (r0 + 6) (k_2_7 kr0) S _ _ _ (lv_sub hl [1, 2, 3, 4] rfl) hW hS h
          · replace h := h.2 hc
            refine m_iload (pc := 57) C.1 dX3_holds_57 hl 0 rfl ?_
            refine m_goto (pc := 59) (tgt := 73) C.1 dX3_holds_59 (by decide) ?_
            exact W_X3_holds_73 C N hko5 r0 kr0 x2 ox2 x3 ox3 x4 ox4 v2 ov2 x3 ox3 (r0 + 6) (k_2_7 kr0) S _ _ _ (lv_sub hl [1, 2, 3, 4] rfl) hW hS h
def w_X3_holds_5 (N : Nat) (Q : mSt → Int → Prop) (ko155 : Nat → Int → mSt → Prop) : Nat → Nat → Int → Int → Int → mSt → Prop
  | 0 => fun _ _ _ _ _ => False
  | k + 1 => w_X3_holds_5b N Q (w_X3_holds_5 N Q ko155 k) ko155
theorem W_X3_holds_5 (C : mC p l s m args meth c cX3_holds "MoonWash$Law" 6 (some FieldType.boolean) g) (N : Nat) {Q : mSt → Int → Prop} {ko155 : Nat → Int → mSt → Prop} (hko155 : ∀ (r0 : Nat) (kr0 : KX r0 = (0, 2, 0)) (x3 : Int) (ox3 : okI x3) (S : mSt) (H : Heap) (locs : List Loc) (ls : Array Slot), lv_has ls 6 [(0, .ref (b + r0)), (3, .int (mI x3))] → mW g b KX S H → va_S (mA b KX s.heap.size) s.heap H locs → ko155 r0 x3 S → W p l e { frames := 1, cells := 0, slots := 0, locals := 22 } s m args below meth c H locs 0 0 (vx_MQ below (mQi g b KX Q (mA b KX s.heap.size)) (mEx g b KX (fun _ _ => False) (mA b KX s.heap.size)) args s 0 0 (mA b KX s.heap.size)) (F0 m 155 ls [])) : ∀ (k : Nat) (r0 : Nat) (kr0 : KX r0 = (0, 2, 0)) (x2 : Int) (ox2 : okI x2) (x3 : Int) (ox3 : okI x3) (x4 : Int) (ox4 : okI x4) (S : mSt) (H : Heap) (locs : List Loc) (ls : Array Slot) (hl : lv_has ls 6 [(0, .ref (b + r0)), (2, .int (mI x2)), (3, .int (mI x3)), (4, .int (mI x4))]) (hW : mW g b KX S H) (hS : va_S (mA b KX s.heap.size) s.heap H locs) (h : w_X3_holds_5 N Q ko155 k r0 x2 x3 x4 S), W p l e { frames := 1, cells := 0, slots := 0, locals := 22 } s m args below meth c H locs 0 0 (vx_MQ below (mQi g b KX Q (mA b KX s.heap.size)) (mEx g b KX (fun _ _ => False) (mA b KX s.heap.size)) args s 0 0 (mA b KX s.heap.size)) (F0 m 5 ls []) := by
  intro k
  induction k with
  | zero => intro r0 kr0 x2 ox2 x3 ox3 x4 ox4 S H locs ls hl hW hS h; exact False.elim h
  | succ k ih => intro r0 kr0 x2 ox2 x3 ox3 x4 ox4 S H locs ls hl hW hS h; exact W_X3_holds_5b C N ih hko155 r0 kr0 x2 ox2 x3 ox3 x4 ox4 S H locs ls hl hW hS h
def w_X3_holds_171 (N : Nat) (Q : mSt → Int → Prop)   (S : mSt) : Prop :=
  Q S 1
theorem W_X3_holds_171 (C : mC p l s m args meth c cX3_holds "MoonWash$Law" 6 (some FieldType.boolean) g) (N : Nat) {Q : mSt → Int → Prop}    (S : mSt) (H : Heap) (locs : List Loc) (ls : Array Slot) (hl : lv_has ls 6 []) (hW : mW g b KX S H) (hS : va_S (mA b KX s.heap.size) s.heap H locs) (h : w_X3_holds_171 N Q   S) : W p l e { frames := 1, cells := 0, slots := 0, locals := 22 } s m args below meth c H locs 0 0 (vx_MQ below (mQi g b KX Q (mA b KX s.heap.size)) (mEx g b KX (fun _ _ => False) (mA b KX s.heap.size)) args s 0 0 (mA b KX s.heap.size)) (F0 m 171 ls []) := by
  unfold w_X3_holds_171 at h
  refine m_iconst (pc := 171) C.1 dX3_holds_171 ?_
  refine m_goto (pc := 172) (tgt := 176) C.1 dX3_holds_172 (by decide) ?_
  exact m_zret (pc := 176) C.1 C.2.2.2.1 C.2.2.2.2.1 hW hS (by decide) h (by decide) (by decide) dX3_holds_176
def w_X3_holds_155 (N : Nat) (Q : mSt → Int → Prop)  (r0 : Nat) (x3 : Int) (S : mSt) : Prop :=
  ((x3 = 0 → w_X3_holds_171 N Q  S) ∧ (x3 ≠ 0 → (0 ≤ (nm (x3 - 1)) ∧ (nm (x3 - 1)) < 32 ∧ (((S (r0 + 6) (nm (x3 - 1))) ≠ 1 → Q S 0) ∧ ((S (r0 + 6) (nm (x3 - 1))) = 1 → w_X3_holds_171 N Q  S)))))
theorem W_X3_holds_155 (C : mC p l s m args meth c cX3_holds "MoonWash$Law" 6 (some FieldType.boolean) g) (N : Nat) {Q : mSt → Int → Prop}   (r0 : Nat) (kr0 : KX r0 = (0, 2, 0)) (x3 : Int) (ox3 : okI x3) (S : mSt) (H : Heap) (locs : List Loc) (ls : Array Slot) (hl : lv_has ls 6 [(0, .ref (b + r0)), (3, .int (mI x3))]) (hW : mW g b KX S H) (hS : va_S (mA b KX s.heap.size) s.heap H locs) (h : w_X3_holds_155 N Q  r0 x3 S) : W p l e { frames := 1, cells := 0, slots := 0, locals := 22 } s m args below meth c H locs 0 0 (vx_MQ below (mQi g b KX Q (mA b KX s.heap.size)) (mEx g b KX (fun _ _ => False) (mA b KX s.heap.size)) args s 0 0 (mA b KX s.heap.size)) (F0 m 155 ls []) := by
  unfold w_X3_holds_155 at h
  refine m_iload_n (pc := 155) C.1 dX3_holds_155 rfl hl 1 rfl ?_
  refine m_if_eq (pc := 156) (tgt := 171) C.1 ox3 dX3_holds_156 (by decide) (fun hc => ?_) (fun hc => ?_)
  · replace h := h.1 hc
    exact W_X3_holds_171 C N   S _ _ _ (lv_sub hl [] rfl) hW hS h
  · replace h := h.2 hc
    refine m_aload_n (pc := 159) C.1 dX3_holds_159 rfl hl 0 rfl ?_
    refine g_2_7 (pc := 160) C hW kr0 q_256 dX3_holds_160 ?_
    refine m_iload_n (pc := 163) C.1 dX3_holds_163 rfl hl 1 rfl ?_
    refine m_iconst (pc := 164) C.1 dX3_holds_164 ?_
    refine m_isub (pc := 165) C.1 dX3_holds_165 ?_
    obtain ⟨hb1a, hb1b, h⟩ := h
    refine m_iald (pc := 166) C.1 C.2.1 hW (k_2_7 kr0) (nm_ok _) hb1a hb1b dX3_holds_166 ?_
    refine m_iconst (pc := 167) C.1 dX3_holds_167 ?_
    refine m_icmp_ne (pc := 168) (tgt := 175) C.1 (hW.2.1 _ _) (by decide : okI 1) dX3_holds_168 (by decide) (fun hc => ?_) (fun hc => ?_)
    · replace h := h.1 hc
      refine m_iconst (pc := 175) C.1 dX3_holds_175 ?_
      exact m_zret (pc := 176) C.1 C.2.2.2.1 C.2.2.2.2.1 hW hS (by decide) h (by decide) (by decide) dX3_holds_176
    · replace h := h.2 hc
      exact W_X3_holds_171 C N   S _ _ _ (lv_sub hl [] rfl) hW hS h
end
def w_X3_holds (N : Nat) (r0 : Nat) (x1 : Int) (x2 : Int) (S : mSt) (Q : mSt → Int → Prop) : Prop :=
  ∀ v1 : Int, v1 = 0 → ∀ v2 : Int, v2 = x1 → w_X3_holds_5 N Q (fun (r0_3 : Nat) (x3_3 : Int) (S_3 : mSt) => w_X3_holds_155 N Q  r0_3 x3_3 S_3) N r0 x2 v1 v2 S
theorem T_X3_holds {l : Launch} (hl0 : l.stackTraces = false) {g : mG} {b : Nat} (N : Nat) (r0 : Nat) (kr0 : KX r0 = (0, 2, 0)) (x1 : Int) (ox1 : okI x1) (x2 : Int) (ox2 : okI x2) {S : mSt} {Q : mSt → Int → Prop} (h : w_X3_holds N r0 x1 x2 S Q) (sz : Nat) : vx_Met l yX3_holds (Cond.code yX3_holds cX3_holds 6 (some FieldType.boolean) :: wsG) { frames := 1, cells := 0, slots := 0, locals := 22 } (mPc g b KX S [.ref (b + r0), .int (mI x1), .int (mI x2)] sz) (mQi g b KX Q (mA b KX sz)) (mEx g b KX (fun _ _ => False) (mA b KX sz)) 0 0 (mA b KX sz) :=
  m_of (av := [.ref (b + r0), .int (mI x1), .int (mI x2)]) (Qf := fun A => mQi g b KX Q A) (Xf := fun A => mEx g b KX (fun _ _ => False) A) (by decide) (Nat.le_of_ble_eq_true rfl) (fun p e s m args below meth c ls X hK hml hr hlk hout hnm hW hl => by
    have C : mC p l s m args meth c cX3_holds "MoonWash$Law" 6 (some FieldType.boolean) g := ⟨X, hK, hml, hr, hlk, hout, hl0⟩
    have hS : va_S (mA b KX s.heap.size) s.heap s.heap [] := va_S.rf
    have hl : lv_has ls 6 [(0, .ref (b + r0)), (1, .int (mI x1)), (2, .int (mI x2))] := hl
    unfold w_X3_holds at h
    refine m_iconst (pc := 0) C.1 dX3_holds_0 ?_
    refine m_istore_n (pc := 1) C.1 dX3_holds_1 rfl hl (by decide) (fun v => [(3, .int v), (0, .ref (b + r0)), (1, .int (mI x1)), (2, .int (mI x2))]) (fun _ => rfl) (by decide : okI 0) (fun v1 ls ev1 ov1 hl => ?_)
    replace h := h v1 ev1
    refine m_iload_n (pc := 2) C.1 dX3_holds_2 rfl hl 2 rfl ?_
    refine m_istore (pc := 3) C.1 dX3_holds_3 hl (by decide) (fun v => [(4, .int v), (3, .int (mI v1)), (0, .ref (b + r0)), (1, .int (mI x1)), (2, .int (mI x2))]) (fun _ => rfl) ox1 (fun v2 ls ev2 ov2 hl => ?_)
    replace h := h v2 ev2
    refine W_X3_holds_5 C N ?_ N r0 kr0 x2 ox2 v1 ov1 v2 ov2 S _ _ _ (lv_sub hl [2, 4, 1, 0] rfl) hW hS h
    · intro r0_3 kr0_3 x3_3 ox3_3 S_3 H locs ls hl hW_3 hS h
      exact W_X3_holds_155 C N  r0_3 kr0_3 x3_3 ox3_3 S_3 _ _ _ (lv_sub hl [0, 1] rfl) hW_3 hS h) sz
