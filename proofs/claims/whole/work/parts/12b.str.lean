/-! ===== the texts' own: String.length, String.charAt over the constants ===== -/
theorem sq_len1 : Cond.instanceMethod yJ0_length_8abf5 ∈ wsG := wsG_in 634 (by decide +kernel) rfl
theorem sq_len2 : Cond.selects "java/lang/String" yJ0_length_8abf5 yJ0_length_8abf5 ∈ wsG := wsG_in 635 (by decide +kernel) rfl
theorem sq_len3 : Cond.code yJ0_length_8abf5 cJ0_length_8abf5 1 (some .int) ∈ wsG := wsG_in 636 (by decide +kernel) rfl
theorem sq_cod0 : Cond.methodLink "java/lang/String" 335 yJ0_coder_7d493 ∈ wsG := wsG_in 637 (by decide +kernel) rfl
theorem sq_cod1 : Cond.instanceMethod yJ0_coder_7d493 ∈ wsG := wsG_in 638 (by decide +kernel) rfl
theorem sq_cod2 : Cond.selects "java/lang/String" yJ0_coder_7d493 yJ0_coder_7d493 ∈ wsG := wsG_in 639 (by decide +kernel) rfl
theorem sq_cod3 : Cond.code yJ0_coder_7d493 cJ0_coder_7d493 1 (some .byte) ∈ wsG := wsG_in 640 (by decide +kernel) rfl
theorem sq_comp : Cond.fieldLink "java/lang/String" 38 "java/lang/String" "COMPACT_STRINGS" "Z" ∈ wsG := wsG_in 641 (by decide +kernel) rfl
theorem sq_chr1 : Cond.instanceMethod yJ0_charAt_5068e ∈ wsG := wsG_in 644 (by decide +kernel) rfl
theorem sq_chr2 : Cond.selects "java/lang/String" yJ0_charAt_5068e yJ0_charAt_5068e ∈ wsG := wsG_in 645 (by decide +kernel) rfl
theorem sq_chr3 : Cond.code yJ0_charAt_5068e cJ0_charAt_5068e 2 (some .char) ∈ wsG := wsG_in 646 (by decide +kernel) rfl
theorem sq_lat0 : Cond.methodLink "java/lang/String" 492 yJ0_isLatin1_aae02 ∈ wsG := wsG_in 647 (by decide +kernel) rfl
theorem sq_lat1 : Cond.instanceMethod yJ0_isLatin1_aae02 ∈ wsG := wsG_in 648 (by decide +kernel) rfl
theorem sq_lat2 : Cond.selects "java/lang/String" yJ0_isLatin1_aae02 yJ0_isLatin1_aae02 ∈ wsG := wsG_in 649 (by decide +kernel) rfl
theorem sq_lat3 : Cond.code yJ0_isLatin1_aae02 cJ0_isLatin1_aae02 1 (some .boolean) ∈ wsG := wsG_in 650 (by decide +kernel) rfl
theorem sq_l1c0 : Cond.methodLink "java/lang/String" 495 yJ1_charAt_3b067 ∈ wsG := wsG_in 651 (by decide +kernel) rfl
theorem sq_l1c1 : Cond.static yJ1_charAt_3b067 ∈ wsG := wsG_in 652 (by decide +kernel) rfl
theorem sq_l1c3 : Cond.code yJ1_charAt_3b067 cJ1_charAt_3b067 2 (some .char) ∈ wsG := wsG_in 653 (by decide +kernel) rfl
theorem sq_ci0 : Cond.methodLink "java/lang/StringLatin1" 9 yJ0_checkIndex_df160 ∈ wsG := wsG_in 654 (by decide +kernel) rfl
theorem sq_ci1 : Cond.static yJ0_checkIndex_df160 ∈ wsG := wsG_in 655 (by decide +kernel) rfl
theorem sq_ci3 : Cond.code yJ0_checkIndex_df160 cJ0_checkIndex_df160 2 none ∈ wsG := wsG_in 656 (by decide +kernel) rfl
theorem sq_fmt : Cond.fieldLink "java/lang/String" 1053 "jdk/internal/util/Preconditions" "SIOOBE_FORMATTER" "Ljava/util/function/BiFunction;" ∈ wsG := wsG_in 657 (by decide +kernel) rfl
theorem sq_pc0 : Cond.methodLink "java/lang/String" 1059 yJ3_checkIndex_8e157 ∈ wsG := wsG_in 659 (by decide +kernel) rfl
theorem sq_pc1 : Cond.static yJ3_checkIndex_8e157 ∈ wsG := wsG_in 660 (by decide +kernel) rfl
theorem sq_pc3 : Cond.code yJ3_checkIndex_8e157 cJ3_checkIndex_8e157 3 (some .int) ∈ wsG := wsG_in 661 (by decide +kernel) rfl
theorem sq_iS : Cond.initialized "java/lang/String" ∈ wsG := wsG_in 95 (by decide +kernel) rfl
theorem sq_iL : Cond.initialized "java/lang/StringLatin1" ∈ wsG := wsG_in 96 (by decide +kernel) rfl
theorem sq_iP : Cond.initialized "jdk/internal/util/Preconditions" ∈ wsG := wsG_in 97 (by decide +kernel) rfl
theorem sq_val : Cond.fieldLink "java/lang/String" 9 "java/lang/String" "value" "[B" ∈ wsG := wsG_in 1949 (by decide +kernel) rfl
theorem sq_cdr : Cond.fieldLink "java/lang/String" 15 "java/lang/String" "coder" "B" ∈ wsG := wsG_in 1950 (by decide +kernel) rfl
theorem spl_len : mPl yJ0_length_8abf5 0 := by decide +kernel
theorem spl_cod : mPl yJ0_coder_7d493 0 := by decide +kernel
theorem spl_chr : mPl yJ0_charAt_5068e 1 := by decide +kernel
theorem spl_lat : mPl yJ0_isLatin1_aae02 0 := by decide +kernel
theorem spl_l1c : mPl yJ1_charAt_3b067 2 := by decide +kernel
theorem spl_ci : mPl yJ0_checkIndex_df160 2 := by decide +kernel
theorem spl_pc : mPl yJ3_checkIndex_8e157 3 := by decide +kernel
theorem str_len : ∀ j, j < 34 → (lenJS.getD j 0 : Int) = (bytJS.getD j []).length ∧ lenJS.getD j 0 < 8 := by decide +kernel
theorem str_chr : ∀ j, j < 34 → ∀ i, i < 8 → ((((bytJS.getD j []).getD i 0) &&& 255).toUInt32 % 65536).toInt32 = (bytJS.getD j []).getD i 0 ∧ narrow .char (.int ((bytJS.getD j []).getD i 0)) = .int ((bytJS.getD j []).getD i 0) := by decide +kernel
section mStr
variable {p : Program} {l : Launch} {e : Env} {R : Room} {s : State} {m : MethodId} {args : Array Value} {below : List Frame} {meth : Method} {c : Code} {H : Heap} {locs : List Loc} {cells slots mc ms : Nat} {Q : State → Prop}
variable {cc : ByteArray} {pc nL : Nat} {ret : Option FieldType} {ls : Array Slot} {rest : List Value} {own : String} {g : mG} {b : Nat} {K : Nat → mK} {S : mSt}
theorem m_nret {XC : String → State → State → Prop} {A : Nat → Prop} {ty : FieldType} (X : mX p s m args c cc own) (hr : meth.sig.returnType = some ty) (hlk : meth.locks = false) (hW : mW g b K S H) (hS : va_S A s.heap H locs) {Q : mSt → Int → Prop} {v : Int} (hv : okI v) (hn : narrow ty (.int (mI v)) = .int (mI v)) (hq : Q S v) (hc : cells ≤ mc) (hs : slots ≤ ms) (d : decode cc pc = .ok (.ireturn, 1)) : W p l e R s m args below meth c H locs cells slots (vx_MQ below (mQi g b K Q A) XC args s mc ms A) (F0 m pc ls [.int (mI v)]) :=
  W.widen hc hs (vx_ret (W.zret X.1 X.2.1 hr hn (fun t ht hWm => ⟨⟨mI v, (S, v), rfl, ⟨rfl, hv, hq⟩, (show mW g b K S t.heap by rw [ht]; exact hW)⟩, hS.F ht⟩) hS.2.2 d hlk))
theorem m_off {o n ds : String} {v : Value} {t index : Nat} (X : mX p s m args c cc own) (h : va_OF o n ds v t (mLo g) s s.heap) (hK : mKg g s) (hW : mW g b K S H) (hS : va_S (mA b K s.heap.size) s.heap H locs) (hl : Cond.fieldLink own index o n ds ∈ wsG) (d : decode cc pc = .ok (.getfield index, 3)) (k : W p l e R s m args below meth c H locs cells slots Q (F0 m (pc + 3) ls (v :: rest))) : W p l e R s m args below meth c H locs cells slots Q (F0 m pc ls (.ref t :: rest)) := by
  obtain ⟨cf, kk, fi, f, cell, h1, h2, h3, h4, h5, h6⟩ := (h.narrow (m_lo hK hW)).kept hS.2.1
  exact W.getf X.1 X.2.1 X.2.2.1 (X.2.2.2 _ hl) h1 h2 h3 h4 (v := v) h5 rfl rfl d k
theorem m_srec (hK : mKg g s) (hW : mW g b K S H) (hS : va_S (mA b K s.heap.size) s.heap H locs) {j : Nat} (hj : j < nJS) : ∃ cell : Cell, H[g.sa j]? = some cell ∧ cell.vm.isStatics = false ∧ s.vm.findClass "java/lang/String" = some cell.cls := by
  obtain ⟨cell, h1, h2, h3, -⟩ := ((hK.2.2.1.2.2.2.2.2.2.1.1 j hj).1.narrow (m_lo hK hW)).kept hS.2.1
  exact ⟨cell, h1, h2, h3⟩
theorem m_sarr (hK : mKg g s) (hW : mW g b K S H) (hS : va_S (mA b K s.heap.size) s.heap H locs) {j : Nat} (hj : j < nJS) : ∃ cell : Cell, H[g.sv j]? = some cell ∧ s.isArrayOf cell .byte ∧ cell.vm ≠ .unknown ∧ lenJS.getD j 0 ≤ cell.slots.size ∧ cell.slots.size.toInt32 = Int32.ofNat (lenJS.getD j 0) ∧ ∀ i : Nat, i < lenJS.getD j 0 → cell.slots[i]? = some (.int ((bytJS.getD j []).getD i 0)) := by
  obtain ⟨cell, h1, h2, h3, h4, h5, h6, -⟩ := ((hK.2.2.1.2.2.2.2.2.2.1.1 j hj).2.2.2.narrow (m_lo hK hW)).kept hS.2.1
  exact ⟨cell, h1, h2, h3, h4, h5, h6⟩
end mStr
theorem T_coder {l : Launch} {g : mG} {b : Nat} {K : Nat → mK} {S : mSt} {j : Nat} (hj : j < nJS) (sz : Nat) : vx_Met l yJ0_coder_7d493 (Cond.code yJ0_coder_7d493 cJ0_coder_7d493 1 (some .byte) :: wsG) { frames := 0, cells := 0, slots := 0, locals := 0 } (mPc g b K S [.ref (g.sa j)] sz) (mQi g b K (fun S1 v => S1 = S ∧ v = 0) (mA b K sz)) (mEx g b K (fun _ _ => False) (mA b K sz)) 0 0 (mA b K sz) :=
  m_of (av := [.ref (g.sa j)]) (Qf := fun A => mQi g b K (fun S1 v => S1 = S ∧ v = 0) A) (Xf := fun A => mEx g b K (fun _ _ => False) A) (by decide) (Nat.le_of_ble_eq_true rfl) (fun p e s m args below meth c ls X hK hml hr hlk hout hnm hW hl => by
    have hS : va_S (mA b K s.heap.size) s.heap s.heap [] := va_S.rf
    have hl : lv_has ls 1 [(0, .ref (g.sa j))] := hl
    refine va_gets (v := .int 1) X.1 X.2.1 (hK.2.2.1.2.2.2.2.2.2.2.1.narrow (m_lo hK hW)) hS X.2.2.1 (X.2.2.2 _ sq_comp) (fun _ h => h) dJ0_coder_7d493_0 ?_
    refine m_num (y := mI 1) rfl ?_
    refine m_if_eq (pc := 3) (tgt := 13) X (by decide) dJ0_coder_7d493_3 (by decide) (fun h => absurd h (by decide)) (fun _ => ?_)
    refine m_aload_n (pc := 6) X dJ0_coder_7d493_6 rfl hl 0 rfl ?_
    refine m_off (pc := 7) X (hK.2.2.1.2.2.2.2.2.2.1.1 j hj).2.1 hK hW hS sq_cdr dJ0_coder_7d493_7 ?_
    refine m_num (y := mI 0) rfl ?_
    refine m_goto (pc := 10) (tgt := 14) X dJ0_coder_7d493_10 (by decide) ?_
    exact m_nret (pc := 14) X hr hlk hW hS (by decide) (by decide +kernel) ⟨rfl, rfl⟩ (by decide) (by decide) dJ0_coder_7d493_14) sz
theorem T_isLat {l : Launch} {g : mG} {b : Nat} {K : Nat → mK} {S : mSt} {j : Nat} (hj : j < nJS) (sz : Nat) : vx_Met l yJ0_isLatin1_aae02 (Cond.code yJ0_isLatin1_aae02 cJ0_isLatin1_aae02 1 (some .boolean) :: wsG) { frames := 0, cells := 0, slots := 0, locals := 0 } (mPc g b K S [.ref (g.sa j)] sz) (mQi g b K (fun S1 v => S1 = S ∧ v = 1) (mA b K sz)) (mEx g b K (fun _ _ => False) (mA b K sz)) 0 0 (mA b K sz) :=
  m_of (av := [.ref (g.sa j)]) (Qf := fun A => mQi g b K (fun S1 v => S1 = S ∧ v = 1) A) (Xf := fun A => mEx g b K (fun _ _ => False) A) (by decide) (Nat.le_of_ble_eq_true rfl) (fun p e s m args below meth c ls X hK hml hr hlk hout hnm hW hl => by
    have hS : va_S (mA b K s.heap.size) s.heap s.heap [] := va_S.rf
    have hl : lv_has ls 1 [(0, .ref (g.sa j))] := hl
    refine va_gets (v := .int 1) X.1 X.2.1 (hK.2.2.1.2.2.2.2.2.2.2.1.narrow (m_lo hK hW)) hS X.2.2.1 (X.2.2.2 _ sq_comp) (fun _ h => h) dJ0_isLatin1_aae02_0 ?_
    refine m_num (y := mI 1) rfl ?_
    refine m_if_eq (pc := 3) (tgt := 17) X (by decide) dJ0_isLatin1_aae02_3 (by decide) (fun h => absurd h (by decide)) (fun _ => ?_)
    refine m_aload_n (pc := 6) X dJ0_isLatin1_aae02_6 rfl hl 0 rfl ?_
    refine m_off (pc := 7) X (hK.2.2.1.2.2.2.2.2.2.1.1 j hj).2.1 hK hW hS sq_cdr dJ0_isLatin1_aae02_7 ?_
    refine m_num (y := mI 0) rfl ?_
    refine m_if_ne (pc := 10) (tgt := 17) X (by decide) dJ0_isLatin1_aae02_10 (by decide) (fun h => absurd rfl h) (fun _ => ?_)
    refine m_iconst (pc := 13) X dJ0_isLatin1_aae02_13 ?_
    refine m_goto (pc := 14) (tgt := 18) X dJ0_isLatin1_aae02_14 (by decide) ?_
    exact m_nret (pc := 18) X hr hlk hW hS (by decide) (by decide +kernel) ⟨rfl, rfl⟩ (by decide) (by decide) dJ0_isLatin1_aae02_18) sz
theorem T_length {l : Launch} {g : mG} {b : Nat} {K : Nat → mK} {S : mSt} {j : Nat} (hj : j < nJS) (sz : Nat) : vx_Met l yJ0_length_8abf5 (Cond.code yJ0_length_8abf5 cJ0_length_8abf5 1 (some .int) :: wsG) { frames := 1, cells := 0, slots := 0, locals := 30 } (mPc g b K S [.ref (g.sa j)] sz) (mQi g b K (fun S1 v => S1 = S ∧ v = sLen j) (mA b K sz)) (mEx g b K (fun _ _ => False) (mA b K sz)) 0 0 (mA b K sz) :=
  m_of (av := [.ref (g.sa j)]) (Qf := fun A => mQi g b K (fun S1 v => S1 = S ∧ v = sLen j) A) (Xf := fun A => mEx g b K (fun _ _ => False) A) (by decide) (Nat.le_of_ble_eq_true rfl) (fun p e s m args below meth c ls X hK hml hr hlk hout hnm hW hl => by
    have hS : va_S (mA b K s.heap.size) s.heap s.heap [] := va_S.rf
    have hl : lv_has ls 1 [(0, .ref (g.sa j))] := hl
    refine m_aload_n (pc := 0) X dJ0_length_8abf5_0 rfl hl 0 rfl ?_
    refine m_off (pc := 1) X (hK.2.2.1.2.2.2.2.2.2.1.1 j hj).2.2.1 hK hW hS sq_val dJ0_length_8abf5_1 ?_
    obtain ⟨cell, h1, h2, h3, h4, h5, h6⟩ := m_sarr hK hW hS hj
    refine W.alen X.1 X.2.1 h1 h2 h5 rfl rfl dJ0_length_8abf5_4 ?_
    refine W.eq (g2 := F0 m 5 ls [.int (mI (sLen j))]) rfl ?_
    refine m_aload_n (pc := 5) X dJ0_length_8abf5_5 rfl hl 0 rfl ?_
    refine m_callGi (pc := 6) X hml hl.1 hK hW hS (As := []) (rest := [.int (mI (sLen j))]) (a := g.sa j) (T_coder hj) (m_srec hK hW hS hj) sq_cod0 sq_cod1 sq_cod2 sq_iS sq_cod3 spl_cod (by decide) (Nat.le_of_ble_eq_true rfl) dJ0_length_8abf5_6 (fun v S1 H1 locs1 ov h hW1 hS1 => ?_)
    obtain ⟨rfl, rfl⟩ := h
    refine m_ishr (pc := 9) X dJ0_length_8abf5_9 ?_
    have e0 : bShr (sLen j) 0 = sLen j := by
      have h := str_len j hj
      unfold sLen
      have : ∀ n : Nat, n < 8 → bShr (n : Int) 0 = n := by decide +kernel
      exact this _ h.2
    rw [e0]
    exact m_iret (pc := 10) X hr hlk hW1 hS1 (sLen_ok hj) ⟨rfl, rfl⟩ (by decide) (by decide) dJ0_length_8abf5_10) sz
theorem T_pcheck {l : Launch} {g : mG} {b : Nat} {K : Nat → mK} {S : mSt} {i n : Int} {v : Value} (hv1 : v.category = 1) (hi : okI i) (hn : okI n) (h0 : 0 ≤ i) (h1 : i < n) (sz : Nat) : vx_Met l yJ3_checkIndex_8e157 (Cond.code yJ3_checkIndex_8e157 cJ3_checkIndex_8e157 3 (some .int) :: wsG) { frames := 0, cells := 0, slots := 0, locals := 0 } (mPc g b K S [.int (mI i), .int (mI n), v] sz) (mQi g b K (fun S1 w => S1 = S ∧ w = i) (mA b K sz)) (mEx g b K (fun _ _ => False) (mA b K sz)) 0 0 (mA b K sz) :=
  m_of (av := [.int (mI i), .int (mI n), v]) (Qf := fun A => mQi g b K (fun S1 w => S1 = S ∧ w = i) A) (Xf := fun A => mEx g b K (fun _ _ => False) A) (by decide) (by cases v <;> first | exact Nat.le_of_ble_eq_true rfl | (simp [Value.category] at hv1)) (fun p e s m args below meth c ls X hK hml hr hlk hout hnm hW hl => by
    have hS : va_S (mA b K s.heap.size) s.heap s.heap [] := va_S.rf
    have hl : lv_has ls 3 [(0, .int (mI i)), (1, .int (mI n))] := lv_sub hl [0, 1] rfl
    refine m_iload_n (pc := 0) X dJ3_checkIndex_8e157_0 rfl hl 0 rfl ?_
    refine m_if_lt (pc := 1) (tgt := 9) X hi dJ3_checkIndex_8e157_1 (by decide) (fun h => absurd h (by omega)) (fun _ => ?_)
    refine m_iload_n (pc := 4) X dJ3_checkIndex_8e157_4 rfl hl 0 rfl ?_
    refine m_iload_n (pc := 5) X dJ3_checkIndex_8e157_5 rfl hl 1 rfl ?_
    refine m_icmp_lt (pc := 6) (tgt := 16) X hi hn dJ3_checkIndex_8e157_6 (by decide) (fun _ => ?_) (fun h => absurd h (by omega))
    refine m_iload_n (pc := 16) X dJ3_checkIndex_8e157_16 rfl hl 0 rfl ?_
    exact m_iret (pc := 17) X hr hlk hW hS hi ⟨rfl, rfl⟩ (by decide) (by decide) dJ3_checkIndex_8e157_17) sz
theorem T_scheck {l : Launch} {g : mG} {b : Nat} {K : Nat → mK} {S : mSt} {i n : Int} (hi : okI i) (hn : okI n) (h0 : 0 ≤ i) (h1 : i < n) (sz : Nat) : vx_Met l yJ0_checkIndex_df160 (Cond.code yJ0_checkIndex_df160 cJ0_checkIndex_df160 2 none :: wsG) { frames := 1, cells := 0, slots := 0, locals := 30 } (mPc g b K S [.int (mI i), .int (mI n)] sz) (mQv g b K (fun S1 => S1 = S) (mA b K sz)) (mEx g b K (fun _ _ => False) (mA b K sz)) 0 0 (mA b K sz) :=
  m_of (av := [.int (mI i), .int (mI n)]) (Qf := fun A => mQv g b K (fun S1 => S1 = S) A) (Xf := fun A => mEx g b K (fun _ _ => False) A) (by decide) (Nat.le_of_ble_eq_true rfl) (fun p e s m args below meth c ls X hK hml hr hlk hout hnm hW hl => by
    have hS : va_S (mA b K s.heap.size) s.heap s.heap [] := va_S.rf
    have hl : lv_has ls 2 [(0, .int (mI i)), (1, .int (mI n))] := hl
    refine m_iload_n (pc := 0) X dJ0_checkIndex_df160_0 rfl hl 0 rfl ?_
    refine m_iload_n (pc := 1) X dJ0_checkIndex_df160_1 rfl hl 1 rfl ?_
    have hz : ∃ v : Value, v.category = 1 ∧ va_Z "jdk/internal/util/Preconditions" "SIOOBE_FORMATTER" "Ljava/util/function/BiFunction;" v (mLo g) s s.heap := by
      rcases hK.2.2.1.2.2.2.2.2.2.2.2 with h | ⟨t, h⟩
      · exact ⟨_, rfl, h⟩
      · exact ⟨_, rfl, h⟩
    obtain ⟨v, hv, hz⟩ := hz
    refine va_gets (v := v) X.1 X.2.1 (hz.narrow (m_lo hK hW)) hS X.2.2.1 (X.2.2.2 _ sq_fmt) (fun _ h => h) dJ0_checkIndex_df160_2 ?_
    refine m_callSi (pc := 5) X hml hl.1 hK hW hS (As := [.int (mI i), .int (mI n), v]) (rest := []) (T_pcheck hv hi hn h0 h1) sq_pc0 sq_pc1 sq_iP sq_pc3 spl_pc (by decide) (Nat.le_of_ble_eq_true rfl) dJ0_checkIndex_df160_5 (fun v S1 H1 locs1 ov h hW1 hS1 => ?_)
    obtain ⟨rfl, rfl⟩ := h
    refine lv_pop (pc := 8) X.1 X.2.1 dJ0_checkIndex_df160_8 rfl ?_
    exact m_vret (pc := 9) X hr hlk hW1 hS1 rfl (by decide) (by decide) dJ0_checkIndex_df160_9) sz
theorem T_l1char {l : Launch} {g : mG} {b : Nat} {K : Nat → mK} {S : mSt} {i : Int} {j : Nat} (hj : j < nJS) (hi : okI i) (h0 : 0 ≤ i) (h1 : i < sLen j) (sz : Nat) : vx_Met l yJ1_charAt_3b067 (Cond.code yJ1_charAt_3b067 cJ1_charAt_3b067 2 (some .char) :: wsG) { frames := 2, cells := 0, slots := 0, locals := 60 } (mPc g b K S [.ref (g.sv j), .int (mI i)] sz) (mQi g b K (fun S1 v => S1 = S ∧ v = sCh j i) (mA b K sz)) (mEx g b K (fun _ _ => False) (mA b K sz)) 0 0 (mA b K sz) :=
  m_of (av := [.ref (g.sv j), .int (mI i)]) (Qf := fun A => mQi g b K (fun S1 v => S1 = S ∧ v = sCh j i) A) (Xf := fun A => mEx g b K (fun _ _ => False) A) (by decide) (Nat.le_of_ble_eq_true rfl) (fun p e s m args below meth c ls X hK hml hr hlk hout hnm hW hl => by
    have hS : va_S (mA b K s.heap.size) s.heap s.heap [] := va_S.rf
    have hl : lv_has ls 2 [(0, .ref (g.sv j)), (1, .int (mI i))] := hl
    have hlen := str_len j hj
    have h1' : i < (lenJS.getD j 0 : Nat) := h1
    refine m_iload_n (pc := 0) X dJ1_charAt_3b067_0 rfl hl 1 rfl ?_
    refine m_aload_n (pc := 1) X dJ1_charAt_3b067_1 rfl hl 0 rfl ?_
    obtain ⟨cell, e1, e2, e3, e4, e5, e6⟩ := m_sarr hK hW hS hj
    refine W.alen X.1 X.2.1 e1 e2 e5 rfl rfl dJ1_charAt_3b067_2 ?_
    refine W.eq (g2 := F0 m 3 ls [.int (mI (sLen j)), .int (mI i)]) rfl ?_
    refine m_callSv (pc := 3) X hml hl.1 hK hW hS (As := [.int (mI i), .int (mI (sLen j))]) (rest := []) (T_scheck hi (sLen_ok hj) h0 h1) sq_ci0 sq_ci1 sq_iS sq_ci3 spl_ci (by decide) (Nat.le_of_ble_eq_true rfl) dJ1_charAt_3b067_3 (fun S1 H1 locs1 h hW1 hS1 => ?_)
    subst h
    refine m_aload_n (pc := 6) X dJ1_charAt_3b067_6 rfl hl 0 rfl ?_
    refine m_iload_n (pc := 7) X dJ1_charAt_3b067_7 rfl hl 1 rfl ?_
    obtain ⟨cell, e1, e2, e3, e4, e5, e6⟩ := m_sarr hK hW1 hS1 hj
    have hni := mI_not (n := lenJS.getD j 0) hi h0 h1'
    refine W.bald X.1 X.2.1 e1 e2 e3 (fun q => hni (q.imp id fun z => Nat.le_trans e4 z)) (v := .int ((bytJS.getD j []).getD i.toNat 0)) (by rw [mI_cl hi]; exact e6 _ (by omega)) rfl rfl dJ1_charAt_3b067_8 ?_
    refine W.eq (g2 := F0 m 9 ls [.int ((bytJS.getD j []).getD i.toNat 0)]) rfl ?_
    refine m_sipush (pc := 9) X dJ1_charAt_3b067_9 rfl ?_
    refine lv_iand (pc := 12) X.1 X.2.1 dJ1_charAt_3b067_12 ?_
    have hc := str_chr j hj i.toNat (by omega)
    refine lv_i2c (pc := 13) X.1 X.2.1 dJ1_charAt_3b067_13 (v := mI (sCh j i)) (hc.1.trans (mI_of _).symm) ?_
    exact m_nret (pc := 14) X hr hlk hW1 hS1 (sCh_ok _ _) (by unfold sCh; rw [mI_of]; exact hc.2) ⟨rfl, rfl⟩ (by decide) (by decide) dJ1_charAt_3b067_14) sz
theorem T_charAt {l : Launch} {g : mG} {b : Nat} {K : Nat → mK} {S : mSt} {i : Int} {j : Nat} (hj : j < nJS) (hi : okI i) (h0 : 0 ≤ i) (h1 : i < sLen j) (sz : Nat) : vx_Met l yJ0_charAt_5068e (Cond.code yJ0_charAt_5068e cJ0_charAt_5068e 2 (some .char) :: wsG) { frames := 3, cells := 0, slots := 0, locals := 90 } (mPc g b K S [.ref (g.sa j), .int (mI i)] sz) (mQi g b K (fun S1 v => S1 = S ∧ v = sCh j i) (mA b K sz)) (mEx g b K (fun _ _ => False) (mA b K sz)) 0 0 (mA b K sz) :=
  m_of (av := [.ref (g.sa j), .int (mI i)]) (Qf := fun A => mQi g b K (fun S1 v => S1 = S ∧ v = sCh j i) A) (Xf := fun A => mEx g b K (fun _ _ => False) A) (by decide) (Nat.le_of_ble_eq_true rfl) (fun p e s m args below meth c ls X hK hml hr hlk hout hnm hW hl => by
    have hS : va_S (mA b K s.heap.size) s.heap s.heap [] := va_S.rf
    have hl : lv_has ls 2 [(0, .ref (g.sa j)), (1, .int (mI i))] := hl
    refine m_aload_n (pc := 0) X dJ0_charAt_5068e_0 rfl hl 0 rfl ?_
    refine m_callGi (pc := 1) X hml hl.1 hK hW hS (As := []) (rest := []) (a := g.sa j) (T_isLat hj) (m_srec hK hW hS hj) sq_lat0 sq_lat1 sq_lat2 sq_iS sq_lat3 spl_lat (by decide) (Nat.le_of_ble_eq_true rfl) dJ0_charAt_5068e_1 (fun v S1 H1 locs1 ov h hW1 hS1 => ?_)
    obtain ⟨rfl, rfl⟩ := h
    refine m_if_eq (pc := 4) (tgt := 16) X (by decide) dJ0_charAt_5068e_4 (by decide) (fun h => absurd h (by decide)) (fun _ => ?_)
    refine m_aload_n (pc := 7) X dJ0_charAt_5068e_7 rfl hl 0 rfl ?_
    refine m_off (pc := 8) X (hK.2.2.1.2.2.2.2.2.2.1.1 j hj).2.2.1 hK hW1 hS1 sq_val dJ0_charAt_5068e_8 ?_
    refine m_iload_n (pc := 11) X dJ0_charAt_5068e_11 rfl hl 1 rfl ?_
    refine m_callSi (pc := 12) X hml hl.1 hK hW1 hS1 (As := [.ref (g.sv j), .int (mI i)]) (rest := []) (T_l1char hj hi h0 h1) sq_l1c0 sq_l1c1 sq_iL sq_l1c3 spl_l1c (by decide) (Nat.le_of_ble_eq_true rfl) dJ0_charAt_5068e_12 (fun v S2 H2 locs2 ov h hW2 hS2 => ?_)
    obtain ⟨rfl, rfl⟩ := h
    have hc := str_chr j hj i.toNat (by have := str_len j hj; have h1' : i < (lenJS.getD j 0 : Nat) := h1; omega)
    exact m_nret (pc := 15) X hr hlk hW2 hS2 (sCh_ok _ _) (by unfold sCh; rw [mI_of]; exact hc.2) ⟨rfl, rfl⟩ (by decide) (by decide) dJ0_charAt_5068e_15) sz
section mStr2
variable {p : Program} {l : Launch} {e : Env} {R : Room} {s : State} {m : MethodId} {args : Array Value} {below : List Frame} {meth : Method} {c : Code} {H : Heap} {locs : List Loc} {cells slots : Nat} {Q : State → Prop}
variable {cc : ByteArray} {pc nL : Nat} {ret : Option FieldType} {ls : Array Slot} {rest : List Value} {own : String} {g : mG} {b : Nat} {K : Nat → mK} {S : mSt}
theorem m_slen (C : mC p l s m args meth c cc own nL ret g) (hls : ls.size = nL) (hW : mW g b K S H) (hS : va_S (mA b K s.heap.size) s.heap H locs) {j index : Nat} (hj : j < nJS) (w1 : Cond.methodLink own index yJ0_length_8abf5 ∈ wsG) (hR : 5 ≤ R.frames ∧ 150 ≤ R.locals ∧ cells ≤ R.cells ∧ slots ≤ R.slots) (hst : (rest.map fun v => v.category).sum ≤ 8) (d : decode cc pc = .ok (.invokevirtual index, 3)) (k : ∀ (H1 : Heap) (locs1 : List Loc), mW g b K S H1 → va_S (mA b K s.heap.size) s.heap H1 locs1 → W p l e R s m args below meth c H1 locs1 cells slots Q (F0 m (pc + 3) ls (.int (mI (sLen j)) :: rest))) : W p l e R s m args below meth c H locs cells slots Q (F0 m pc ls (.ref (g.sa j) :: rest)) := by
  refine m_callGi C.1 C.2.2.1 hls C.2.1 hW hS (As := []) (rest := rest) (a := g.sa j) (T_length hj) (m_srec C.2.1 hW hS hj) w1 sq_len1 sq_len2 sq_iS sq_len3 spl_len ⟨rfl, rfl, by dsimp only; omega, by dsimp only; omega, by omega, by omega⟩ hst d (fun v S1 H1 locs1 ov h hW1 hS1 => ?_)
  obtain ⟨rfl, rfl⟩ := h
  exact k H1 locs1 hW1 hS1
theorem m_schar (C : mC p l s m args meth c cc own nL ret g) (hls : ls.size = nL) (hW : mW g b K S H) (hS : va_S (mA b K s.heap.size) s.heap H locs) {j index : Nat} {i : Int} (hj : j < nJS) (hi : okI i) (h0 : 0 ≤ i) (h1 : i < sLen j) (w1 : Cond.methodLink own index yJ0_charAt_5068e ∈ wsG) (hR : 5 ≤ R.frames ∧ 150 ≤ R.locals ∧ cells ≤ R.cells ∧ slots ≤ R.slots) (hst : (rest.map fun v => v.category).sum ≤ 8) (d : decode cc pc = .ok (.invokevirtual index, 3)) (k : ∀ (H1 : Heap) (locs1 : List Loc), mW g b K S H1 → va_S (mA b K s.heap.size) s.heap H1 locs1 → W p l e R s m args below meth c H1 locs1 cells slots Q (F0 m (pc + 3) ls (.int (mI (sCh j i)) :: rest))) : W p l e R s m args below meth c H locs cells slots Q (F0 m pc ls (.int (mI i) :: .ref (g.sa j) :: rest)) := by
  refine m_callGi C.1 C.2.2.1 hls C.2.1 hW hS (As := [.int (mI i)]) (rest := rest) (a := g.sa j) (T_charAt hj hi h0 h1) (m_srec C.2.1 hW hS hj) w1 sq_chr1 sq_chr2 sq_iS sq_chr3 spl_chr ⟨rfl, rfl, by dsimp only; omega, by dsimp only; omega, by omega, by omega⟩ hst d (fun v S1 H1 locs1 ov h hW1 hS1 => ?_)
  obtain ⟨rfl, rfl⟩ := h
  exact k H1 locs1 hW1 hS1
end mStr2
