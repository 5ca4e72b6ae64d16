set_option maxHeartbeats 4000000
set_option maxRecDepth 200000
theorem mRf_lt : ∀ r ∈ mRf, r.2.2 < 34 := by decide +kernel
theorem va_OF_fun {o n d : String} {v v' : Value} {t : Nat} {A : Nat → Prop} {U : State} {H : Heap} (h : va_OF o n d v t A U H) (h' : va_OF o n d v' t A U H) : v = v' := by
  obtain ⟨cf, k, i, f, cell, h1, h2, h3, h4, h5, h6⟩ := h
  obtain ⟨cf', k', i', f', cell', g1, g2, g3, g4, g5, g6⟩ := h'
  cases h1.symm.trans g1
  cases h3.symm.trans g3
  exact Option.some.inj (h5.symm.trans g5)
theorem va_T_fun {ty : FieldType} {t N N' : Nat} {f f' : Nat → Value} {A : Nat → Prop} {U : State} {H : Heap} (h : va_T ty t N f A U H) (h' : va_T ty t N' f' A U H) (h1 : N < 100) (h2 : N' < 100) : N = N' ∧ ∀ j, j < N → f j = f' j := by
  obtain ⟨cell, a1, a2, a3, a4, a5, a6, a7⟩ := h
  obtain ⟨cell', b1, b2, b3, b4, b5, b6, b7⟩ := h'
  cases a1.symm.trans b1
  have e : N = N' := by
    have := congrArg Int32.toInt (a5.symm.trans b5)
    rw [Int32.toInt_ofNat_of_lt (by omega), Int32.toInt_ofNat_of_lt (by omega)] at this
    omega
  subst e
  exact ⟨rfl, fun j hj => Option.some.inj ((a6 j hj).symm.trans (b6 j hj))⟩
theorem st_prim {s : State} {args : Array Value} {ty : FieldType} (h : (Cond.arrayClass ty).before args s = true) : ∃ cA : ClassId, ArrOfT s cA ty ∧ s.vm.findClass ("[" ++ ty.toString) = some cA := by
  obtain ⟨c, k, comp, h1, h2, h3⟩ := Cond.arrayClass_spec h
  exact ⟨c, fun n z => ⟨fun k h => (by cases h), k, h2, comp, h3⟩, h1⟩
theorem st_obj {s : State} {args : Array Value} {C : String} (h : (Cond.arrayOver (.object C)).before args s = true) : ∃ cA : ClassId, ArrOfT s cA (.object C) ∧ va_RA s cA (.object C) := by
  obtain ⟨comp, c, k, h1, h2, h3, h4, h5⟩ := Cond.arrayOver_spec h
  exact ⟨c, fun n z => ⟨fun k h => (by cases h), k, h3, comp, h4⟩, k, comp, h3, h4, h1, h5⟩
theorem st_arr {s : State} {args : Array Value} {t : FieldType} (h : (Cond.arrayOver (.array t)).before args s = true) : ∃ cA : ClassId, ArrOfT s cA (.array t) ∧ s.vm.findClass ("[" ++ (FieldType.array t).toString) = some cA := by
  obtain ⟨comp, c, k, h1, h2, h3, h4, h5⟩ := arrayOverA_spec h
  exact ⟨c, fun n z => ⟨fun k h => (by cases h), k, h3, comp, h4⟩, h5⟩
theorem st_g {s : State} {args : Array Value} (hts : ∀ w ∈ lw_tbl, w.before args s = true) (hfl : ∀ c ∈ lw_fl, c.before args s = true) : ∃ g : mG, g.lo = s.heap.size ∧ mKg g s ∧ cAr s := by
  have hA : ∀ a : Nat, a < s.heap.size → ¬ (fun q => s.heap.size ≤ q : Nat → Prop) a := fun a h q => absurd h (Nat.not_lt.mpr q)
  obtain ⟨c0, i0, k0⟩ := u_known (ws := lw_tbl) (C := RX1) (T := TX1) (N := 4) (n := 4) hts (fun w h => (List.mem_filter.mp (inX1 w h)).1) (hts _ (List.mem_filter.mp (q_328 : Cond.instantiable RX1 4 ∈ wsG)).1)
  obtain ⟨c1, i1, k1⟩ := u_known (ws := lw_tbl) (C := RX2) (T := TX2) (N := 13) (n := 13) hts (fun w h => (List.mem_filter.mp (inX2 w h)).1) (hts _ (List.mem_filter.mp (q_119 : Cond.instantiable RX2 13 ∈ wsG)).1)
  obtain ⟨c2, i2, k2⟩ := u_known (ws := lw_tbl) (C := RX3) (T := TX3) (N := 8) (n := 8) hts (fun w h => (List.mem_filter.mp (inX3 w h)).1) (hts _ (List.mem_filter.mp (q_243 : Cond.instantiable RX3 8 ∈ wsG)).1)
  obtain ⟨c3, i3, k3⟩ := u_known (ws := lw_tbl) (C := RX5) (T := TX5) (N := 9) (n := 9) hts (fun w h => (List.mem_filter.mp (inX5 w h)).1) (hts _ (List.mem_filter.mp (q_125 : Cond.instantiable RX5 9 ∈ wsG)).1)
  obtain ⟨c4, i4, k4⟩ := u_known (ws := lw_tbl) (C := RX6) (T := TX6) (N := 3) (n := 3) hts (fun w h => (List.mem_filter.mp (inX6 w h)).1) (hts _ (List.mem_filter.mp (q_308 : Cond.instantiable RX6 3 ∈ wsG)).1)
  obtain ⟨c5, i5, k5⟩ := u_known (ws := lw_tbl) (C := RX7) (T := TX7) (N := 2) (n := 2) hts (fun w h => (List.mem_filter.mp (inX7 w h)).1) (hts _ (List.mem_filter.mp (q_378 : Cond.instantiable RX7 2 ∈ wsG)).1)
  obtain ⟨c6, i6, k6⟩ := u_known (ws := lw_tbl) (C := RX8) (T := TX8) (N := 0) (n := 5) hts (fun w h => absurd h List.not_mem_nil) (hts _ (List.mem_filter.mp (q_631 : Cond.instantiable RX8 5 ∈ wsG)).1)
  obtain ⟨c7, i7, k7⟩ := u_known (ws := lw_tbl) (C := RX9) (T := TX9) (N := 4) (n := 4) hts (fun w h => (List.mem_filter.mp (inX9 w h)).1) (hts _ (List.mem_filter.mp (q_357 : Cond.instantiable RX9 4 ∈ wsG)).1)
  obtain ⟨c8, i8, k8⟩ := u_known (ws := lw_tbl) (C := RX10) (T := TX10) (N := 7) (n := 7) hts (fun w h => (List.mem_filter.mp (inX10 w h)).1) (hts _ (List.mem_filter.mp (q_275 : Cond.instantiable RX10 7 ∈ wsG)).1)
  obtain ⟨c9, i9, k9⟩ := u_known (ws := lw_tbl) (C := RX11) (T := TX11) (N := 13) (n := 13) hts (fun w h => (List.mem_filter.mp (inX11 w h)).1) (hts _ (List.mem_filter.mp (q_111 : Cond.instantiable RX11 13 ∈ wsG)).1)
  obtain ⟨c10, i10, k10⟩ := u_known (ws := lw_tbl) (C := RX12) (T := TX12) (N := 26) (n := 26) hts (fun w h => (List.mem_filter.mp (inX12 w h)).1) (hts _ (List.mem_filter.mp (q_1374 : Cond.instantiable RX12 26 ∈ wsG)).1)
  obtain ⟨y0, a0, b0⟩ := st_prim (hts _ (w_ac .int (by simp)))
  obtain ⟨y1, a1, b1⟩ := st_prim (hts _ (w_ac .boolean (by simp)))
  obtain ⟨y2, a2, b2⟩ := st_obj (hts _ (w_ao (.object "MoonWash$Laundry") (by simp)))
  obtain ⟨y3, a3, b3⟩ := st_arr (hts _ (w_ao (.array .int) (by simp)))
  obtain ⟨y4, a4, b4⟩ := st_obj (hts _ (w_ao (.object "MoonWash$Token") (by simp)))
  obtain ⟨y5, a5, b5⟩ := st_prim (hts _ (w_ac .long (by simp)))
  have hstr : ∀ j : Nat, ∃ r : Nat × Nat, j < 34 → va_O "java/lang/String" r.1 (fun q => s.heap.size ≤ q) s s.heap ∧ va_OF "java/lang/String" "coder" "B" (.int 0) r.1 (fun q => s.heap.size ≤ q) s s.heap ∧ va_OF "java/lang/String" "value" "[B" (.ref r.2) r.1 (fun q => s.heap.size ≤ q) s s.heap ∧ va_T .byte r.2 (lenJS.getD j 0) (fun k => .int ((bytJS.getD j []).getD k 0)) (fun q => s.heap.size ≤ q) s s.heap ∧ (stT j).eval args s none [] s = some (.ref r.1) := by
    intro j
    by_cases hj : j < 34
    · have hl8 := sLen_all j hj
      have hm := f_s hj
      have z1 : ∀ i : Nat, i < 1 → [lenJS.getD j 0].getD i 0 < 2 ^ 31 := fun i hi => by
        obtain rfl : i = 0 := by omega
        exact Nat.lt_trans hl8 (by decide)
      have z2 : ∀ i : Nat, i < 1 → (Cond.eq (.length (.field (stT j) "java/lang/String" "value" "[B")) (.int (Int32.ofNat ([lenJS.getD j 0].getD i 0)))).before args s = true := fun i hi => by
        obtain rfl : i = 0 := by omega
        exact hfl _ (hm _ (by simp [stL]))
      have z3 : ∀ i : Nat, i < 1 → ∀ k : Nat, k < [lenJS.getD j 0].getD i 0 → (Cond.eq (.elem (.field (stT j) "java/lang/String" "value" "[B") (.int (Int32.ofNat k))) (.int (([bytJS.getD j []].getD i []).getD k 0))).before args s = true := fun i hi k hk => by
        obtain rfl : i = 0 := by omega
        refine hfl _ (hm _ ?_)
        unfold stL
        exact List.mem_cons_of_mem _ (List.mem_cons_of_mem _ (List.mem_cons_of_mem _ (List.mem_cons_of_mem _ (List.mem_map.mpr ⟨k, List.mem_range.mpr hk, rfl⟩))))
      obtain ⟨ad, av, h1, h2⟩ := vk_Sof (args := args) (s := s) (N := 1) (tm := fun _ => stT j) (len := [lenJS.getD j 0]) (byt := [bytJS.getD j []]) (A := fun q => s.heap.size ≤ q) z1 (fun _ _ => hfl _ (hm _ (by simp [stL]))) (fun _ _ => hfl _ (hm _ (by simp [stL]))) (fun _ _ => hfl _ (hm _ (by simp [stL]))) z2 z3 (fun i i' h1 h2 h3 => by omega) hA
      obtain ⟨g1, g2, g3, g4⟩ := h1.1 0 (by omega)
      exact ⟨(ad 0, av 0), fun _ => ⟨g1, g2, g3, g4, h2 0 (by omega)⟩⟩
    · exact ⟨(0, 0), fun h => absurd h hj⟩
  have htok : ∀ i : Nat, ∃ t : Nat, i < 36 → va_Z "MoonWash$Token" (tkN.getD i "") "LMoonWash$Token;" (.ref t) (fun q => s.heap.size ≤ q) s s.heap ∧ va_O "MoonWash$Token" t (fun q => s.heap.size ≤ q) s s.heap ∧ va_OF "java/lang/Enum" "ordinal" "I" (.int (Int32.ofNat i)) t (fun q => s.heap.size ≤ q) s s.heap ∧ va_OF "MoonWash$Token" "term" "I" (.int (tkT.getD i 0)) t (fun q => s.heap.size ≤ q) s s.heap ∧ (tkX i).eval args s none [] s = some (.ref t) := by
    intro i
    by_cases hi : i < 36
    · have z1 : ∀ k, k < [tkN.getD i ""].length → (Cond.laysStatic "MoonWash$Token" ([tkN.getD i ""].getD k "") "LMoonWash$Token;").before args s = true := fun k hk => by
        obtain rfl : k = 0 := by simpa using hk
        exact hts _ (w_ls i hi)
      have z2 : ∀ k, k < [tkN.getD i ""].length → (Cond.exactly (.static "MoonWash$Token" ([tkN.getD i ""].getD k "") "LMoonWash$Token;") "MoonWash$Token").before args s = true := fun k hk => by
        obtain rfl : k = 0 := by simpa using hk
        exact hfl _ (f_ex i hi)
      have z3 : ∀ q ∈ [("java/lang/Enum", "ordinal", "I", [Int32.ofNat i]), ("MoonWash$Token", "term", "I", [tkT.getD i 0])], ∀ k, k < [tkN.getD i ""].length → (Cond.eq (.field (.static "MoonWash$Token" ([tkN.getD i ""].getD k "") "LMoonWash$Token;") q.1 q.2.1 q.2.2.1) (.int (q.2.2.2.getD k 0))).before args s = true := fun q hq k hk => by
        obtain rfl : k = 0 := by simpa using hk
        rcases List.mem_cons.mp hq with rfl | hq
        · exact hfl _ (f_or i hi)
        · rcases List.mem_cons.mp hq with rfl | hq
          · exact hfl _ (f_te i hi)
          · exact absurd hq List.not_mem_nil
      obtain ⟨ad, h1, h2⟩ := va_Enof2 (args := args) (s := s) (E := "MoonWash$Token") (d := "LMoonWash$Token;") (nm := [tkN.getD i ""]) (F := [("java/lang/Enum", "ordinal", "I", [Int32.ofNat i]), ("MoonWash$Token", "term", "I", [tkT.getD i 0])]) (A := fun q => s.heap.size ≤ q) z1 (hts _ (w_ini _ (by simp))) z2 z3 (fun k k' h1 h2 h3 => by
        have e1 : k < 1 := h1
        have e2 : k' < 1 := h2
        omega) hA
      obtain ⟨g1, g2, g3⟩ := h1.1 0 (by simp)
      exact ⟨ad 0, fun _ => ⟨g1, g2, g3 _ List.mem_cons_self, g3 _ (List.mem_cons_of_mem _ List.mem_cons_self), h2 0 (by simp)⟩⟩
    · exact ⟨0, fun h => absurd h hi⟩
  have hs := fun j => Classical.choose_spec (hstr j)
  have ht := fun i => Classical.choose_spec (htok i)
  generalize hsf : (fun j => Classical.choose (hstr j)) = sf
  generalize htf : (fun i => Classical.choose (htok i)) = tf
  have hs : ∀ j : Nat, j < 34 → va_O "java/lang/String" (sf j).1 (fun q => s.heap.size ≤ q) s s.heap ∧ va_OF "java/lang/String" "coder" "B" (.int 0) (sf j).1 (fun q => s.heap.size ≤ q) s s.heap ∧ va_OF "java/lang/String" "value" "[B" (.ref (sf j).2) (sf j).1 (fun q => s.heap.size ≤ q) s s.heap ∧ va_T .byte (sf j).2 (lenJS.getD j 0) (fun k => .int ((bytJS.getD j []).getD k 0)) (fun q => s.heap.size ≤ q) s s.heap ∧ (stT j).eval args s none [] s = some (.ref (sf j).1) := by
    intro j hj; rw [← hsf]; exact hs j hj
  have ht : ∀ i : Nat, i < 36 → va_Z "MoonWash$Token" (tkN.getD i "") "LMoonWash$Token;" (.ref (tf i)) (fun q => s.heap.size ≤ q) s s.heap ∧ va_O "MoonWash$Token" (tf i) (fun q => s.heap.size ≤ q) s s.heap ∧ va_OF "java/lang/Enum" "ordinal" "I" (.int (Int32.ofNat i)) (tf i) (fun q => s.heap.size ≤ q) s s.heap ∧ va_OF "MoonWash$Token" "term" "I" (.int (tkT.getD i 0)) (tf i) (fun q => s.heap.size ≤ q) s s.heap ∧ (tkX i).eval args s none [] s = some (.ref (tf i)) := by
    intro i hi; rw [← htf]; exact ht i hi
  have hinjS : ∀ i j : Nat, i < 34 → j < 34 → (sf i).1 = (sf j).1 → i = j := by
    intro i j hi hj e
    obtain ⟨-, -, p3, p4, -⟩ := hs i hi
    obtain ⟨-, -, q3, q4, -⟩ := hs j hj
    rw [e] at p3
    have e2 := Value.ref.inj (va_OF_fun p3 q3)
    rw [e2] at p4
    have l1 := sLen_all i hi
    have l2 := sLen_all j hj
    obtain ⟨e3, e4⟩ := va_T_fun p4 q4 (by omega) (by omega)
    exact js_inj i hi j hj e3 (fun k _ hk => Value.int.inj (e4 k hk))
  have hinjT : ∀ i j : Nat, i < 36 → j < 36 → tf i = tf j → i = j := by
    intro i j hi hj e
    have p := (ht i hi).2.2.1
    rw [e] at p
    have e2 := Value.int.inj (va_OF_fun p (ht j hj).2.2.1)
    have := congrArg Int32.toInt e2
    rw [Int32.toInt_ofNat_of_lt (by omega), Int32.toInt_ofNat_of_lt (by omega)] at this
    omega
  obtain ⟨al, e1, e2⟩ := va_Tof (args := args) (s := s) (tm := tkAll) (ty := .object "MoonWash$Token") (N := 36) (f := fun k => .ref (tf k)) (A := fun q => s.heap.size ≤ q) (by decide) (hfl _ f_aa) (va_eqv (hfl _ f_an) rfl) (fun j hj => va_eqv (hfl _ (f_al j hj)) (ht j hj).2.2.2.2) hA
  refine ⟨((fun c => match c with | 0 => c0 | 1 => c1 | 2 => c2 | 3 => c3 | 4 => c4 | 5 => c5 | 6 => c6 | 7 => c7 | 8 => c8 | 9 => c9 | 10 => c10 | _ => c0, fun c => match c with | 0 => i0 | 1 => i1 | 2 => i2 | 3 => i3 | 4 => i4 | 5 => i5 | 6 => i6 | 7 => i7 | 8 => i8 | 9 => i9 | 10 => i10 | _ => i0), (fun t => match t with | 0 => y0 | 1 => y1 | 2 => y2 | 3 => y3 | 4 => y4 | _ => y5), s.heap.size, tf, fun j => (sf j).1, fun j => (sf j).2, al), rfl, ⟨⟨fun c r hr => ?_, fun k r hr => ?_⟩, Nat.le_refl _, ⟨vx_Zqof (hts _ w_us) (hts _ (w_ini _ (by simp))) (hfl _ f_us) hA, vx_Zqof (hts _ w_ss) (hts _ (w_ini _ (by simp))) (hfl _ f_ss) hA, ⟨fun i hi => ⟨(ht i hi).1, (ht i hi).2.1, fun r hr => ?_⟩, fun i j hi hj => hinjT i j hi hj⟩, va_Efof (nm := tkN) (d0 := "LMoonWash$Token;") (E := "MoonWash$Token") (fun i hi => (ht i hi).2.2.2.2) (fun i hi => hfl _ (f_tx i hi)) (fun i hi => (hs _ (tkS_lt hi)).2.2.2.2) hA, va_Zof (hts _ w_la) (hts _ (w_ini _ (by simp))) e1 hA, e2, ⟨fun i hi => ⟨(hs i hi).1, (hs i hi).2.1, (hs i hi).2.2.1, (hs i hi).2.2.2.1⟩, fun i j hi hj => hinjS i j hi hj⟩, va_Zof (hts _ w_cs) (hts _ (w_ini _ (by simp))) (va_eqi (hfl _ f_cs)) hA, va_Zqof (hts _ w_fm) (hts _ (w_ini _ (by simp))) (hfl _ f_fm) hA⟩, fun r hr => ?_, fun w hw => ?_, fun r hr => va_Nc.of (hfl _ (f_nc r hr))⟩, va_AO.of (hts _ (w_ao (.object "MoonWash$Laundry") (by simp))), va_AO.of (hts _ (w_ao (.object "MoonWash$Token") (by simp))), (show (Cond.arrayOver (.array .int)).before args s = true from hts _ (w_ao (.array .int) (by simp)))⟩
  · match c, hr with
    | 0, hr => cases hr; exact k0
    | 1, hr => cases hr; exact k1
    | 2, hr => cases hr; exact k2
    | 3, hr => cases hr; exact k3
    | 4, hr => cases hr; exact k4
    | 5, hr => cases hr; exact k5
    | 6, hr => cases hr; exact k6
    | 7, hr => cases hr; exact k7
    | 8, hr => cases hr; exact k8
    | 9, hr => cases hr; exact k9
    | 10, hr => cases hr; exact k10
    | c + 11, hr => cases hr
  · match k, hr with
    | 0, hr => cases hr; exact ⟨a0, b0⟩
    | 1, hr => cases hr; exact ⟨a1, b1⟩
    | 2, hr => cases hr; exact ⟨a2, b2⟩
    | 3, hr => cases hr; exact ⟨a3, b3⟩
    | 4, hr => cases hr; exact ⟨a4, b4⟩
    | 5, hr => cases hr; exact ⟨a5, b5⟩
    | k + 6, hr => cases hr
  · rcases List.mem_cons.mp hr with rfl | hr
    · exact (ht i hi).2.2.2.1
    · exact absurd hr List.not_mem_nil
  · have hj : r.2.2 < 34 := mRf_lt r hr
    exact vk_R.of (hts _ (w_sr r hr)) (va_eqv (hfl _ (f_mr r hr)) (hs _ hj).2.2.2.2)
  · have h1 := List.mem_filter.mp hw
    have hn : isN w = true := h1.2
    exact va_Nw.of (by cases w <;> first | rfl | (simp [isN] at hn)) (hts w (List.mem_append_right _ h1.1))
