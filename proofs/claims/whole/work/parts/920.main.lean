set_option maxHeartbeats 4000000
set_option maxRecDepth 20000
def R_law : String := "MoonWashLaw"
def lw_P (b : Addr) (xs : List Int32) (args : Array Value) (s : State) : Prop := args = #[.ref b] ∧ s.IntsAt b xs ∧ xs.length ≤ 3072 ∧ (Jvm.Cond.and given_1 narrow_1).before args s = true
def lw_Q (_ : Array Value) (s : State) (o : Outcome) (t : State) : Prop := o = .returned (some (.int 1)) ∧ Framed s o t [] 601024 7293034
def lw_Z (below : List Frame) (a : Array Value) (s : State) : State → Prop := fun t => ∃ o, t.status = .running ∧ Ended t below o ∧ lw_Q a s o t
/-- the law's own end, with 1 on the stack, nothing written that was there before, its room as the claim has it -/
theorem lw_ret {p : Program} {l : Launch} {e : Env} {s : State} {m : MethodId} {below : List Frame} {meth : Method} {c : Code} {b : Nat} (hx : p.tables.exec = Jvm.exec) (hb : c.code = code) (hr : meth.sig.returnType = ret) (hlocks : meth.locks = false) {pc : Nat} {H : Heap} {ls : Array Slot} (hdg : decode code pc = .ok (.ireturn, 1)) : W p l e room_1 s m #[Value.ref b] below meth c H [] 601024 7293034 (lw_Z below #[Value.ref b] s) (F0 m pc ls [.int 1]) := by
  intro T hT X
  obtain ⟨fs, hret, hrun, hended, hW, hframe⟩ := X.leave (v := some (.int 1)) (hlocks := hlocks) (fun h => by rw [hr] at h; cases h)
  have hmeth' : T.vm.method? m = some meth := X.method'
  refine ⟨T.setFrames fs, ?_, .returned (some (.int 1)), hrun, hended, rfl, ⟨_, rfl⟩, hW, hframe⟩
  jvm_step X.here [X.here.top, hx, hb, hdg, hmeth', hr, ret, narrow_b1]
  (try refine ⟨rfl, ?_⟩); (try refine ⟨rfl, ?_⟩)
  first | (intro acts; rw [hret _ acts rfl rfl rfl]) | rw [hret _ _ rfl rfl rfl]
  exact Steps.refl _
/-- what holds at the law's entry: the machine, the code, the tables' words (any of lw_tbl by 'hts w (by decide +kernel)'), the script of L ints xs at the cell b, what the Statement gives of the start (any of its parts by flat_of_before) -/
def lw_At (p : Program) (s : State) (m : MethodId) (meth : Method) (c : Code) (b L : Nat) (xs : Nat → Int32) : Prop :=
  p.tables.exec = Jvm.exec ∧ c.code = code ∧ meth.sig.returnType = ret ∧ c.maxLocals = 7 ∧ s.vm.findClass R_law = some m.cls ∧ (∀ w ∈ lw_tbl, w.before #[Value.ref b] s = true) ∧ va_X b L xs s s.heap ∧ b < s.heap.size ∧ meth.locks = false ∧ (Jvm.Cond.and given_1 narrow_1).before #[Value.ref b] s = true
theorem okS0 : okS (fun _ _ => 0) := fun _ _ => (by decide : okI 0)
theorem c_newl {p : Program} {l : Launch} {e : Env} {R : Room} {s : State} {m : MethodId} {args : Array Value} {below : List Frame} {meth : Method} {c : Code} {H : Heap} {locs : List Loc} {cells slots : Nat} {Q : State → Prop} {cc : ByteArray} {pc : Nat} {ls : Array Slot} {rest : List Value} {own : String} {g : mG} {A0 : Nat → Prop} {h N : Nat} {x : Int} (X : mX p s m args c cc own) (hK : mKg g s) (hsz : H.size = h) (hS : va_S A0 s.heap H locs) (hx : okI x) (hxn : x = N) (hN : N ≤ 1000) (w : Cond.arrayClass .long ∈ wsG) (d : decode cc pc = .ok (.newarray .long, 2)) (hc : cells + 1 ≤ R.cells) (hs : slots + N ≤ R.slots) (k : ∀ (H1 : Heap), H1.size = h + 1 → H1[h]? = some (arrV (g.cy 5) N (fun _ => .long 0)) → (∀ q : Nat, q < h → H1[q]? = H[q]?) → va_S A0 s.heap H1 locs → W p l e R s m args below meth c H1 locs (cells + 1) (slots + N) Q (F0 m (pc + 2) ls (.ref h :: rest))) : W p l e R s m args below meth c H locs cells slots Q (F0 m pc ls (.int (mI x) :: rest)) := by
  have hle : s.heap.size ≤ h := by have := hS.1; omega
  have hneg : ¬ mI x < 0 := fun h => by have := (mI_lt hx (b := 0) (by decide)).mp h; omega
  have hcl : (mI x).toNatClampNeg = N := by rw [mI_cl hx]; omega
  refine va_newaK (atype := .long) X.1 X.2.1 (X.2.2.2 _ w) rfl d rfl hneg hcl (by show N * 8 ≤ _; omega) hc hs hsz (fun H1 cA e1 z1 o1 _ hNm => ?_)
  have hcA : cA = g.cy 5 := Option.some.inj (hNm.symm.trans (hK.1.2 5 _ rfl).2)
  subst hcA
  exact k H1 z1 e1 o1 ⟨Nat.le_trans hS.1 (by omega), fun q h1 h2 => (o1 q (by omega)).trans (hS.2.1 q h1 h2), hS.2.2⟩
theorem flags_off {l : Launch} (h : l.flags = flags0) : l.stackTraces = false := by
  unfold Launch.stackTraces
  rw [h]
  decide +kernel
abbrev lLV (b sb : Nat) (i : Int) : List (Nat × Value) := [(0, .ref sb), (1, .ref (b + 0)), (2, .ref (b + 237 + 0)), (3, .ref (b + 250)), (4, .int (mI i))]
/-- what the pure part owes -/
def wOwed (N : Nat) (Inv : Nat → mSt → mSt → Prop) : Prop := (∀ S S' : mSt, okS S → okS S' → w_X11_init S (fun X => w_X12_init S' (fun M => Inv 0 (mz X 250) M))) ∧ ∀ (n : Nat) (X M : mSt) (k a1 a2 a3 a4 a5 : Int), n < 512 → okS X → okS M → 0 ≤ k → okI a1 → okI a2 → okI a3 → okI a4 → okI a5 → Inv n X M → wl N k a1 a2 a3 a4 a5 X M (fun X1 M1 => Inv (n + 1) X1 M1)
section lMain
variable {p : Program} {l : Launch} {e : Env} {s : State} {m : MethodId} {below : List Frame} {meth : Method} {c : Code} {g : mG} {b sb L : Nat} {xs : Nat → Int32}
theorem l_loop {N : Nat} {Inv : Nat → mSt → mSt → Prop} (hO : wOwed N Inv) (C : lC p l s m #[Value.ref sb] c g sb L xs b) (hr : meth.sig.returnType = ret) (hlk : meth.locks = false) : ∀ (k n : Nat) (X M : mSt) (H : Heap) (locs : List Loc) (ls : Array Slot) (cells slots : Nat), n + k = 513 → Inv n X M → lv_has ls 7 (lLV b sb (6 * n)) → mW g b KX X H → mW g (b + 237) KM M H → va_S (lA s) s.heap H locs → cells + 4 * k ≤ 600000 → slots + 24 * k ≤ 7290000 → W p l e room_1 s m #[Value.ref sb] below meth c H locs cells slots (lw_Z below #[Value.ref sb] s) (F0 m 23 ls []) := by
  intro k
  induction k with
  | zero =>
    intro n X M H locs ls cells slots hn hI hl hX hM hS hc hs
    have hL := C.2.2.2.2.1.2.2
    have oi : okI (6 * (n : Int)) := by unfold okI; omega
    refine m_iload (pc := 23) C.1 dL_law__23 hl 4 rfl ?_
    refine m_aload_n (pc := 25) C.1 dL_law__25 rfl hl 0 rfl ?_
    refine l_slen (pc := 26) C.1 C.2.2.2.2.1.1 C.2.2.2.2.1.2.1 hS dL_law__26 ?_
    refine m_bipush (pc := 27) C.1 dL_law__27 rfl ?_
    refine m_isub (pc := 29) C.1 dL_law__29 ?_
    refine m_icmp_gt (pc := 30) (tgt := 2546) C.1 oi (nm_ok _) dL_law__30 (by decide) (fun _ => ?_) (fun hc1 => absurd hc1 (by unfold nm; omega))
    refine m_iconst (pc := 2546) C.1 dL_law__2546 ?_
    exact va_forget (fun q hq => hS.2.2 q hq) (W.widen (by omega) (by omega) (lw_ret C.1.1 C.1.2.1 hr hlk dL_law__2547))
  | succ k ih =>
    intro n X M H locs ls cells slots hn hI hl hX hM hS hc hs
    have hL := C.2.2.2.2.1.2.2
    have oi : okI (6 * (n : Int)) := by unfold okI; omega
    refine m_iload (pc := 23) C.1 dL_law__23 hl 4 rfl ?_
    refine m_aload_n (pc := 25) C.1 dL_law__25 rfl hl 0 rfl ?_
    refine l_slen (pc := 26) C.1 C.2.2.2.2.1.1 C.2.2.2.2.1.2.1 hS dL_law__26 ?_
    refine m_bipush (pc := 27) C.1 dL_law__27 rfl ?_
    refine m_isub (pc := 29) C.1 dL_law__29 ?_
    rw [nm_of (by omega) (by omega)]
    refine m_icmp_gt (pc := 30) (tgt := 2546) C.1 oi (by unfold okI; omega) dL_law__30 (by decide) (fun _ => ?_) (fun hc1 => ?_)
    · refine m_iconst (pc := 2546) C.1 dL_law__2546 ?_
      exact va_forget (fun q hq => hS.2.2 q hq) (W.widen (by omega) (by omega) (lw_ret C.1.1 C.1.2.1 hr hlk dL_law__2547))
    · refine m_aload_n (pc := 33) C.1 dL_law__33 rfl hl 0 rfl ?_
      refine m_iload (pc := 34) C.1 dL_law__34 hl 4 rfl ?_
      refine l_sld0 (pc := 36) C.1 C.2.2.2.2.1.1 C.2.2.2.2.1.2.1 hS oi (by omega) dL_law__36 ?_
      refine m_bipush (pc := 37) C.1 dL_law__37 rfl ?_
      refine m_iand (pc := 39) C.1 dL_law__39 ?_
      refine Wl_turn (Kt := fun X1 M1 => Inv (n + 1) X1 M1) C N hl hX hM hS oi (by omega) (by omega) (by omega) (by omega) (hO.2 n X M _ _ _ _ _ _ (by omega) hX.2.1 hM.2.1 (bAnd63 _) (sA_ok _ _ _) (sA_ok _ _ _) (sA_ok _ _ _) (sA_ok _ _ _) (sA_ok _ _ _) hI) (fun X1 M1 H1 locs1 ls1 hI1 hl1 hX1 hM1 hS1 => ?_)
      refine m_iinc (pc := 2540) C.1 dL_law__2540 hl1 (by decide) (q0 := 4) rfl (fun v => [(4, .int v), (0, .ref sb), (1, .ref (b + 0)), (2, .ref (b + 237 + 0)), (3, .ref (b + 250))]) (fun _ => rfl) (fun v ls2 ev _ hl2 => ?_)
      rw [nm_of (by omega) (by omega)] at ev
      rw [ev] at hl2
      refine m_goto (pc := 2543) (tgt := 23) C.1 dL_law__2543 (by decide) ?_
      refine ih (n + 1) X1 M1 H1 locs1 ls2 (cells + 4) (slots + 24) (by omega) hI1 ?_ hX1 hM1 hS1 (by omega) (by omega)
      have e : (6 * ((n + 1 : Nat) : Int)) = 6 * (n : Int) + 6 := by omega
      rw [e]
      exact lv_sub hl2 [1, 2, 3, 4, 0] rfl
theorem whole_of {N : Nat} {Inv : Nat → mSt → mSt → Prop} (hO : wOwed N Inv) (l : Launch) (hflags : l.flags = flags0) (hL : L ≤ 3072) (C0 : lw_At p s m meth c sb L xs) : W p l e room_1 s m #[Value.ref sb] below meth c s.heap [] 0 0 (lw_Z below #[Value.ref sb] s) (entryFrame m ([Value.ref sb] : List Value).toArray 7) := by
  obtain ⟨hx, hcode, hr, hml, hown, hts, hX, hbl, hlk, hgv⟩ := C0
  obtain ⟨g, hlo, hK, hA⟩ := st_g hts (flat_of_before _ hgv)
  have X : mX p s m #[Value.ref sb] c cL_law_ "MoonWashLaw" := ⟨hx, hcode, hown, fun w hw => hts w (List.mem_filter.mp hw).1⟩
  have hl := lv_entry (n := 7) [Value.ref sb] (Nat.le_of_ble_eq_true rfl)
  rw [lg_entry_eq]
  have hS : va_S (lA s) s.heap s.heap [] := va_S.rf
  have h0 := hO.1 (fun _ _ => 0) (fun _ _ => 0) okS0 okS0
  refine c_make0 (pc := 0) (b := s.heap.size) (n := 0) (K := KX) (S := fun _ _ => 0) X hml hl.1 hK hA (by omega) okS0 rfl hS (fun q h => by rw [hlo]; exact h) (fun q h => h) inX11 tyX11 tyX11_ok rfl rfl (fun j hj => by match j, hj with | 0, _ => exact rfl | 1, _ => exact rfl | 2, _ => exact rfl | 3, _ => exact rfl | 4, _ => exact rfl | 5, _ => exact rfl | 6, _ => exact rfl | 7, _ => exact rfl | 8, _ => exact rfl | 9, _ => exact rfl | 10, _ => exact rfl | 11, _ => exact rfl | 12, _ => exact rfl | k + 13, h => exact absurd h (by omega)) q_110 q_111 q_81 rfl rfl (T_X11_init h0) (Or.inl q_112) q_113 q_114 (by decide +kernel) ⟨rfl, rfl, by decide, by decide, by decide, by decide⟩ ⟨by decide, by decide⟩ (Nat.le_of_ble_eq_true rfl) dL_law__0 dL_law__3 dL_law__4 (fun X1 H1 locs1 h1 ok1 z1 _ cl1 o1 hS1 => ?_)
  refine m_astore_n (pc := 7) X dL_law__7 rfl hl (by decide) rfl (fun ls hl => ?_)
  refine c_make0 (pc := 8) (b := s.heap.size + 237) (n := 0) (K := KM) (S := fun _ _ => 0) X hml hl.1 hK hA (by omega) okS0 z1 hS1 (fun q h => by rw [hlo]; exact h) (fun q h => by show s.heap.size ≤ q; omega) inX12 tyX12 tyX12_ok rfl rfl (fun j hj => by match j, hj with | 0, _ => exact rfl | 1, _ => exact rfl | 2, _ => exact rfl | 3, _ => exact rfl | 4, _ => exact rfl | 5, _ => exact rfl | 6, _ => exact rfl | 7, _ => exact rfl | 8, _ => exact rfl | 9, _ => exact rfl | 10, _ => exact rfl | 11, _ => exact rfl | 12, _ => exact rfl | 13, _ => exact rfl | 14, _ => exact rfl | 15, _ => exact rfl | 16, _ => exact rfl | 17, _ => exact rfl | 18, _ => exact rfl | 19, _ => exact rfl | 20, _ => exact rfl | 21, _ => exact rfl | 22, _ => exact rfl | 23, _ => exact rfl | 24, _ => exact rfl | 25, _ => exact rfl | k + 26, h => exact absurd h (by omega)) q_1373 q_1374 q_92 rfl rfl (T_X12_init h1) (Or.inl q_1375) q_1376 q_1377 (by decide +kernel) ⟨rfl, rfl, by decide, by decide, by decide, by decide⟩ ⟨by decide, by decide⟩ (Nat.le_of_ble_eq_true rfl) dL_law__8 dL_law__11 dL_law__12 (fun M1 H2 locs2 hI ok2 z2 _ cl2 o2 hS2 => ?_)
  refine m_astore_n (pc := 15) X dL_law__15 rfl hl (by decide) rfl (fun ls hl => ?_)
  refine m_iconst (pc := 16) X dL_law__16 ?_
  refine c_newl (pc := 17) (N := 1) (h := s.heap.size + 250) X hK z2 hS2 (by decide) rfl (by decide) q_1928 dL_law__17 (by decide) (by decide) (fun H3 z3 e3 o3 hS3 => ?_)
  refine m_astore_n (pc := 19) X dL_law__19 rfl hl (by decide) rfl (fun ls hl => ?_)
  refine m_iconst (pc := 20) X dL_law__20 ?_
  refine m_istore (pc := 21) X dL_law__21 hl (by decide) (fun v => [(4, .int v), (3, .ref (s.heap.size + 250)), (2, .ref (s.heap.size + 237 + 0)), (1, .ref (s.heap.size + 0)), (0, .ref sb)]) (fun _ => rfl) (by decide : okI 0) (fun v ls ev _ hl => ?_)
  rw [ev] at hl
  have hX3 : mW g s.heap.size KX (mz X1 250) H3 := by
    refine ⟨by omega, okS_z ok1, fun r => ?_⟩
    by_cases hk : (KX r).1 < 7
    · have h251 := KX_lt (r := r) rfl (by omega)
      by_cases h237 : r < 237
      · rw [mz_ne X1 (by omega)]
        exact mCl_same (cl1 r (by omega) h237) ((o3 _ (by omega)).trans (o2 _ (by omega)))
      · by_cases h250 : r = 250
        · subst h250
          unfold mCl
          rw [show KX 250 = (6, 1, 0) from rfl]
          exact e3.trans (congrArg some (arrV_congr fun j _ => by rw [mz_at]; rfl))
        · have := KX_of (r - 237) (by omega)
          rw [show 237 + (r - 237) = r by omega] at this
          omega
    · exact mCl_no hk
  have hM3 : mW g (s.heap.size + 237) KM M1 H3 := by
    refine ⟨by omega, ok2, fun r => ?_⟩
    by_cases hk : (KM r).1 < 7
    · have h13 := KM_13 hk
      exact mCl_same (cl2 r (by omega) h13) (o3 _ (by omega))
    · exact mCl_no hk
  exact l_loop hO ⟨X, hK, hml, flags_off hflags, ⟨hX, hbl, hL⟩, Nat.le_refl _⟩ hr hlk 513 0 (mz X1 250) M1 H3 locs2 ls _ _ rfl hI (lv_sub hl [4, 3, 2, 1, 0] rfl) hX3 hM3 hS3 (by decide) (by decide)
end lMain
