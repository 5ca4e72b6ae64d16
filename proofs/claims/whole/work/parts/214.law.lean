set_option maxHeartbeats 4000000
set_option maxRecDepth 20000
section
variable {p : Program} {l : Launch} {e : Env} {s : State} {m : MethodId} {args : Array Value} {below : List Frame} {meth : Method} {c : Code} {H : Heap} {locs : List Loc} {cells slots : Nat} {Q : State → Prop} {ls : Array Slot} {g : mG} {b sb L : Nat} {xs : Nat → Int32} {X M : mSt} {Kt : mSt → mSt → Prop} {i : Int}
def wl_0 (N : Nat) (a1 a2 a3 a4 a5 : Int) (X M : mSt) (Kt : mSt → mSt → Prop) : Prop :=
  w_X11_feed N 0 a1 a2 a3 a4 a5 X (fun (X1 : mSt) (v1 : Int) => w_X12_feed N 0 a1 a2 a3 a4 a5 M (fun (M2 : mSt) (v2 : Int) => v1 = v2 ∧ Kt X1 M2))
theorem Wl_0 (C : lC p l s m args c g sb L xs b) (N : Nat) (hl : lv_has ls 7 [(0, .ref sb), (1, .ref (b + 0)), (2, .ref (b + 237 + 0)), (3, .ref (b + 250)), (4, .int (mI i))]) (hX : mW g b KX X H) (hM : mW g (b + 237) KM M H) (hS : va_S (lA s) s.heap H locs) (oi : okI i) (h0 : 0 ≤ i) (h5 : i + 5 < L) (hc : cells + 4 ≤ 601024) (hs : slots + 24 ≤ 7293034) (h : wl_0 N (sA xs i 1) (sA xs i 2) (sA xs i 3) (sA xs i 4) (sA xs i 5) X M Kt) (kk : ∀ (X1 M1 : mSt) (H1 : Heap) (locs1 : List Loc) (ls1 : Array Slot), Kt X1 M1 → lv_has ls1 7 [(0, .ref sb), (1, .ref (b + 0)), (2, .ref (b + 237 + 0)), (3, .ref (b + 250)), (4, .int (mI i))] → mW g b KX X1 H1 → mW g (b + 237) KM M1 H1 → va_S (lA s) s.heap H1 locs1 → W p l e room_1 s m args below meth c H1 locs1 (cells + 4) (slots + 24) Q (F0 m 2540 ls1 [])) : W p l e room_1 s m args below meth c H locs cells slots Q (F0 m 236 ls []) := by
  unfold wl_0 at h
  refine m_aload_n (pc := 236) C.1 dL_law__236 rfl hl 1 rfl ?_
  refine m_aload_n (pc := 237) C.1 dL_law__237 rfl hl 0 rfl ?_
  refine m_iload (pc := 238) C.1 dL_law__238 hl 4 rfl ?_
  refine m_iconst (pc := 240) C.1 dL_law__240 ?_
  refine m_iadd (pc := 241) C.1 dL_law__241 ?_
  refine l_sld (pc := 242) C.1 C.2.2.2.2.1.1 C.2.2.2.2.1.2.1 hS (l_idx h0 h5 C.2.2.2.2.1.2.2 (by decide) (by decide)) dL_law__242 ?_
  refine m_aload_n (pc := 243) C.1 dL_law__243 rfl hl 0 rfl ?_
  refine m_iload (pc := 244) C.1 dL_law__244 hl 4 rfl ?_
  refine m_iconst (pc := 246) C.1 dL_law__246 ?_
  refine m_iadd (pc := 247) C.1 dL_law__247 ?_
  refine l_sld (pc := 248) C.1 C.2.2.2.2.1.1 C.2.2.2.2.1.2.1 hS (l_idx h0 h5 C.2.2.2.2.1.2.2 (by decide) (by decide)) dL_law__248 ?_
  refine m_aload_n (pc := 249) C.1 dL_law__249 rfl hl 0 rfl ?_
  refine m_iload (pc := 250) C.1 dL_law__250 hl 4 rfl ?_
  refine m_iconst (pc := 252) C.1 dL_law__252 ?_
  refine m_iadd (pc := 253) C.1 dL_law__253 ?_
  refine l_sld (pc := 254) C.1 C.2.2.2.2.1.1 C.2.2.2.2.1.2.1 hS (l_idx h0 h5 C.2.2.2.2.1.2.2 (by decide) (by decide)) dL_law__254 ?_
  refine m_aload_n (pc := 255) C.1 dL_law__255 rfl hl 0 rfl ?_
  refine m_iload (pc := 256) C.1 dL_law__256 hl 4 rfl ?_
  refine m_iconst (pc := 258) C.1 dL_law__258 ?_
  refine m_iadd (pc := 259) C.1 dL_law__259 ?_
  refine l_sld (pc := 260) C.1 C.2.2.2.2.1.1 C.2.2.2.2.1.2.1 hS (l_idx h0 h5 C.2.2.2.2.1.2.2 (by decide) (by decide)) dL_law__260 ?_
  refine m_aload_n (pc := 261) C.1 dL_law__261 rfl hl 0 rfl ?_
  refine m_iload (pc := 262) C.1 dL_law__262 hl 4 rfl ?_
  refine m_iconst (pc := 264) C.1 dL_law__264 ?_
  refine m_iadd (pc := 265) C.1 dL_law__265 ?_
  refine l_sld (pc := 266) C.1 C.2.2.2.2.1.1 C.2.2.2.2.1.2.1 hS (l_idx h0 h5 C.2.2.2.2.1.2.2 (by decide) (by decide)) dL_law__266 ?_
  refine l_callVi (pc := 267) (b := b) C.1 C.2.2.1 hl.1 C.2.1 C.2.2.2.2.2 hX hS (As := [.int (mI (sA xs i 1)), .int (mI (sA xs i 2)), .int (mI (sA xs i 3)), .int (mI (sA xs i 4)), .int (mI (sA xs i 5))]) (rest := []) (r := 0) (T_X11_feed C.2.2.2.1 N 0 rfl (sA xs i 1) (sA_ok xs i 1) (sA xs i 2) (sA_ok xs i 2) (sA xs i 3) (sA_ok xs i 3) (sA xs i 4) (sA_ok xs i 4) (sA xs i 5) (sA_ok xs i 5) h) rfl rfl q_432 q_433 q_434 q_81 q_435 pl_X11_feed ⟨rfl, rfl, by decide, by decide, by show _ ≤ 601024; omega, by show _ ≤ 7293034; omega⟩ (Nat.le_of_ble_eq_true rfl) dL_law__267 (fun v1 X1 H1 locs ov1 h hX1 hk hS => ?_)
  replace hM := hM.apart hk l_apM
  clear hk
  refine m_aload_n (pc := 270) C.1 dL_law__270 rfl hl 2 rfl ?_
  refine m_aload_n (pc := 271) C.1 dL_law__271 rfl hl 0 rfl ?_
  refine m_iload (pc := 272) C.1 dL_law__272 hl 4 rfl ?_
  refine m_iconst (pc := 274) C.1 dL_law__274 ?_
  refine m_iadd (pc := 275) C.1 dL_law__275 ?_
  refine l_sld (pc := 276) C.1 C.2.2.2.2.1.1 C.2.2.2.2.1.2.1 hS (l_idx h0 h5 C.2.2.2.2.1.2.2 (by decide) (by decide)) dL_law__276 ?_
  refine m_aload_n (pc := 277) C.1 dL_law__277 rfl hl 0 rfl ?_
  refine m_iload (pc := 278) C.1 dL_law__278 hl 4 rfl ?_
  refine m_iconst (pc := 280) C.1 dL_law__280 ?_
  refine m_iadd (pc := 281) C.1 dL_law__281 ?_
  refine l_sld (pc := 282) C.1 C.2.2.2.2.1.1 C.2.2.2.2.1.2.1 hS (l_idx h0 h5 C.2.2.2.2.1.2.2 (by decide) (by decide)) dL_law__282 ?_
  refine m_aload_n (pc := 283) C.1 dL_law__283 rfl hl 0 rfl ?_
  refine m_iload (pc := 284) C.1 dL_law__284 hl 4 rfl ?_
  refine m_iconst (pc := 286) C.1 dL_law__286 ?_
  refine m_iadd (pc := 287) C.1 dL_law__287 ?_
  refine l_sld (pc := 288) C.1 C.2.2.2.2.1.1 C.2.2.2.2.1.2.1 hS (l_idx h0 h5 C.2.2.2.2.1.2.2 (by decide) (by decide)) dL_law__288 ?_
  refine m_aload_n (pc := 289) C.1 dL_law__289 rfl hl 0 rfl ?_
  refine m_iload (pc := 290) C.1 dL_law__290 hl 4 rfl ?_
  refine m_iconst (pc := 292) C.1 dL_law__292 ?_
  refine m_iadd (pc := 293) C.1 dL_law__293 ?_
  refine l_sld (pc := 294) C.1 C.2.2.2.2.1.1 C.2.2.2.2.1.2.1 hS (l_idx h0 h5 C.2.2.2.2.1.2.2 (by decide) (by decide)) dL_law__294 ?_
  refine m_aload_n (pc := 295) C.1 dL_law__295 rfl hl 0 rfl ?_
  refine m_iload (pc := 296) C.1 dL_law__296 hl 4 rfl ?_
  refine m_iconst (pc := 298) C.1 dL_law__298 ?_
  refine m_iadd (pc := 299) C.1 dL_law__299 ?_
  refine l_sld (pc := 300) C.1 C.2.2.2.2.1.1 C.2.2.2.2.1.2.1 hS (l_idx h0 h5 C.2.2.2.2.1.2.2 (by decide) (by decide)) dL_law__300 ?_
  refine l_callVi (pc := 301) (b := (b + 237)) C.1 C.2.2.1 hl.1 C.2.1 (Nat.le_trans C.2.2.2.2.2 (Nat.le_add_right _ _)) hM hS (As := [.int (mI (sA xs i 1)), .int (mI (sA xs i 2)), .int (mI (sA xs i 3)), .int (mI (sA xs i 4)), .int (mI (sA xs i 5))]) (rest := [.int (mI v1)]) (r := 0) (T_X12_feed C.2.2.2.1 N 0 rfl (sA xs i 1) (sA_ok xs i 1) (sA xs i 2) (sA_ok xs i 2) (sA xs i 3) (sA_ok xs i 3) (sA xs i 4) (sA_ok xs i 4) (sA xs i 5) (sA_ok xs i 5) h) rfl rfl q_1467 q_1468 q_1469 q_92 q_1470 pl_X12_feed ⟨rfl, rfl, by decide, by decide, by show _ ≤ 601024; omega, by show _ ≤ 7293034; omega⟩ (Nat.le_of_ble_eq_true rfl) dL_law__301 (fun v2 M2 H1 locs ov2 h hM2 hk hS => ?_)
  replace hX := hX1.apart hk l_apX
  clear hk
  refine m_icmp_eq (tgt := 2540) (pc := 304) C.1 ov1 ov2 dL_law__304 (by decide) (fun _ => ?_) (fun hc => absurd h.1 hc)
  refine W.widen (k := cells + 4) (n := slots + 24) (by omega) (by omega) ?_
  exact kk X1 M2 _ _ _ h.2 (lv_sub hl [0, 1, 2, 3, 4] rfl) hX hM2 hS
def wl_1 (N : Nat) (a1 a2 a3 a4 a5 : Int) (X M : mSt) (Kt : mSt → mSt → Prop) : Prop :=
  w_X11_end N 0 a1 X (fun (X1 : mSt) (v1 : Int) => w_X12_end N 0 a1 M (fun (M2 : mSt) (v2 : Int) => v1 = v2 ∧ Kt X1 M2))
theorem Wl_1 (C : lC p l s m args c g sb L xs b) (N : Nat) (hl : lv_has ls 7 [(0, .ref sb), (1, .ref (b + 0)), (2, .ref (b + 237 + 0)), (3, .ref (b + 250)), (4, .int (mI i))]) (hX : mW g b KX X H) (hM : mW g (b + 237) KM M H) (hS : va_S (lA s) s.heap H locs) (oi : okI i) (h0 : 0 ≤ i) (h5 : i + 5 < L) (hc : cells + 4 ≤ 601024) (hs : slots + 24 ≤ 7293034) (h : wl_1 N (sA xs i 1) (sA xs i 2) (sA xs i 3) (sA xs i 4) (sA xs i 5) X M Kt) (kk : ∀ (X1 M1 : mSt) (H1 : Heap) (locs1 : List Loc) (ls1 : Array Slot), Kt X1 M1 → lv_has ls1 7 [(0, .ref sb), (1, .ref (b + 0)), (2, .ref (b + 237 + 0)), (3, .ref (b + 250)), (4, .int (mI i))] → mW g b KX X1 H1 → mW g (b + 237) KM M1 H1 → va_S (lA s) s.heap H1 locs1 → W p l e room_1 s m args below meth c H1 locs1 (cells + 4) (slots + 24) Q (F0 m 2540 ls1 [])) : W p l e room_1 s m args below meth c H locs cells slots Q (F0 m 309 ls []) := by
  unfold wl_1 at h
  refine m_aload_n (pc := 309) C.1 dL_law__309 rfl hl 1 rfl ?_
  refine m_aload_n (pc := 310) C.1 dL_law__310 rfl hl 0 rfl ?_
  refine m_iload (pc := 311) C.1 dL_law__311 hl 4 rfl ?_
  refine m_iconst (pc := 313) C.1 dL_law__313 ?_
  refine m_iadd (pc := 314) C.1 dL_law__314 ?_
  refine l_sld (pc := 315) C.1 C.2.2.2.2.1.1 C.2.2.2.2.1.2.1 hS (l_idx h0 h5 C.2.2.2.2.1.2.2 (by decide) (by decide)) dL_law__315 ?_
  refine l_callVi (pc := 316) (b := b) C.1 C.2.2.1 hl.1 C.2.1 C.2.2.2.2.2 hX hS (As := [.int (mI (sA xs i 1))]) (rest := []) (r := 0) (T_X11_end C.2.2.2.1 N 0 rfl (sA xs i 1) (sA_ok xs i 1) h) rfl rfl q_440 q_441 q_442 q_81 q_443 pl_X11_end ⟨rfl, rfl, by decide, by decide, by show _ ≤ 601024; omega, by show _ ≤ 7293034; omega⟩ (Nat.le_of_ble_eq_true rfl) dL_law__316 (fun v1 X1 H1 locs ov1 h hX1 hk hS => ?_)
  replace hM := hM.apart hk l_apM
  clear hk
  refine m_aload_n (pc := 319) C.1 dL_law__319 rfl hl 2 rfl ?_
  refine m_aload_n (pc := 320) C.1 dL_law__320 rfl hl 0 rfl ?_
  refine m_iload (pc := 321) C.1 dL_law__321 hl 4 rfl ?_
  refine m_iconst (pc := 323) C.1 dL_law__323 ?_
  refine m_iadd (pc := 324) C.1 dL_law__324 ?_
  refine l_sld (pc := 325) C.1 C.2.2.2.2.1.1 C.2.2.2.2.1.2.1 hS (l_idx h0 h5 C.2.2.2.2.1.2.2 (by decide) (by decide)) dL_law__325 ?_
  refine l_callVi (pc := 326) (b := (b + 237)) C.1 C.2.2.1 hl.1 C.2.1 (Nat.le_trans C.2.2.2.2.2 (Nat.le_add_right _ _)) hM hS (As := [.int (mI (sA xs i 1))]) (rest := [.int (mI v1)]) (r := 0) (T_X12_end C.2.2.2.1 N 0 rfl (sA xs i 1) (sA_ok xs i 1) h) rfl rfl q_1471 q_1472 q_1473 q_92 q_1474 pl_X12_end ⟨rfl, rfl, by decide, by decide, by show _ ≤ 601024; omega, by show _ ≤ 7293034; omega⟩ (Nat.le_of_ble_eq_true rfl) dL_law__326 (fun v2 M2 H1 locs ov2 h hM2 hk hS => ?_)
  replace hX := hX1.apart hk l_apX
  clear hk
  refine m_icmp_eq (tgt := 2540) (pc := 329) C.1 ov1 ov2 dL_law__329 (by decide) (fun _ => ?_) (fun hc => absurd h.1 hc)
  refine W.widen (k := cells + 4) (n := slots + 24) (by omega) (by omega) ?_
  exact kk X1 M2 _ _ _ h.2 (lv_sub hl [0, 1, 2, 3, 4] rfl) hX hM2 hS
def wl_2 (N : Nat) (a1 a2 a3 a4 a5 : Int) (X M : mSt) (Kt : mSt → mSt → Prop) : Prop :=
  w_L_house N 0 250 X (fun (X1 : mSt) (v1 : Int) => w_X12_house N 0 M (fun (M2 : mSt) (v2 : Int) => w_X12_thrown N 0 M2 (fun (M3 : mSt) (v3 : Int) => v3 = v1 ∧ (v1 = 0 → (X1 250 0) = v2) ∧ Kt X1 M3)))
theorem Wl_2 (C : lC p l s m args c g sb L xs b) (N : Nat) (hl : lv_has ls 7 [(0, .ref sb), (1, .ref (b + 0)), (2, .ref (b + 237 + 0)), (3, .ref (b + 250)), (4, .int (mI i))]) (hX : mW g b KX X H) (hM : mW g (b + 237) KM M H) (hS : va_S (lA s) s.heap H locs) (oi : okI i) (h0 : 0 ≤ i) (h5 : i + 5 < L) (hc : cells + 4 ≤ 601024) (hs : slots + 24 ≤ 7293034) (h : wl_2 N (sA xs i 1) (sA xs i 2) (sA xs i 3) (sA xs i 4) (sA xs i 5) X M Kt) (kk : ∀ (X1 M1 : mSt) (H1 : Heap) (locs1 : List Loc) (ls1 : Array Slot), Kt X1 M1 → lv_has ls1 7 [(0, .ref sb), (1, .ref (b + 0)), (2, .ref (b + 237 + 0)), (3, .ref (b + 250)), (4, .int (mI i))] → mW g b KX X1 H1 → mW g (b + 237) KM M1 H1 → va_S (lA s) s.heap H1 locs1 → W p l e room_1 s m args below meth c H1 locs1 (cells + 4) (slots + 24) Q (F0 m 2540 ls1 [])) : W p l e room_1 s m args below meth c H locs cells slots Q (F0 m 334 ls []) := by
  unfold wl_2 at h
  refine m_aload_n (pc := 334) C.1 dL_law__334 rfl hl 1 rfl ?_
  refine m_aload_n (pc := 335) C.1 dL_law__335 rfl hl 3 rfl ?_
  refine l_callSi (pc := 336) (b := b) C.1 C.2.2.1 hl.1 C.2.1 C.2.2.2.2.2 hX hS (As := [.ref (b + 0), .ref (b + 250)]) (rest := []) (T_L_house C.2.2.2.1 N 0 rfl 250 rfl h) q_590 q_591 q_80 q_592 pl_L_house ⟨rfl, rfl, by decide, by decide, by show _ ≤ 601024; omega, by show _ ≤ 7293034; omega⟩  (Nat.le_of_ble_eq_true rfl) dL_law__336 (fun v1 X1 H1 locs ov1 h hX1 hk hS => ?_)
  replace hM := hM.apart hk l_apM
  clear hk
  refine m_istore (pc := 339) C.1 dL_law__339 hl (by decide) (fun v => [(5, .int v), (0, .ref sb), (1, .ref (b + 0)), (2, .ref (b + 237 + 0)), (3, .ref (b + 250)), (4, .int (mI i))]) (fun _ => rfl) ov1 (fun z5 ls ez5 oz5 hl => ?_)
  rw [ez5] at hl
  refine m_aload_n (pc := 341) C.1 dL_law__341 rfl hl 3 rfl ?_
  refine l_callVi (pc := 342) (b := (b + 237)) C.1 C.2.2.1 hl.1 C.2.1 (Nat.le_trans C.2.2.2.2.2 (Nat.le_add_right _ _)) hM hS (As := []) (rest := []) (r := 0) (T_X12_house C.2.2.2.1 N 0 rfl h) rfl rfl q_1478 q_1479 q_1480 q_92 q_1481 pl_X12_house ⟨rfl, rfl, by decide, by decide, by show _ ≤ 601024; omega, by show _ ≤ 7293034; omega⟩ (Nat.le_of_ble_eq_true rfl) dL_law__342 (fun v2 M2 H1 locs ov2 h hM2 hk hS => ?_)
  replace hX := hX1.apart hk l_apX
  clear hk
  refine m_istore (pc := 345) C.1 dL_law__345 hl (by decide) (fun v => [(6, .int v), (5, .int (mI v1)), (0, .ref sb), (1, .ref (b + 0)), (2, .ref (b + 237 + 0)), (3, .ref (b + 250)), (4, .int (mI i))]) (fun _ => rfl) ov2 (fun z6 ls ez6 oz6 hl => ?_)
  rw [ez6] at hl
  refine m_aload_n (pc := 347) C.1 dL_law__347 rfl hl 4 rfl ?_
  refine l_callVi (pc := 348) (b := (b + 237)) C.1 C.2.2.1 hl.1 C.2.1 (Nat.le_trans C.2.2.2.2.2 (Nat.le_add_right _ _)) hM2 hS (As := []) (rest := []) (r := 0) (T_X12_thrown C.2.2.2.1 N 0 rfl h) rfl rfl q_1463 q_1464 q_1465 q_92 q_1466 pl_X12_thrown ⟨rfl, rfl, by decide, by decide, by show _ ≤ 601024; omega, by show _ ≤ 7293034; omega⟩ (Nat.le_of_ble_eq_true rfl) dL_law__348 (fun v3 M3 H1 locs ov3 h hM3 hk hS => ?_)
  replace hX := hX.apart hk l_apX
  clear hk
  refine m_iload (pc := 351) C.1 dL_law__351 hl 1 rfl ?_
  refine m_icmp_eq (tgt := 358) (pc := 353) C.1 ov3 ov1 dL_law__353 (by decide) (fun _ => ?_) (fun hc => absurd h.1 hc)
  refine m_iload (pc := 358) C.1 dL_law__358 hl 1 rfl ?_
  refine m_if_ne (tgt := 375) (pc := 360) C.1 ov1 dL_law__360 (by decide) (fun hc => ?_) (fun hc => ?_)
  · refine m_goto (pc := 375) C.1 (tgt := 2540) dL_law__375 (by decide) ?_
    refine W.widen (k := cells + 4) (n := slots + 24) (by omega) (by omega) ?_
    exact kk X1 M3 _ _ _ h.2.2 (lv_sub hl [2, 3, 4, 5, 6] rfl) hX hM3 hS
  replace hc := h.2.1 hc
  refine m_aload_n (pc := 363) C.1 dL_law__363 rfl hl 5 rfl ?_
  refine m_iconst (pc := 364) C.1 dL_law__364 ?_
  refine l_lald (pc := 365) C.1 C.2.1 hX (r := 250) rfl (by decide : okI 0) (by decide) (by decide) dL_law__365 ?_
  refine m_iload (pc := 366) C.1 dL_law__366 hl 0 rfl ?_
  refine m_i2l (pc := 368) C.1 ov2 dL_law__368 ?_
  refine l_cmp (pc := 369) C.1 hc (tgt := 375) dL_law__369 dL_law__370 (by decide) ?_
  refine m_goto (pc := 375) C.1 (tgt := 2540) dL_law__375 (by decide) ?_
  refine W.widen (k := cells + 4) (n := slots + 24) (by omega) (by omega) ?_
  exact kk X1 M3 _ _ _ h.2.2 (lv_sub hl [2, 3, 4, 5, 6] rfl) hX hM3 hS
def wl_3 (N : Nat) (a1 a2 a3 a4 a5 : Int) (X M : mSt) (Kt : mSt → mSt → Prop) : Prop :=
  w_L_law N 0 250 X (fun (X1 : mSt) (v1 : Int) => w_X12_law N 0 M (fun (M2 : mSt) (v2 : Int) => w_X12_thrown N 0 M2 (fun (M3 : mSt) (v3 : Int) => v3 = v1 ∧ (v1 = 0 → (X1 250 0) = v2) ∧ Kt X1 M3)))
theorem Wl_3 (C : lC p l s m args c g sb L xs b) (N : Nat) (hl : lv_has ls 7 [(0, .ref sb), (1, .ref (b + 0)), (2, .ref (b + 237 + 0)), (3, .ref (b + 250)), (4, .int (mI i))]) (hX : mW g b KX X H) (hM : mW g (b + 237) KM M H) (hS : va_S (lA s) s.heap H locs) (oi : okI i) (h0 : 0 ≤ i) (h5 : i + 5 < L) (hc : cells + 4 ≤ 601024) (hs : slots + 24 ≤ 7293034) (h : wl_3 N (sA xs i 1) (sA xs i 2) (sA xs i 3) (sA xs i 4) (sA xs i 5) X M Kt) (kk : ∀ (X1 M1 : mSt) (H1 : Heap) (locs1 : List Loc) (ls1 : Array Slot), Kt X1 M1 → lv_has ls1 7 [(0, .ref sb), (1, .ref (b + 0)), (2, .ref (b + 237 + 0)), (3, .ref (b + 250)), (4, .int (mI i))] → mW g b KX X1 H1 → mW g (b + 237) KM M1 H1 → va_S (lA s) s.heap H1 locs1 → W p l e room_1 s m args below meth c H1 locs1 (cells + 4) (slots + 24) Q (F0 m 2540 ls1 [])) : W p l e room_1 s m args below meth c H locs cells slots Q (F0 m 378 ls []) := by
  unfold wl_3 at h
  refine m_aload_n (pc := 378) C.1 dL_law__378 rfl hl 1 rfl ?_
  refine m_aload_n (pc := 379) C.1 dL_law__379 rfl hl 3 rfl ?_
  refine l_callSi (pc := 380) (b := b) C.1 C.2.2.1 hl.1 C.2.1 C.2.2.2.2.2 hX hS (As := [.ref (b + 0), .ref (b + 250)]) (rest := []) (T_L_law C.2.2.2.1 N 0 rfl 250 rfl h) q_851 q_852 q_80 q_853 pl_L_law ⟨rfl, rfl, by decide, by decide, by show _ ≤ 601024; omega, by show _ ≤ 7293034; omega⟩  (Nat.le_of_ble_eq_true rfl) dL_law__380 (fun v1 X1 H1 locs ov1 h hX1 hk hS => ?_)
  replace hM := hM.apart hk l_apM
  clear hk
  refine m_istore (pc := 383) C.1 dL_law__383 hl (by decide) (fun v => [(5, .int v), (0, .ref sb), (1, .ref (b + 0)), (2, .ref (b + 237 + 0)), (3, .ref (b + 250)), (4, .int (mI i))]) (fun _ => rfl) ov1 (fun z5 ls ez5 oz5 hl => ?_)
  rw [ez5] at hl
  refine m_aload_n (pc := 385) C.1 dL_law__385 rfl hl 3 rfl ?_
  refine l_callVi (pc := 386) (b := (b + 237)) C.1 C.2.2.1 hl.1 C.2.1 (Nat.le_trans C.2.2.2.2.2 (Nat.le_add_right _ _)) hM hS (As := []) (rest := []) (r := 0) (T_X12_law C.2.2.2.1 N 0 rfl h) rfl rfl q_1615 q_1616 q_1617 q_92 q_1618 pl_X12_law ⟨rfl, rfl, by decide, by decide, by show _ ≤ 601024; omega, by show _ ≤ 7293034; omega⟩ (Nat.le_of_ble_eq_true rfl) dL_law__386 (fun v2 M2 H1 locs ov2 h hM2 hk hS => ?_)
  replace hX := hX1.apart hk l_apX
  clear hk
  refine m_istore (pc := 389) C.1 dL_law__389 hl (by decide) (fun v => [(6, .int v), (5, .int (mI v1)), (0, .ref sb), (1, .ref (b + 0)), (2, .ref (b + 237 + 0)), (3, .ref (b + 250)), (4, .int (mI i))]) (fun _ => rfl) ov2 (fun z6 ls ez6 oz6 hl => ?_)
  rw [ez6] at hl
  refine m_aload_n (pc := 391) C.1 dL_law__391 rfl hl 4 rfl ?_
  refine l_callVi (pc := 392) (b := (b + 237)) C.1 C.2.2.1 hl.1 C.2.1 (Nat.le_trans C.2.2.2.2.2 (Nat.le_add_right _ _)) hM2 hS (As := []) (rest := []) (r := 0) (T_X12_thrown C.2.2.2.1 N 0 rfl h) rfl rfl q_1463 q_1464 q_1465 q_92 q_1466 pl_X12_thrown ⟨rfl, rfl, by decide, by decide, by show _ ≤ 601024; omega, by show _ ≤ 7293034; omega⟩ (Nat.le_of_ble_eq_true rfl) dL_law__392 (fun v3 M3 H1 locs ov3 h hM3 hk hS => ?_)
  replace hX := hX.apart hk l_apX
  clear hk
  refine m_iload (pc := 395) C.1 dL_law__395 hl 1 rfl ?_
  refine m_icmp_eq (tgt := 402) (pc := 397) C.1 ov3 ov1 dL_law__397 (by decide) (fun _ => ?_) (fun hc => absurd h.1 hc)
  refine m_iload (pc := 402) C.1 dL_law__402 hl 1 rfl ?_
  refine m_if_ne (tgt := 419) (pc := 404) C.1 ov1 dL_law__404 (by decide) (fun hc => ?_) (fun hc => ?_)
  · refine m_goto (pc := 419) C.1 (tgt := 2540) dL_law__419 (by decide) ?_
    refine W.widen (k := cells + 4) (n := slots + 24) (by omega) (by omega) ?_
    exact kk X1 M3 _ _ _ h.2.2 (lv_sub hl [2, 3, 4, 5, 6] rfl) hX hM3 hS
  replace hc := h.2.1 hc
  refine m_aload_n (pc := 407) C.1 dL_law__407 rfl hl 5 rfl ?_
  refine m_iconst (pc := 408) C.1 dL_law__408 ?_
  refine l_lald (pc := 409) C.1 C.2.1 hX (r := 250) rfl (by decide : okI 0) (by decide) (by decide) dL_law__409 ?_
  refine m_iload (pc := 410) C.1 dL_law__410 hl 0 rfl ?_
  refine m_i2l (pc := 412) C.1 ov2 dL_law__412 ?_
  refine l_cmp (pc := 413) C.1 hc (tgt := 419) dL_law__413 dL_law__414 (by decide) ?_
  refine m_goto (pc := 419) C.1 (tgt := 2540) dL_law__419 (by decide) ?_
  refine W.widen (k := cells + 4) (n := slots + 24) (by omega) (by omega) ?_
  exact kk X1 M3 _ _ _ h.2.2 (lv_sub hl [2, 3, 4, 5, 6] rfl) hX hM3 hS
def wl_4 (N : Nat) (a1 a2 a3 a4 a5 : Int) (X M : mSt) (Kt : mSt → mSt → Prop) : Prop :=
  w_X11_fault N 0 X (fun (X1 : mSt) (v1 : Int) => w_X12_fault N 0 M (fun (M2 : mSt) (v2 : Int) => v1 = v2 ∧ Kt X1 M2))
theorem Wl_4 (C : lC p l s m args c g sb L xs b) (N : Nat) (hl : lv_has ls 7 [(0, .ref sb), (1, .ref (b + 0)), (2, .ref (b + 237 + 0)), (3, .ref (b + 250)), (4, .int (mI i))]) (hX : mW g b KX X H) (hM : mW g (b + 237) KM M H) (hS : va_S (lA s) s.heap H locs) (oi : okI i) (h0 : 0 ≤ i) (h5 : i + 5 < L) (hc : cells + 4 ≤ 601024) (hs : slots + 24 ≤ 7293034) (h : wl_4 N (sA xs i 1) (sA xs i 2) (sA xs i 3) (sA xs i 4) (sA xs i 5) X M Kt) (kk : ∀ (X1 M1 : mSt) (H1 : Heap) (locs1 : List Loc) (ls1 : Array Slot), Kt X1 M1 → lv_has ls1 7 [(0, .ref sb), (1, .ref (b + 0)), (2, .ref (b + 237 + 0)), (3, .ref (b + 250)), (4, .int (mI i))] → mW g b KX X1 H1 → mW g (b + 237) KM M1 H1 → va_S (lA s) s.heap H1 locs1 → W p l e room_1 s m args below meth c H1 locs1 (cells + 4) (slots + 24) Q (F0 m 2540 ls1 [])) : W p l e room_1 s m args below meth c H locs cells slots Q (F0 m 422 ls []) := by
  unfold wl_4 at h
  refine m_aload_n (pc := 422) C.1 dL_law__422 rfl hl 1 rfl ?_
  refine l_callVi (pc := 423) (b := b) C.1 C.2.2.1 hl.1 C.2.1 C.2.2.2.2.2 hX hS (As := []) (rest := []) (r := 0) (T_X11_fault C.2.2.2.1 N 0 rfl h) rfl rfl q_444 q_445 q_446 q_81 q_447 pl_X11_fault ⟨rfl, rfl, by decide, by decide, by show _ ≤ 601024; omega, by show _ ≤ 7293034; omega⟩ (Nat.le_of_ble_eq_true rfl) dL_law__423 (fun v1 X1 H1 locs ov1 h hX1 hk hS => ?_)
  replace hM := hM.apart hk l_apM
  clear hk
  refine m_aload_n (pc := 426) C.1 dL_law__426 rfl hl 2 rfl ?_
  refine l_callVi (pc := 427) (b := (b + 237)) C.1 C.2.2.1 hl.1 C.2.1 (Nat.le_trans C.2.2.2.2.2 (Nat.le_add_right _ _)) hM hS (As := []) (rest := [.int (mI v1)]) (r := 0) (T_X12_fault C.2.2.2.1 N 0 rfl h) rfl rfl q_1619 q_1620 q_1621 q_92 q_1622 pl_X12_fault ⟨rfl, rfl, by decide, by decide, by show _ ≤ 601024; omega, by show _ ≤ 7293034; omega⟩ (Nat.le_of_ble_eq_true rfl) dL_law__427 (fun v2 M2 H1 locs ov2 h hM2 hk hS => ?_)
  replace hX := hX1.apart hk l_apX
  clear hk
  refine m_icmp_eq (tgt := 2540) (pc := 430) C.1 ov1 ov2 dL_law__430 (by decide) (fun _ => ?_) (fun hc => absurd h.1 hc)
  refine W.widen (k := cells + 4) (n := slots + 24) (by omega) (by omega) ?_
  exact kk X1 M2 _ _ _ h.2 (lv_sub hl [0, 1, 2, 3, 4] rfl) hX hM2 hS
def wl_5 (N : Nat) (a1 a2 a3 a4 a5 : Int) (X M : mSt) (Kt : mSt → mSt → Prop) : Prop :=
  w_L_part N 0 a1 a2 250 X (fun (X1 : mSt) (v1 : Int) => w_X12_part_ N 0 a1 a2 M (fun (M2 : mSt) (v2 : Int) => w_X12_thrown N 0 M2 (fun (M3 : mSt) (v3 : Int) => v3 = v1 ∧ (v1 = 0 → (X1 250 0) = v2) ∧ Kt X1 M3)))
theorem Wl_5 (C : lC p l s m args c g sb L xs b) (N : Nat) (hl : lv_has ls 7 [(0, .ref sb), (1, .ref (b + 0)), (2, .ref (b + 237 + 0)), (3, .ref (b + 250)), (4, .int (mI i))]) (hX : mW g b KX X H) (hM : mW g (b + 237) KM M H) (hS : va_S (lA s) s.heap H locs) (oi : okI i) (h0 : 0 ≤ i) (h5 : i + 5 < L) (hc : cells + 4 ≤ 601024) (hs : slots + 24 ≤ 7293034) (h : wl_5 N (sA xs i 1) (sA xs i 2) (sA xs i 3) (sA xs i 4) (sA xs i 5) X M Kt) (kk : ∀ (X1 M1 : mSt) (H1 : Heap) (locs1 : List Loc) (ls1 : Array Slot), Kt X1 M1 → lv_has ls1 7 [(0, .ref sb), (1, .ref (b + 0)), (2, .ref (b + 237 + 0)), (3, .ref (b + 250)), (4, .int (mI i))] → mW g b KX X1 H1 → mW g (b + 237) KM M1 H1 → va_S (lA s) s.heap H1 locs1 → W p l e room_1 s m args below meth c H1 locs1 (cells + 4) (slots + 24) Q (F0 m 2540 ls1 [])) : W p l e room_1 s m args below meth c H locs cells slots Q (F0 m 435 ls []) := by
  unfold wl_5 at h
  refine m_aload_n (pc := 435) C.1 dL_law__435 rfl hl 1 rfl ?_
  refine m_aload_n (pc := 436) C.1 dL_law__436 rfl hl 0 rfl ?_
  refine m_iload (pc := 437) C.1 dL_law__437 hl 4 rfl ?_
  refine m_iconst (pc := 439) C.1 dL_law__439 ?_
  refine m_iadd (pc := 440) C.1 dL_law__440 ?_
  refine l_sld (pc := 441) C.1 C.2.2.2.2.1.1 C.2.2.2.2.1.2.1 hS (l_idx h0 h5 C.2.2.2.2.1.2.2 (by decide) (by decide)) dL_law__441 ?_
  refine m_aload_n (pc := 442) C.1 dL_law__442 rfl hl 0 rfl ?_
  refine m_iload (pc := 443) C.1 dL_law__443 hl 4 rfl ?_
  refine m_iconst (pc := 445) C.1 dL_law__445 ?_
  refine m_iadd (pc := 446) C.1 dL_law__446 ?_
  refine l_sld (pc := 447) C.1 C.2.2.2.2.1.1 C.2.2.2.2.1.2.1 hS (l_idx h0 h5 C.2.2.2.2.1.2.2 (by decide) (by decide)) dL_law__447 ?_
  refine m_aload_n (pc := 448) C.1 dL_law__448 rfl hl 3 rfl ?_
  refine l_callSi (pc := 449) (b := b) C.1 C.2.2.1 hl.1 C.2.1 C.2.2.2.2.2 hX hS (As := [.ref (b + 0), .int (mI (sA xs i 1)), .int (mI (sA xs i 2)), .ref (b + 250)]) (rest := []) (T_L_part C.2.2.2.1 N 0 rfl (sA xs i 1) (sA_ok xs i 1) (sA xs i 2) (sA_ok xs i 2) 250 rfl h) q_927 q_928 q_80 q_929 pl_L_part ⟨rfl, rfl, by decide, by decide, by show _ ≤ 601024; omega, by show _ ≤ 7293034; omega⟩  (Nat.le_of_ble_eq_true rfl) dL_law__449 (fun v1 X1 H1 locs ov1 h hX1 hk hS => ?_)
  replace hM := hM.apart hk l_apM
  clear hk
  refine m_istore (pc := 452) C.1 dL_law__452 hl (by decide) (fun v => [(5, .int v), (0, .ref sb), (1, .ref (b + 0)), (2, .ref (b + 237 + 0)), (3, .ref (b + 250)), (4, .int (mI i))]) (fun _ => rfl) ov1 (fun z5 ls ez5 oz5 hl => ?_)
  rw [ez5] at hl
  refine m_aload_n (pc := 454) C.1 dL_law__454 rfl hl 3 rfl ?_
  refine m_aload_n (pc := 455) C.1 dL_law__455 rfl hl 1 rfl ?_
  refine m_iload (pc := 456) C.1 dL_law__456 hl 5 rfl ?_
  refine m_iconst (pc := 458) C.1 dL_law__458 ?_
  refine m_iadd (pc := 459) C.1 dL_law__459 ?_
  refine l_sld (pc := 460) C.1 C.2.2.2.2.1.1 C.2.2.2.2.1.2.1 hS (l_idx h0 h5 C.2.2.2.2.1.2.2 (by decide) (by decide)) dL_law__460 ?_
  refine m_aload_n (pc := 461) C.1 dL_law__461 rfl hl 1 rfl ?_
  refine m_iload (pc := 462) C.1 dL_law__462 hl 5 rfl ?_
  refine m_iconst (pc := 464) C.1 dL_law__464 ?_
  refine m_iadd (pc := 465) C.1 dL_law__465 ?_
  refine l_sld (pc := 466) C.1 C.2.2.2.2.1.1 C.2.2.2.2.1.2.1 hS (l_idx h0 h5 C.2.2.2.2.1.2.2 (by decide) (by decide)) dL_law__466 ?_
  refine l_callVi (pc := 467) (b := (b + 237)) C.1 C.2.2.1 hl.1 C.2.1 (Nat.le_trans C.2.2.2.2.2 (Nat.le_add_right _ _)) hM hS (As := [.int (mI (sA xs i 1)), .int (mI (sA xs i 2))]) (rest := []) (r := 0) (T_X12_part_ C.2.2.2.1 N 0 rfl (sA xs i 1) (sA_ok xs i 1) (sA xs i 2) (sA_ok xs i 2) h) rfl rfl q_1623 q_1624 q_1625 q_92 q_1626 pl_X12_part_ ⟨rfl, rfl, by decide, by decide, by show _ ≤ 601024; omega, by show _ ≤ 7293034; omega⟩ (Nat.le_of_ble_eq_true rfl) dL_law__467 (fun v2 M2 H1 locs ov2 h hM2 hk hS => ?_)
  replace hX := hX1.apart hk l_apX
  clear hk
  refine m_istore (pc := 470) C.1 dL_law__470 hl (by decide) (fun v => [(6, .int v), (5, .int (mI v1)), (0, .ref sb), (1, .ref (b + 0)), (2, .ref (b + 237 + 0)), (3, .ref (b + 250)), (4, .int (mI i))]) (fun _ => rfl) ov2 (fun z6 ls ez6 oz6 hl => ?_)
  rw [ez6] at hl
  refine m_aload_n (pc := 472) C.1 dL_law__472 rfl hl 4 rfl ?_
  refine l_callVi (pc := 473) (b := (b + 237)) C.1 C.2.2.1 hl.1 C.2.1 (Nat.le_trans C.2.2.2.2.2 (Nat.le_add_right _ _)) hM2 hS (As := []) (rest := []) (r := 0) (T_X12_thrown C.2.2.2.1 N 0 rfl h) rfl rfl q_1463 q_1464 q_1465 q_92 q_1466 pl_X12_thrown ⟨rfl, rfl, by decide, by decide, by show _ ≤ 601024; omega, by show _ ≤ 7293034; omega⟩ (Nat.le_of_ble_eq_true rfl) dL_law__473 (fun v3 M3 H1 locs ov3 h hM3 hk hS => ?_)
  replace hX := hX.apart hk l_apX
  clear hk
  refine m_iload (pc := 476) C.1 dL_law__476 hl 1 rfl ?_
  refine m_icmp_eq (tgt := 483) (pc := 478) C.1 ov3 ov1 dL_law__478 (by decide) (fun _ => ?_) (fun hc => absurd h.1 hc)
  refine m_iload (pc := 483) C.1 dL_law__483 hl 1 rfl ?_
  refine m_if_ne (tgt := 500) (pc := 485) C.1 ov1 dL_law__485 (by decide) (fun hc => ?_) (fun hc => ?_)
  · refine m_goto (pc := 500) C.1 (tgt := 2540) dL_law__500 (by decide) ?_
    refine W.widen (k := cells + 4) (n := slots + 24) (by omega) (by omega) ?_
    exact kk X1 M3 _ _ _ h.2.2 (lv_sub hl [2, 3, 4, 5, 6] rfl) hX hM3 hS
  replace hc := h.2.1 hc
  refine m_aload_n (pc := 488) C.1 dL_law__488 rfl hl 5 rfl ?_
  refine m_iconst (pc := 489) C.1 dL_law__489 ?_
  refine l_lald (pc := 490) C.1 C.2.1 hX (r := 250) rfl (by decide : okI 0) (by decide) (by decide) dL_law__490 ?_
  refine m_iload (pc := 491) C.1 dL_law__491 hl 0 rfl ?_
  refine m_i2l (pc := 493) C.1 ov2 dL_law__493 ?_
  refine l_cmp (pc := 494) C.1 hc (tgt := 500) dL_law__494 dL_law__495 (by decide) ?_
  refine m_goto (pc := 500) C.1 (tgt := 2540) dL_law__500 (by decide) ?_
  refine W.widen (k := cells + 4) (n := slots + 24) (by omega) (by omega) ?_
  exact kk X1 M3 _ _ _ h.2.2 (lv_sub hl [2, 3, 4, 5, 6] rfl) hX hM3 hS
def wl_6 (N : Nat) (a1 a2 a3 a4 a5 : Int) (X M : mSt) (Kt : mSt → mSt → Prop) : Prop :=
  w_L_soap N 0 a1 a2 250 X (fun (X1 : mSt) (v1 : Int) => w_X12_soap N 0 a1 a2 M (fun (M2 : mSt) (v2 : Int) => w_X12_thrown N 0 M2 (fun (M3 : mSt) (v3 : Int) => v3 = v1 ∧ (v1 = 0 → (X1 250 0) = v2) ∧ Kt X1 M3)))
theorem Wl_6 (C : lC p l s m args c g sb L xs b) (N : Nat) (hl : lv_has ls 7 [(0, .ref sb), (1, .ref (b + 0)), (2, .ref (b + 237 + 0)), (3, .ref (b + 250)), (4, .int (mI i))]) (hX : mW g b KX X H) (hM : mW g (b + 237) KM M H) (hS : va_S (lA s) s.heap H locs) (oi : okI i) (h0 : 0 ≤ i) (h5 : i + 5 < L) (hc : cells + 4 ≤ 601024) (hs : slots + 24 ≤ 7293034) (h : wl_6 N (sA xs i 1) (sA xs i 2) (sA xs i 3) (sA xs i 4) (sA xs i 5) X M Kt) (kk : ∀ (X1 M1 : mSt) (H1 : Heap) (locs1 : List Loc) (ls1 : Array Slot), Kt X1 M1 → lv_has ls1 7 [(0, .ref sb), (1, .ref (b + 0)), (2, .ref (b + 237 + 0)), (3, .ref (b + 250)), (4, .int (mI i))] → mW g b KX X1 H1 → mW g (b + 237) KM M1 H1 → va_S (lA s) s.heap H1 locs1 → W p l e room_1 s m args below meth c H1 locs1 (cells + 4) (slots + 24) Q (F0 m 2540 ls1 [])) : W p l e room_1 s m args below meth c H locs cells slots Q (F0 m 503 ls []) := by
  unfold wl_6 at h
  refine m_aload_n (pc := 503) C.1 dL_law__503 rfl hl 1 rfl ?_
  refine m_aload_n (pc := 504) C.1 dL_law__504 rfl hl 0 rfl ?_
  refine m_iload (pc := 505) C.1 dL_law__505 hl 4 rfl ?_
  refine m_iconst (pc := 507) C.1 dL_law__507 ?_
  refine m_iadd (pc := 508) C.1 dL_law__508 ?_
  refine l_sld (pc := 509) C.1 C.2.2.2.2.1.1 C.2.2.2.2.1.2.1 hS (l_idx h0 h5 C.2.2.2.2.1.2.2 (by decide) (by decide)) dL_law__509 ?_
  refine m_aload_n (pc := 510) C.1 dL_law__510 rfl hl 0 rfl ?_
  refine m_iload (pc := 511) C.1 dL_law__511 hl 4 rfl ?_
  refine m_iconst (pc := 513) C.1 dL_law__513 ?_
  refine m_iadd (pc := 514) C.1 dL_law__514 ?_
  refine l_sld (pc := 515) C.1 C.2.2.2.2.1.1 C.2.2.2.2.1.2.1 hS (l_idx h0 h5 C.2.2.2.2.1.2.2 (by decide) (by decide)) dL_law__515 ?_
  refine m_aload_n (pc := 516) C.1 dL_law__516 rfl hl 3 rfl ?_
  refine l_callSi (pc := 517) (b := b) C.1 C.2.2.1 hl.1 C.2.1 C.2.2.2.2.2 hX hS (As := [.ref (b + 0), .int (mI (sA xs i 1)), .int (mI (sA xs i 2)), .ref (b + 250)]) (rest := []) (T_L_soap C.2.2.2.1 N 0 rfl (sA xs i 1) (sA_ok xs i 1) (sA xs i 2) (sA_ok xs i 2) 250 rfl h) q_990 q_991 q_80 q_992 pl_L_soap ⟨rfl, rfl, by decide, by decide, by show _ ≤ 601024; omega, by show _ ≤ 7293034; omega⟩  (Nat.le_of_ble_eq_true rfl) dL_law__517 (fun v1 X1 H1 locs ov1 h hX1 hk hS => ?_)
  replace hM := hM.apart hk l_apM
  clear hk
  refine m_istore (pc := 520) C.1 dL_law__520 hl (by decide) (fun v => [(5, .int v), (0, .ref sb), (1, .ref (b + 0)), (2, .ref (b + 237 + 0)), (3, .ref (b + 250)), (4, .int (mI i))]) (fun _ => rfl) ov1 (fun z5 ls ez5 oz5 hl => ?_)
  rw [ez5] at hl
  refine m_aload_n (pc := 522) C.1 dL_law__522 rfl hl 3 rfl ?_
  refine m_aload_n (pc := 523) C.1 dL_law__523 rfl hl 1 rfl ?_
  refine m_iload (pc := 524) C.1 dL_law__524 hl 5 rfl ?_
  refine m_iconst (pc := 526) C.1 dL_law__526 ?_
  refine m_iadd (pc := 527) C.1 dL_law__527 ?_
  refine l_sld (pc := 528) C.1 C.2.2.2.2.1.1 C.2.2.2.2.1.2.1 hS (l_idx h0 h5 C.2.2.2.2.1.2.2 (by decide) (by decide)) dL_law__528 ?_
  refine m_aload_n (pc := 529) C.1 dL_law__529 rfl hl 1 rfl ?_
  refine m_iload (pc := 530) C.1 dL_law__530 hl 5 rfl ?_
  refine m_iconst (pc := 532) C.1 dL_law__532 ?_
  refine m_iadd (pc := 533) C.1 dL_law__533 ?_
  refine l_sld (pc := 534) C.1 C.2.2.2.2.1.1 C.2.2.2.2.1.2.1 hS (l_idx h0 h5 C.2.2.2.2.1.2.2 (by decide) (by decide)) dL_law__534 ?_
  refine l_callVi (pc := 535) (b := (b + 237)) C.1 C.2.2.1 hl.1 C.2.1 (Nat.le_trans C.2.2.2.2.2 (Nat.le_add_right _ _)) hM hS (As := [.int (mI (sA xs i 1)), .int (mI (sA xs i 2))]) (rest := []) (r := 0) (T_X12_soap C.2.2.2.1 N 0 rfl (sA xs i 1) (sA_ok xs i 1) (sA xs i 2) (sA_ok xs i 2) h) rfl rfl q_1675 q_1676 q_1677 q_92 q_1678 pl_X12_soap ⟨rfl, rfl, by decide, by decide, by show _ ≤ 601024; omega, by show _ ≤ 7293034; omega⟩ (Nat.le_of_ble_eq_true rfl) dL_law__535 (fun v2 M2 H1 locs ov2 h hM2 hk hS => ?_)
  replace hX := hX1.apart hk l_apX
  clear hk
  refine m_istore (pc := 538) C.1 dL_law__538 hl (by decide) (fun v => [(6, .int v), (5, .int (mI v1)), (0, .ref sb), (1, .ref (b + 0)), (2, .ref (b + 237 + 0)), (3, .ref (b + 250)), (4, .int (mI i))]) (fun _ => rfl) ov2 (fun z6 ls ez6 oz6 hl => ?_)
  rw [ez6] at hl
  refine m_aload_n (pc := 540) C.1 dL_law__540 rfl hl 4 rfl ?_
  refine l_callVi (pc := 541) (b := (b + 237)) C.1 C.2.2.1 hl.1 C.2.1 (Nat.le_trans C.2.2.2.2.2 (Nat.le_add_right _ _)) hM2 hS (As := []) (rest := []) (r := 0) (T_X12_thrown C.2.2.2.1 N 0 rfl h) rfl rfl q_1463 q_1464 q_1465 q_92 q_1466 pl_X12_thrown ⟨rfl, rfl, by decide, by decide, by show _ ≤ 601024; omega, by show _ ≤ 7293034; omega⟩ (Nat.le_of_ble_eq_true rfl) dL_law__541 (fun v3 M3 H1 locs ov3 h hM3 hk hS => ?_)
  replace hX := hX.apart hk l_apX
  clear hk
  refine m_iload (pc := 544) C.1 dL_law__544 hl 1 rfl ?_
  refine m_icmp_eq (tgt := 551) (pc := 546) C.1 ov3 ov1 dL_law__546 (by decide) (fun _ => ?_) (fun hc => absurd h.1 hc)
  refine m_iload (pc := 551) C.1 dL_law__551 hl 1 rfl ?_
  refine m_if_ne (tgt := 568) (pc := 553) C.1 ov1 dL_law__553 (by decide) (fun hc => ?_) (fun hc => ?_)
  · refine m_goto (pc := 568) C.1 (tgt := 2540) dL_law__568 (by decide) ?_
    refine W.widen (k := cells + 4) (n := slots + 24) (by omega) (by omega) ?_
    exact kk X1 M3 _ _ _ h.2.2 (lv_sub hl [2, 3, 4, 5, 6] rfl) hX hM3 hS
  replace hc := h.2.1 hc
  refine m_aload_n (pc := 556) C.1 dL_law__556 rfl hl 5 rfl ?_
  refine m_iconst (pc := 557) C.1 dL_law__557 ?_
  refine l_lald (pc := 558) C.1 C.2.1 hX (r := 250) rfl (by decide : okI 0) (by decide) (by decide) dL_law__558 ?_
  refine m_iload (pc := 559) C.1 dL_law__559 hl 0 rfl ?_
  refine m_i2l (pc := 561) C.1 ov2 dL_law__561 ?_
  refine l_cmp (pc := 562) C.1 hc (tgt := 568) dL_law__562 dL_law__563 (by decide) ?_
  refine m_goto (pc := 568) C.1 (tgt := 2540) dL_law__568 (by decide) ?_
  refine W.widen (k := cells + 4) (n := slots + 24) (by omega) (by omega) ?_
  exact kk X1 M3 _ _ _ h.2.2 (lv_sub hl [2, 3, 4, 5, 6] rfl) hX hM3 hS
def wl_7 (N : Nat) (a1 a2 a3 a4 a5 : Int) (X M : mSt) (Kt : mSt → mSt → Prop) : Prop :=
  w_L_peg N 0 a1 (bI a2) 250 X (fun (X1 : mSt) (v1 : Int) => w_X12_peg N 0 a1 (bI a2) M (fun (M2 : mSt) (v2 : Int) => w_X12_thrown N 0 M2 (fun (M3 : mSt) (v3 : Int) => v3 = v1 ∧ (v1 = 0 → (X1 250 0) = v2) ∧ Kt X1 M3)))
theorem Wl_7 (C : lC p l s m args c g sb L xs b) (N : Nat) (hl : lv_has ls 7 [(0, .ref sb), (1, .ref (b + 0)), (2, .ref (b + 237 + 0)), (3, .ref (b + 250)), (4, .int (mI i))]) (hX : mW g b KX X H) (hM : mW g (b + 237) KM M H) (hS : va_S (lA s) s.heap H locs) (oi : okI i) (h0 : 0 ≤ i) (h5 : i + 5 < L) (hc : cells + 4 ≤ 601024) (hs : slots + 24 ≤ 7293034) (h : wl_7 N (sA xs i 1) (sA xs i 2) (sA xs i 3) (sA xs i 4) (sA xs i 5) X M Kt) (kk : ∀ (X1 M1 : mSt) (H1 : Heap) (locs1 : List Loc) (ls1 : Array Slot), Kt X1 M1 → lv_has ls1 7 [(0, .ref sb), (1, .ref (b + 0)), (2, .ref (b + 237 + 0)), (3, .ref (b + 250)), (4, .int (mI i))] → mW g b KX X1 H1 → mW g (b + 237) KM M1 H1 → va_S (lA s) s.heap H1 locs1 → W p l e room_1 s m args below meth c H1 locs1 (cells + 4) (slots + 24) Q (F0 m 2540 ls1 [])) : W p l e room_1 s m args below meth c H locs cells slots Q (F0 m 571 ls []) := by
  unfold wl_7 at h
  refine m_aload_n (pc := 571) C.1 dL_law__571 rfl hl 1 rfl ?_
  refine m_aload_n (pc := 572) C.1 dL_law__572 rfl hl 0 rfl ?_
  refine m_iload (pc := 573) C.1 dL_law__573 hl 4 rfl ?_
  refine m_iconst (pc := 575) C.1 dL_law__575 ?_
  refine m_iadd (pc := 576) C.1 dL_law__576 ?_
  refine l_sld (pc := 577) C.1 C.2.2.2.2.1.1 C.2.2.2.2.1.2.1 hS (l_idx h0 h5 C.2.2.2.2.1.2.2 (by decide) (by decide)) dL_law__577 ?_
  refine m_aload_n (pc := 578) C.1 dL_law__578 rfl hl 0 rfl ?_
  refine m_iload (pc := 579) C.1 dL_law__579 hl 4 rfl ?_
  refine m_iconst (pc := 581) C.1 dL_law__581 ?_
  refine m_iadd (pc := 582) C.1 dL_law__582 ?_
  refine l_sld (pc := 583) C.1 C.2.2.2.2.1.1 C.2.2.2.2.1.2.1 hS (l_idx h0 h5 C.2.2.2.2.1.2.2 (by decide) (by decide)) dL_law__583 ?_
  refine l_bool (pc := 584) C.1 (sA_ok xs i 2) dL_law__584 dL_law__587 dL_law__588 dL_law__591 ?_
  refine m_aload_n (pc := 592) C.1 dL_law__592 rfl hl 3 rfl ?_
  refine l_callSi (pc := 593) (b := b) C.1 C.2.2.1 hl.1 C.2.1 C.2.2.2.2.2 hX hS (As := [.ref (b + 0), .int (mI (sA xs i 1)), .int (mI (bI (sA xs i 2))), .ref (b + 250)]) (rest := []) (T_L_peg C.2.2.2.1 N 0 rfl (sA xs i 1) (sA_ok xs i 1) (bI (sA xs i 2)) (bI_ok _) 250 rfl h) q_1014 q_1015 q_80 q_1016 pl_L_peg ⟨rfl, rfl, by decide, by decide, by show _ ≤ 601024; omega, by show _ ≤ 7293034; omega⟩  (Nat.le_of_ble_eq_true rfl) dL_law__593 (fun v1 X1 H1 locs ov1 h hX1 hk hS => ?_)
  replace hM := hM.apart hk l_apM
  clear hk
  refine m_istore (pc := 596) C.1 dL_law__596 hl (by decide) (fun v => [(5, .int v), (0, .ref sb), (1, .ref (b + 0)), (2, .ref (b + 237 + 0)), (3, .ref (b + 250)), (4, .int (mI i))]) (fun _ => rfl) ov1 (fun z5 ls ez5 oz5 hl => ?_)
  rw [ez5] at hl
  refine m_aload_n (pc := 598) C.1 dL_law__598 rfl hl 3 rfl ?_
  refine m_aload_n (pc := 599) C.1 dL_law__599 rfl hl 1 rfl ?_
  refine m_iload (pc := 600) C.1 dL_law__600 hl 5 rfl ?_
  refine m_iconst (pc := 602) C.1 dL_law__602 ?_
  refine m_iadd (pc := 603) C.1 dL_law__603 ?_
  refine l_sld (pc := 604) C.1 C.2.2.2.2.1.1 C.2.2.2.2.1.2.1 hS (l_idx h0 h5 C.2.2.2.2.1.2.2 (by decide) (by decide)) dL_law__604 ?_
  refine m_aload_n (pc := 605) C.1 dL_law__605 rfl hl 1 rfl ?_
  refine m_iload (pc := 606) C.1 dL_law__606 hl 5 rfl ?_
  refine m_iconst (pc := 608) C.1 dL_law__608 ?_
  refine m_iadd (pc := 609) C.1 dL_law__609 ?_
  refine l_sld (pc := 610) C.1 C.2.2.2.2.1.1 C.2.2.2.2.1.2.1 hS (l_idx h0 h5 C.2.2.2.2.1.2.2 (by decide) (by decide)) dL_law__610 ?_
  refine l_bool (pc := 611) C.1 (sA_ok xs i 2) dL_law__611 dL_law__614 dL_law__615 dL_law__618 ?_
  refine l_callVi (pc := 619) (b := (b + 237)) C.1 C.2.2.1 hl.1 C.2.1 (Nat.le_trans C.2.2.2.2.2 (Nat.le_add_right _ _)) hM hS (As := [.int (mI (sA xs i 1)), .int (mI (bI (sA xs i 2)))]) (rest := []) (r := 0) (T_X12_peg C.2.2.2.1 N 0 rfl (sA xs i 1) (sA_ok xs i 1) (bI (sA xs i 2)) (bI_ok _) h) rfl rfl q_1683 q_1684 q_1685 q_92 q_1686 pl_X12_peg ⟨rfl, rfl, by decide, by decide, by show _ ≤ 601024; omega, by show _ ≤ 7293034; omega⟩ (Nat.le_of_ble_eq_true rfl) dL_law__619 (fun v2 M2 H1 locs ov2 h hM2 hk hS => ?_)
  replace hX := hX1.apart hk l_apX
  clear hk
  refine m_istore (pc := 622) C.1 dL_law__622 hl (by decide) (fun v => [(6, .int v), (5, .int (mI v1)), (0, .ref sb), (1, .ref (b + 0)), (2, .ref (b + 237 + 0)), (3, .ref (b + 250)), (4, .int (mI i))]) (fun _ => rfl) ov2 (fun z6 ls ez6 oz6 hl => ?_)
  rw [ez6] at hl
  refine m_aload_n (pc := 624) C.1 dL_law__624 rfl hl 4 rfl ?_
  refine l_callVi (pc := 625) (b := (b + 237)) C.1 C.2.2.1 hl.1 C.2.1 (Nat.le_trans C.2.2.2.2.2 (Nat.le_add_right _ _)) hM2 hS (As := []) (rest := []) (r := 0) (T_X12_thrown C.2.2.2.1 N 0 rfl h) rfl rfl q_1463 q_1464 q_1465 q_92 q_1466 pl_X12_thrown ⟨rfl, rfl, by decide, by decide, by show _ ≤ 601024; omega, by show _ ≤ 7293034; omega⟩ (Nat.le_of_ble_eq_true rfl) dL_law__625 (fun v3 M3 H1 locs ov3 h hM3 hk hS => ?_)
  replace hX := hX.apart hk l_apX
  clear hk
  refine m_iload (pc := 628) C.1 dL_law__628 hl 1 rfl ?_
  refine m_icmp_eq (tgt := 635) (pc := 630) C.1 ov3 ov1 dL_law__630 (by decide) (fun _ => ?_) (fun hc => absurd h.1 hc)
  refine m_iload (pc := 635) C.1 dL_law__635 hl 1 rfl ?_
  refine m_if_ne (tgt := 652) (pc := 637) C.1 ov1 dL_law__637 (by decide) (fun hc => ?_) (fun hc => ?_)
  · refine m_goto (pc := 652) C.1 (tgt := 2540) dL_law__652 (by decide) ?_
    refine W.widen (k := cells + 4) (n := slots + 24) (by omega) (by omega) ?_
    exact kk X1 M3 _ _ _ h.2.2 (lv_sub hl [2, 3, 4, 5, 6] rfl) hX hM3 hS
  replace hc := h.2.1 hc
  refine m_aload_n (pc := 640) C.1 dL_law__640 rfl hl 5 rfl ?_
  refine m_iconst (pc := 641) C.1 dL_law__641 ?_
  refine l_lald (pc := 642) C.1 C.2.1 hX (r := 250) rfl (by decide : okI 0) (by decide) (by decide) dL_law__642 ?_
  refine m_iload (pc := 643) C.1 dL_law__643 hl 0 rfl ?_
  refine m_i2l (pc := 645) C.1 ov2 dL_law__645 ?_
  refine l_cmp (pc := 646) C.1 hc (tgt := 652) dL_law__646 dL_law__647 (by decide) ?_
  refine m_goto (pc := 652) C.1 (tgt := 2540) dL_law__652 (by decide) ?_
  refine W.widen (k := cells + 4) (n := slots + 24) (by omega) (by omega) ?_
  exact kk X1 M3 _ _ _ h.2.2 (lv_sub hl [2, 3, 4, 5, 6] rfl) hX hM3 hS
def wl_8 (N : Nat) (a1 a2 a3 a4 a5 : Int) (X M : mSt) (Kt : mSt → mSt → Prop) : Prop :=
  w_L_due N 0 a1 (bI a2) 250 X (fun (X1 : mSt) (v1 : Int) => w_X12_due N 0 a1 (bI a2) M (fun (M2 : mSt) (v2 : Int) => w_X12_thrown N 0 M2 (fun (M3 : mSt) (v3 : Int) => v3 = v1 ∧ (v1 = 0 → (X1 250 0) = v2) ∧ Kt X1 M3)))
theorem Wl_8 (C : lC p l s m args c g sb L xs b) (N : Nat) (hl : lv_has ls 7 [(0, .ref sb), (1, .ref (b + 0)), (2, .ref (b + 237 + 0)), (3, .ref (b + 250)), (4, .int (mI i))]) (hX : mW g b KX X H) (hM : mW g (b + 237) KM M H) (hS : va_S (lA s) s.heap H locs) (oi : okI i) (h0 : 0 ≤ i) (h5 : i + 5 < L) (hc : cells + 4 ≤ 601024) (hs : slots + 24 ≤ 7293034) (h : wl_8 N (sA xs i 1) (sA xs i 2) (sA xs i 3) (sA xs i 4) (sA xs i 5) X M Kt) (kk : ∀ (X1 M1 : mSt) (H1 : Heap) (locs1 : List Loc) (ls1 : Array Slot), Kt X1 M1 → lv_has ls1 7 [(0, .ref sb), (1, .ref (b + 0)), (2, .ref (b + 237 + 0)), (3, .ref (b + 250)), (4, .int (mI i))] → mW g b KX X1 H1 → mW g (b + 237) KM M1 H1 → va_S (lA s) s.heap H1 locs1 → W p l e room_1 s m args below meth c H1 locs1 (cells + 4) (slots + 24) Q (F0 m 2540 ls1 [])) : W p l e room_1 s m args below meth c H locs cells slots Q (F0 m 655 ls []) := by
  unfold wl_8 at h
  refine m_aload_n (pc := 655) C.1 dL_law__655 rfl hl 1 rfl ?_
  refine m_aload_n (pc := 656) C.1 dL_law__656 rfl hl 0 rfl ?_
  refine m_iload (pc := 657) C.1 dL_law__657 hl 4 rfl ?_
  refine m_iconst (pc := 659) C.1 dL_law__659 ?_
  refine m_iadd (pc := 660) C.1 dL_law__660 ?_
  refine l_sld (pc := 661) C.1 C.2.2.2.2.1.1 C.2.2.2.2.1.2.1 hS (l_idx h0 h5 C.2.2.2.2.1.2.2 (by decide) (by decide)) dL_law__661 ?_
  refine m_aload_n (pc := 662) C.1 dL_law__662 rfl hl 0 rfl ?_
  refine m_iload (pc := 663) C.1 dL_law__663 hl 4 rfl ?_
  refine m_iconst (pc := 665) C.1 dL_law__665 ?_
  refine m_iadd (pc := 666) C.1 dL_law__666 ?_
  refine l_sld (pc := 667) C.1 C.2.2.2.2.1.1 C.2.2.2.2.1.2.1 hS (l_idx h0 h5 C.2.2.2.2.1.2.2 (by decide) (by decide)) dL_law__667 ?_
  refine l_bool (pc := 668) C.1 (sA_ok xs i 2) dL_law__668 dL_law__671 dL_law__672 dL_law__675 ?_
  refine m_aload_n (pc := 676) C.1 dL_law__676 rfl hl 3 rfl ?_
  refine l_callSi (pc := 677) (b := b) C.1 C.2.2.1 hl.1 C.2.1 C.2.2.2.2.2 hX hS (As := [.ref (b + 0), .int (mI (sA xs i 1)), .int (mI (bI (sA xs i 2))), .ref (b + 250)]) (rest := []) (T_L_due C.2.2.2.1 N 0 rfl (sA xs i 1) (sA_ok xs i 1) (bI (sA xs i 2)) (bI_ok _) 250 rfl h) q_1025 q_1026 q_80 q_1027 pl_L_due ⟨rfl, rfl, by decide, by decide, by show _ ≤ 601024; omega, by show _ ≤ 7293034; omega⟩  (Nat.le_of_ble_eq_true rfl) dL_law__677 (fun v1 X1 H1 locs ov1 h hX1 hk hS => ?_)
  replace hM := hM.apart hk l_apM
  clear hk
  refine m_istore (pc := 680) C.1 dL_law__680 hl (by decide) (fun v => [(5, .int v), (0, .ref sb), (1, .ref (b + 0)), (2, .ref (b + 237 + 0)), (3, .ref (b + 250)), (4, .int (mI i))]) (fun _ => rfl) ov1 (fun z5 ls ez5 oz5 hl => ?_)
  rw [ez5] at hl
  refine m_aload_n (pc := 682) C.1 dL_law__682 rfl hl 3 rfl ?_
  refine m_aload_n (pc := 683) C.1 dL_law__683 rfl hl 1 rfl ?_
  refine m_iload (pc := 684) C.1 dL_law__684 hl 5 rfl ?_
  refine m_iconst (pc := 686) C.1 dL_law__686 ?_
  refine m_iadd (pc := 687) C.1 dL_law__687 ?_
  refine l_sld (pc := 688) C.1 C.2.2.2.2.1.1 C.2.2.2.2.1.2.1 hS (l_idx h0 h5 C.2.2.2.2.1.2.2 (by decide) (by decide)) dL_law__688 ?_
  refine m_aload_n (pc := 689) C.1 dL_law__689 rfl hl 1 rfl ?_
  refine m_iload (pc := 690) C.1 dL_law__690 hl 5 rfl ?_
  refine m_iconst (pc := 692) C.1 dL_law__692 ?_
  refine m_iadd (pc := 693) C.1 dL_law__693 ?_
  refine l_sld (pc := 694) C.1 C.2.2.2.2.1.1 C.2.2.2.2.1.2.1 hS (l_idx h0 h5 C.2.2.2.2.1.2.2 (by decide) (by decide)) dL_law__694 ?_
  refine l_bool (pc := 695) C.1 (sA_ok xs i 2) dL_law__695 dL_law__698 dL_law__699 dL_law__702 ?_
  refine l_callVi (pc := 703) (b := (b + 237)) C.1 C.2.2.1 hl.1 C.2.1 (Nat.le_trans C.2.2.2.2.2 (Nat.le_add_right _ _)) hM hS (As := [.int (mI (sA xs i 1)), .int (mI (bI (sA xs i 2)))]) (rest := []) (r := 0) (T_X12_due C.2.2.2.1 N 0 rfl (sA xs i 1) (sA_ok xs i 1) (bI (sA xs i 2)) (bI_ok _) h) rfl rfl q_1691 q_1692 q_1693 q_92 q_1694 pl_X12_due ⟨rfl, rfl, by decide, by decide, by show _ ≤ 601024; omega, by show _ ≤ 7293034; omega⟩ (Nat.le_of_ble_eq_true rfl) dL_law__703 (fun v2 M2 H1 locs ov2 h hM2 hk hS => ?_)
  replace hX := hX1.apart hk l_apX
  clear hk
  refine m_istore (pc := 706) C.1 dL_law__706 hl (by decide) (fun v => [(6, .int v), (5, .int (mI v1)), (0, .ref sb), (1, .ref (b + 0)), (2, .ref (b + 237 + 0)), (3, .ref (b + 250)), (4, .int (mI i))]) (fun _ => rfl) ov2 (fun z6 ls ez6 oz6 hl => ?_)
  rw [ez6] at hl
  refine m_aload_n (pc := 708) C.1 dL_law__708 rfl hl 4 rfl ?_
  refine l_callVi (pc := 709) (b := (b + 237)) C.1 C.2.2.1 hl.1 C.2.1 (Nat.le_trans C.2.2.2.2.2 (Nat.le_add_right _ _)) hM2 hS (As := []) (rest := []) (r := 0) (T_X12_thrown C.2.2.2.1 N 0 rfl h) rfl rfl q_1463 q_1464 q_1465 q_92 q_1466 pl_X12_thrown ⟨rfl, rfl, by decide, by decide, by show _ ≤ 601024; omega, by show _ ≤ 7293034; omega⟩ (Nat.le_of_ble_eq_true rfl) dL_law__709 (fun v3 M3 H1 locs ov3 h hM3 hk hS => ?_)
  replace hX := hX.apart hk l_apX
  clear hk
  refine m_iload (pc := 712) C.1 dL_law__712 hl 1 rfl ?_
  refine m_icmp_eq (tgt := 719) (pc := 714) C.1 ov3 ov1 dL_law__714 (by decide) (fun _ => ?_) (fun hc => absurd h.1 hc)
  refine m_iload (pc := 719) C.1 dL_law__719 hl 1 rfl ?_
  refine m_if_ne (tgt := 736) (pc := 721) C.1 ov1 dL_law__721 (by decide) (fun hc => ?_) (fun hc => ?_)
  · refine m_goto (pc := 736) C.1 (tgt := 2540) dL_law__736 (by decide) ?_
    refine W.widen (k := cells + 4) (n := slots + 24) (by omega) (by omega) ?_
    exact kk X1 M3 _ _ _ h.2.2 (lv_sub hl [2, 3, 4, 5, 6] rfl) hX hM3 hS
  replace hc := h.2.1 hc
  refine m_aload_n (pc := 724) C.1 dL_law__724 rfl hl 5 rfl ?_
  refine m_iconst (pc := 725) C.1 dL_law__725 ?_
  refine l_lald (pc := 726) C.1 C.2.1 hX (r := 250) rfl (by decide : okI 0) (by decide) (by decide) dL_law__726 ?_
  refine m_iload (pc := 727) C.1 dL_law__727 hl 0 rfl ?_
  refine m_i2l (pc := 729) C.1 ov2 dL_law__729 ?_
  refine l_cmp (pc := 730) C.1 hc (tgt := 736) dL_law__730 dL_law__731 (by decide) ?_
  refine m_goto (pc := 736) C.1 (tgt := 2540) dL_law__736 (by decide) ?_
  refine W.widen (k := cells + 4) (n := slots + 24) (by omega) (by omega) ?_
  exact kk X1 M3 _ _ _ h.2.2 (lv_sub hl [2, 3, 4, 5, 6] rfl) hX hM3 hS
def wl_9 (N : Nat) (a1 a2 a3 a4 a5 : Int) (X M : mSt) (Kt : mSt → mSt → Prop) : Prop :=
  w_L_wash N 0 a1 a2 250 X (fun (X1 : mSt) (v1 : Int) => w_X12_wash N 0 a1 a2 M (fun (M2 : mSt) (v2 : Int) => w_X12_thrown N 0 M2 (fun (M3 : mSt) (v3 : Int) => v3 = v1 ∧ (v1 = 0 → (X1 250 0) = v2) ∧ Kt X1 M3)))
theorem Wl_9 (C : lC p l s m args c g sb L xs b) (N : Nat) (hl : lv_has ls 7 [(0, .ref sb), (1, .ref (b + 0)), (2, .ref (b + 237 + 0)), (3, .ref (b + 250)), (4, .int (mI i))]) (hX : mW g b KX X H) (hM : mW g (b + 237) KM M H) (hS : va_S (lA s) s.heap H locs) (oi : okI i) (h0 : 0 ≤ i) (h5 : i + 5 < L) (hc : cells + 4 ≤ 601024) (hs : slots + 24 ≤ 7293034) (h : wl_9 N (sA xs i 1) (sA xs i 2) (sA xs i 3) (sA xs i 4) (sA xs i 5) X M Kt) (kk : ∀ (X1 M1 : mSt) (H1 : Heap) (locs1 : List Loc) (ls1 : Array Slot), Kt X1 M1 → lv_has ls1 7 [(0, .ref sb), (1, .ref (b + 0)), (2, .ref (b + 237 + 0)), (3, .ref (b + 250)), (4, .int (mI i))] → mW g b KX X1 H1 → mW g (b + 237) KM M1 H1 → va_S (lA s) s.heap H1 locs1 → W p l e room_1 s m args below meth c H1 locs1 (cells + 4) (slots + 24) Q (F0 m 2540 ls1 [])) : W p l e room_1 s m args below meth c H locs cells slots Q (F0 m 739 ls []) := by
  unfold wl_9 at h
  refine m_aload_n (pc := 739) C.1 dL_law__739 rfl hl 1 rfl ?_
  refine m_aload_n (pc := 740) C.1 dL_law__740 rfl hl 0 rfl ?_
  refine m_iload (pc := 741) C.1 dL_law__741 hl 4 rfl ?_
  refine m_iconst (pc := 743) C.1 dL_law__743 ?_
  refine m_iadd (pc := 744) C.1 dL_law__744 ?_
  refine l_sld (pc := 745) C.1 C.2.2.2.2.1.1 C.2.2.2.2.1.2.1 hS (l_idx h0 h5 C.2.2.2.2.1.2.2 (by decide) (by decide)) dL_law__745 ?_
  refine m_aload_n (pc := 746) C.1 dL_law__746 rfl hl 0 rfl ?_
  refine m_iload (pc := 747) C.1 dL_law__747 hl 4 rfl ?_
  refine m_iconst (pc := 749) C.1 dL_law__749 ?_
  refine m_iadd (pc := 750) C.1 dL_law__750 ?_
  refine l_sld (pc := 751) C.1 C.2.2.2.2.1.1 C.2.2.2.2.1.2.1 hS (l_idx h0 h5 C.2.2.2.2.1.2.2 (by decide) (by decide)) dL_law__751 ?_
  refine m_aload_n (pc := 752) C.1 dL_law__752 rfl hl 3 rfl ?_
  refine l_callSi (pc := 753) (b := b) C.1 C.2.2.1 hl.1 C.2.1 C.2.2.2.2.2 hX hS (As := [.ref (b + 0), .int (mI (sA xs i 1)), .int (mI (sA xs i 2)), .ref (b + 250)]) (rest := []) (T_L_wash C.2.2.2.1 N 0 rfl (sA xs i 1) (sA_ok xs i 1) (sA xs i 2) (sA_ok xs i 2) 250 rfl h) q_1040 q_1041 q_80 q_1042 pl_L_wash ⟨rfl, rfl, by decide, by decide, by show _ ≤ 601024; omega, by show _ ≤ 7293034; omega⟩  (Nat.le_of_ble_eq_true rfl) dL_law__753 (fun v1 X1 H1 locs ov1 h hX1 hk hS => ?_)
  replace hM := hM.apart hk l_apM
  clear hk
  refine m_istore (pc := 756) C.1 dL_law__756 hl (by decide) (fun v => [(5, .int v), (0, .ref sb), (1, .ref (b + 0)), (2, .ref (b + 237 + 0)), (3, .ref (b + 250)), (4, .int (mI i))]) (fun _ => rfl) ov1 (fun z5 ls ez5 oz5 hl => ?_)
  rw [ez5] at hl
  refine m_aload_n (pc := 758) C.1 dL_law__758 rfl hl 3 rfl ?_
  refine m_aload_n (pc := 759) C.1 dL_law__759 rfl hl 1 rfl ?_
  refine m_iload (pc := 760) C.1 dL_law__760 hl 5 rfl ?_
  refine m_iconst (pc := 762) C.1 dL_law__762 ?_
  refine m_iadd (pc := 763) C.1 dL_law__763 ?_
  refine l_sld (pc := 764) C.1 C.2.2.2.2.1.1 C.2.2.2.2.1.2.1 hS (l_idx h0 h5 C.2.2.2.2.1.2.2 (by decide) (by decide)) dL_law__764 ?_
  refine m_aload_n (pc := 765) C.1 dL_law__765 rfl hl 1 rfl ?_
  refine m_iload (pc := 766) C.1 dL_law__766 hl 5 rfl ?_
  refine m_iconst (pc := 768) C.1 dL_law__768 ?_
  refine m_iadd (pc := 769) C.1 dL_law__769 ?_
  refine l_sld (pc := 770) C.1 C.2.2.2.2.1.1 C.2.2.2.2.1.2.1 hS (l_idx h0 h5 C.2.2.2.2.1.2.2 (by decide) (by decide)) dL_law__770 ?_
  refine l_callVi (pc := 771) (b := (b + 237)) C.1 C.2.2.1 hl.1 C.2.1 (Nat.le_trans C.2.2.2.2.2 (Nat.le_add_right _ _)) hM hS (As := [.int (mI (sA xs i 1)), .int (mI (sA xs i 2))]) (rest := []) (r := 0) (T_X12_wash C.2.2.2.1 N 0 rfl (sA xs i 1) (sA_ok xs i 1) (sA xs i 2) (sA_ok xs i 2) h) rfl rfl q_1695 q_1696 q_1697 q_92 q_1698 pl_X12_wash ⟨rfl, rfl, by decide, by decide, by show _ ≤ 601024; omega, by show _ ≤ 7293034; omega⟩ (Nat.le_of_ble_eq_true rfl) dL_law__771 (fun v2 M2 H1 locs ov2 h hM2 hk hS => ?_)
  replace hX := hX1.apart hk l_apX
  clear hk
  refine m_istore (pc := 774) C.1 dL_law__774 hl (by decide) (fun v => [(6, .int v), (5, .int (mI v1)), (0, .ref sb), (1, .ref (b + 0)), (2, .ref (b + 237 + 0)), (3, .ref (b + 250)), (4, .int (mI i))]) (fun _ => rfl) ov2 (fun z6 ls ez6 oz6 hl => ?_)
  rw [ez6] at hl
  refine m_aload_n (pc := 776) C.1 dL_law__776 rfl hl 4 rfl ?_
  refine l_callVi (pc := 777) (b := (b + 237)) C.1 C.2.2.1 hl.1 C.2.1 (Nat.le_trans C.2.2.2.2.2 (Nat.le_add_right _ _)) hM2 hS (As := []) (rest := []) (r := 0) (T_X12_thrown C.2.2.2.1 N 0 rfl h) rfl rfl q_1463 q_1464 q_1465 q_92 q_1466 pl_X12_thrown ⟨rfl, rfl, by decide, by decide, by show _ ≤ 601024; omega, by show _ ≤ 7293034; omega⟩ (Nat.le_of_ble_eq_true rfl) dL_law__777 (fun v3 M3 H1 locs ov3 h hM3 hk hS => ?_)
  replace hX := hX.apart hk l_apX
  clear hk
  refine m_iload (pc := 780) C.1 dL_law__780 hl 1 rfl ?_
  refine m_icmp_eq (tgt := 787) (pc := 782) C.1 ov3 ov1 dL_law__782 (by decide) (fun _ => ?_) (fun hc => absurd h.1 hc)
  refine m_iload (pc := 787) C.1 dL_law__787 hl 1 rfl ?_
  refine m_if_ne (tgt := 804) (pc := 789) C.1 ov1 dL_law__789 (by decide) (fun hc => ?_) (fun hc => ?_)
  · refine m_goto (pc := 804) C.1 (tgt := 2540) dL_law__804 (by decide) ?_
    refine W.widen (k := cells + 4) (n := slots + 24) (by omega) (by omega) ?_
    exact kk X1 M3 _ _ _ h.2.2 (lv_sub hl [2, 3, 4, 5, 6] rfl) hX hM3 hS
  replace hc := h.2.1 hc
  refine m_aload_n (pc := 792) C.1 dL_law__792 rfl hl 5 rfl ?_
  refine m_iconst (pc := 793) C.1 dL_law__793 ?_
  refine l_lald (pc := 794) C.1 C.2.1 hX (r := 250) rfl (by decide : okI 0) (by decide) (by decide) dL_law__794 ?_
  refine m_iload (pc := 795) C.1 dL_law__795 hl 0 rfl ?_
  refine m_i2l (pc := 797) C.1 ov2 dL_law__797 ?_
  refine l_cmp (pc := 798) C.1 hc (tgt := 804) dL_law__798 dL_law__799 (by decide) ?_
  refine m_goto (pc := 804) C.1 (tgt := 2540) dL_law__804 (by decide) ?_
  refine W.widen (k := cells + 4) (n := slots + 24) (by omega) (by omega) ?_
  exact kk X1 M3 _ _ _ h.2.2 (lv_sub hl [2, 3, 4, 5, 6] rfl) hX hM3 hS
def wl_10 (N : Nat) (a1 a2 a3 a4 a5 : Int) (X M : mSt) (Kt : mSt → mSt → Prop) : Prop :=
  w_L_hang N 0 a1 (bI a2) 250 X (fun (X1 : mSt) (v1 : Int) => w_X12_hang N 0 a1 (bI a2) M (fun (M2 : mSt) (v2 : Int) => w_X12_thrown N 0 M2 (fun (M3 : mSt) (v3 : Int) => v3 = v1 ∧ (v1 = 0 → (X1 250 0) = (bI v2)) ∧ Kt X1 M3)))
theorem Wl_10 (C : lC p l s m args c g sb L xs b) (N : Nat) (hl : lv_has ls 7 [(0, .ref sb), (1, .ref (b + 0)), (2, .ref (b + 237 + 0)), (3, .ref (b + 250)), (4, .int (mI i))]) (hX : mW g b KX X H) (hM : mW g (b + 237) KM M H) (hS : va_S (lA s) s.heap H locs) (oi : okI i) (h0 : 0 ≤ i) (h5 : i + 5 < L) (hc : cells + 4 ≤ 601024) (hs : slots + 24 ≤ 7293034) (h : wl_10 N (sA xs i 1) (sA xs i 2) (sA xs i 3) (sA xs i 4) (sA xs i 5) X M Kt) (kk : ∀ (X1 M1 : mSt) (H1 : Heap) (locs1 : List Loc) (ls1 : Array Slot), Kt X1 M1 → lv_has ls1 7 [(0, .ref sb), (1, .ref (b + 0)), (2, .ref (b + 237 + 0)), (3, .ref (b + 250)), (4, .int (mI i))] → mW g b KX X1 H1 → mW g (b + 237) KM M1 H1 → va_S (lA s) s.heap H1 locs1 → W p l e room_1 s m args below meth c H1 locs1 (cells + 4) (slots + 24) Q (F0 m 2540 ls1 [])) : W p l e room_1 s m args below meth c H locs cells slots Q (F0 m 807 ls []) := by
  unfold wl_10 at h
  refine m_aload_n (pc := 807) C.1 dL_law__807 rfl hl 1 rfl ?_
  refine m_aload_n (pc := 808) C.1 dL_law__808 rfl hl 0 rfl ?_
  refine m_iload (pc := 809) C.1 dL_law__809 hl 4 rfl ?_
  refine m_iconst (pc := 811) C.1 dL_law__811 ?_
  refine m_iadd (pc := 812) C.1 dL_law__812 ?_
  refine l_sld (pc := 813) C.1 C.2.2.2.2.1.1 C.2.2.2.2.1.2.1 hS (l_idx h0 h5 C.2.2.2.2.1.2.2 (by decide) (by decide)) dL_law__813 ?_
  refine m_aload_n (pc := 814) C.1 dL_law__814 rfl hl 0 rfl ?_
  refine m_iload (pc := 815) C.1 dL_law__815 hl 4 rfl ?_
  refine m_iconst (pc := 817) C.1 dL_law__817 ?_
  refine m_iadd (pc := 818) C.1 dL_law__818 ?_
  refine l_sld (pc := 819) C.1 C.2.2.2.2.1.1 C.2.2.2.2.1.2.1 hS (l_idx h0 h5 C.2.2.2.2.1.2.2 (by decide) (by decide)) dL_law__819 ?_
  refine l_bool (pc := 820) C.1 (sA_ok xs i 2) dL_law__820 dL_law__823 dL_law__824 dL_law__827 ?_
  refine m_aload_n (pc := 828) C.1 dL_law__828 rfl hl 3 rfl ?_
  refine l_callSi (pc := 829) (b := b) C.1 C.2.2.1 hl.1 C.2.1 C.2.2.2.2.2 hX hS (As := [.ref (b + 0), .int (mI (sA xs i 1)), .int (mI (bI (sA xs i 2))), .ref (b + 250)]) (rest := []) (T_L_hang C.2.2.2.1 N 0 rfl (sA xs i 1) (sA_ok xs i 1) (bI (sA xs i 2)) (bI_ok _) 250 rfl h) q_1082 q_1083 q_80 q_1084 pl_L_hang ⟨rfl, rfl, by decide, by decide, by show _ ≤ 601024; omega, by show _ ≤ 7293034; omega⟩  (Nat.le_of_ble_eq_true rfl) dL_law__829 (fun v1 X1 H1 locs ov1 h hX1 hk hS => ?_)
  replace hM := hM.apart hk l_apM
  clear hk
  refine m_istore (pc := 832) C.1 dL_law__832 hl (by decide) (fun v => [(5, .int v), (0, .ref sb), (1, .ref (b + 0)), (2, .ref (b + 237 + 0)), (3, .ref (b + 250)), (4, .int (mI i))]) (fun _ => rfl) ov1 (fun z5 ls ez5 oz5 hl => ?_)
  rw [ez5] at hl
  refine m_aload_n (pc := 834) C.1 dL_law__834 rfl hl 3 rfl ?_
  refine m_aload_n (pc := 835) C.1 dL_law__835 rfl hl 1 rfl ?_
  refine m_iload (pc := 836) C.1 dL_law__836 hl 5 rfl ?_
  refine m_iconst (pc := 838) C.1 dL_law__838 ?_
  refine m_iadd (pc := 839) C.1 dL_law__839 ?_
  refine l_sld (pc := 840) C.1 C.2.2.2.2.1.1 C.2.2.2.2.1.2.1 hS (l_idx h0 h5 C.2.2.2.2.1.2.2 (by decide) (by decide)) dL_law__840 ?_
  refine m_aload_n (pc := 841) C.1 dL_law__841 rfl hl 1 rfl ?_
  refine m_iload (pc := 842) C.1 dL_law__842 hl 5 rfl ?_
  refine m_iconst (pc := 844) C.1 dL_law__844 ?_
  refine m_iadd (pc := 845) C.1 dL_law__845 ?_
  refine l_sld (pc := 846) C.1 C.2.2.2.2.1.1 C.2.2.2.2.1.2.1 hS (l_idx h0 h5 C.2.2.2.2.1.2.2 (by decide) (by decide)) dL_law__846 ?_
  refine l_bool (pc := 847) C.1 (sA_ok xs i 2) dL_law__847 dL_law__850 dL_law__851 dL_law__854 ?_
  refine l_callVi (pc := 855) (b := (b + 237)) C.1 C.2.2.1 hl.1 C.2.1 (Nat.le_trans C.2.2.2.2.2 (Nat.le_add_right _ _)) hM hS (As := [.int (mI (sA xs i 1)), .int (mI (bI (sA xs i 2)))]) (rest := []) (r := 0) (T_X12_hang C.2.2.2.1 N 0 rfl (sA xs i 1) (sA_ok xs i 1) (bI (sA xs i 2)) (bI_ok _) h) rfl rfl q_1707 q_1708 q_1709 q_92 q_1710 pl_X12_hang ⟨rfl, rfl, by decide, by decide, by show _ ≤ 601024; omega, by show _ ≤ 7293034; omega⟩ (Nat.le_of_ble_eq_true rfl) dL_law__855 (fun v2 M2 H1 locs ov2 h hM2 hk hS => ?_)
  replace hX := hX1.apart hk l_apX
  clear hk
  refine m_istore (pc := 858) C.1 dL_law__858 hl (by decide) (fun v => [(6, .int v), (5, .int (mI v1)), (0, .ref sb), (1, .ref (b + 0)), (2, .ref (b + 237 + 0)), (3, .ref (b + 250)), (4, .int (mI i))]) (fun _ => rfl) ov2 (fun z6 ls ez6 oz6 hl => ?_)
  rw [ez6] at hl
  refine m_aload_n (pc := 860) C.1 dL_law__860 rfl hl 4 rfl ?_
  refine l_callVi (pc := 861) (b := (b + 237)) C.1 C.2.2.1 hl.1 C.2.1 (Nat.le_trans C.2.2.2.2.2 (Nat.le_add_right _ _)) hM2 hS (As := []) (rest := []) (r := 0) (T_X12_thrown C.2.2.2.1 N 0 rfl h) rfl rfl q_1463 q_1464 q_1465 q_92 q_1466 pl_X12_thrown ⟨rfl, rfl, by decide, by decide, by show _ ≤ 601024; omega, by show _ ≤ 7293034; omega⟩ (Nat.le_of_ble_eq_true rfl) dL_law__861 (fun v3 M3 H1 locs ov3 h hM3 hk hS => ?_)
  replace hX := hX.apart hk l_apX
  clear hk
  refine m_iload (pc := 864) C.1 dL_law__864 hl 1 rfl ?_
  refine m_icmp_eq (tgt := 871) (pc := 866) C.1 ov3 ov1 dL_law__866 (by decide) (fun _ => ?_) (fun hc => absurd h.1 hc)
  refine m_iload (pc := 871) C.1 dL_law__871 hl 1 rfl ?_
  refine m_if_ne (tgt := 895) (pc := 873) C.1 ov1 dL_law__873 (by decide) (fun hc => ?_) (fun hc => ?_)
  · refine m_goto (pc := 895) C.1 (tgt := 2540) dL_law__895 (by decide) ?_
    refine W.widen (k := cells + 4) (n := slots + 24) (by omega) (by omega) ?_
    exact kk X1 M3 _ _ _ h.2.2 (lv_sub hl [2, 3, 4, 5, 6] rfl) hX hM3 hS
  replace hc := h.2.1 hc
  refine m_aload_n (pc := 876) C.1 dL_law__876 rfl hl 5 rfl ?_
  refine m_iconst (pc := 877) C.1 dL_law__877 ?_
  refine l_lald (pc := 878) C.1 C.2.1 hX (r := 250) rfl (by decide : okI 0) (by decide) (by decide) dL_law__878 ?_
  refine m_iload (pc := 879) C.1 dL_law__879 hl 0 rfl ?_
  refine l_boolL (pc := 881) C.1 ov2 dL_law__881 dL_law__884 dL_law__885 dL_law__888 ?_
  refine l_cmp (pc := 889) C.1 hc (tgt := 895) dL_law__889 dL_law__890 (by decide) ?_
  refine m_goto (pc := 895) C.1 (tgt := 2540) dL_law__895 (by decide) ?_
  refine W.widen (k := cells + 4) (n := slots + 24) (by omega) (by omega) ?_
  exact kk X1 M3 _ _ _ h.2.2 (lv_sub hl [2, 3, 4, 5, 6] rfl) hX hM3 hS
def wl_11 (N : Nat) (a1 a2 a3 a4 a5 : Int) (X M : mSt) (Kt : mSt → mSt → Prop) : Prop :=
  w_L_darn N 0 a1 250 X (fun (X1 : mSt) (v1 : Int) => w_X12_darn N 0 a1 M (fun (M2 : mSt) (v2 : Int) => w_X12_thrown N 0 M2 (fun (M3 : mSt) (v3 : Int) => v3 = v1 ∧ (v1 = 0 → (X1 250 0) = v2) ∧ Kt X1 M3)))
theorem Wl_11 (C : lC p l s m args c g sb L xs b) (N : Nat) (hl : lv_has ls 7 [(0, .ref sb), (1, .ref (b + 0)), (2, .ref (b + 237 + 0)), (3, .ref (b + 250)), (4, .int (mI i))]) (hX : mW g b KX X H) (hM : mW g (b + 237) KM M H) (hS : va_S (lA s) s.heap H locs) (oi : okI i) (h0 : 0 ≤ i) (h5 : i + 5 < L) (hc : cells + 4 ≤ 601024) (hs : slots + 24 ≤ 7293034) (h : wl_11 N (sA xs i 1) (sA xs i 2) (sA xs i 3) (sA xs i 4) (sA xs i 5) X M Kt) (kk : ∀ (X1 M1 : mSt) (H1 : Heap) (locs1 : List Loc) (ls1 : Array Slot), Kt X1 M1 → lv_has ls1 7 [(0, .ref sb), (1, .ref (b + 0)), (2, .ref (b + 237 + 0)), (3, .ref (b + 250)), (4, .int (mI i))] → mW g b KX X1 H1 → mW g (b + 237) KM M1 H1 → va_S (lA s) s.heap H1 locs1 → W p l e room_1 s m args below meth c H1 locs1 (cells + 4) (slots + 24) Q (F0 m 2540 ls1 [])) : W p l e room_1 s m args below meth c H locs cells slots Q (F0 m 898 ls []) := by
  unfold wl_11 at h
  refine m_aload_n (pc := 898) C.1 dL_law__898 rfl hl 1 rfl ?_
  refine m_aload_n (pc := 899) C.1 dL_law__899 rfl hl 0 rfl ?_
  refine m_iload (pc := 900) C.1 dL_law__900 hl 4 rfl ?_
  refine m_iconst (pc := 902) C.1 dL_law__902 ?_
  refine m_iadd (pc := 903) C.1 dL_law__903 ?_
  refine l_sld (pc := 904) C.1 C.2.2.2.2.1.1 C.2.2.2.2.1.2.1 hS (l_idx h0 h5 C.2.2.2.2.1.2.2 (by decide) (by decide)) dL_law__904 ?_
  refine m_aload_n (pc := 905) C.1 dL_law__905 rfl hl 3 rfl ?_
  refine l_callSi (pc := 906) (b := b) C.1 C.2.2.1 hl.1 C.2.1 C.2.2.2.2.2 hX hS (As := [.ref (b + 0), .int (mI (sA xs i 1)), .ref (b + 250)]) (rest := []) (T_L_darn C.2.2.2.1 N 0 rfl (sA xs i 1) (sA_ok xs i 1) 250 rfl h) q_1090 q_1091 q_80 q_1092 pl_L_darn ⟨rfl, rfl, by decide, by decide, by show _ ≤ 601024; omega, by show _ ≤ 7293034; omega⟩  (Nat.le_of_ble_eq_true rfl) dL_law__906 (fun v1 X1 H1 locs ov1 h hX1 hk hS => ?_)
  replace hM := hM.apart hk l_apM
  clear hk
  refine m_istore (pc := 909) C.1 dL_law__909 hl (by decide) (fun v => [(5, .int v), (0, .ref sb), (1, .ref (b + 0)), (2, .ref (b + 237 + 0)), (3, .ref (b + 250)), (4, .int (mI i))]) (fun _ => rfl) ov1 (fun z5 ls ez5 oz5 hl => ?_)
  rw [ez5] at hl
  refine m_aload_n (pc := 911) C.1 dL_law__911 rfl hl 3 rfl ?_
  refine m_aload_n (pc := 912) C.1 dL_law__912 rfl hl 1 rfl ?_
  refine m_iload (pc := 913) C.1 dL_law__913 hl 5 rfl ?_
  refine m_iconst (pc := 915) C.1 dL_law__915 ?_
  refine m_iadd (pc := 916) C.1 dL_law__916 ?_
  refine l_sld (pc := 917) C.1 C.2.2.2.2.1.1 C.2.2.2.2.1.2.1 hS (l_idx h0 h5 C.2.2.2.2.1.2.2 (by decide) (by decide)) dL_law__917 ?_
  refine l_callVi (pc := 918) (b := (b + 237)) C.1 C.2.2.1 hl.1 C.2.1 (Nat.le_trans C.2.2.2.2.2 (Nat.le_add_right _ _)) hM hS (As := [.int (mI (sA xs i 1))]) (rest := []) (r := 0) (T_X12_darn C.2.2.2.1 N 0 rfl (sA xs i 1) (sA_ok xs i 1) h) rfl rfl q_1711 q_1712 q_1713 q_92 q_1714 pl_X12_darn ⟨rfl, rfl, by decide, by decide, by show _ ≤ 601024; omega, by show _ ≤ 7293034; omega⟩ (Nat.le_of_ble_eq_true rfl) dL_law__918 (fun v2 M2 H1 locs ov2 h hM2 hk hS => ?_)
  replace hX := hX1.apart hk l_apX
  clear hk
  refine m_istore (pc := 921) C.1 dL_law__921 hl (by decide) (fun v => [(6, .int v), (5, .int (mI v1)), (0, .ref sb), (1, .ref (b + 0)), (2, .ref (b + 237 + 0)), (3, .ref (b + 250)), (4, .int (mI i))]) (fun _ => rfl) ov2 (fun z6 ls ez6 oz6 hl => ?_)
  rw [ez6] at hl
  refine m_aload_n (pc := 923) C.1 dL_law__923 rfl hl 4 rfl ?_
  refine l_callVi (pc := 924) (b := (b + 237)) C.1 C.2.2.1 hl.1 C.2.1 (Nat.le_trans C.2.2.2.2.2 (Nat.le_add_right _ _)) hM2 hS (As := []) (rest := []) (r := 0) (T_X12_thrown C.2.2.2.1 N 0 rfl h) rfl rfl q_1463 q_1464 q_1465 q_92 q_1466 pl_X12_thrown ⟨rfl, rfl, by decide, by decide, by show _ ≤ 601024; omega, by show _ ≤ 7293034; omega⟩ (Nat.le_of_ble_eq_true rfl) dL_law__924 (fun v3 M3 H1 locs ov3 h hM3 hk hS => ?_)
  replace hX := hX.apart hk l_apX
  clear hk
  refine m_iload (pc := 927) C.1 dL_law__927 hl 1 rfl ?_
  refine m_icmp_eq (tgt := 934) (pc := 929) C.1 ov3 ov1 dL_law__929 (by decide) (fun _ => ?_) (fun hc => absurd h.1 hc)
  refine m_iload (pc := 934) C.1 dL_law__934 hl 1 rfl ?_
  refine m_if_ne (tgt := 951) (pc := 936) C.1 ov1 dL_law__936 (by decide) (fun hc => ?_) (fun hc => ?_)
  · refine m_goto (pc := 951) C.1 (tgt := 2540) dL_law__951 (by decide) ?_
    refine W.widen (k := cells + 4) (n := slots + 24) (by omega) (by omega) ?_
    exact kk X1 M3 _ _ _ h.2.2 (lv_sub hl [2, 3, 4, 5, 6] rfl) hX hM3 hS
  replace hc := h.2.1 hc
  refine m_aload_n (pc := 939) C.1 dL_law__939 rfl hl 5 rfl ?_
  refine m_iconst (pc := 940) C.1 dL_law__940 ?_
  refine l_lald (pc := 941) C.1 C.2.1 hX (r := 250) rfl (by decide : okI 0) (by decide) (by decide) dL_law__941 ?_
  refine m_iload (pc := 942) C.1 dL_law__942 hl 0 rfl ?_
  refine m_i2l (pc := 944) C.1 ov2 dL_law__944 ?_
  refine l_cmp (pc := 945) C.1 hc (tgt := 951) dL_law__945 dL_law__946 (by decide) ?_
  refine m_goto (pc := 951) C.1 (tgt := 2540) dL_law__951 (by decide) ?_
  refine W.widen (k := cells + 4) (n := slots + 24) (by omega) (by omega) ?_
  exact kk X1 M3 _ _ _ h.2.2 (lv_sub hl [2, 3, 4, 5, 6] rfl) hX hM3 hS
def wl_12 (N : Nat) (a1 a2 a3 a4 a5 : Int) (X M : mSt) (Kt : mSt → mSt → Prop) : Prop :=
  w_L_move N 0 a1 a2 250 X (fun (X1 : mSt) (v1 : Int) => w_X12_move N 0 a1 a2 M (fun (M2 : mSt) (v2 : Int) => w_X12_thrown N 0 M2 (fun (M3 : mSt) (v3 : Int) => v3 = v1 ∧ (v1 = 0 → (X1 250 0) = v2) ∧ Kt X1 M3)))
theorem Wl_12 (C : lC p l s m args c g sb L xs b) (N : Nat) (hl : lv_has ls 7 [(0, .ref sb), (1, .ref (b + 0)), (2, .ref (b + 237 + 0)), (3, .ref (b + 250)), (4, .int (mI i))]) (hX : mW g b KX X H) (hM : mW g (b + 237) KM M H) (hS : va_S (lA s) s.heap H locs) (oi : okI i) (h0 : 0 ≤ i) (h5 : i + 5 < L) (hc : cells + 4 ≤ 601024) (hs : slots + 24 ≤ 7293034) (h : wl_12 N (sA xs i 1) (sA xs i 2) (sA xs i 3) (sA xs i 4) (sA xs i 5) X M Kt) (kk : ∀ (X1 M1 : mSt) (H1 : Heap) (locs1 : List Loc) (ls1 : Array Slot), Kt X1 M1 → lv_has ls1 7 [(0, .ref sb), (1, .ref (b + 0)), (2, .ref (b + 237 + 0)), (3, .ref (b + 250)), (4, .int (mI i))] → mW g b KX X1 H1 → mW g (b + 237) KM M1 H1 → va_S (lA s) s.heap H1 locs1 → W p l e room_1 s m args below meth c H1 locs1 (cells + 4) (slots + 24) Q (F0 m 2540 ls1 [])) : W p l e room_1 s m args below meth c H locs cells slots Q (F0 m 954 ls []) := by
  unfold wl_12 at h
  refine m_aload_n (pc := 954) C.1 dL_law__954 rfl hl 1 rfl ?_
  refine m_aload_n (pc := 955) C.1 dL_law__955 rfl hl 0 rfl ?_
  refine m_iload (pc := 956) C.1 dL_law__956 hl 4 rfl ?_
  refine m_iconst (pc := 958) C.1 dL_law__958 ?_
  refine m_iadd (pc := 959) C.1 dL_law__959 ?_
  refine l_sld (pc := 960) C.1 C.2.2.2.2.1.1 C.2.2.2.2.1.2.1 hS (l_idx h0 h5 C.2.2.2.2.1.2.2 (by decide) (by decide)) dL_law__960 ?_
  refine m_aload_n (pc := 961) C.1 dL_law__961 rfl hl 0 rfl ?_
  refine m_iload (pc := 962) C.1 dL_law__962 hl 4 rfl ?_
  refine m_iconst (pc := 964) C.1 dL_law__964 ?_
  refine m_iadd (pc := 965) C.1 dL_law__965 ?_
  refine l_sld (pc := 966) C.1 C.2.2.2.2.1.1 C.2.2.2.2.1.2.1 hS (l_idx h0 h5 C.2.2.2.2.1.2.2 (by decide) (by decide)) dL_law__966 ?_
  refine m_aload_n (pc := 967) C.1 dL_law__967 rfl hl 3 rfl ?_
  refine l_callSi (pc := 968) (b := b) C.1 C.2.2.1 hl.1 C.2.1 C.2.2.2.2.2 hX hS (As := [.ref (b + 0), .int (mI (sA xs i 1)), .int (mI (sA xs i 2)), .ref (b + 250)]) (rest := []) (T_L_move C.2.2.2.1 N 0 rfl (sA xs i 1) (sA_ok xs i 1) (sA xs i 2) (sA_ok xs i 2) 250 rfl h) q_1097 q_1098 q_80 q_1099 pl_L_move ⟨rfl, rfl, by decide, by decide, by show _ ≤ 601024; omega, by show _ ≤ 7293034; omega⟩  (Nat.le_of_ble_eq_true rfl) dL_law__968 (fun v1 X1 H1 locs ov1 h hX1 hk hS => ?_)
  replace hM := hM.apart hk l_apM
  clear hk
  refine m_istore (pc := 971) C.1 dL_law__971 hl (by decide) (fun v => [(5, .int v), (0, .ref sb), (1, .ref (b + 0)), (2, .ref (b + 237 + 0)), (3, .ref (b + 250)), (4, .int (mI i))]) (fun _ => rfl) ov1 (fun z5 ls ez5 oz5 hl => ?_)
  rw [ez5] at hl
  refine m_aload_n (pc := 973) C.1 dL_law__973 rfl hl 3 rfl ?_
  refine m_aload_n (pc := 974) C.1 dL_law__974 rfl hl 1 rfl ?_
  refine m_iload (pc := 975) C.1 dL_law__975 hl 5 rfl ?_
  refine m_iconst (pc := 977) C.1 dL_law__977 ?_
  refine m_iadd (pc := 978) C.1 dL_law__978 ?_
  refine l_sld (pc := 979) C.1 C.2.2.2.2.1.1 C.2.2.2.2.1.2.1 hS (l_idx h0 h5 C.2.2.2.2.1.2.2 (by decide) (by decide)) dL_law__979 ?_
  refine m_aload_n (pc := 980) C.1 dL_law__980 rfl hl 1 rfl ?_
  refine m_iload (pc := 981) C.1 dL_law__981 hl 5 rfl ?_
  refine m_iconst (pc := 983) C.1 dL_law__983 ?_
  refine m_iadd (pc := 984) C.1 dL_law__984 ?_
  refine l_sld (pc := 985) C.1 C.2.2.2.2.1.1 C.2.2.2.2.1.2.1 hS (l_idx h0 h5 C.2.2.2.2.1.2.2 (by decide) (by decide)) dL_law__985 ?_
  refine l_callVi (pc := 986) (b := (b + 237)) C.1 C.2.2.1 hl.1 C.2.1 (Nat.le_trans C.2.2.2.2.2 (Nat.le_add_right _ _)) hM hS (As := [.int (mI (sA xs i 1)), .int (mI (sA xs i 2))]) (rest := []) (r := 0) (T_X12_move C.2.2.2.1 N 0 rfl (sA xs i 1) (sA_ok xs i 1) (sA xs i 2) (sA_ok xs i 2) h) rfl rfl q_1715 q_1716 q_1717 q_92 q_1718 pl_X12_move ⟨rfl, rfl, by decide, by decide, by show _ ≤ 601024; omega, by show _ ≤ 7293034; omega⟩ (Nat.le_of_ble_eq_true rfl) dL_law__986 (fun v2 M2 H1 locs ov2 h hM2 hk hS => ?_)
  replace hX := hX1.apart hk l_apX
  clear hk
  refine m_istore (pc := 989) C.1 dL_law__989 hl (by decide) (fun v => [(6, .int v), (5, .int (mI v1)), (0, .ref sb), (1, .ref (b + 0)), (2, .ref (b + 237 + 0)), (3, .ref (b + 250)), (4, .int (mI i))]) (fun _ => rfl) ov2 (fun z6 ls ez6 oz6 hl => ?_)
  rw [ez6] at hl
  refine m_aload_n (pc := 991) C.1 dL_law__991 rfl hl 4 rfl ?_
  refine l_callVi (pc := 992) (b := (b + 237)) C.1 C.2.2.1 hl.1 C.2.1 (Nat.le_trans C.2.2.2.2.2 (Nat.le_add_right _ _)) hM2 hS (As := []) (rest := []) (r := 0) (T_X12_thrown C.2.2.2.1 N 0 rfl h) rfl rfl q_1463 q_1464 q_1465 q_92 q_1466 pl_X12_thrown ⟨rfl, rfl, by decide, by decide, by show _ ≤ 601024; omega, by show _ ≤ 7293034; omega⟩ (Nat.le_of_ble_eq_true rfl) dL_law__992 (fun v3 M3 H1 locs ov3 h hM3 hk hS => ?_)
  replace hX := hX.apart hk l_apX
  clear hk
  refine m_iload (pc := 995) C.1 dL_law__995 hl 1 rfl ?_
  refine m_icmp_eq (tgt := 1002) (pc := 997) C.1 ov3 ov1 dL_law__997 (by decide) (fun _ => ?_) (fun hc => absurd h.1 hc)
  refine m_iload (pc := 1002) C.1 dL_law__1002 hl 1 rfl ?_
  refine m_if_ne (tgt := 1019) (pc := 1004) C.1 ov1 dL_law__1004 (by decide) (fun hc => ?_) (fun hc => ?_)
  · refine m_goto (pc := 1019) C.1 (tgt := 2540) dL_law__1019 (by decide) ?_
    refine W.widen (k := cells + 4) (n := slots + 24) (by omega) (by omega) ?_
    exact kk X1 M3 _ _ _ h.2.2 (lv_sub hl [2, 3, 4, 5, 6] rfl) hX hM3 hS
  replace hc := h.2.1 hc
  refine m_aload_n (pc := 1007) C.1 dL_law__1007 rfl hl 5 rfl ?_
  refine m_iconst (pc := 1008) C.1 dL_law__1008 ?_
  refine l_lald (pc := 1009) C.1 C.2.1 hX (r := 250) rfl (by decide : okI 0) (by decide) (by decide) dL_law__1009 ?_
  refine m_iload (pc := 1010) C.1 dL_law__1010 hl 0 rfl ?_
  refine m_i2l (pc := 1012) C.1 ov2 dL_law__1012 ?_
  refine l_cmp (pc := 1013) C.1 hc (tgt := 1019) dL_law__1013 dL_law__1014 (by decide) ?_
  refine m_goto (pc := 1019) C.1 (tgt := 2540) dL_law__1019 (by decide) ?_
  refine W.widen (k := cells + 4) (n := slots + 24) (by omega) (by omega) ?_
  exact kk X1 M3 _ _ _ h.2.2 (lv_sub hl [2, 3, 4, 5, 6] rfl) hX hM3 hS
def wl_13 (N : Nat) (a1 a2 a3 a4 a5 : Int) (X M : mSt) (Kt : mSt → mSt → Prop) : Prop :=
  w_L_drop N 0 a1 250 X (fun (X1 : mSt) (v1 : Int) => w_X12_drop N 0 a1 M (fun (M2 : mSt) (v2 : Int) => w_X12_thrown N 0 M2 (fun (M3 : mSt) (v3 : Int) => v3 = v1 ∧ (v1 = 0 → (X1 250 0) = v2) ∧ Kt X1 M3)))
theorem Wl_13 (C : lC p l s m args c g sb L xs b) (N : Nat) (hl : lv_has ls 7 [(0, .ref sb), (1, .ref (b + 0)), (2, .ref (b + 237 + 0)), (3, .ref (b + 250)), (4, .int (mI i))]) (hX : mW g b KX X H) (hM : mW g (b + 237) KM M H) (hS : va_S (lA s) s.heap H locs) (oi : okI i) (h0 : 0 ≤ i) (h5 : i + 5 < L) (hc : cells + 4 ≤ 601024) (hs : slots + 24 ≤ 7293034) (h : wl_13 N (sA xs i 1) (sA xs i 2) (sA xs i 3) (sA xs i 4) (sA xs i 5) X M Kt) (kk : ∀ (X1 M1 : mSt) (H1 : Heap) (locs1 : List Loc) (ls1 : Array Slot), Kt X1 M1 → lv_has ls1 7 [(0, .ref sb), (1, .ref (b + 0)), (2, .ref (b + 237 + 0)), (3, .ref (b + 250)), (4, .int (mI i))] → mW g b KX X1 H1 → mW g (b + 237) KM M1 H1 → va_S (lA s) s.heap H1 locs1 → W p l e room_1 s m args below meth c H1 locs1 (cells + 4) (slots + 24) Q (F0 m 2540 ls1 [])) : W p l e room_1 s m args below meth c H locs cells slots Q (F0 m 1022 ls []) := by
  unfold wl_13 at h
  refine m_aload_n (pc := 1022) C.1 dL_law__1022 rfl hl 1 rfl ?_
  refine m_aload_n (pc := 1023) C.1 dL_law__1023 rfl hl 0 rfl ?_
  refine m_iload (pc := 1024) C.1 dL_law__1024 hl 4 rfl ?_
  refine m_iconst (pc := 1026) C.1 dL_law__1026 ?_
  refine m_iadd (pc := 1027) C.1 dL_law__1027 ?_
  refine l_sld (pc := 1028) C.1 C.2.2.2.2.1.1 C.2.2.2.2.1.2.1 hS (l_idx h0 h5 C.2.2.2.2.1.2.2 (by decide) (by decide)) dL_law__1028 ?_
  refine m_aload_n (pc := 1029) C.1 dL_law__1029 rfl hl 3 rfl ?_
  refine l_callSi (pc := 1030) (b := b) C.1 C.2.2.1 hl.1 C.2.1 C.2.2.2.2.2 hX hS (As := [.ref (b + 0), .int (mI (sA xs i 1)), .ref (b + 250)]) (rest := []) (T_L_drop C.2.2.2.1 N 0 rfl (sA xs i 1) (sA_ok xs i 1) 250 rfl h) q_1104 q_1105 q_80 q_1106 pl_L_drop ⟨rfl, rfl, by decide, by decide, by show _ ≤ 601024; omega, by show _ ≤ 7293034; omega⟩  (Nat.le_of_ble_eq_true rfl) dL_law__1030 (fun v1 X1 H1 locs ov1 h hX1 hk hS => ?_)
  replace hM := hM.apart hk l_apM
  clear hk
  refine m_istore (pc := 1033) C.1 dL_law__1033 hl (by decide) (fun v => [(5, .int v), (0, .ref sb), (1, .ref (b + 0)), (2, .ref (b + 237 + 0)), (3, .ref (b + 250)), (4, .int (mI i))]) (fun _ => rfl) ov1 (fun z5 ls ez5 oz5 hl => ?_)
  rw [ez5] at hl
  refine m_aload_n (pc := 1035) C.1 dL_law__1035 rfl hl 3 rfl ?_
  refine m_aload_n (pc := 1036) C.1 dL_law__1036 rfl hl 1 rfl ?_
  refine m_iload (pc := 1037) C.1 dL_law__1037 hl 5 rfl ?_
  refine m_iconst (pc := 1039) C.1 dL_law__1039 ?_
  refine m_iadd (pc := 1040) C.1 dL_law__1040 ?_
  refine l_sld (pc := 1041) C.1 C.2.2.2.2.1.1 C.2.2.2.2.1.2.1 hS (l_idx h0 h5 C.2.2.2.2.1.2.2 (by decide) (by decide)) dL_law__1041 ?_
  refine l_callVi (pc := 1042) (b := (b + 237)) C.1 C.2.2.1 hl.1 C.2.1 (Nat.le_trans C.2.2.2.2.2 (Nat.le_add_right _ _)) hM hS (As := [.int (mI (sA xs i 1))]) (rest := []) (r := 0) (T_X12_drop C.2.2.2.1 N 0 rfl (sA xs i 1) (sA_ok xs i 1) h) rfl rfl q_1719 q_1720 q_1721 q_92 q_1722 pl_X12_drop ⟨rfl, rfl, by decide, by decide, by show _ ≤ 601024; omega, by show _ ≤ 7293034; omega⟩ (Nat.le_of_ble_eq_true rfl) dL_law__1042 (fun v2 M2 H1 locs ov2 h hM2 hk hS => ?_)
  replace hX := hX1.apart hk l_apX
  clear hk
  refine m_istore (pc := 1045) C.1 dL_law__1045 hl (by decide) (fun v => [(6, .int v), (5, .int (mI v1)), (0, .ref sb), (1, .ref (b + 0)), (2, .ref (b + 237 + 0)), (3, .ref (b + 250)), (4, .int (mI i))]) (fun _ => rfl) ov2 (fun z6 ls ez6 oz6 hl => ?_)
  rw [ez6] at hl
  refine m_aload_n (pc := 1047) C.1 dL_law__1047 rfl hl 4 rfl ?_
  refine l_callVi (pc := 1048) (b := (b + 237)) C.1 C.2.2.1 hl.1 C.2.1 (Nat.le_trans C.2.2.2.2.2 (Nat.le_add_right _ _)) hM2 hS (As := []) (rest := []) (r := 0) (T_X12_thrown C.2.2.2.1 N 0 rfl h) rfl rfl q_1463 q_1464 q_1465 q_92 q_1466 pl_X12_thrown ⟨rfl, rfl, by decide, by decide, by show _ ≤ 601024; omega, by show _ ≤ 7293034; omega⟩ (Nat.le_of_ble_eq_true rfl) dL_law__1048 (fun v3 M3 H1 locs ov3 h hM3 hk hS => ?_)
  replace hX := hX.apart hk l_apX
  clear hk
  refine m_iload (pc := 1051) C.1 dL_law__1051 hl 1 rfl ?_
  refine m_icmp_eq (tgt := 1058) (pc := 1053) C.1 ov3 ov1 dL_law__1053 (by decide) (fun _ => ?_) (fun hc => absurd h.1 hc)
  refine m_iload (pc := 1058) C.1 dL_law__1058 hl 1 rfl ?_
  refine m_if_ne (tgt := 1075) (pc := 1060) C.1 ov1 dL_law__1060 (by decide) (fun hc => ?_) (fun hc => ?_)
  · refine m_goto (pc := 1075) C.1 (tgt := 2540) dL_law__1075 (by decide) ?_
    refine W.widen (k := cells + 4) (n := slots + 24) (by omega) (by omega) ?_
    exact kk X1 M3 _ _ _ h.2.2 (lv_sub hl [2, 3, 4, 5, 6] rfl) hX hM3 hS
  replace hc := h.2.1 hc
  refine m_aload_n (pc := 1063) C.1 dL_law__1063 rfl hl 5 rfl ?_
  refine m_iconst (pc := 1064) C.1 dL_law__1064 ?_
  refine l_lald (pc := 1065) C.1 C.2.1 hX (r := 250) rfl (by decide : okI 0) (by decide) (by decide) dL_law__1065 ?_
  refine m_iload (pc := 1066) C.1 dL_law__1066 hl 0 rfl ?_
  refine m_i2l (pc := 1068) C.1 ov2 dL_law__1068 ?_
  refine l_cmp (pc := 1069) C.1 hc (tgt := 1075) dL_law__1069 dL_law__1070 (by decide) ?_
  refine m_goto (pc := 1075) C.1 (tgt := 2540) dL_law__1075 (by decide) ?_
  refine W.widen (k := cells + 4) (n := slots + 24) (by omega) (by omega) ?_
  exact kk X1 M3 _ _ _ h.2.2 (lv_sub hl [2, 3, 4, 5, 6] rfl) hX hM3 hS
def wl_14 (N : Nat) (a1 a2 a3 a4 a5 : Int) (X M : mSt) (Kt : mSt → mSt → Prop) : Prop :=
  w_L_nights N 0 a1 250 X (fun (X1 : mSt) (v1 : Int) => w_X12_nights N 0 a1 M (fun (M2 : mSt) (v2 : Int) => w_X12_thrown N 0 M2 (fun (M3 : mSt) (v3 : Int) => v3 = v1 ∧ (v1 = 0 → (X1 250 0) = v2) ∧ Kt X1 M3)))
theorem Wl_14 (C : lC p l s m args c g sb L xs b) (N : Nat) (hl : lv_has ls 7 [(0, .ref sb), (1, .ref (b + 0)), (2, .ref (b + 237 + 0)), (3, .ref (b + 250)), (4, .int (mI i))]) (hX : mW g b KX X H) (hM : mW g (b + 237) KM M H) (hS : va_S (lA s) s.heap H locs) (oi : okI i) (h0 : 0 ≤ i) (h5 : i + 5 < L) (hc : cells + 4 ≤ 601024) (hs : slots + 24 ≤ 7293034) (h : wl_14 N (sA xs i 1) (sA xs i 2) (sA xs i 3) (sA xs i 4) (sA xs i 5) X M Kt) (kk : ∀ (X1 M1 : mSt) (H1 : Heap) (locs1 : List Loc) (ls1 : Array Slot), Kt X1 M1 → lv_has ls1 7 [(0, .ref sb), (1, .ref (b + 0)), (2, .ref (b + 237 + 0)), (3, .ref (b + 250)), (4, .int (mI i))] → mW g b KX X1 H1 → mW g (b + 237) KM M1 H1 → va_S (lA s) s.heap H1 locs1 → W p l e room_1 s m args below meth c H1 locs1 (cells + 4) (slots + 24) Q (F0 m 2540 ls1 [])) : W p l e room_1 s m args below meth c H locs cells slots Q (F0 m 1078 ls []) := by
  unfold wl_14 at h
  refine m_aload_n (pc := 1078) C.1 dL_law__1078 rfl hl 1 rfl ?_
  refine m_aload_n (pc := 1079) C.1 dL_law__1079 rfl hl 0 rfl ?_
  refine m_iload (pc := 1080) C.1 dL_law__1080 hl 4 rfl ?_
  refine m_iconst (pc := 1082) C.1 dL_law__1082 ?_
  refine m_iadd (pc := 1083) C.1 dL_law__1083 ?_
  refine l_sld (pc := 1084) C.1 C.2.2.2.2.1.1 C.2.2.2.2.1.2.1 hS (l_idx h0 h5 C.2.2.2.2.1.2.2 (by decide) (by decide)) dL_law__1084 ?_
  refine m_aload_n (pc := 1085) C.1 dL_law__1085 rfl hl 3 rfl ?_
  refine l_callSi (pc := 1086) (b := b) C.1 C.2.2.1 hl.1 C.2.1 C.2.2.2.2.2 hX hS (As := [.ref (b + 0), .int (mI (sA xs i 1)), .ref (b + 250)]) (rest := []) (T_L_nights C.2.2.2.1 N 0 rfl (sA xs i 1) (sA_ok xs i 1) 250 rfl h) q_1115 q_1116 q_80 q_1117 pl_L_nights ⟨rfl, rfl, by decide, by decide, by show _ ≤ 601024; omega, by show _ ≤ 7293034; omega⟩  (Nat.le_of_ble_eq_true rfl) dL_law__1086 (fun v1 X1 H1 locs ov1 h hX1 hk hS => ?_)
  replace hM := hM.apart hk l_apM
  clear hk
  refine m_istore (pc := 1089) C.1 dL_law__1089 hl (by decide) (fun v => [(5, .int v), (0, .ref sb), (1, .ref (b + 0)), (2, .ref (b + 237 + 0)), (3, .ref (b + 250)), (4, .int (mI i))]) (fun _ => rfl) ov1 (fun z5 ls ez5 oz5 hl => ?_)
  rw [ez5] at hl
  refine m_aload_n (pc := 1091) C.1 dL_law__1091 rfl hl 3 rfl ?_
  refine m_aload_n (pc := 1092) C.1 dL_law__1092 rfl hl 1 rfl ?_
  refine m_iload (pc := 1093) C.1 dL_law__1093 hl 5 rfl ?_
  refine m_iconst (pc := 1095) C.1 dL_law__1095 ?_
  refine m_iadd (pc := 1096) C.1 dL_law__1096 ?_
  refine l_sld (pc := 1097) C.1 C.2.2.2.2.1.1 C.2.2.2.2.1.2.1 hS (l_idx h0 h5 C.2.2.2.2.1.2.2 (by decide) (by decide)) dL_law__1097 ?_
  refine l_callVi (pc := 1098) (b := (b + 237)) C.1 C.2.2.1 hl.1 C.2.1 (Nat.le_trans C.2.2.2.2.2 (Nat.le_add_right _ _)) hM hS (As := [.int (mI (sA xs i 1))]) (rest := []) (r := 0) (T_X12_nights C.2.2.2.1 N 0 rfl (sA xs i 1) (sA_ok xs i 1) h) rfl rfl q_1723 q_1724 q_1725 q_92 q_1726 pl_X12_nights ⟨rfl, rfl, by decide, by decide, by show _ ≤ 601024; omega, by show _ ≤ 7293034; omega⟩ (Nat.le_of_ble_eq_true rfl) dL_law__1098 (fun v2 M2 H1 locs ov2 h hM2 hk hS => ?_)
  replace hX := hX1.apart hk l_apX
  clear hk
  refine m_istore (pc := 1101) C.1 dL_law__1101 hl (by decide) (fun v => [(6, .int v), (5, .int (mI v1)), (0, .ref sb), (1, .ref (b + 0)), (2, .ref (b + 237 + 0)), (3, .ref (b + 250)), (4, .int (mI i))]) (fun _ => rfl) ov2 (fun z6 ls ez6 oz6 hl => ?_)
  rw [ez6] at hl
  refine m_aload_n (pc := 1103) C.1 dL_law__1103 rfl hl 4 rfl ?_
  refine l_callVi (pc := 1104) (b := (b + 237)) C.1 C.2.2.1 hl.1 C.2.1 (Nat.le_trans C.2.2.2.2.2 (Nat.le_add_right _ _)) hM2 hS (As := []) (rest := []) (r := 0) (T_X12_thrown C.2.2.2.1 N 0 rfl h) rfl rfl q_1463 q_1464 q_1465 q_92 q_1466 pl_X12_thrown ⟨rfl, rfl, by decide, by decide, by show _ ≤ 601024; omega, by show _ ≤ 7293034; omega⟩ (Nat.le_of_ble_eq_true rfl) dL_law__1104 (fun v3 M3 H1 locs ov3 h hM3 hk hS => ?_)
  replace hX := hX.apart hk l_apX
  clear hk
  refine m_iload (pc := 1107) C.1 dL_law__1107 hl 1 rfl ?_
  refine m_icmp_eq (tgt := 1114) (pc := 1109) C.1 ov3 ov1 dL_law__1109 (by decide) (fun _ => ?_) (fun hc => absurd h.1 hc)
  refine m_iload (pc := 1114) C.1 dL_law__1114 hl 1 rfl ?_
  refine m_if_ne (tgt := 1131) (pc := 1116) C.1 ov1 dL_law__1116 (by decide) (fun hc => ?_) (fun hc => ?_)
  · refine m_goto (pc := 1131) C.1 (tgt := 2540) dL_law__1131 (by decide) ?_
    refine W.widen (k := cells + 4) (n := slots + 24) (by omega) (by omega) ?_
    exact kk X1 M3 _ _ _ h.2.2 (lv_sub hl [2, 3, 4, 5, 6] rfl) hX hM3 hS
  replace hc := h.2.1 hc
  refine m_aload_n (pc := 1119) C.1 dL_law__1119 rfl hl 5 rfl ?_
  refine m_iconst (pc := 1120) C.1 dL_law__1120 ?_
  refine l_lald (pc := 1121) C.1 C.2.1 hX (r := 250) rfl (by decide : okI 0) (by decide) (by decide) dL_law__1121 ?_
  refine m_iload (pc := 1122) C.1 dL_law__1122 hl 0 rfl ?_
  refine m_i2l (pc := 1124) C.1 ov2 dL_law__1124 ?_
  refine l_cmp (pc := 1125) C.1 hc (tgt := 1131) dL_law__1125 dL_law__1126 (by decide) ?_
  refine m_goto (pc := 1131) C.1 (tgt := 2540) dL_law__1131 (by decide) ?_
  refine W.widen (k := cells + 4) (n := slots + 24) (by omega) (by omega) ?_
  exact kk X1 M3 _ _ _ h.2.2 (lv_sub hl [2, 3, 4, 5, 6] rfl) hX hM3 hS
def wl_15 (N : Nat) (a1 a2 a3 a4 a5 : Int) (X M : mSt) (Kt : mSt → mSt → Prop) : Prop :=
  w_X11_shines N 0 X (fun (X1 : mSt) (v1 : Int) => w_X12_shines N 0 M (fun (M2 : mSt) (v2 : Int) => v1 = v2 ∧ Kt X1 M2))
theorem Wl_15 (C : lC p l s m args c g sb L xs b) (N : Nat) (hl : lv_has ls 7 [(0, .ref sb), (1, .ref (b + 0)), (2, .ref (b + 237 + 0)), (3, .ref (b + 250)), (4, .int (mI i))]) (hX : mW g b KX X H) (hM : mW g (b + 237) KM M H) (hS : va_S (lA s) s.heap H locs) (oi : okI i) (h0 : 0 ≤ i) (h5 : i + 5 < L) (hc : cells + 4 ≤ 601024) (hs : slots + 24 ≤ 7293034) (h : wl_15 N (sA xs i 1) (sA xs i 2) (sA xs i 3) (sA xs i 4) (sA xs i 5) X M Kt) (kk : ∀ (X1 M1 : mSt) (H1 : Heap) (locs1 : List Loc) (ls1 : Array Slot), Kt X1 M1 → lv_has ls1 7 [(0, .ref sb), (1, .ref (b + 0)), (2, .ref (b + 237 + 0)), (3, .ref (b + 250)), (4, .int (mI i))] → mW g b KX X1 H1 → mW g (b + 237) KM M1 H1 → va_S (lA s) s.heap H1 locs1 → W p l e room_1 s m args below meth c H1 locs1 (cells + 4) (slots + 24) Q (F0 m 2540 ls1 [])) : W p l e room_1 s m args below meth c H locs cells slots Q (F0 m 1134 ls []) := by
  unfold wl_15 at h
  refine m_aload_n (pc := 1134) C.1 dL_law__1134 rfl hl 1 rfl ?_
  refine l_callVi (pc := 1135) (b := b) C.1 C.2.2.1 hl.1 C.2.1 C.2.2.2.2.2 hX hS (As := []) (rest := []) (r := 0) (T_X11_shines C.2.2.2.1 N 0 rfl h) rfl rfl q_535 q_536 q_537 q_81 q_538 pl_X11_shines ⟨rfl, rfl, by decide, by decide, by show _ ≤ 601024; omega, by show _ ≤ 7293034; omega⟩ (Nat.le_of_ble_eq_true rfl) dL_law__1135 (fun v1 X1 H1 locs ov1 h hX1 hk hS => ?_)
  replace hM := hM.apart hk l_apM
  clear hk
  refine m_aload_n (pc := 1138) C.1 dL_law__1138 rfl hl 2 rfl ?_
  refine l_callVi (pc := 1139) (b := (b + 237)) C.1 C.2.2.1 hl.1 C.2.1 (Nat.le_trans C.2.2.2.2.2 (Nat.le_add_right _ _)) hM hS (As := []) (rest := [.int (mI v1)]) (r := 0) (T_X12_shines C.2.2.2.1 N 0 rfl h) rfl rfl q_1752 q_1753 q_1754 q_92 q_1755 pl_X12_shines ⟨rfl, rfl, by decide, by decide, by show _ ≤ 601024; omega, by show _ ≤ 7293034; omega⟩ (Nat.le_of_ble_eq_true rfl) dL_law__1139 (fun v2 M2 H1 locs ov2 h hM2 hk hS => ?_)
  replace hX := hX1.apart hk l_apX
  clear hk
  refine m_icmp_eq (tgt := 2540) (pc := 1142) C.1 ov1 ov2 dL_law__1142 (by decide) (fun _ => ?_) (fun hc => absurd h.1 hc)
  refine W.widen (k := cells + 4) (n := slots + 24) (by omega) (by omega) ?_
  exact kk X1 M2 _ _ _ h.2 (lv_sub hl [0, 1, 2, 3, 4] rfl) hX hM2 hS
def wl_16 (N : Nat) (a1 a2 a3 a4 a5 : Int) (X M : mSt) (Kt : mSt → mSt → Prop) : Prop :=
  w_X11_light N 0 X (fun (X1 : mSt) (v1 : Int) => w_X12_light N 0 M (fun (M2 : mSt) (v2 : Int) => v1 = v2 ∧ Kt X1 M2))
theorem Wl_16 (C : lC p l s m args c g sb L xs b) (N : Nat) (hl : lv_has ls 7 [(0, .ref sb), (1, .ref (b + 0)), (2, .ref (b + 237 + 0)), (3, .ref (b + 250)), (4, .int (mI i))]) (hX : mW g b KX X H) (hM : mW g (b + 237) KM M H) (hS : va_S (lA s) s.heap H locs) (oi : okI i) (h0 : 0 ≤ i) (h5 : i + 5 < L) (hc : cells + 4 ≤ 601024) (hs : slots + 24 ≤ 7293034) (h : wl_16 N (sA xs i 1) (sA xs i 2) (sA xs i 3) (sA xs i 4) (sA xs i 5) X M Kt) (kk : ∀ (X1 M1 : mSt) (H1 : Heap) (locs1 : List Loc) (ls1 : Array Slot), Kt X1 M1 → lv_has ls1 7 [(0, .ref sb), (1, .ref (b + 0)), (2, .ref (b + 237 + 0)), (3, .ref (b + 250)), (4, .int (mI i))] → mW g b KX X1 H1 → mW g (b + 237) KM M1 H1 → va_S (lA s) s.heap H1 locs1 → W p l e room_1 s m args below meth c H1 locs1 (cells + 4) (slots + 24) Q (F0 m 2540 ls1 [])) : W p l e room_1 s m args below meth c H locs cells slots Q (F0 m 1147 ls []) := by
  unfold wl_16 at h
  refine m_aload_n (pc := 1147) C.1 dL_law__1147 rfl hl 1 rfl ?_
  refine l_callVi (pc := 1148) (b := b) C.1 C.2.2.1 hl.1 C.2.1 C.2.2.2.2.2 hX hS (As := []) (rest := []) (r := 0) (T_X11_light C.2.2.2.1 N 0 rfl h) rfl rfl q_540 q_541 q_542 q_81 q_543 pl_X11_light ⟨rfl, rfl, by decide, by decide, by show _ ≤ 601024; omega, by show _ ≤ 7293034; omega⟩ (Nat.le_of_ble_eq_true rfl) dL_law__1148 (fun v1 X1 H1 locs ov1 h hX1 hk hS => ?_)
  replace hM := hM.apart hk l_apM
  clear hk
  refine m_aload_n (pc := 1151) C.1 dL_law__1151 rfl hl 2 rfl ?_
  refine l_callVi (pc := 1152) (b := (b + 237)) C.1 C.2.2.1 hl.1 C.2.1 (Nat.le_trans C.2.2.2.2.2 (Nat.le_add_right _ _)) hM hS (As := []) (rest := [.int (mI v1)]) (r := 0) (T_X12_light C.2.2.2.1 N 0 rfl h) rfl rfl q_1760 q_1761 q_1762 q_92 q_1763 pl_X12_light ⟨rfl, rfl, by decide, by decide, by show _ ≤ 601024; omega, by show _ ≤ 7293034; omega⟩ (Nat.le_of_ble_eq_true rfl) dL_law__1152 (fun v2 M2 H1 locs ov2 h hM2 hk hS => ?_)
  replace hX := hX1.apart hk l_apX
  clear hk
  refine m_icmp_eq (tgt := 2540) (pc := 1155) C.1 ov1 ov2 dL_law__1155 (by decide) (fun _ => ?_) (fun hc => absurd h.1 hc)
  refine W.widen (k := cells + 4) (n := slots + 24) (by omega) (by omega) ?_
  exact kk X1 M2 _ _ _ h.2 (lv_sub hl [0, 1, 2, 3, 4] rfl) hX hM2 hS
def wl_17 (N : Nat) (a1 a2 a3 a4 a5 : Int) (X M : mSt) (Kt : mSt → mSt → Prop) : Prop :=
  w_L_would N 0 a1 a2 250 X (fun (X1 : mSt) (v1 : Int) => w_X12_would N 0 a1 a2 M (fun (M2 : mSt) (v2 : Int) => w_X12_thrown N 0 M2 (fun (M3 : mSt) (v3 : Int) => v3 = v1 ∧ (v1 = 0 → (X1 250 0) = v2) ∧ Kt X1 M3)))
theorem Wl_17 (C : lC p l s m args c g sb L xs b) (N : Nat) (hl : lv_has ls 7 [(0, .ref sb), (1, .ref (b + 0)), (2, .ref (b + 237 + 0)), (3, .ref (b + 250)), (4, .int (mI i))]) (hX : mW g b KX X H) (hM : mW g (b + 237) KM M H) (hS : va_S (lA s) s.heap H locs) (oi : okI i) (h0 : 0 ≤ i) (h5 : i + 5 < L) (hc : cells + 4 ≤ 601024) (hs : slots + 24 ≤ 7293034) (h : wl_17 N (sA xs i 1) (sA xs i 2) (sA xs i 3) (sA xs i 4) (sA xs i 5) X M Kt) (kk : ∀ (X1 M1 : mSt) (H1 : Heap) (locs1 : List Loc) (ls1 : Array Slot), Kt X1 M1 → lv_has ls1 7 [(0, .ref sb), (1, .ref (b + 0)), (2, .ref (b + 237 + 0)), (3, .ref (b + 250)), (4, .int (mI i))] → mW g b KX X1 H1 → mW g (b + 237) KM M1 H1 → va_S (lA s) s.heap H1 locs1 → W p l e room_1 s m args below meth c H1 locs1 (cells + 4) (slots + 24) Q (F0 m 2540 ls1 [])) : W p l e room_1 s m args below meth c H locs cells slots Q (F0 m 1160 ls []) := by
  unfold wl_17 at h
  refine m_aload_n (pc := 1160) C.1 dL_law__1160 rfl hl 1 rfl ?_
  refine m_aload_n (pc := 1161) C.1 dL_law__1161 rfl hl 0 rfl ?_
  refine m_iload (pc := 1162) C.1 dL_law__1162 hl 4 rfl ?_
  refine m_iconst (pc := 1164) C.1 dL_law__1164 ?_
  refine m_iadd (pc := 1165) C.1 dL_law__1165 ?_
  refine l_sld (pc := 1166) C.1 C.2.2.2.2.1.1 C.2.2.2.2.1.2.1 hS (l_idx h0 h5 C.2.2.2.2.1.2.2 (by decide) (by decide)) dL_law__1166 ?_
  refine m_aload_n (pc := 1167) C.1 dL_law__1167 rfl hl 0 rfl ?_
  refine m_iload (pc := 1168) C.1 dL_law__1168 hl 4 rfl ?_
  refine m_iconst (pc := 1170) C.1 dL_law__1170 ?_
  refine m_iadd (pc := 1171) C.1 dL_law__1171 ?_
  refine l_sld (pc := 1172) C.1 C.2.2.2.2.1.1 C.2.2.2.2.1.2.1 hS (l_idx h0 h5 C.2.2.2.2.1.2.2 (by decide) (by decide)) dL_law__1172 ?_
  refine m_aload_n (pc := 1173) C.1 dL_law__1173 rfl hl 3 rfl ?_
  refine l_callSi (pc := 1174) (b := b) C.1 C.2.2.1 hl.1 C.2.1 C.2.2.2.2.2 hX hS (As := [.ref (b + 0), .int (mI (sA xs i 1)), .int (mI (sA xs i 2)), .ref (b + 250)]) (rest := []) (T_L_would C.2.2.2.1 N 0 rfl (sA xs i 1) (sA_ok xs i 1) (sA xs i 2) (sA_ok xs i 2) 250 rfl h) q_1146 q_1147 q_80 q_1148 pl_L_would ⟨rfl, rfl, by decide, by decide, by show _ ≤ 601024; omega, by show _ ≤ 7293034; omega⟩  (Nat.le_of_ble_eq_true rfl) dL_law__1174 (fun v1 X1 H1 locs ov1 h hX1 hk hS => ?_)
  replace hM := hM.apart hk l_apM
  clear hk
  refine m_istore (pc := 1177) C.1 dL_law__1177 hl (by decide) (fun v => [(5, .int v), (0, .ref sb), (1, .ref (b + 0)), (2, .ref (b + 237 + 0)), (3, .ref (b + 250)), (4, .int (mI i))]) (fun _ => rfl) ov1 (fun z5 ls ez5 oz5 hl => ?_)
  rw [ez5] at hl
  refine m_aload_n (pc := 1179) C.1 dL_law__1179 rfl hl 3 rfl ?_
  refine m_aload_n (pc := 1180) C.1 dL_law__1180 rfl hl 1 rfl ?_
  refine m_iload (pc := 1181) C.1 dL_law__1181 hl 5 rfl ?_
  refine m_iconst (pc := 1183) C.1 dL_law__1183 ?_
  refine m_iadd (pc := 1184) C.1 dL_law__1184 ?_
  refine l_sld (pc := 1185) C.1 C.2.2.2.2.1.1 C.2.2.2.2.1.2.1 hS (l_idx h0 h5 C.2.2.2.2.1.2.2 (by decide) (by decide)) dL_law__1185 ?_
  refine m_aload_n (pc := 1186) C.1 dL_law__1186 rfl hl 1 rfl ?_
  refine m_iload (pc := 1187) C.1 dL_law__1187 hl 5 rfl ?_
  refine m_iconst (pc := 1189) C.1 dL_law__1189 ?_
  refine m_iadd (pc := 1190) C.1 dL_law__1190 ?_
  refine l_sld (pc := 1191) C.1 C.2.2.2.2.1.1 C.2.2.2.2.1.2.1 hS (l_idx h0 h5 C.2.2.2.2.1.2.2 (by decide) (by decide)) dL_law__1191 ?_
  refine l_callVi (pc := 1192) (b := (b + 237)) C.1 C.2.2.1 hl.1 C.2.1 (Nat.le_trans C.2.2.2.2.2 (Nat.le_add_right _ _)) hM hS (As := [.int (mI (sA xs i 1)), .int (mI (sA xs i 2))]) (rest := []) (r := 0) (T_X12_would C.2.2.2.1 N 0 rfl (sA xs i 1) (sA_ok xs i 1) (sA xs i 2) (sA_ok xs i 2) h) rfl rfl q_1764 q_1765 q_1766 q_92 q_1767 pl_X12_would ⟨rfl, rfl, by decide, by decide, by show _ ≤ 601024; omega, by show _ ≤ 7293034; omega⟩ (Nat.le_of_ble_eq_true rfl) dL_law__1192 (fun v2 M2 H1 locs ov2 h hM2 hk hS => ?_)
  replace hX := hX1.apart hk l_apX
  clear hk
  refine m_istore (pc := 1195) C.1 dL_law__1195 hl (by decide) (fun v => [(6, .int v), (5, .int (mI v1)), (0, .ref sb), (1, .ref (b + 0)), (2, .ref (b + 237 + 0)), (3, .ref (b + 250)), (4, .int (mI i))]) (fun _ => rfl) ov2 (fun z6 ls ez6 oz6 hl => ?_)
  rw [ez6] at hl
  refine m_aload_n (pc := 1197) C.1 dL_law__1197 rfl hl 4 rfl ?_
  refine l_callVi (pc := 1198) (b := (b + 237)) C.1 C.2.2.1 hl.1 C.2.1 (Nat.le_trans C.2.2.2.2.2 (Nat.le_add_right _ _)) hM2 hS (As := []) (rest := []) (r := 0) (T_X12_thrown C.2.2.2.1 N 0 rfl h) rfl rfl q_1463 q_1464 q_1465 q_92 q_1466 pl_X12_thrown ⟨rfl, rfl, by decide, by decide, by show _ ≤ 601024; omega, by show _ ≤ 7293034; omega⟩ (Nat.le_of_ble_eq_true rfl) dL_law__1198 (fun v3 M3 H1 locs ov3 h hM3 hk hS => ?_)
  replace hX := hX.apart hk l_apX
  clear hk
  refine m_iload (pc := 1201) C.1 dL_law__1201 hl 1 rfl ?_
  refine m_icmp_eq (tgt := 1208) (pc := 1203) C.1 ov3 ov1 dL_law__1203 (by decide) (fun _ => ?_) (fun hc => absurd h.1 hc)
  refine m_iload (pc := 1208) C.1 dL_law__1208 hl 1 rfl ?_
  refine m_if_ne (tgt := 1225) (pc := 1210) C.1 ov1 dL_law__1210 (by decide) (fun hc => ?_) (fun hc => ?_)
  · refine m_goto (pc := 1225) C.1 (tgt := 2540) dL_law__1225 (by decide) ?_
    refine W.widen (k := cells + 4) (n := slots + 24) (by omega) (by omega) ?_
    exact kk X1 M3 _ _ _ h.2.2 (lv_sub hl [2, 3, 4, 5, 6] rfl) hX hM3 hS
  replace hc := h.2.1 hc
  refine m_aload_n (pc := 1213) C.1 dL_law__1213 rfl hl 5 rfl ?_
  refine m_iconst (pc := 1214) C.1 dL_law__1214 ?_
  refine l_lald (pc := 1215) C.1 C.2.1 hX (r := 250) rfl (by decide : okI 0) (by decide) (by decide) dL_law__1215 ?_
  refine m_iload (pc := 1216) C.1 dL_law__1216 hl 0 rfl ?_
  refine m_i2l (pc := 1218) C.1 ov2 dL_law__1218 ?_
  refine l_cmp (pc := 1219) C.1 hc (tgt := 1225) dL_law__1219 dL_law__1220 (by decide) ?_
  refine m_goto (pc := 1225) C.1 (tgt := 2540) dL_law__1225 (by decide) ?_
  refine W.widen (k := cells + 4) (n := slots + 24) (by omega) (by omega) ?_
  exact kk X1 M3 _ _ _ h.2.2 (lv_sub hl [2, 3, 4, 5, 6] rfl) hX hM3 hS
def wl_18 (N : Nat) (a1 a2 a3 a4 a5 : Int) (X M : mSt) (Kt : mSt → mSt → Prop) : Prop :=
  w_L_best N 0 a1 250 X (fun (X1 : mSt) (v1 : Int) => w_X12_best N 0 a1 M (fun (M2 : mSt) (v2 : Int) => w_X12_thrown N 0 M2 (fun (M3 : mSt) (v3 : Int) => v3 = v1 ∧ (v1 = 0 → (X1 250 0) = v2) ∧ Kt X1 M3)))
theorem Wl_18 (C : lC p l s m args c g sb L xs b) (N : Nat) (hl : lv_has ls 7 [(0, .ref sb), (1, .ref (b + 0)), (2, .ref (b + 237 + 0)), (3, .ref (b + 250)), (4, .int (mI i))]) (hX : mW g b KX X H) (hM : mW g (b + 237) KM M H) (hS : va_S (lA s) s.heap H locs) (oi : okI i) (h0 : 0 ≤ i) (h5 : i + 5 < L) (hc : cells + 4 ≤ 601024) (hs : slots + 24 ≤ 7293034) (h : wl_18 N (sA xs i 1) (sA xs i 2) (sA xs i 3) (sA xs i 4) (sA xs i 5) X M Kt) (kk : ∀ (X1 M1 : mSt) (H1 : Heap) (locs1 : List Loc) (ls1 : Array Slot), Kt X1 M1 → lv_has ls1 7 [(0, .ref sb), (1, .ref (b + 0)), (2, .ref (b + 237 + 0)), (3, .ref (b + 250)), (4, .int (mI i))] → mW g b KX X1 H1 → mW g (b + 237) KM M1 H1 → va_S (lA s) s.heap H1 locs1 → W p l e room_1 s m args below meth c H1 locs1 (cells + 4) (slots + 24) Q (F0 m 2540 ls1 [])) : W p l e room_1 s m args below meth c H locs cells slots Q (F0 m 1228 ls []) := by
  unfold wl_18 at h
  refine m_aload_n (pc := 1228) C.1 dL_law__1228 rfl hl 1 rfl ?_
  refine m_aload_n (pc := 1229) C.1 dL_law__1229 rfl hl 0 rfl ?_
  refine m_iload (pc := 1230) C.1 dL_law__1230 hl 4 rfl ?_
  refine m_iconst (pc := 1232) C.1 dL_law__1232 ?_
  refine m_iadd (pc := 1233) C.1 dL_law__1233 ?_
  refine l_sld (pc := 1234) C.1 C.2.2.2.2.1.1 C.2.2.2.2.1.2.1 hS (l_idx h0 h5 C.2.2.2.2.1.2.2 (by decide) (by decide)) dL_law__1234 ?_
  refine m_aload_n (pc := 1235) C.1 dL_law__1235 rfl hl 3 rfl ?_
  refine l_callSi (pc := 1236) (b := b) C.1 C.2.2.1 hl.1 C.2.1 C.2.2.2.2.2 hX hS (As := [.ref (b + 0), .int (mI (sA xs i 1)), .ref (b + 250)]) (rest := []) (T_L_best C.2.2.2.1 N 0 rfl (sA xs i 1) (sA_ok xs i 1) 250 rfl h) q_1158 q_1159 q_80 q_1160 pl_L_best ⟨rfl, rfl, by decide, by decide, by show _ ≤ 601024; omega, by show _ ≤ 7293034; omega⟩  (Nat.le_of_ble_eq_true rfl) dL_law__1236 (fun v1 X1 H1 locs ov1 h hX1 hk hS => ?_)
  replace hM := hM.apart hk l_apM
  clear hk
  refine m_istore (pc := 1239) C.1 dL_law__1239 hl (by decide) (fun v => [(5, .int v), (0, .ref sb), (1, .ref (b + 0)), (2, .ref (b + 237 + 0)), (3, .ref (b + 250)), (4, .int (mI i))]) (fun _ => rfl) ov1 (fun z5 ls ez5 oz5 hl => ?_)
  rw [ez5] at hl
  refine m_aload_n (pc := 1241) C.1 dL_law__1241 rfl hl 3 rfl ?_
  refine m_aload_n (pc := 1242) C.1 dL_law__1242 rfl hl 1 rfl ?_
  refine m_iload (pc := 1243) C.1 dL_law__1243 hl 5 rfl ?_
  refine m_iconst (pc := 1245) C.1 dL_law__1245 ?_
  refine m_iadd (pc := 1246) C.1 dL_law__1246 ?_
  refine l_sld (pc := 1247) C.1 C.2.2.2.2.1.1 C.2.2.2.2.1.2.1 hS (l_idx h0 h5 C.2.2.2.2.1.2.2 (by decide) (by decide)) dL_law__1247 ?_
  refine l_callVi (pc := 1248) (b := (b + 237)) C.1 C.2.2.1 hl.1 C.2.1 (Nat.le_trans C.2.2.2.2.2 (Nat.le_add_right _ _)) hM hS (As := [.int (mI (sA xs i 1))]) (rest := []) (r := 0) (T_X12_best C.2.2.2.1 N 0 rfl (sA xs i 1) (sA_ok xs i 1) h) rfl rfl q_1772 q_1773 q_1774 q_92 q_1775 pl_X12_best ⟨rfl, rfl, by decide, by decide, by show _ ≤ 601024; omega, by show _ ≤ 7293034; omega⟩ (Nat.le_of_ble_eq_true rfl) dL_law__1248 (fun v2 M2 H1 locs ov2 h hM2 hk hS => ?_)
  replace hX := hX1.apart hk l_apX
  clear hk
  refine m_istore (pc := 1251) C.1 dL_law__1251 hl (by decide) (fun v => [(6, .int v), (5, .int (mI v1)), (0, .ref sb), (1, .ref (b + 0)), (2, .ref (b + 237 + 0)), (3, .ref (b + 250)), (4, .int (mI i))]) (fun _ => rfl) ov2 (fun z6 ls ez6 oz6 hl => ?_)
  rw [ez6] at hl
  refine m_aload_n (pc := 1253) C.1 dL_law__1253 rfl hl 4 rfl ?_
  refine l_callVi (pc := 1254) (b := (b + 237)) C.1 C.2.2.1 hl.1 C.2.1 (Nat.le_trans C.2.2.2.2.2 (Nat.le_add_right _ _)) hM2 hS (As := []) (rest := []) (r := 0) (T_X12_thrown C.2.2.2.1 N 0 rfl h) rfl rfl q_1463 q_1464 q_1465 q_92 q_1466 pl_X12_thrown ⟨rfl, rfl, by decide, by decide, by show _ ≤ 601024; omega, by show _ ≤ 7293034; omega⟩ (Nat.le_of_ble_eq_true rfl) dL_law__1254 (fun v3 M3 H1 locs ov3 h hM3 hk hS => ?_)
  replace hX := hX.apart hk l_apX
  clear hk
  refine m_iload (pc := 1257) C.1 dL_law__1257 hl 1 rfl ?_
  refine m_icmp_eq (tgt := 1264) (pc := 1259) C.1 ov3 ov1 dL_law__1259 (by decide) (fun _ => ?_) (fun hc => absurd h.1 hc)
  refine m_iload (pc := 1264) C.1 dL_law__1264 hl 1 rfl ?_
  refine m_if_ne (tgt := 1281) (pc := 1266) C.1 ov1 dL_law__1266 (by decide) (fun hc => ?_) (fun hc => ?_)
  · refine m_goto (pc := 1281) C.1 (tgt := 2540) dL_law__1281 (by decide) ?_
    refine W.widen (k := cells + 4) (n := slots + 24) (by omega) (by omega) ?_
    exact kk X1 M3 _ _ _ h.2.2 (lv_sub hl [2, 3, 4, 5, 6] rfl) hX hM3 hS
  replace hc := h.2.1 hc
  refine m_aload_n (pc := 1269) C.1 dL_law__1269 rfl hl 5 rfl ?_
  refine m_iconst (pc := 1270) C.1 dL_law__1270 ?_
  refine l_lald (pc := 1271) C.1 C.2.1 hX (r := 250) rfl (by decide : okI 0) (by decide) (by decide) dL_law__1271 ?_
  refine m_iload (pc := 1272) C.1 dL_law__1272 hl 0 rfl ?_
  refine m_i2l (pc := 1274) C.1 ov2 dL_law__1274 ?_
  refine l_cmp (pc := 1275) C.1 hc (tgt := 1281) dL_law__1275 dL_law__1276 (by decide) ?_
  refine m_goto (pc := 1281) C.1 (tgt := 2540) dL_law__1281 (by decide) ?_
  refine W.widen (k := cells + 4) (n := slots + 24) (by omega) (by omega) ?_
  exact kk X1 M3 _ _ _ h.2.2 (lv_sub hl [2, 3, 4, 5, 6] rfl) hX hM3 hS
def wl_19 (N : Nat) (a1 a2 a3 a4 a5 : Int) (X M : mSt) (Kt : mSt → mSt → Prop) : Prop :=
  w_L_least N 0 a1 a2 250 X (fun (X1 : mSt) (v1 : Int) => w_X12_least N 0 a1 a2 M (fun (M2 : mSt) (v2 : Int) => w_X12_thrown N 0 M2 (fun (M3 : mSt) (v3 : Int) => v3 = v1 ∧ (v1 = 0 → (X1 250 0) = v2) ∧ Kt X1 M3)))
theorem Wl_19 (C : lC p l s m args c g sb L xs b) (N : Nat) (hl : lv_has ls 7 [(0, .ref sb), (1, .ref (b + 0)), (2, .ref (b + 237 + 0)), (3, .ref (b + 250)), (4, .int (mI i))]) (hX : mW g b KX X H) (hM : mW g (b + 237) KM M H) (hS : va_S (lA s) s.heap H locs) (oi : okI i) (h0 : 0 ≤ i) (h5 : i + 5 < L) (hc : cells + 4 ≤ 601024) (hs : slots + 24 ≤ 7293034) (h : wl_19 N (sA xs i 1) (sA xs i 2) (sA xs i 3) (sA xs i 4) (sA xs i 5) X M Kt) (kk : ∀ (X1 M1 : mSt) (H1 : Heap) (locs1 : List Loc) (ls1 : Array Slot), Kt X1 M1 → lv_has ls1 7 [(0, .ref sb), (1, .ref (b + 0)), (2, .ref (b + 237 + 0)), (3, .ref (b + 250)), (4, .int (mI i))] → mW g b KX X1 H1 → mW g (b + 237) KM M1 H1 → va_S (lA s) s.heap H1 locs1 → W p l e room_1 s m args below meth c H1 locs1 (cells + 4) (slots + 24) Q (F0 m 2540 ls1 [])) : W p l e room_1 s m args below meth c H locs cells slots Q (F0 m 1284 ls []) := by
  unfold wl_19 at h
  refine m_aload_n (pc := 1284) C.1 dL_law__1284 rfl hl 1 rfl ?_
  refine m_aload_n (pc := 1285) C.1 dL_law__1285 rfl hl 0 rfl ?_
  refine m_iload (pc := 1286) C.1 dL_law__1286 hl 4 rfl ?_
  refine m_iconst (pc := 1288) C.1 dL_law__1288 ?_
  refine m_iadd (pc := 1289) C.1 dL_law__1289 ?_
  refine l_sld (pc := 1290) C.1 C.2.2.2.2.1.1 C.2.2.2.2.1.2.1 hS (l_idx h0 h5 C.2.2.2.2.1.2.2 (by decide) (by decide)) dL_law__1290 ?_
  refine m_aload_n (pc := 1291) C.1 dL_law__1291 rfl hl 0 rfl ?_
  refine m_iload (pc := 1292) C.1 dL_law__1292 hl 4 rfl ?_
  refine m_iconst (pc := 1294) C.1 dL_law__1294 ?_
  refine m_iadd (pc := 1295) C.1 dL_law__1295 ?_
  refine l_sld (pc := 1296) C.1 C.2.2.2.2.1.1 C.2.2.2.2.1.2.1 hS (l_idx h0 h5 C.2.2.2.2.1.2.2 (by decide) (by decide)) dL_law__1296 ?_
  refine m_aload_n (pc := 1297) C.1 dL_law__1297 rfl hl 3 rfl ?_
  refine l_callSi (pc := 1298) (b := b) C.1 C.2.2.1 hl.1 C.2.1 C.2.2.2.2.2 hX hS (As := [.ref (b + 0), .int (mI (sA xs i 1)), .int (mI (sA xs i 2)), .ref (b + 250)]) (rest := []) (T_L_least C.2.2.2.1 N 0 rfl (sA xs i 1) (sA_ok xs i 1) (sA xs i 2) (sA_ok xs i 2) 250 rfl h) q_1165 q_1166 q_80 q_1167 pl_L_least ⟨rfl, rfl, by decide, by decide, by show _ ≤ 601024; omega, by show _ ≤ 7293034; omega⟩  (Nat.le_of_ble_eq_true rfl) dL_law__1298 (fun v1 X1 H1 locs ov1 h hX1 hk hS => ?_)
  replace hM := hM.apart hk l_apM
  clear hk
  refine m_istore (pc := 1301) C.1 dL_law__1301 hl (by decide) (fun v => [(5, .int v), (0, .ref sb), (1, .ref (b + 0)), (2, .ref (b + 237 + 0)), (3, .ref (b + 250)), (4, .int (mI i))]) (fun _ => rfl) ov1 (fun z5 ls ez5 oz5 hl => ?_)
  rw [ez5] at hl
  refine m_aload_n (pc := 1303) C.1 dL_law__1303 rfl hl 3 rfl ?_
  refine m_aload_n (pc := 1304) C.1 dL_law__1304 rfl hl 1 rfl ?_
  refine m_iload (pc := 1305) C.1 dL_law__1305 hl 5 rfl ?_
  refine m_iconst (pc := 1307) C.1 dL_law__1307 ?_
  refine m_iadd (pc := 1308) C.1 dL_law__1308 ?_
  refine l_sld (pc := 1309) C.1 C.2.2.2.2.1.1 C.2.2.2.2.1.2.1 hS (l_idx h0 h5 C.2.2.2.2.1.2.2 (by decide) (by decide)) dL_law__1309 ?_
  refine m_aload_n (pc := 1310) C.1 dL_law__1310 rfl hl 1 rfl ?_
  refine m_iload (pc := 1311) C.1 dL_law__1311 hl 5 rfl ?_
  refine m_iconst (pc := 1313) C.1 dL_law__1313 ?_
  refine m_iadd (pc := 1314) C.1 dL_law__1314 ?_
  refine l_sld (pc := 1315) C.1 C.2.2.2.2.1.1 C.2.2.2.2.1.2.1 hS (l_idx h0 h5 C.2.2.2.2.1.2.2 (by decide) (by decide)) dL_law__1315 ?_
  refine l_callVi (pc := 1316) (b := (b + 237)) C.1 C.2.2.1 hl.1 C.2.1 (Nat.le_trans C.2.2.2.2.2 (Nat.le_add_right _ _)) hM hS (As := [.int (mI (sA xs i 1)), .int (mI (sA xs i 2))]) (rest := []) (r := 0) (T_X12_least C.2.2.2.1 N 0 rfl (sA xs i 1) (sA_ok xs i 1) (sA xs i 2) (sA_ok xs i 2) h) rfl rfl q_1776 q_1777 q_1778 q_92 q_1779 pl_X12_least ⟨rfl, rfl, by decide, by decide, by show _ ≤ 601024; omega, by show _ ≤ 7293034; omega⟩ (Nat.le_of_ble_eq_true rfl) dL_law__1316 (fun v2 M2 H1 locs ov2 h hM2 hk hS => ?_)
  replace hX := hX1.apart hk l_apX
  clear hk
  refine m_istore (pc := 1319) C.1 dL_law__1319 hl (by decide) (fun v => [(6, .int v), (5, .int (mI v1)), (0, .ref sb), (1, .ref (b + 0)), (2, .ref (b + 237 + 0)), (3, .ref (b + 250)), (4, .int (mI i))]) (fun _ => rfl) ov2 (fun z6 ls ez6 oz6 hl => ?_)
  rw [ez6] at hl
  refine m_aload_n (pc := 1321) C.1 dL_law__1321 rfl hl 4 rfl ?_
  refine l_callVi (pc := 1322) (b := (b + 237)) C.1 C.2.2.1 hl.1 C.2.1 (Nat.le_trans C.2.2.2.2.2 (Nat.le_add_right _ _)) hM2 hS (As := []) (rest := []) (r := 0) (T_X12_thrown C.2.2.2.1 N 0 rfl h) rfl rfl q_1463 q_1464 q_1465 q_92 q_1466 pl_X12_thrown ⟨rfl, rfl, by decide, by decide, by show _ ≤ 601024; omega, by show _ ≤ 7293034; omega⟩ (Nat.le_of_ble_eq_true rfl) dL_law__1322 (fun v3 M3 H1 locs ov3 h hM3 hk hS => ?_)
  replace hX := hX.apart hk l_apX
  clear hk
  refine m_iload (pc := 1325) C.1 dL_law__1325 hl 1 rfl ?_
  refine m_icmp_eq (tgt := 1332) (pc := 1327) C.1 ov3 ov1 dL_law__1327 (by decide) (fun _ => ?_) (fun hc => absurd h.1 hc)
  refine m_iload (pc := 1332) C.1 dL_law__1332 hl 1 rfl ?_
  refine m_if_ne (tgt := 1349) (pc := 1334) C.1 ov1 dL_law__1334 (by decide) (fun hc => ?_) (fun hc => ?_)
  · refine m_goto (pc := 1349) C.1 (tgt := 2540) dL_law__1349 (by decide) ?_
    refine W.widen (k := cells + 4) (n := slots + 24) (by omega) (by omega) ?_
    exact kk X1 M3 _ _ _ h.2.2 (lv_sub hl [2, 3, 4, 5, 6] rfl) hX hM3 hS
  replace hc := h.2.1 hc
  refine m_aload_n (pc := 1337) C.1 dL_law__1337 rfl hl 5 rfl ?_
  refine m_iconst (pc := 1338) C.1 dL_law__1338 ?_
  refine l_lald (pc := 1339) C.1 C.2.1 hX (r := 250) rfl (by decide : okI 0) (by decide) (by decide) dL_law__1339 ?_
  refine m_iload (pc := 1340) C.1 dL_law__1340 hl 0 rfl ?_
  refine m_i2l (pc := 1342) C.1 ov2 dL_law__1342 ?_
  refine l_cmp (pc := 1343) C.1 hc (tgt := 1349) dL_law__1343 dL_law__1344 (by decide) ?_
  refine m_goto (pc := 1349) C.1 (tgt := 2540) dL_law__1349 (by decide) ?_
  refine W.widen (k := cells + 4) (n := slots + 24) (by omega) (by omega) ?_
  exact kk X1 M3 _ _ _ h.2.2 (lv_sub hl [2, 3, 4, 5, 6] rfl) hX hM3 hS
def wl_20 (N : Nat) (a1 a2 a3 a4 a5 : Int) (X M : mSt) (Kt : mSt → mSt → Prop) : Prop :=
  w_L_soaps N 0 a1 250 X (fun (X1 : mSt) (v1 : Int) => w_X12_soaps N 0 a1 M (fun (M2 : mSt) (v2 : Int) => w_X12_thrown N 0 M2 (fun (M3 : mSt) (v3 : Int) => v3 = v1 ∧ (v1 = 0 → (X1 250 0) = v2) ∧ Kt X1 M3)))
theorem Wl_20 (C : lC p l s m args c g sb L xs b) (N : Nat) (hl : lv_has ls 7 [(0, .ref sb), (1, .ref (b + 0)), (2, .ref (b + 237 + 0)), (3, .ref (b + 250)), (4, .int (mI i))]) (hX : mW g b KX X H) (hM : mW g (b + 237) KM M H) (hS : va_S (lA s) s.heap H locs) (oi : okI i) (h0 : 0 ≤ i) (h5 : i + 5 < L) (hc : cells + 4 ≤ 601024) (hs : slots + 24 ≤ 7293034) (h : wl_20 N (sA xs i 1) (sA xs i 2) (sA xs i 3) (sA xs i 4) (sA xs i 5) X M Kt) (kk : ∀ (X1 M1 : mSt) (H1 : Heap) (locs1 : List Loc) (ls1 : Array Slot), Kt X1 M1 → lv_has ls1 7 [(0, .ref sb), (1, .ref (b + 0)), (2, .ref (b + 237 + 0)), (3, .ref (b + 250)), (4, .int (mI i))] → mW g b KX X1 H1 → mW g (b + 237) KM M1 H1 → va_S (lA s) s.heap H1 locs1 → W p l e room_1 s m args below meth c H1 locs1 (cells + 4) (slots + 24) Q (F0 m 2540 ls1 [])) : W p l e room_1 s m args below meth c H locs cells slots Q (F0 m 1352 ls []) := by
  unfold wl_20 at h
  refine m_aload_n (pc := 1352) C.1 dL_law__1352 rfl hl 1 rfl ?_
  refine m_aload_n (pc := 1353) C.1 dL_law__1353 rfl hl 0 rfl ?_
  refine m_iload (pc := 1354) C.1 dL_law__1354 hl 4 rfl ?_
  refine m_iconst (pc := 1356) C.1 dL_law__1356 ?_
  refine m_iadd (pc := 1357) C.1 dL_law__1357 ?_
  refine l_sld (pc := 1358) C.1 C.2.2.2.2.1.1 C.2.2.2.2.1.2.1 hS (l_idx h0 h5 C.2.2.2.2.1.2.2 (by decide) (by decide)) dL_law__1358 ?_
  refine m_aload_n (pc := 1359) C.1 dL_law__1359 rfl hl 3 rfl ?_
  refine l_callSi (pc := 1360) (b := b) C.1 C.2.2.1 hl.1 C.2.1 C.2.2.2.2.2 hX hS (As := [.ref (b + 0), .int (mI (sA xs i 1)), .ref (b + 250)]) (rest := []) (T_L_soaps C.2.2.2.1 N 0 rfl (sA xs i 1) (sA_ok xs i 1) 250 rfl h) q_1203 q_1204 q_80 q_1205 pl_L_soaps ⟨rfl, rfl, by decide, by decide, by show _ ≤ 601024; omega, by show _ ≤ 7293034; omega⟩  (Nat.le_of_ble_eq_true rfl) dL_law__1360 (fun v1 X1 H1 locs ov1 h hX1 hk hS => ?_)
  replace hM := hM.apart hk l_apM
  clear hk
  refine m_istore (pc := 1363) C.1 dL_law__1363 hl (by decide) (fun v => [(5, .int v), (0, .ref sb), (1, .ref (b + 0)), (2, .ref (b + 237 + 0)), (3, .ref (b + 250)), (4, .int (mI i))]) (fun _ => rfl) ov1 (fun z5 ls ez5 oz5 hl => ?_)
  rw [ez5] at hl
  refine m_aload_n (pc := 1365) C.1 dL_law__1365 rfl hl 3 rfl ?_
  refine m_aload_n (pc := 1366) C.1 dL_law__1366 rfl hl 1 rfl ?_
  refine m_iload (pc := 1367) C.1 dL_law__1367 hl 5 rfl ?_
  refine m_iconst (pc := 1369) C.1 dL_law__1369 ?_
  refine m_iadd (pc := 1370) C.1 dL_law__1370 ?_
  refine l_sld (pc := 1371) C.1 C.2.2.2.2.1.1 C.2.2.2.2.1.2.1 hS (l_idx h0 h5 C.2.2.2.2.1.2.2 (by decide) (by decide)) dL_law__1371 ?_
  refine l_callVi (pc := 1372) (b := (b + 237)) C.1 C.2.2.1 hl.1 C.2.1 (Nat.le_trans C.2.2.2.2.2 (Nat.le_add_right _ _)) hM hS (As := [.int (mI (sA xs i 1))]) (rest := []) (r := 0) (T_X12_soaps C.2.2.2.1 N 0 rfl (sA xs i 1) (sA_ok xs i 1) h) rfl rfl q_1793 q_1794 q_1795 q_92 q_1796 pl_X12_soaps ⟨rfl, rfl, by decide, by decide, by show _ ≤ 601024; omega, by show _ ≤ 7293034; omega⟩ (Nat.le_of_ble_eq_true rfl) dL_law__1372 (fun v2 M2 H1 locs ov2 h hM2 hk hS => ?_)
  replace hX := hX1.apart hk l_apX
  clear hk
  refine m_istore (pc := 1375) C.1 dL_law__1375 hl (by decide) (fun v => [(6, .int v), (5, .int (mI v1)), (0, .ref sb), (1, .ref (b + 0)), (2, .ref (b + 237 + 0)), (3, .ref (b + 250)), (4, .int (mI i))]) (fun _ => rfl) ov2 (fun z6 ls ez6 oz6 hl => ?_)
  rw [ez6] at hl
  refine m_aload_n (pc := 1377) C.1 dL_law__1377 rfl hl 4 rfl ?_
  refine l_callVi (pc := 1378) (b := (b + 237)) C.1 C.2.2.1 hl.1 C.2.1 (Nat.le_trans C.2.2.2.2.2 (Nat.le_add_right _ _)) hM2 hS (As := []) (rest := []) (r := 0) (T_X12_thrown C.2.2.2.1 N 0 rfl h) rfl rfl q_1463 q_1464 q_1465 q_92 q_1466 pl_X12_thrown ⟨rfl, rfl, by decide, by decide, by show _ ≤ 601024; omega, by show _ ≤ 7293034; omega⟩ (Nat.le_of_ble_eq_true rfl) dL_law__1378 (fun v3 M3 H1 locs ov3 h hM3 hk hS => ?_)
  replace hX := hX.apart hk l_apX
  clear hk
  refine m_iload (pc := 1381) C.1 dL_law__1381 hl 1 rfl ?_
  refine m_icmp_eq (tgt := 1388) (pc := 1383) C.1 ov3 ov1 dL_law__1383 (by decide) (fun _ => ?_) (fun hc => absurd h.1 hc)
  refine m_iload (pc := 1388) C.1 dL_law__1388 hl 1 rfl ?_
  refine m_if_ne (tgt := 1405) (pc := 1390) C.1 ov1 dL_law__1390 (by decide) (fun hc => ?_) (fun hc => ?_)
  · refine m_goto (pc := 1405) C.1 (tgt := 2540) dL_law__1405 (by decide) ?_
    refine W.widen (k := cells + 4) (n := slots + 24) (by omega) (by omega) ?_
    exact kk X1 M3 _ _ _ h.2.2 (lv_sub hl [2, 3, 4, 5, 6] rfl) hX hM3 hS
  replace hc := h.2.1 hc
  refine m_aload_n (pc := 1393) C.1 dL_law__1393 rfl hl 5 rfl ?_
  refine m_iconst (pc := 1394) C.1 dL_law__1394 ?_
  refine l_lald (pc := 1395) C.1 C.2.1 hX (r := 250) rfl (by decide : okI 0) (by decide) (by decide) dL_law__1395 ?_
  refine m_iload (pc := 1396) C.1 dL_law__1396 hl 0 rfl ?_
  refine m_i2l (pc := 1398) C.1 ov2 dL_law__1398 ?_
  refine l_cmp (pc := 1399) C.1 hc (tgt := 1405) dL_law__1399 dL_law__1400 (by decide) ?_
  refine m_goto (pc := 1405) C.1 (tgt := 2540) dL_law__1405 (by decide) ?_
  refine W.widen (k := cells + 4) (n := slots + 24) (by omega) (by omega) ?_
  exact kk X1 M3 _ _ _ h.2.2 (lv_sub hl [2, 3, 4, 5, 6] rfl) hX hM3 hS
def wl_21 (N : Nat) (a1 a2 a3 a4 a5 : Int) (X M : mSt) (Kt : mSt → mSt → Prop) : Prop :=
  w_L_washes N 0 a1 a2 250 X (fun (X1 : mSt) (v1 : Int) => w_X12_washes N 0 a1 a2 M (fun (M2 : mSt) (v2 : Int) => w_X12_thrown N 0 M2 (fun (M3 : mSt) (v3 : Int) => v3 = v1 ∧ (v1 = 0 → (X1 250 0) = v2) ∧ Kt X1 M3)))
theorem Wl_21 (C : lC p l s m args c g sb L xs b) (N : Nat) (hl : lv_has ls 7 [(0, .ref sb), (1, .ref (b + 0)), (2, .ref (b + 237 + 0)), (3, .ref (b + 250)), (4, .int (mI i))]) (hX : mW g b KX X H) (hM : mW g (b + 237) KM M H) (hS : va_S (lA s) s.heap H locs) (oi : okI i) (h0 : 0 ≤ i) (h5 : i + 5 < L) (hc : cells + 4 ≤ 601024) (hs : slots + 24 ≤ 7293034) (h : wl_21 N (sA xs i 1) (sA xs i 2) (sA xs i 3) (sA xs i 4) (sA xs i 5) X M Kt) (kk : ∀ (X1 M1 : mSt) (H1 : Heap) (locs1 : List Loc) (ls1 : Array Slot), Kt X1 M1 → lv_has ls1 7 [(0, .ref sb), (1, .ref (b + 0)), (2, .ref (b + 237 + 0)), (3, .ref (b + 250)), (4, .int (mI i))] → mW g b KX X1 H1 → mW g (b + 237) KM M1 H1 → va_S (lA s) s.heap H1 locs1 → W p l e room_1 s m args below meth c H1 locs1 (cells + 4) (slots + 24) Q (F0 m 2540 ls1 [])) : W p l e room_1 s m args below meth c H locs cells slots Q (F0 m 1408 ls []) := by
  unfold wl_21 at h
  refine m_aload_n (pc := 1408) C.1 dL_law__1408 rfl hl 1 rfl ?_
  refine m_aload_n (pc := 1409) C.1 dL_law__1409 rfl hl 0 rfl ?_
  refine m_iload (pc := 1410) C.1 dL_law__1410 hl 4 rfl ?_
  refine m_iconst (pc := 1412) C.1 dL_law__1412 ?_
  refine m_iadd (pc := 1413) C.1 dL_law__1413 ?_
  refine l_sld (pc := 1414) C.1 C.2.2.2.2.1.1 C.2.2.2.2.1.2.1 hS (l_idx h0 h5 C.2.2.2.2.1.2.2 (by decide) (by decide)) dL_law__1414 ?_
  refine m_aload_n (pc := 1415) C.1 dL_law__1415 rfl hl 0 rfl ?_
  refine m_iload (pc := 1416) C.1 dL_law__1416 hl 4 rfl ?_
  refine m_iconst (pc := 1418) C.1 dL_law__1418 ?_
  refine m_iadd (pc := 1419) C.1 dL_law__1419 ?_
  refine l_sld (pc := 1420) C.1 C.2.2.2.2.1.1 C.2.2.2.2.1.2.1 hS (l_idx h0 h5 C.2.2.2.2.1.2.2 (by decide) (by decide)) dL_law__1420 ?_
  refine m_aload_n (pc := 1421) C.1 dL_law__1421 rfl hl 3 rfl ?_
  refine l_callSi (pc := 1422) (b := b) C.1 C.2.2.1 hl.1 C.2.1 C.2.2.2.2.2 hX hS (As := [.ref (b + 0), .int (mI (sA xs i 1)), .int (mI (sA xs i 2)), .ref (b + 250)]) (rest := []) (T_L_washes C.2.2.2.1 N 0 rfl (sA xs i 1) (sA_ok xs i 1) (sA xs i 2) (sA_ok xs i 2) 250 rfl h) q_1211 q_1212 q_80 q_1213 pl_L_washes ⟨rfl, rfl, by decide, by decide, by show _ ≤ 601024; omega, by show _ ≤ 7293034; omega⟩  (Nat.le_of_ble_eq_true rfl) dL_law__1422 (fun v1 X1 H1 locs ov1 h hX1 hk hS => ?_)
  replace hM := hM.apart hk l_apM
  clear hk
  refine m_istore (pc := 1425) C.1 dL_law__1425 hl (by decide) (fun v => [(5, .int v), (0, .ref sb), (1, .ref (b + 0)), (2, .ref (b + 237 + 0)), (3, .ref (b + 250)), (4, .int (mI i))]) (fun _ => rfl) ov1 (fun z5 ls ez5 oz5 hl => ?_)
  rw [ez5] at hl
  refine m_aload_n (pc := 1427) C.1 dL_law__1427 rfl hl 3 rfl ?_
  refine m_aload_n (pc := 1428) C.1 dL_law__1428 rfl hl 1 rfl ?_
  refine m_iload (pc := 1429) C.1 dL_law__1429 hl 5 rfl ?_
  refine m_iconst (pc := 1431) C.1 dL_law__1431 ?_
  refine m_iadd (pc := 1432) C.1 dL_law__1432 ?_
  refine l_sld (pc := 1433) C.1 C.2.2.2.2.1.1 C.2.2.2.2.1.2.1 hS (l_idx h0 h5 C.2.2.2.2.1.2.2 (by decide) (by decide)) dL_law__1433 ?_
  refine m_aload_n (pc := 1434) C.1 dL_law__1434 rfl hl 1 rfl ?_
  refine m_iload (pc := 1435) C.1 dL_law__1435 hl 5 rfl ?_
  refine m_iconst (pc := 1437) C.1 dL_law__1437 ?_
  refine m_iadd (pc := 1438) C.1 dL_law__1438 ?_
  refine l_sld (pc := 1439) C.1 C.2.2.2.2.1.1 C.2.2.2.2.1.2.1 hS (l_idx h0 h5 C.2.2.2.2.1.2.2 (by decide) (by decide)) dL_law__1439 ?_
  refine l_callVi (pc := 1440) (b := (b + 237)) C.1 C.2.2.1 hl.1 C.2.1 (Nat.le_trans C.2.2.2.2.2 (Nat.le_add_right _ _)) hM hS (As := [.int (mI (sA xs i 1)), .int (mI (sA xs i 2))]) (rest := []) (r := 0) (T_X12_washes C.2.2.2.1 N 0 rfl (sA xs i 1) (sA_ok xs i 1) (sA xs i 2) (sA_ok xs i 2) h) rfl rfl q_1797 q_1798 q_1799 q_92 q_1800 pl_X12_washes ⟨rfl, rfl, by decide, by decide, by show _ ≤ 601024; omega, by show _ ≤ 7293034; omega⟩ (Nat.le_of_ble_eq_true rfl) dL_law__1440 (fun v2 M2 H1 locs ov2 h hM2 hk hS => ?_)
  replace hX := hX1.apart hk l_apX
  clear hk
  refine m_istore (pc := 1443) C.1 dL_law__1443 hl (by decide) (fun v => [(6, .int v), (5, .int (mI v1)), (0, .ref sb), (1, .ref (b + 0)), (2, .ref (b + 237 + 0)), (3, .ref (b + 250)), (4, .int (mI i))]) (fun _ => rfl) ov2 (fun z6 ls ez6 oz6 hl => ?_)
  rw [ez6] at hl
  refine m_aload_n (pc := 1445) C.1 dL_law__1445 rfl hl 4 rfl ?_
  refine l_callVi (pc := 1446) (b := (b + 237)) C.1 C.2.2.1 hl.1 C.2.1 (Nat.le_trans C.2.2.2.2.2 (Nat.le_add_right _ _)) hM2 hS (As := []) (rest := []) (r := 0) (T_X12_thrown C.2.2.2.1 N 0 rfl h) rfl rfl q_1463 q_1464 q_1465 q_92 q_1466 pl_X12_thrown ⟨rfl, rfl, by decide, by decide, by show _ ≤ 601024; omega, by show _ ≤ 7293034; omega⟩ (Nat.le_of_ble_eq_true rfl) dL_law__1446 (fun v3 M3 H1 locs ov3 h hM3 hk hS => ?_)
  replace hX := hX.apart hk l_apX
  clear hk
  refine m_iload (pc := 1449) C.1 dL_law__1449 hl 1 rfl ?_
  refine m_icmp_eq (tgt := 1456) (pc := 1451) C.1 ov3 ov1 dL_law__1451 (by decide) (fun _ => ?_) (fun hc => absurd h.1 hc)
  refine m_iload (pc := 1456) C.1 dL_law__1456 hl 1 rfl ?_
  refine m_if_ne (tgt := 1473) (pc := 1458) C.1 ov1 dL_law__1458 (by decide) (fun hc => ?_) (fun hc => ?_)
  · refine m_goto (pc := 1473) C.1 (tgt := 2540) dL_law__1473 (by decide) ?_
    refine W.widen (k := cells + 4) (n := slots + 24) (by omega) (by omega) ?_
    exact kk X1 M3 _ _ _ h.2.2 (lv_sub hl [2, 3, 4, 5, 6] rfl) hX hM3 hS
  replace hc := h.2.1 hc
  refine m_aload_n (pc := 1461) C.1 dL_law__1461 rfl hl 5 rfl ?_
  refine m_iconst (pc := 1462) C.1 dL_law__1462 ?_
  refine l_lald (pc := 1463) C.1 C.2.1 hX (r := 250) rfl (by decide : okI 0) (by decide) (by decide) dL_law__1463 ?_
  refine m_iload (pc := 1464) C.1 dL_law__1464 hl 0 rfl ?_
  refine m_i2l (pc := 1466) C.1 ov2 dL_law__1466 ?_
  refine l_cmp (pc := 1467) C.1 hc (tgt := 1473) dL_law__1467 dL_law__1468 (by decide) ?_
  refine m_goto (pc := 1473) C.1 (tgt := 2540) dL_law__1473 (by decide) ?_
  refine W.widen (k := cells + 4) (n := slots + 24) (by omega) (by omega) ?_
  exact kk X1 M3 _ _ _ h.2.2 (lv_sub hl [2, 3, 4, 5, 6] rfl) hX hM3 hS
def wl_22 (N : Nat) (a1 a2 a3 a4 a5 : Int) (X M : mSt) (Kt : mSt → mSt → Prop) : Prop :=
  w_L_soonest N 0 a1 a2 250 X (fun (X1 : mSt) (v1 : Int) => w_X12_soonest N 0 a1 a2 M (fun (M2 : mSt) (v2 : Int) => w_X12_thrown N 0 M2 (fun (M3 : mSt) (v3 : Int) => v3 = v1 ∧ (v1 = 0 → (X1 250 0) = v2) ∧ Kt X1 M3)))
theorem Wl_22 (C : lC p l s m args c g sb L xs b) (N : Nat) (hl : lv_has ls 7 [(0, .ref sb), (1, .ref (b + 0)), (2, .ref (b + 237 + 0)), (3, .ref (b + 250)), (4, .int (mI i))]) (hX : mW g b KX X H) (hM : mW g (b + 237) KM M H) (hS : va_S (lA s) s.heap H locs) (oi : okI i) (h0 : 0 ≤ i) (h5 : i + 5 < L) (hc : cells + 4 ≤ 601024) (hs : slots + 24 ≤ 7293034) (h : wl_22 N (sA xs i 1) (sA xs i 2) (sA xs i 3) (sA xs i 4) (sA xs i 5) X M Kt) (kk : ∀ (X1 M1 : mSt) (H1 : Heap) (locs1 : List Loc) (ls1 : Array Slot), Kt X1 M1 → lv_has ls1 7 [(0, .ref sb), (1, .ref (b + 0)), (2, .ref (b + 237 + 0)), (3, .ref (b + 250)), (4, .int (mI i))] → mW g b KX X1 H1 → mW g (b + 237) KM M1 H1 → va_S (lA s) s.heap H1 locs1 → W p l e room_1 s m args below meth c H1 locs1 (cells + 4) (slots + 24) Q (F0 m 2540 ls1 [])) : W p l e room_1 s m args below meth c H locs cells slots Q (F0 m 1476 ls []) := by
  unfold wl_22 at h
  refine m_aload_n (pc := 1476) C.1 dL_law__1476 rfl hl 1 rfl ?_
  refine m_aload_n (pc := 1477) C.1 dL_law__1477 rfl hl 0 rfl ?_
  refine m_iload (pc := 1478) C.1 dL_law__1478 hl 4 rfl ?_
  refine m_iconst (pc := 1480) C.1 dL_law__1480 ?_
  refine m_iadd (pc := 1481) C.1 dL_law__1481 ?_
  refine l_sld (pc := 1482) C.1 C.2.2.2.2.1.1 C.2.2.2.2.1.2.1 hS (l_idx h0 h5 C.2.2.2.2.1.2.2 (by decide) (by decide)) dL_law__1482 ?_
  refine m_aload_n (pc := 1483) C.1 dL_law__1483 rfl hl 0 rfl ?_
  refine m_iload (pc := 1484) C.1 dL_law__1484 hl 4 rfl ?_
  refine m_iconst (pc := 1486) C.1 dL_law__1486 ?_
  refine m_iadd (pc := 1487) C.1 dL_law__1487 ?_
  refine l_sld (pc := 1488) C.1 C.2.2.2.2.1.1 C.2.2.2.2.1.2.1 hS (l_idx h0 h5 C.2.2.2.2.1.2.2 (by decide) (by decide)) dL_law__1488 ?_
  refine m_aload_n (pc := 1489) C.1 dL_law__1489 rfl hl 3 rfl ?_
  refine l_callSi (pc := 1490) (b := b) C.1 C.2.2.1 hl.1 C.2.1 C.2.2.2.2.2 hX hS (As := [.ref (b + 0), .int (mI (sA xs i 1)), .int (mI (sA xs i 2)), .ref (b + 250)]) (rest := []) (T_L_soonest C.2.2.2.1 N 0 rfl (sA xs i 1) (sA_ok xs i 1) (sA xs i 2) (sA_ok xs i 2) 250 rfl h) q_1218 q_1219 q_80 q_1220 pl_L_soonest ⟨rfl, rfl, by decide, by decide, by show _ ≤ 601024; omega, by show _ ≤ 7293034; omega⟩  (Nat.le_of_ble_eq_true rfl) dL_law__1490 (fun v1 X1 H1 locs ov1 h hX1 hk hS => ?_)
  replace hM := hM.apart hk l_apM
  clear hk
  refine m_istore (pc := 1493) C.1 dL_law__1493 hl (by decide) (fun v => [(5, .int v), (0, .ref sb), (1, .ref (b + 0)), (2, .ref (b + 237 + 0)), (3, .ref (b + 250)), (4, .int (mI i))]) (fun _ => rfl) ov1 (fun z5 ls ez5 oz5 hl => ?_)
  rw [ez5] at hl
  refine m_aload_n (pc := 1495) C.1 dL_law__1495 rfl hl 3 rfl ?_
  refine m_aload_n (pc := 1496) C.1 dL_law__1496 rfl hl 1 rfl ?_
  refine m_iload (pc := 1497) C.1 dL_law__1497 hl 5 rfl ?_
  refine m_iconst (pc := 1499) C.1 dL_law__1499 ?_
  refine m_iadd (pc := 1500) C.1 dL_law__1500 ?_
  refine l_sld (pc := 1501) C.1 C.2.2.2.2.1.1 C.2.2.2.2.1.2.1 hS (l_idx h0 h5 C.2.2.2.2.1.2.2 (by decide) (by decide)) dL_law__1501 ?_
  refine m_aload_n (pc := 1502) C.1 dL_law__1502 rfl hl 1 rfl ?_
  refine m_iload (pc := 1503) C.1 dL_law__1503 hl 5 rfl ?_
  refine m_iconst (pc := 1505) C.1 dL_law__1505 ?_
  refine m_iadd (pc := 1506) C.1 dL_law__1506 ?_
  refine l_sld (pc := 1507) C.1 C.2.2.2.2.1.1 C.2.2.2.2.1.2.1 hS (l_idx h0 h5 C.2.2.2.2.1.2.2 (by decide) (by decide)) dL_law__1507 ?_
  refine l_callVi (pc := 1508) (b := (b + 237)) C.1 C.2.2.1 hl.1 C.2.1 (Nat.le_trans C.2.2.2.2.2 (Nat.le_add_right _ _)) hM hS (As := [.int (mI (sA xs i 1)), .int (mI (sA xs i 2))]) (rest := []) (r := 0) (T_X12_soonest C.2.2.2.1 N 0 rfl (sA xs i 1) (sA_ok xs i 1) (sA xs i 2) (sA_ok xs i 2) h) rfl rfl q_1816 q_1817 q_1818 q_92 q_1819 pl_X12_soonest ⟨rfl, rfl, by decide, by decide, by show _ ≤ 601024; omega, by show _ ≤ 7293034; omega⟩ (Nat.le_of_ble_eq_true rfl) dL_law__1508 (fun v2 M2 H1 locs ov2 h hM2 hk hS => ?_)
  replace hX := hX1.apart hk l_apX
  clear hk
  refine m_istore (pc := 1511) C.1 dL_law__1511 hl (by decide) (fun v => [(6, .int v), (5, .int (mI v1)), (0, .ref sb), (1, .ref (b + 0)), (2, .ref (b + 237 + 0)), (3, .ref (b + 250)), (4, .int (mI i))]) (fun _ => rfl) ov2 (fun z6 ls ez6 oz6 hl => ?_)
  rw [ez6] at hl
  refine m_aload_n (pc := 1513) C.1 dL_law__1513 rfl hl 4 rfl ?_
  refine l_callVi (pc := 1514) (b := (b + 237)) C.1 C.2.2.1 hl.1 C.2.1 (Nat.le_trans C.2.2.2.2.2 (Nat.le_add_right _ _)) hM2 hS (As := []) (rest := []) (r := 0) (T_X12_thrown C.2.2.2.1 N 0 rfl h) rfl rfl q_1463 q_1464 q_1465 q_92 q_1466 pl_X12_thrown ⟨rfl, rfl, by decide, by decide, by show _ ≤ 601024; omega, by show _ ≤ 7293034; omega⟩ (Nat.le_of_ble_eq_true rfl) dL_law__1514 (fun v3 M3 H1 locs ov3 h hM3 hk hS => ?_)
  replace hX := hX.apart hk l_apX
  clear hk
  refine m_iload (pc := 1517) C.1 dL_law__1517 hl 1 rfl ?_
  refine m_icmp_eq (tgt := 1524) (pc := 1519) C.1 ov3 ov1 dL_law__1519 (by decide) (fun _ => ?_) (fun hc => absurd h.1 hc)
  refine m_iload (pc := 1524) C.1 dL_law__1524 hl 1 rfl ?_
  refine m_if_ne (tgt := 1541) (pc := 1526) C.1 ov1 dL_law__1526 (by decide) (fun hc => ?_) (fun hc => ?_)
  · refine m_goto (pc := 1541) C.1 (tgt := 2540) dL_law__1541 (by decide) ?_
    refine W.widen (k := cells + 4) (n := slots + 24) (by omega) (by omega) ?_
    exact kk X1 M3 _ _ _ h.2.2 (lv_sub hl [2, 3, 4, 5, 6] rfl) hX hM3 hS
  replace hc := h.2.1 hc
  refine m_aload_n (pc := 1529) C.1 dL_law__1529 rfl hl 5 rfl ?_
  refine m_iconst (pc := 1530) C.1 dL_law__1530 ?_
  refine l_lald (pc := 1531) C.1 C.2.1 hX (r := 250) rfl (by decide : okI 0) (by decide) (by decide) dL_law__1531 ?_
  refine m_iload (pc := 1532) C.1 dL_law__1532 hl 0 rfl ?_
  refine m_i2l (pc := 1534) C.1 ov2 dL_law__1534 ?_
  refine l_cmp (pc := 1535) C.1 hc (tgt := 1541) dL_law__1535 dL_law__1536 (by decide) ?_
  refine m_goto (pc := 1541) C.1 (tgt := 2540) dL_law__1541 (by decide) ?_
  refine W.widen (k := cells + 4) (n := slots + 24) (by omega) (by omega) ?_
  exact kk X1 M3 _ _ _ h.2.2 (lv_sub hl [2, 3, 4, 5, 6] rfl) hX hM3 hS
def wl_23 (N : Nat) (a1 a2 a3 a4 a5 : Int) (X M : mSt) (Kt : mSt → mSt → Prop) : Prop :=
  w_L_dried N 0 a1 a2 250 X (fun (X1 : mSt) (v1 : Int) => w_X12_dried N 0 a1 a2 M (fun (M2 : mSt) (v2 : Int) => w_X12_thrown N 0 M2 (fun (M3 : mSt) (v3 : Int) => v3 = v1 ∧ (v1 = 0 → (X1 250 0) = v2) ∧ Kt X1 M3)))
theorem Wl_23 (C : lC p l s m args c g sb L xs b) (N : Nat) (hl : lv_has ls 7 [(0, .ref sb), (1, .ref (b + 0)), (2, .ref (b + 237 + 0)), (3, .ref (b + 250)), (4, .int (mI i))]) (hX : mW g b KX X H) (hM : mW g (b + 237) KM M H) (hS : va_S (lA s) s.heap H locs) (oi : okI i) (h0 : 0 ≤ i) (h5 : i + 5 < L) (hc : cells + 4 ≤ 601024) (hs : slots + 24 ≤ 7293034) (h : wl_23 N (sA xs i 1) (sA xs i 2) (sA xs i 3) (sA xs i 4) (sA xs i 5) X M Kt) (kk : ∀ (X1 M1 : mSt) (H1 : Heap) (locs1 : List Loc) (ls1 : Array Slot), Kt X1 M1 → lv_has ls1 7 [(0, .ref sb), (1, .ref (b + 0)), (2, .ref (b + 237 + 0)), (3, .ref (b + 250)), (4, .int (mI i))] → mW g b KX X1 H1 → mW g (b + 237) KM M1 H1 → va_S (lA s) s.heap H1 locs1 → W p l e room_1 s m args below meth c H1 locs1 (cells + 4) (slots + 24) Q (F0 m 2540 ls1 [])) : W p l e room_1 s m args below meth c H locs cells slots Q (F0 m 1544 ls []) := by
  unfold wl_23 at h
  refine m_aload_n (pc := 1544) C.1 dL_law__1544 rfl hl 1 rfl ?_
  refine m_aload_n (pc := 1545) C.1 dL_law__1545 rfl hl 0 rfl ?_
  refine m_iload (pc := 1546) C.1 dL_law__1546 hl 4 rfl ?_
  refine m_iconst (pc := 1548) C.1 dL_law__1548 ?_
  refine m_iadd (pc := 1549) C.1 dL_law__1549 ?_
  refine l_sld (pc := 1550) C.1 C.2.2.2.2.1.1 C.2.2.2.2.1.2.1 hS (l_idx h0 h5 C.2.2.2.2.1.2.2 (by decide) (by decide)) dL_law__1550 ?_
  refine m_aload_n (pc := 1551) C.1 dL_law__1551 rfl hl 0 rfl ?_
  refine m_iload (pc := 1552) C.1 dL_law__1552 hl 4 rfl ?_
  refine m_iconst (pc := 1554) C.1 dL_law__1554 ?_
  refine m_iadd (pc := 1555) C.1 dL_law__1555 ?_
  refine l_sld (pc := 1556) C.1 C.2.2.2.2.1.1 C.2.2.2.2.1.2.1 hS (l_idx h0 h5 C.2.2.2.2.1.2.2 (by decide) (by decide)) dL_law__1556 ?_
  refine m_aload_n (pc := 1557) C.1 dL_law__1557 rfl hl 3 rfl ?_
  refine l_callSi (pc := 1558) (b := b) C.1 C.2.2.1 hl.1 C.2.1 C.2.2.2.2.2 hX hS (As := [.ref (b + 0), .int (mI (sA xs i 1)), .int (mI (sA xs i 2)), .ref (b + 250)]) (rest := []) (T_L_dried C.2.2.2.1 N 0 rfl (sA xs i 1) (sA_ok xs i 1) (sA xs i 2) (sA_ok xs i 2) 250 rfl h) q_1260 q_1261 q_80 q_1262 pl_L_dried ⟨rfl, rfl, by decide, by decide, by show _ ≤ 601024; omega, by show _ ≤ 7293034; omega⟩  (Nat.le_of_ble_eq_true rfl) dL_law__1558 (fun v1 X1 H1 locs ov1 h hX1 hk hS => ?_)
  replace hM := hM.apart hk l_apM
  clear hk
  refine m_istore (pc := 1561) C.1 dL_law__1561 hl (by decide) (fun v => [(5, .int v), (0, .ref sb), (1, .ref (b + 0)), (2, .ref (b + 237 + 0)), (3, .ref (b + 250)), (4, .int (mI i))]) (fun _ => rfl) ov1 (fun z5 ls ez5 oz5 hl => ?_)
  rw [ez5] at hl
  refine m_aload_n (pc := 1563) C.1 dL_law__1563 rfl hl 3 rfl ?_
  refine m_aload_n (pc := 1564) C.1 dL_law__1564 rfl hl 1 rfl ?_
  refine m_iload (pc := 1565) C.1 dL_law__1565 hl 5 rfl ?_
  refine m_iconst (pc := 1567) C.1 dL_law__1567 ?_
  refine m_iadd (pc := 1568) C.1 dL_law__1568 ?_
  refine l_sld (pc := 1569) C.1 C.2.2.2.2.1.1 C.2.2.2.2.1.2.1 hS (l_idx h0 h5 C.2.2.2.2.1.2.2 (by decide) (by decide)) dL_law__1569 ?_
  refine m_aload_n (pc := 1570) C.1 dL_law__1570 rfl hl 1 rfl ?_
  refine m_iload (pc := 1571) C.1 dL_law__1571 hl 5 rfl ?_
  refine m_iconst (pc := 1573) C.1 dL_law__1573 ?_
  refine m_iadd (pc := 1574) C.1 dL_law__1574 ?_
  refine l_sld (pc := 1575) C.1 C.2.2.2.2.1.1 C.2.2.2.2.1.2.1 hS (l_idx h0 h5 C.2.2.2.2.1.2.2 (by decide) (by decide)) dL_law__1575 ?_
  refine l_callVi (pc := 1576) (b := (b + 237)) C.1 C.2.2.1 hl.1 C.2.1 (Nat.le_trans C.2.2.2.2.2 (Nat.le_add_right _ _)) hM hS (As := [.int (mI (sA xs i 1)), .int (mI (sA xs i 2))]) (rest := []) (r := 0) (T_X12_dried C.2.2.2.1 N 0 rfl (sA xs i 1) (sA_ok xs i 1) (sA xs i 2) (sA_ok xs i 2) h) rfl rfl q_1808 q_1809 q_1810 q_92 q_1811 pl_X12_dried ⟨rfl, rfl, by decide, by decide, by show _ ≤ 601024; omega, by show _ ≤ 7293034; omega⟩ (Nat.le_of_ble_eq_true rfl) dL_law__1576 (fun v2 M2 H1 locs ov2 h hM2 hk hS => ?_)
  replace hX := hX1.apart hk l_apX
  clear hk
  refine m_istore (pc := 1579) C.1 dL_law__1579 hl (by decide) (fun v => [(6, .int v), (5, .int (mI v1)), (0, .ref sb), (1, .ref (b + 0)), (2, .ref (b + 237 + 0)), (3, .ref (b + 250)), (4, .int (mI i))]) (fun _ => rfl) ov2 (fun z6 ls ez6 oz6 hl => ?_)
  rw [ez6] at hl
  refine m_aload_n (pc := 1581) C.1 dL_law__1581 rfl hl 4 rfl ?_
  refine l_callVi (pc := 1582) (b := (b + 237)) C.1 C.2.2.1 hl.1 C.2.1 (Nat.le_trans C.2.2.2.2.2 (Nat.le_add_right _ _)) hM2 hS (As := []) (rest := []) (r := 0) (T_X12_thrown C.2.2.2.1 N 0 rfl h) rfl rfl q_1463 q_1464 q_1465 q_92 q_1466 pl_X12_thrown ⟨rfl, rfl, by decide, by decide, by show _ ≤ 601024; omega, by show _ ≤ 7293034; omega⟩ (Nat.le_of_ble_eq_true rfl) dL_law__1582 (fun v3 M3 H1 locs ov3 h hM3 hk hS => ?_)
  replace hX := hX.apart hk l_apX
  clear hk
  refine m_iload (pc := 1585) C.1 dL_law__1585 hl 1 rfl ?_
  refine m_icmp_eq (tgt := 1592) (pc := 1587) C.1 ov3 ov1 dL_law__1587 (by decide) (fun _ => ?_) (fun hc => absurd h.1 hc)
  refine m_iload (pc := 1592) C.1 dL_law__1592 hl 1 rfl ?_
  refine m_if_ne (tgt := 1609) (pc := 1594) C.1 ov1 dL_law__1594 (by decide) (fun hc => ?_) (fun hc => ?_)
  · refine m_goto (pc := 1609) C.1 (tgt := 2540) dL_law__1609 (by decide) ?_
    refine W.widen (k := cells + 4) (n := slots + 24) (by omega) (by omega) ?_
    exact kk X1 M3 _ _ _ h.2.2 (lv_sub hl [2, 3, 4, 5, 6] rfl) hX hM3 hS
  replace hc := h.2.1 hc
  refine m_aload_n (pc := 1597) C.1 dL_law__1597 rfl hl 5 rfl ?_
  refine m_iconst (pc := 1598) C.1 dL_law__1598 ?_
  refine l_lald (pc := 1599) C.1 C.2.1 hX (r := 250) rfl (by decide : okI 0) (by decide) (by decide) dL_law__1599 ?_
  refine m_iload (pc := 1600) C.1 dL_law__1600 hl 0 rfl ?_
  refine m_i2l (pc := 1602) C.1 ov2 dL_law__1602 ?_
  refine l_cmp (pc := 1603) C.1 hc (tgt := 1609) dL_law__1603 dL_law__1604 (by decide) ?_
  refine m_goto (pc := 1609) C.1 (tgt := 2540) dL_law__1609 (by decide) ?_
  refine W.widen (k := cells + 4) (n := slots + 24) (by omega) (by omega) ?_
  exact kk X1 M3 _ _ _ h.2.2 (lv_sub hl [2, 3, 4, 5, 6] rfl) hX hM3 hS
def wl_24 (N : Nat) (a1 a2 a3 a4 a5 : Int) (X M : mSt) (Kt : mSt → mSt → Prop) : Prop :=
  w_L_ahead N 0 a1 a2 a3 a4 250 X (fun (X1 : mSt) (v1 : Int) => w_X12_ahead_ N 0 a1 a2 a3 a4 M (fun (M2 : mSt) (v2 : Int) => w_X12_thrown N 0 M2 (fun (M3 : mSt) (v3 : Int) => v3 = v1 ∧ (v1 = 0 → (X1 250 0) = v2) ∧ Kt X1 M3)))
theorem Wl_24 (C : lC p l s m args c g sb L xs b) (N : Nat) (hl : lv_has ls 7 [(0, .ref sb), (1, .ref (b + 0)), (2, .ref (b + 237 + 0)), (3, .ref (b + 250)), (4, .int (mI i))]) (hX : mW g b KX X H) (hM : mW g (b + 237) KM M H) (hS : va_S (lA s) s.heap H locs) (oi : okI i) (h0 : 0 ≤ i) (h5 : i + 5 < L) (hc : cells + 4 ≤ 601024) (hs : slots + 24 ≤ 7293034) (h : wl_24 N (sA xs i 1) (sA xs i 2) (sA xs i 3) (sA xs i 4) (sA xs i 5) X M Kt) (kk : ∀ (X1 M1 : mSt) (H1 : Heap) (locs1 : List Loc) (ls1 : Array Slot), Kt X1 M1 → lv_has ls1 7 [(0, .ref sb), (1, .ref (b + 0)), (2, .ref (b + 237 + 0)), (3, .ref (b + 250)), (4, .int (mI i))] → mW g b KX X1 H1 → mW g (b + 237) KM M1 H1 → va_S (lA s) s.heap H1 locs1 → W p l e room_1 s m args below meth c H1 locs1 (cells + 4) (slots + 24) Q (F0 m 2540 ls1 [])) : W p l e room_1 s m args below meth c H locs cells slots Q (F0 m 1612 ls []) := by
  unfold wl_24 at h
  refine m_aload_n (pc := 1612) C.1 dL_law__1612 rfl hl 1 rfl ?_
  refine m_aload_n (pc := 1613) C.1 dL_law__1613 rfl hl 0 rfl ?_
  refine m_iload (pc := 1614) C.1 dL_law__1614 hl 4 rfl ?_
  refine m_iconst (pc := 1616) C.1 dL_law__1616 ?_
  refine m_iadd (pc := 1617) C.1 dL_law__1617 ?_
  refine l_sld (pc := 1618) C.1 C.2.2.2.2.1.1 C.2.2.2.2.1.2.1 hS (l_idx h0 h5 C.2.2.2.2.1.2.2 (by decide) (by decide)) dL_law__1618 ?_
  refine m_aload_n (pc := 1619) C.1 dL_law__1619 rfl hl 0 rfl ?_
  refine m_iload (pc := 1620) C.1 dL_law__1620 hl 4 rfl ?_
  refine m_iconst (pc := 1622) C.1 dL_law__1622 ?_
  refine m_iadd (pc := 1623) C.1 dL_law__1623 ?_
  refine l_sld (pc := 1624) C.1 C.2.2.2.2.1.1 C.2.2.2.2.1.2.1 hS (l_idx h0 h5 C.2.2.2.2.1.2.2 (by decide) (by decide)) dL_law__1624 ?_
  refine m_aload_n (pc := 1625) C.1 dL_law__1625 rfl hl 0 rfl ?_
  refine m_iload (pc := 1626) C.1 dL_law__1626 hl 4 rfl ?_
  refine m_iconst (pc := 1628) C.1 dL_law__1628 ?_
  refine m_iadd (pc := 1629) C.1 dL_law__1629 ?_
  refine l_sld (pc := 1630) C.1 C.2.2.2.2.1.1 C.2.2.2.2.1.2.1 hS (l_idx h0 h5 C.2.2.2.2.1.2.2 (by decide) (by decide)) dL_law__1630 ?_
  refine m_aload_n (pc := 1631) C.1 dL_law__1631 rfl hl 0 rfl ?_
  refine m_iload (pc := 1632) C.1 dL_law__1632 hl 4 rfl ?_
  refine m_iconst (pc := 1634) C.1 dL_law__1634 ?_
  refine m_iadd (pc := 1635) C.1 dL_law__1635 ?_
  refine l_sld (pc := 1636) C.1 C.2.2.2.2.1.1 C.2.2.2.2.1.2.1 hS (l_idx h0 h5 C.2.2.2.2.1.2.2 (by decide) (by decide)) dL_law__1636 ?_
  refine m_aload_n (pc := 1637) C.1 dL_law__1637 rfl hl 3 rfl ?_
  refine l_callSi (pc := 1638) (b := b) C.1 C.2.2.1 hl.1 C.2.1 C.2.2.2.2.2 hX hS (As := [.ref (b + 0), .int (mI (sA xs i 1)), .int (mI (sA xs i 2)), .int (mI (sA xs i 3)), .int (mI (sA xs i 4)), .ref (b + 250)]) (rest := []) (T_L_ahead C.2.2.2.1 N 0 rfl (sA xs i 1) (sA_ok xs i 1) (sA xs i 2) (sA_ok xs i 2) (sA xs i 3) (sA_ok xs i 3) (sA xs i 4) (sA_ok xs i 4) 250 rfl h) q_1267 q_1268 q_80 q_1269 pl_L_ahead ⟨rfl, rfl, by decide, by decide, by show _ ≤ 601024; omega, by show _ ≤ 7293034; omega⟩  (Nat.le_of_ble_eq_true rfl) dL_law__1638 (fun v1 X1 H1 locs ov1 h hX1 hk hS => ?_)
  replace hM := hM.apart hk l_apM
  clear hk
  refine m_istore (pc := 1641) C.1 dL_law__1641 hl (by decide) (fun v => [(5, .int v), (0, .ref sb), (1, .ref (b + 0)), (2, .ref (b + 237 + 0)), (3, .ref (b + 250)), (4, .int (mI i))]) (fun _ => rfl) ov1 (fun z5 ls ez5 oz5 hl => ?_)
  rw [ez5] at hl
  refine m_aload_n (pc := 1643) C.1 dL_law__1643 rfl hl 3 rfl ?_
  refine m_aload_n (pc := 1644) C.1 dL_law__1644 rfl hl 1 rfl ?_
  refine m_iload (pc := 1645) C.1 dL_law__1645 hl 5 rfl ?_
  refine m_iconst (pc := 1647) C.1 dL_law__1647 ?_
  refine m_iadd (pc := 1648) C.1 dL_law__1648 ?_
  refine l_sld (pc := 1649) C.1 C.2.2.2.2.1.1 C.2.2.2.2.1.2.1 hS (l_idx h0 h5 C.2.2.2.2.1.2.2 (by decide) (by decide)) dL_law__1649 ?_
  refine m_aload_n (pc := 1650) C.1 dL_law__1650 rfl hl 1 rfl ?_
  refine m_iload (pc := 1651) C.1 dL_law__1651 hl 5 rfl ?_
  refine m_iconst (pc := 1653) C.1 dL_law__1653 ?_
  refine m_iadd (pc := 1654) C.1 dL_law__1654 ?_
  refine l_sld (pc := 1655) C.1 C.2.2.2.2.1.1 C.2.2.2.2.1.2.1 hS (l_idx h0 h5 C.2.2.2.2.1.2.2 (by decide) (by decide)) dL_law__1655 ?_
  refine m_aload_n (pc := 1656) C.1 dL_law__1656 rfl hl 1 rfl ?_
  refine m_iload (pc := 1657) C.1 dL_law__1657 hl 5 rfl ?_
  refine m_iconst (pc := 1659) C.1 dL_law__1659 ?_
  refine m_iadd (pc := 1660) C.1 dL_law__1660 ?_
  refine l_sld (pc := 1661) C.1 C.2.2.2.2.1.1 C.2.2.2.2.1.2.1 hS (l_idx h0 h5 C.2.2.2.2.1.2.2 (by decide) (by decide)) dL_law__1661 ?_
  refine m_aload_n (pc := 1662) C.1 dL_law__1662 rfl hl 1 rfl ?_
  refine m_iload (pc := 1663) C.1 dL_law__1663 hl 5 rfl ?_
  refine m_iconst (pc := 1665) C.1 dL_law__1665 ?_
  refine m_iadd (pc := 1666) C.1 dL_law__1666 ?_
  refine l_sld (pc := 1667) C.1 C.2.2.2.2.1.1 C.2.2.2.2.1.2.1 hS (l_idx h0 h5 C.2.2.2.2.1.2.2 (by decide) (by decide)) dL_law__1667 ?_
  refine l_callVi (pc := 1668) (b := (b + 237)) C.1 C.2.2.1 hl.1 C.2.1 (Nat.le_trans C.2.2.2.2.2 (Nat.le_add_right _ _)) hM hS (As := [.int (mI (sA xs i 1)), .int (mI (sA xs i 2)), .int (mI (sA xs i 3)), .int (mI (sA xs i 4))]) (rest := []) (r := 0) (T_X12_ahead_ C.2.2.2.1 N 0 rfl (sA xs i 1) (sA_ok xs i 1) (sA xs i 2) (sA_ok xs i 2) (sA xs i 3) (sA_ok xs i 3) (sA xs i 4) (sA_ok xs i 4) h) rfl rfl q_1824 q_1825 q_1826 q_92 q_1827 pl_X12_ahead_ ⟨rfl, rfl, by decide, by decide, by show _ ≤ 601024; omega, by show _ ≤ 7293034; omega⟩ (Nat.le_of_ble_eq_true rfl) dL_law__1668 (fun v2 M2 H1 locs ov2 h hM2 hk hS => ?_)
  replace hX := hX1.apart hk l_apX
  clear hk
  refine m_istore (pc := 1671) C.1 dL_law__1671 hl (by decide) (fun v => [(6, .int v), (5, .int (mI v1)), (0, .ref sb), (1, .ref (b + 0)), (2, .ref (b + 237 + 0)), (3, .ref (b + 250)), (4, .int (mI i))]) (fun _ => rfl) ov2 (fun z6 ls ez6 oz6 hl => ?_)
  rw [ez6] at hl
  refine m_aload_n (pc := 1673) C.1 dL_law__1673 rfl hl 4 rfl ?_
  refine l_callVi (pc := 1674) (b := (b + 237)) C.1 C.2.2.1 hl.1 C.2.1 (Nat.le_trans C.2.2.2.2.2 (Nat.le_add_right _ _)) hM2 hS (As := []) (rest := []) (r := 0) (T_X12_thrown C.2.2.2.1 N 0 rfl h) rfl rfl q_1463 q_1464 q_1465 q_92 q_1466 pl_X12_thrown ⟨rfl, rfl, by decide, by decide, by show _ ≤ 601024; omega, by show _ ≤ 7293034; omega⟩ (Nat.le_of_ble_eq_true rfl) dL_law__1674 (fun v3 M3 H1 locs ov3 h hM3 hk hS => ?_)
  replace hX := hX.apart hk l_apX
  clear hk
  refine m_iload (pc := 1677) C.1 dL_law__1677 hl 1 rfl ?_
  refine m_icmp_eq (tgt := 1684) (pc := 1679) C.1 ov3 ov1 dL_law__1679 (by decide) (fun _ => ?_) (fun hc => absurd h.1 hc)
  refine m_iload (pc := 1684) C.1 dL_law__1684 hl 1 rfl ?_
  refine m_if_ne (tgt := 1701) (pc := 1686) C.1 ov1 dL_law__1686 (by decide) (fun hc => ?_) (fun hc => ?_)
  · refine m_goto (pc := 1701) C.1 (tgt := 2540) dL_law__1701 (by decide) ?_
    refine W.widen (k := cells + 4) (n := slots + 24) (by omega) (by omega) ?_
    exact kk X1 M3 _ _ _ h.2.2 (lv_sub hl [2, 3, 4, 5, 6] rfl) hX hM3 hS
  replace hc := h.2.1 hc
  refine m_aload_n (pc := 1689) C.1 dL_law__1689 rfl hl 5 rfl ?_
  refine m_iconst (pc := 1690) C.1 dL_law__1690 ?_
  refine l_lald (pc := 1691) C.1 C.2.1 hX (r := 250) rfl (by decide : okI 0) (by decide) (by decide) dL_law__1691 ?_
  refine m_iload (pc := 1692) C.1 dL_law__1692 hl 0 rfl ?_
  refine m_i2l (pc := 1694) C.1 ov2 dL_law__1694 ?_
  refine l_cmp (pc := 1695) C.1 hc (tgt := 1701) dL_law__1695 dL_law__1696 (by decide) ?_
  refine m_goto (pc := 1701) C.1 (tgt := 2540) dL_law__1701 (by decide) ?_
  refine W.widen (k := cells + 4) (n := slots + 24) (by omega) (by omega) ?_
  exact kk X1 M3 _ _ _ h.2.2 (lv_sub hl [2, 3, 4, 5, 6] rfl) hX hM3 hS
def wl_25 (N : Nat) (a1 a2 a3 a4 a5 : Int) (X M : mSt) (Kt : mSt → mSt → Prop) : Prop :=
  w_L_stained N 0 (bI a1) 250 X (fun (X1 : mSt) (v1 : Int) => w_X12_stained N 0 (bI a1) M (fun (M2 : mSt) (v2 : Int) => w_X12_thrown N 0 M2 (fun (M3 : mSt) (v3 : Int) => v3 = v1 ∧ (v1 = 0 → (X1 250 0) = v2) ∧ Kt X1 M3)))
theorem Wl_25 (C : lC p l s m args c g sb L xs b) (N : Nat) (hl : lv_has ls 7 [(0, .ref sb), (1, .ref (b + 0)), (2, .ref (b + 237 + 0)), (3, .ref (b + 250)), (4, .int (mI i))]) (hX : mW g b KX X H) (hM : mW g (b + 237) KM M H) (hS : va_S (lA s) s.heap H locs) (oi : okI i) (h0 : 0 ≤ i) (h5 : i + 5 < L) (hc : cells + 4 ≤ 601024) (hs : slots + 24 ≤ 7293034) (h : wl_25 N (sA xs i 1) (sA xs i 2) (sA xs i 3) (sA xs i 4) (sA xs i 5) X M Kt) (kk : ∀ (X1 M1 : mSt) (H1 : Heap) (locs1 : List Loc) (ls1 : Array Slot), Kt X1 M1 → lv_has ls1 7 [(0, .ref sb), (1, .ref (b + 0)), (2, .ref (b + 237 + 0)), (3, .ref (b + 250)), (4, .int (mI i))] → mW g b KX X1 H1 → mW g (b + 237) KM M1 H1 → va_S (lA s) s.heap H1 locs1 → W p l e room_1 s m args below meth c H1 locs1 (cells + 4) (slots + 24) Q (F0 m 2540 ls1 [])) : W p l e room_1 s m args below meth c H locs cells slots Q (F0 m 1704 ls []) := by
  unfold wl_25 at h
  refine m_aload_n (pc := 1704) C.1 dL_law__1704 rfl hl 1 rfl ?_
  refine m_aload_n (pc := 1705) C.1 dL_law__1705 rfl hl 0 rfl ?_
  refine m_iload (pc := 1706) C.1 dL_law__1706 hl 4 rfl ?_
  refine m_iconst (pc := 1708) C.1 dL_law__1708 ?_
  refine m_iadd (pc := 1709) C.1 dL_law__1709 ?_
  refine l_sld (pc := 1710) C.1 C.2.2.2.2.1.1 C.2.2.2.2.1.2.1 hS (l_idx h0 h5 C.2.2.2.2.1.2.2 (by decide) (by decide)) dL_law__1710 ?_
  refine l_bool (pc := 1711) C.1 (sA_ok xs i 1) dL_law__1711 dL_law__1714 dL_law__1715 dL_law__1718 ?_
  refine m_aload_n (pc := 1719) C.1 dL_law__1719 rfl hl 3 rfl ?_
  refine l_callSi (pc := 1720) (b := b) C.1 C.2.2.1 hl.1 C.2.1 C.2.2.2.2.2 hX hS (As := [.ref (b + 0), .int (mI (bI (sA xs i 1))), .ref (b + 250)]) (rest := []) (T_L_stained C.2.2.2.1 N 0 rfl (bI (sA xs i 1)) (bI_ok _) 250 rfl h) q_1279 q_1280 q_80 q_1281 pl_L_stained ⟨rfl, rfl, by decide, by decide, by show _ ≤ 601024; omega, by show _ ≤ 7293034; omega⟩  (Nat.le_of_ble_eq_true rfl) dL_law__1720 (fun v1 X1 H1 locs ov1 h hX1 hk hS => ?_)
  replace hM := hM.apart hk l_apM
  clear hk
  refine m_istore (pc := 1723) C.1 dL_law__1723 hl (by decide) (fun v => [(5, .int v), (0, .ref sb), (1, .ref (b + 0)), (2, .ref (b + 237 + 0)), (3, .ref (b + 250)), (4, .int (mI i))]) (fun _ => rfl) ov1 (fun z5 ls ez5 oz5 hl => ?_)
  rw [ez5] at hl
  refine m_aload_n (pc := 1725) C.1 dL_law__1725 rfl hl 3 rfl ?_
  refine m_aload_n (pc := 1726) C.1 dL_law__1726 rfl hl 1 rfl ?_
  refine m_iload (pc := 1727) C.1 dL_law__1727 hl 5 rfl ?_
  refine m_iconst (pc := 1729) C.1 dL_law__1729 ?_
  refine m_iadd (pc := 1730) C.1 dL_law__1730 ?_
  refine l_sld (pc := 1731) C.1 C.2.2.2.2.1.1 C.2.2.2.2.1.2.1 hS (l_idx h0 h5 C.2.2.2.2.1.2.2 (by decide) (by decide)) dL_law__1731 ?_
  refine l_bool (pc := 1732) C.1 (sA_ok xs i 1) dL_law__1732 dL_law__1735 dL_law__1736 dL_law__1739 ?_
  refine l_callVi (pc := 1740) (b := (b + 237)) C.1 C.2.2.1 hl.1 C.2.1 (Nat.le_trans C.2.2.2.2.2 (Nat.le_add_right _ _)) hM hS (As := [.int (mI (bI (sA xs i 1)))]) (rest := []) (r := 0) (T_X12_stained C.2.2.2.1 N 0 rfl (bI (sA xs i 1)) (bI_ok _) h) rfl rfl q_1844 q_1845 q_1846 q_92 q_1847 pl_X12_stained ⟨rfl, rfl, by decide, by decide, by show _ ≤ 601024; omega, by show _ ≤ 7293034; omega⟩ (Nat.le_of_ble_eq_true rfl) dL_law__1740 (fun v2 M2 H1 locs ov2 h hM2 hk hS => ?_)
  replace hX := hX1.apart hk l_apX
  clear hk
  refine m_istore (pc := 1743) C.1 dL_law__1743 hl (by decide) (fun v => [(6, .int v), (5, .int (mI v1)), (0, .ref sb), (1, .ref (b + 0)), (2, .ref (b + 237 + 0)), (3, .ref (b + 250)), (4, .int (mI i))]) (fun _ => rfl) ov2 (fun z6 ls ez6 oz6 hl => ?_)
  rw [ez6] at hl
  refine m_aload_n (pc := 1745) C.1 dL_law__1745 rfl hl 4 rfl ?_
  refine l_callVi (pc := 1746) (b := (b + 237)) C.1 C.2.2.1 hl.1 C.2.1 (Nat.le_trans C.2.2.2.2.2 (Nat.le_add_right _ _)) hM2 hS (As := []) (rest := []) (r := 0) (T_X12_thrown C.2.2.2.1 N 0 rfl h) rfl rfl q_1463 q_1464 q_1465 q_92 q_1466 pl_X12_thrown ⟨rfl, rfl, by decide, by decide, by show _ ≤ 601024; omega, by show _ ≤ 7293034; omega⟩ (Nat.le_of_ble_eq_true rfl) dL_law__1746 (fun v3 M3 H1 locs ov3 h hM3 hk hS => ?_)
  replace hX := hX.apart hk l_apX
  clear hk
  refine m_iload (pc := 1749) C.1 dL_law__1749 hl 1 rfl ?_
  refine m_icmp_eq (tgt := 1756) (pc := 1751) C.1 ov3 ov1 dL_law__1751 (by decide) (fun _ => ?_) (fun hc => absurd h.1 hc)
  refine m_iload (pc := 1756) C.1 dL_law__1756 hl 1 rfl ?_
  refine m_if_ne (tgt := 1773) (pc := 1758) C.1 ov1 dL_law__1758 (by decide) (fun hc => ?_) (fun hc => ?_)
  · refine m_goto (pc := 1773) C.1 (tgt := 2540) dL_law__1773 (by decide) ?_
    refine W.widen (k := cells + 4) (n := slots + 24) (by omega) (by omega) ?_
    exact kk X1 M3 _ _ _ h.2.2 (lv_sub hl [2, 3, 4, 5, 6] rfl) hX hM3 hS
  replace hc := h.2.1 hc
  refine m_aload_n (pc := 1761) C.1 dL_law__1761 rfl hl 5 rfl ?_
  refine m_iconst (pc := 1762) C.1 dL_law__1762 ?_
  refine l_lald (pc := 1763) C.1 C.2.1 hX (r := 250) rfl (by decide : okI 0) (by decide) (by decide) dL_law__1763 ?_
  refine m_iload (pc := 1764) C.1 dL_law__1764 hl 0 rfl ?_
  refine m_i2l (pc := 1766) C.1 ov2 dL_law__1766 ?_
  refine l_cmp (pc := 1767) C.1 hc (tgt := 1773) dL_law__1767 dL_law__1768 (by decide) ?_
  refine m_goto (pc := 1773) C.1 (tgt := 2540) dL_law__1773 (by decide) ?_
  refine W.widen (k := cells + 4) (n := slots + 24) (by omega) (by omega) ?_
  exact kk X1 M3 _ _ _ h.2.2 (lv_sub hl [2, 3, 4, 5, 6] rfl) hX hM3 hS
def wl_26 (N : Nat) (a1 a2 a3 a4 a5 : Int) (X M : mSt) (Kt : mSt → mSt → Prop) : Prop :=
  w_L_tries N 0 250 X (fun (X1 : mSt) (v1 : Int) => w_X12_tries N 0 M (fun (M2 : mSt) (v2 : Int) => w_X12_thrown N 0 M2 (fun (M3 : mSt) (v3 : Int) => v3 = v1 ∧ (v1 = 0 → (X1 250 0) = v2) ∧ Kt X1 M3)))
theorem Wl_26 (C : lC p l s m args c g sb L xs b) (N : Nat) (hl : lv_has ls 7 [(0, .ref sb), (1, .ref (b + 0)), (2, .ref (b + 237 + 0)), (3, .ref (b + 250)), (4, .int (mI i))]) (hX : mW g b KX X H) (hM : mW g (b + 237) KM M H) (hS : va_S (lA s) s.heap H locs) (oi : okI i) (h0 : 0 ≤ i) (h5 : i + 5 < L) (hc : cells + 4 ≤ 601024) (hs : slots + 24 ≤ 7293034) (h : wl_26 N (sA xs i 1) (sA xs i 2) (sA xs i 3) (sA xs i 4) (sA xs i 5) X M Kt) (kk : ∀ (X1 M1 : mSt) (H1 : Heap) (locs1 : List Loc) (ls1 : Array Slot), Kt X1 M1 → lv_has ls1 7 [(0, .ref sb), (1, .ref (b + 0)), (2, .ref (b + 237 + 0)), (3, .ref (b + 250)), (4, .int (mI i))] → mW g b KX X1 H1 → mW g (b + 237) KM M1 H1 → va_S (lA s) s.heap H1 locs1 → W p l e room_1 s m args below meth c H1 locs1 (cells + 4) (slots + 24) Q (F0 m 2540 ls1 [])) : W p l e room_1 s m args below meth c H locs cells slots Q (F0 m 1776 ls []) := by
  unfold wl_26 at h
  refine m_aload_n (pc := 1776) C.1 dL_law__1776 rfl hl 1 rfl ?_
  refine m_aload_n (pc := 1777) C.1 dL_law__1777 rfl hl 3 rfl ?_
  refine l_callSi (pc := 1778) (b := b) C.1 C.2.2.1 hl.1 C.2.1 C.2.2.2.2.2 hX hS (As := [.ref (b + 0), .ref (b + 250)]) (rest := []) (T_L_tries C.2.2.2.1 N 0 rfl 250 rfl h) q_1293 q_1294 q_80 q_1295 pl_L_tries ⟨rfl, rfl, by decide, by decide, by show _ ≤ 601024; omega, by show _ ≤ 7293034; omega⟩  (Nat.le_of_ble_eq_true rfl) dL_law__1778 (fun v1 X1 H1 locs ov1 h hX1 hk hS => ?_)
  replace hM := hM.apart hk l_apM
  clear hk
  refine m_istore (pc := 1781) C.1 dL_law__1781 hl (by decide) (fun v => [(5, .int v), (0, .ref sb), (1, .ref (b + 0)), (2, .ref (b + 237 + 0)), (3, .ref (b + 250)), (4, .int (mI i))]) (fun _ => rfl) ov1 (fun z5 ls ez5 oz5 hl => ?_)
  rw [ez5] at hl
  refine m_aload_n (pc := 1783) C.1 dL_law__1783 rfl hl 3 rfl ?_
  refine l_callVi (pc := 1784) (b := (b + 237)) C.1 C.2.2.1 hl.1 C.2.1 (Nat.le_trans C.2.2.2.2.2 (Nat.le_add_right _ _)) hM hS (As := []) (rest := []) (r := 0) (T_X12_tries C.2.2.2.1 N 0 rfl h) rfl rfl q_1852 q_1853 q_1854 q_92 q_1855 pl_X12_tries ⟨rfl, rfl, by decide, by decide, by show _ ≤ 601024; omega, by show _ ≤ 7293034; omega⟩ (Nat.le_of_ble_eq_true rfl) dL_law__1784 (fun v2 M2 H1 locs ov2 h hM2 hk hS => ?_)
  replace hX := hX1.apart hk l_apX
  clear hk
  refine m_istore (pc := 1787) C.1 dL_law__1787 hl (by decide) (fun v => [(6, .int v), (5, .int (mI v1)), (0, .ref sb), (1, .ref (b + 0)), (2, .ref (b + 237 + 0)), (3, .ref (b + 250)), (4, .int (mI i))]) (fun _ => rfl) ov2 (fun z6 ls ez6 oz6 hl => ?_)
  rw [ez6] at hl
  refine m_aload_n (pc := 1789) C.1 dL_law__1789 rfl hl 4 rfl ?_
  refine l_callVi (pc := 1790) (b := (b + 237)) C.1 C.2.2.1 hl.1 C.2.1 (Nat.le_trans C.2.2.2.2.2 (Nat.le_add_right _ _)) hM2 hS (As := []) (rest := []) (r := 0) (T_X12_thrown C.2.2.2.1 N 0 rfl h) rfl rfl q_1463 q_1464 q_1465 q_92 q_1466 pl_X12_thrown ⟨rfl, rfl, by decide, by decide, by show _ ≤ 601024; omega, by show _ ≤ 7293034; omega⟩ (Nat.le_of_ble_eq_true rfl) dL_law__1790 (fun v3 M3 H1 locs ov3 h hM3 hk hS => ?_)
  replace hX := hX.apart hk l_apX
  clear hk
  refine m_iload (pc := 1793) C.1 dL_law__1793 hl 1 rfl ?_
  refine m_icmp_eq (tgt := 1800) (pc := 1795) C.1 ov3 ov1 dL_law__1795 (by decide) (fun _ => ?_) (fun hc => absurd h.1 hc)
  refine m_iload (pc := 1800) C.1 dL_law__1800 hl 1 rfl ?_
  refine m_if_ne (tgt := 1817) (pc := 1802) C.1 ov1 dL_law__1802 (by decide) (fun hc => ?_) (fun hc => ?_)
  · refine m_goto (pc := 1817) C.1 (tgt := 2540) dL_law__1817 (by decide) ?_
    refine W.widen (k := cells + 4) (n := slots + 24) (by omega) (by omega) ?_
    exact kk X1 M3 _ _ _ h.2.2 (lv_sub hl [2, 3, 4, 5, 6] rfl) hX hM3 hS
  replace hc := h.2.1 hc
  refine m_aload_n (pc := 1805) C.1 dL_law__1805 rfl hl 5 rfl ?_
  refine m_iconst (pc := 1806) C.1 dL_law__1806 ?_
  refine l_lald (pc := 1807) C.1 C.2.1 hX (r := 250) rfl (by decide : okI 0) (by decide) (by decide) dL_law__1807 ?_
  refine m_iload (pc := 1808) C.1 dL_law__1808 hl 0 rfl ?_
  refine m_i2l (pc := 1810) C.1 ov2 dL_law__1810 ?_
  refine l_cmp (pc := 1811) C.1 hc (tgt := 1817) dL_law__1811 dL_law__1812 (by decide) ?_
  refine m_goto (pc := 1817) C.1 (tgt := 2540) dL_law__1817 (by decide) ?_
  refine W.widen (k := cells + 4) (n := slots + 24) (by omega) (by omega) ?_
  exact kk X1 M3 _ _ _ h.2.2 (lv_sub hl [2, 3, 4, 5, 6] rfl) hX hM3 hS
def wl_27 (N : Nat) (a1 a2 a3 a4 a5 : Int) (X M : mSt) (Kt : mSt → mSt → Prop) : Prop :=
  w_X11_watch N 0 X (fun (X1 : mSt) (v1 : Int) => w_X12_watch N 0 M (fun (M2 : mSt) (v2 : Int) => v1 = v2 ∧ Kt X1 M2))
theorem Wl_27 (C : lC p l s m args c g sb L xs b) (N : Nat) (hl : lv_has ls 7 [(0, .ref sb), (1, .ref (b + 0)), (2, .ref (b + 237 + 0)), (3, .ref (b + 250)), (4, .int (mI i))]) (hX : mW g b KX X H) (hM : mW g (b + 237) KM M H) (hS : va_S (lA s) s.heap H locs) (oi : okI i) (h0 : 0 ≤ i) (h5 : i + 5 < L) (hc : cells + 4 ≤ 601024) (hs : slots + 24 ≤ 7293034) (h : wl_27 N (sA xs i 1) (sA xs i 2) (sA xs i 3) (sA xs i 4) (sA xs i 5) X M Kt) (kk : ∀ (X1 M1 : mSt) (H1 : Heap) (locs1 : List Loc) (ls1 : Array Slot), Kt X1 M1 → lv_has ls1 7 [(0, .ref sb), (1, .ref (b + 0)), (2, .ref (b + 237 + 0)), (3, .ref (b + 250)), (4, .int (mI i))] → mW g b KX X1 H1 → mW g (b + 237) KM M1 H1 → va_S (lA s) s.heap H1 locs1 → W p l e room_1 s m args below meth c H1 locs1 (cells + 4) (slots + 24) Q (F0 m 2540 ls1 [])) : W p l e room_1 s m args below meth c H locs cells slots Q (F0 m 1820 ls []) := by
  unfold wl_27 at h
  refine m_aload_n (pc := 1820) C.1 dL_law__1820 rfl hl 1 rfl ?_
  refine l_callVi (pc := 1821) (b := b) C.1 C.2.2.1 hl.1 C.2.1 C.2.2.2.2.2 hX hS (As := []) (rest := []) (r := 0) (T_X11_watch C.2.2.2.1 N 0 rfl h) rfl rfl q_571 q_572 q_573 q_81 q_574 pl_X11_watch ⟨rfl, rfl, by decide, by decide, by show _ ≤ 601024; omega, by show _ ≤ 7293034; omega⟩ (Nat.le_of_ble_eq_true rfl) dL_law__1821 (fun v1 X1 H1 locs ov1 h hX1 hk hS => ?_)
  replace hM := hM.apart hk l_apM
  clear hk
  refine m_aload_n (pc := 1824) C.1 dL_law__1824 rfl hl 2 rfl ?_
  refine l_callVi (pc := 1825) (b := (b + 237)) C.1 C.2.2.1 hl.1 C.2.1 (Nat.le_trans C.2.2.2.2.2 (Nat.le_add_right _ _)) hM hS (As := []) (rest := [.int (mI v1)]) (r := 0) (T_X12_watch C.2.2.2.1 N 0 rfl h) rfl rfl q_1856 q_1857 q_1858 q_92 q_1859 pl_X12_watch ⟨rfl, rfl, by decide, by decide, by show _ ≤ 601024; omega, by show _ ≤ 7293034; omega⟩ (Nat.le_of_ble_eq_true rfl) dL_law__1825 (fun v2 M2 H1 locs ov2 h hM2 hk hS => ?_)
  replace hX := hX1.apart hk l_apX
  clear hk
  refine m_icmp_eq (tgt := 2540) (pc := 1828) C.1 ov1 ov2 dL_law__1828 (by decide) (fun _ => ?_) (fun hc => absurd h.1 hc)
  refine W.widen (k := cells + 4) (n := slots + 24) (by omega) (by omega) ?_
  exact kk X1 M2 _ _ _ h.2 (lv_sub hl [0, 1, 2, 3, 4] rfl) hX hM2 hS
def wl_28 (N : Nat) (a1 a2 a3 a4 a5 : Int) (X M : mSt) (Kt : mSt → mSt → Prop) : Prop :=
  w_X11_row N 0 X (fun (X1 : mSt) (v1 : Int) => w_X12_row N 0 M (fun (M2 : mSt) (v2 : Int) => v1 = v2 ∧ Kt X1 M2))
theorem Wl_28 (C : lC p l s m args c g sb L xs b) (N : Nat) (hl : lv_has ls 7 [(0, .ref sb), (1, .ref (b + 0)), (2, .ref (b + 237 + 0)), (3, .ref (b + 250)), (4, .int (mI i))]) (hX : mW g b KX X H) (hM : mW g (b + 237) KM M H) (hS : va_S (lA s) s.heap H locs) (oi : okI i) (h0 : 0 ≤ i) (h5 : i + 5 < L) (hc : cells + 4 ≤ 601024) (hs : slots + 24 ≤ 7293034) (h : wl_28 N (sA xs i 1) (sA xs i 2) (sA xs i 3) (sA xs i 4) (sA xs i 5) X M Kt) (kk : ∀ (X1 M1 : mSt) (H1 : Heap) (locs1 : List Loc) (ls1 : Array Slot), Kt X1 M1 → lv_has ls1 7 [(0, .ref sb), (1, .ref (b + 0)), (2, .ref (b + 237 + 0)), (3, .ref (b + 250)), (4, .int (mI i))] → mW g b KX X1 H1 → mW g (b + 237) KM M1 H1 → va_S (lA s) s.heap H1 locs1 → W p l e room_1 s m args below meth c H1 locs1 (cells + 4) (slots + 24) Q (F0 m 2540 ls1 [])) : W p l e room_1 s m args below meth c H locs cells slots Q (F0 m 1833 ls []) := by
  unfold wl_28 at h
  refine m_aload_n (pc := 1833) C.1 dL_law__1833 rfl hl 1 rfl ?_
  refine l_callVi (pc := 1834) (b := b) C.1 C.2.2.1 hl.1 C.2.1 C.2.2.2.2.2 hX hS (As := []) (rest := []) (r := 0) (T_X11_row C.2.2.2.1 N 0 rfl h) rfl rfl q_549 q_550 q_551 q_81 q_552 pl_X11_row ⟨rfl, rfl, by decide, by decide, by show _ ≤ 601024; omega, by show _ ≤ 7293034; omega⟩ (Nat.le_of_ble_eq_true rfl) dL_law__1834 (fun v1 X1 H1 locs ov1 h hX1 hk hS => ?_)
  replace hM := hM.apart hk l_apM
  clear hk
  refine m_aload_n (pc := 1837) C.1 dL_law__1837 rfl hl 2 rfl ?_
  refine l_callVi (pc := 1838) (b := (b + 237)) C.1 C.2.2.1 hl.1 C.2.1 (Nat.le_trans C.2.2.2.2.2 (Nat.le_add_right _ _)) hM hS (As := []) (rest := [.int (mI v1)]) (r := 0) (T_X12_row C.2.2.2.1 N 0 rfl h) rfl rfl q_1860 q_1861 q_1862 q_92 q_1863 pl_X12_row ⟨rfl, rfl, by decide, by decide, by show _ ≤ 601024; omega, by show _ ≤ 7293034; omega⟩ (Nat.le_of_ble_eq_true rfl) dL_law__1838 (fun v2 M2 H1 locs ov2 h hM2 hk hS => ?_)
  replace hX := hX1.apart hk l_apX
  clear hk
  refine m_icmp_eq (tgt := 2540) (pc := 1841) C.1 ov1 ov2 dL_law__1841 (by decide) (fun _ => ?_) (fun hc => absurd h.1 hc)
  refine W.widen (k := cells + 4) (n := slots + 24) (by omega) (by omega) ?_
  exact kk X1 M2 _ _ _ h.2 (lv_sub hl [0, 1, 2, 3, 4] rfl) hX hM2 hS
def wl_29 (N : Nat) (a1 a2 a3 a4 a5 : Int) (X M : mSt) (Kt : mSt → mSt → Prop) : Prop :=
  w_X11_darkest N 0 X (fun (X1 : mSt) (v1 : Int) => w_X12_darkest N 0 M (fun (M2 : mSt) (v2 : Int) => v1 = v2 ∧ Kt X1 M2))
theorem Wl_29 (C : lC p l s m args c g sb L xs b) (N : Nat) (hl : lv_has ls 7 [(0, .ref sb), (1, .ref (b + 0)), (2, .ref (b + 237 + 0)), (3, .ref (b + 250)), (4, .int (mI i))]) (hX : mW g b KX X H) (hM : mW g (b + 237) KM M H) (hS : va_S (lA s) s.heap H locs) (oi : okI i) (h0 : 0 ≤ i) (h5 : i + 5 < L) (hc : cells + 4 ≤ 601024) (hs : slots + 24 ≤ 7293034) (h : wl_29 N (sA xs i 1) (sA xs i 2) (sA xs i 3) (sA xs i 4) (sA xs i 5) X M Kt) (kk : ∀ (X1 M1 : mSt) (H1 : Heap) (locs1 : List Loc) (ls1 : Array Slot), Kt X1 M1 → lv_has ls1 7 [(0, .ref sb), (1, .ref (b + 0)), (2, .ref (b + 237 + 0)), (3, .ref (b + 250)), (4, .int (mI i))] → mW g b KX X1 H1 → mW g (b + 237) KM M1 H1 → va_S (lA s) s.heap H1 locs1 → W p l e room_1 s m args below meth c H1 locs1 (cells + 4) (slots + 24) Q (F0 m 2540 ls1 [])) : W p l e room_1 s m args below meth c H locs cells slots Q (F0 m 1846 ls []) := by
  unfold wl_29 at h
  refine m_aload_n (pc := 1846) C.1 dL_law__1846 rfl hl 1 rfl ?_
  refine l_callVi (pc := 1847) (b := b) C.1 C.2.2.1 hl.1 C.2.1 C.2.2.2.2.2 hX hS (As := []) (rest := []) (r := 0) (T_X11_darkest C.2.2.2.1 N 0 rfl h) rfl rfl q_556 q_557 q_558 q_81 q_559 pl_X11_darkest ⟨rfl, rfl, by decide, by decide, by show _ ≤ 601024; omega, by show _ ≤ 7293034; omega⟩ (Nat.le_of_ble_eq_true rfl) dL_law__1847 (fun v1 X1 H1 locs ov1 h hX1 hk hS => ?_)
  replace hM := hM.apart hk l_apM
  clear hk
  refine m_aload_n (pc := 1850) C.1 dL_law__1850 rfl hl 2 rfl ?_
  refine l_callVi (pc := 1851) (b := (b + 237)) C.1 C.2.2.1 hl.1 C.2.1 (Nat.le_trans C.2.2.2.2.2 (Nat.le_add_right _ _)) hM hS (As := []) (rest := [.int (mI v1)]) (r := 0) (T_X12_darkest C.2.2.2.1 N 0 rfl h) rfl rfl q_1864 q_1865 q_1866 q_92 q_1867 pl_X12_darkest ⟨rfl, rfl, by decide, by decide, by show _ ≤ 601024; omega, by show _ ≤ 7293034; omega⟩ (Nat.le_of_ble_eq_true rfl) dL_law__1851 (fun v2 M2 H1 locs ov2 h hM2 hk hS => ?_)
  replace hX := hX1.apart hk l_apX
  clear hk
  refine m_icmp_eq (tgt := 2540) (pc := 1854) C.1 ov1 ov2 dL_law__1854 (by decide) (fun _ => ?_) (fun hc => absurd h.1 hc)
  refine W.widen (k := cells + 4) (n := slots + 24) (by omega) (by omega) ?_
  exact kk X1 M2 _ _ _ h.2 (lv_sub hl [0, 1, 2, 3, 4] rfl) hX hM2 hS
def wl_30 (N : Nat) (a1 a2 a3 a4 a5 : Int) (X M : mSt) (Kt : mSt → mSt → Prop) : Prop :=
  w_L_tide N 0 a1 a2 250 X (fun (X1 : mSt) (v1 : Int) => w_X12_tide N 0 a1 a2 M (fun (M2 : mSt) (v2 : Int) => w_X12_thrown N 0 M2 (fun (M3 : mSt) (v3 : Int) => v3 = v1 ∧ (v1 = 0 → (X1 250 0) = v2) ∧ Kt X1 M3)))
theorem Wl_30 (C : lC p l s m args c g sb L xs b) (N : Nat) (hl : lv_has ls 7 [(0, .ref sb), (1, .ref (b + 0)), (2, .ref (b + 237 + 0)), (3, .ref (b + 250)), (4, .int (mI i))]) (hX : mW g b KX X H) (hM : mW g (b + 237) KM M H) (hS : va_S (lA s) s.heap H locs) (oi : okI i) (h0 : 0 ≤ i) (h5 : i + 5 < L) (hc : cells + 4 ≤ 601024) (hs : slots + 24 ≤ 7293034) (h : wl_30 N (sA xs i 1) (sA xs i 2) (sA xs i 3) (sA xs i 4) (sA xs i 5) X M Kt) (kk : ∀ (X1 M1 : mSt) (H1 : Heap) (locs1 : List Loc) (ls1 : Array Slot), Kt X1 M1 → lv_has ls1 7 [(0, .ref sb), (1, .ref (b + 0)), (2, .ref (b + 237 + 0)), (3, .ref (b + 250)), (4, .int (mI i))] → mW g b KX X1 H1 → mW g (b + 237) KM M1 H1 → va_S (lA s) s.heap H1 locs1 → W p l e room_1 s m args below meth c H1 locs1 (cells + 4) (slots + 24) Q (F0 m 2540 ls1 [])) : W p l e room_1 s m args below meth c H locs cells slots Q (F0 m 1859 ls []) := by
  unfold wl_30 at h
  refine m_aload_n (pc := 1859) C.1 dL_law__1859 rfl hl 1 rfl ?_
  refine m_aload_n (pc := 1860) C.1 dL_law__1860 rfl hl 0 rfl ?_
  refine m_iload (pc := 1861) C.1 dL_law__1861 hl 4 rfl ?_
  refine m_iconst (pc := 1863) C.1 dL_law__1863 ?_
  refine m_iadd (pc := 1864) C.1 dL_law__1864 ?_
  refine l_sld (pc := 1865) C.1 C.2.2.2.2.1.1 C.2.2.2.2.1.2.1 hS (l_idx h0 h5 C.2.2.2.2.1.2.2 (by decide) (by decide)) dL_law__1865 ?_
  refine m_aload_n (pc := 1866) C.1 dL_law__1866 rfl hl 0 rfl ?_
  refine m_iload (pc := 1867) C.1 dL_law__1867 hl 4 rfl ?_
  refine m_iconst (pc := 1869) C.1 dL_law__1869 ?_
  refine m_iadd (pc := 1870) C.1 dL_law__1870 ?_
  refine l_sld (pc := 1871) C.1 C.2.2.2.2.1.1 C.2.2.2.2.1.2.1 hS (l_idx h0 h5 C.2.2.2.2.1.2.2 (by decide) (by decide)) dL_law__1871 ?_
  refine m_aload_n (pc := 1872) C.1 dL_law__1872 rfl hl 3 rfl ?_
  refine l_callSi (pc := 1873) (b := b) C.1 C.2.2.1 hl.1 C.2.1 C.2.2.2.2.2 hX hS (As := [.ref (b + 0), .int (mI (sA xs i 1)), .int (mI (sA xs i 2)), .ref (b + 250)]) (rest := []) (T_L_tide C.2.2.2.1 N 0 rfl (sA xs i 1) (sA_ok xs i 1) (sA xs i 2) (sA_ok xs i 2) 250 rfl h) q_1300 q_1301 q_80 q_1302 pl_L_tide ⟨rfl, rfl, by decide, by decide, by show _ ≤ 601024; omega, by show _ ≤ 7293034; omega⟩  (Nat.le_of_ble_eq_true rfl) dL_law__1873 (fun v1 X1 H1 locs ov1 h hX1 hk hS => ?_)
  replace hM := hM.apart hk l_apM
  clear hk
  refine m_istore (pc := 1876) C.1 dL_law__1876 hl (by decide) (fun v => [(5, .int v), (0, .ref sb), (1, .ref (b + 0)), (2, .ref (b + 237 + 0)), (3, .ref (b + 250)), (4, .int (mI i))]) (fun _ => rfl) ov1 (fun z5 ls ez5 oz5 hl => ?_)
  rw [ez5] at hl
  refine m_aload_n (pc := 1878) C.1 dL_law__1878 rfl hl 3 rfl ?_
  refine m_aload_n (pc := 1879) C.1 dL_law__1879 rfl hl 1 rfl ?_
  refine m_iload (pc := 1880) C.1 dL_law__1880 hl 5 rfl ?_
  refine m_iconst (pc := 1882) C.1 dL_law__1882 ?_
  refine m_iadd (pc := 1883) C.1 dL_law__1883 ?_
  refine l_sld (pc := 1884) C.1 C.2.2.2.2.1.1 C.2.2.2.2.1.2.1 hS (l_idx h0 h5 C.2.2.2.2.1.2.2 (by decide) (by decide)) dL_law__1884 ?_
  refine m_aload_n (pc := 1885) C.1 dL_law__1885 rfl hl 1 rfl ?_
  refine m_iload (pc := 1886) C.1 dL_law__1886 hl 5 rfl ?_
  refine m_iconst (pc := 1888) C.1 dL_law__1888 ?_
  refine m_iadd (pc := 1889) C.1 dL_law__1889 ?_
  refine l_sld (pc := 1890) C.1 C.2.2.2.2.1.1 C.2.2.2.2.1.2.1 hS (l_idx h0 h5 C.2.2.2.2.1.2.2 (by decide) (by decide)) dL_law__1890 ?_
  refine l_callVi (pc := 1891) (b := (b + 237)) C.1 C.2.2.1 hl.1 C.2.1 (Nat.le_trans C.2.2.2.2.2 (Nat.le_add_right _ _)) hM hS (As := [.int (mI (sA xs i 1)), .int (mI (sA xs i 2))]) (rest := []) (r := 0) (T_X12_tide C.2.2.2.1 N 0 rfl (sA xs i 1) (sA_ok xs i 1) (sA xs i 2) (sA_ok xs i 2) h) rfl rfl q_1832 q_1833 q_1834 q_92 q_1835 pl_X12_tide ⟨rfl, rfl, by decide, by decide, by show _ ≤ 601024; omega, by show _ ≤ 7293034; omega⟩ (Nat.le_of_ble_eq_true rfl) dL_law__1891 (fun v2 M2 H1 locs ov2 h hM2 hk hS => ?_)
  replace hX := hX1.apart hk l_apX
  clear hk
  refine m_istore (pc := 1894) C.1 dL_law__1894 hl (by decide) (fun v => [(6, .int v), (5, .int (mI v1)), (0, .ref sb), (1, .ref (b + 0)), (2, .ref (b + 237 + 0)), (3, .ref (b + 250)), (4, .int (mI i))]) (fun _ => rfl) ov2 (fun z6 ls ez6 oz6 hl => ?_)
  rw [ez6] at hl
  refine m_aload_n (pc := 1896) C.1 dL_law__1896 rfl hl 4 rfl ?_
  refine l_callVi (pc := 1897) (b := (b + 237)) C.1 C.2.2.1 hl.1 C.2.1 (Nat.le_trans C.2.2.2.2.2 (Nat.le_add_right _ _)) hM2 hS (As := []) (rest := []) (r := 0) (T_X12_thrown C.2.2.2.1 N 0 rfl h) rfl rfl q_1463 q_1464 q_1465 q_92 q_1466 pl_X12_thrown ⟨rfl, rfl, by decide, by decide, by show _ ≤ 601024; omega, by show _ ≤ 7293034; omega⟩ (Nat.le_of_ble_eq_true rfl) dL_law__1897 (fun v3 M3 H1 locs ov3 h hM3 hk hS => ?_)
  replace hX := hX.apart hk l_apX
  clear hk
  refine m_iload (pc := 1900) C.1 dL_law__1900 hl 1 rfl ?_
  refine m_icmp_eq (tgt := 1907) (pc := 1902) C.1 ov3 ov1 dL_law__1902 (by decide) (fun _ => ?_) (fun hc => absurd h.1 hc)
  refine m_iload (pc := 1907) C.1 dL_law__1907 hl 1 rfl ?_
  refine m_if_ne (tgt := 1924) (pc := 1909) C.1 ov1 dL_law__1909 (by decide) (fun hc => ?_) (fun hc => ?_)
  · refine m_goto (pc := 1924) C.1 (tgt := 2540) dL_law__1924 (by decide) ?_
    refine W.widen (k := cells + 4) (n := slots + 24) (by omega) (by omega) ?_
    exact kk X1 M3 _ _ _ h.2.2 (lv_sub hl [2, 3, 4, 5, 6] rfl) hX hM3 hS
  replace hc := h.2.1 hc
  refine m_aload_n (pc := 1912) C.1 dL_law__1912 rfl hl 5 rfl ?_
  refine m_iconst (pc := 1913) C.1 dL_law__1913 ?_
  refine l_lald (pc := 1914) C.1 C.2.1 hX (r := 250) rfl (by decide : okI 0) (by decide) (by decide) dL_law__1914 ?_
  refine m_iload (pc := 1915) C.1 dL_law__1915 hl 0 rfl ?_
  refine m_i2l (pc := 1917) C.1 ov2 dL_law__1917 ?_
  refine l_cmp (pc := 1918) C.1 hc (tgt := 1924) dL_law__1918 dL_law__1919 (by decide) ?_
  refine m_goto (pc := 1924) C.1 (tgt := 2540) dL_law__1924 (by decide) ?_
  refine W.widen (k := cells + 4) (n := slots + 24) (by omega) (by omega) ?_
  exact kk X1 M3 _ _ _ h.2.2 (lv_sub hl [2, 3, 4, 5, 6] rfl) hX hM3 hS
def wl_31 (N : Nat) (a1 a2 a3 a4 a5 : Int) (X M : mSt) (Kt : mSt → mSt → Prop) : Prop :=
  w_L_late N 0 a1 250 X (fun (X1 : mSt) (v1 : Int) => w_X12_late N 0 a1 M (fun (M2 : mSt) (v2 : Int) => w_X12_thrown N 0 M2 (fun (M3 : mSt) (v3 : Int) => v3 = v1 ∧ (v1 = 0 → (X1 250 0) = v2) ∧ Kt X1 M3)))
theorem Wl_31 (C : lC p l s m args c g sb L xs b) (N : Nat) (hl : lv_has ls 7 [(0, .ref sb), (1, .ref (b + 0)), (2, .ref (b + 237 + 0)), (3, .ref (b + 250)), (4, .int (mI i))]) (hX : mW g b KX X H) (hM : mW g (b + 237) KM M H) (hS : va_S (lA s) s.heap H locs) (oi : okI i) (h0 : 0 ≤ i) (h5 : i + 5 < L) (hc : cells + 4 ≤ 601024) (hs : slots + 24 ≤ 7293034) (h : wl_31 N (sA xs i 1) (sA xs i 2) (sA xs i 3) (sA xs i 4) (sA xs i 5) X M Kt) (kk : ∀ (X1 M1 : mSt) (H1 : Heap) (locs1 : List Loc) (ls1 : Array Slot), Kt X1 M1 → lv_has ls1 7 [(0, .ref sb), (1, .ref (b + 0)), (2, .ref (b + 237 + 0)), (3, .ref (b + 250)), (4, .int (mI i))] → mW g b KX X1 H1 → mW g (b + 237) KM M1 H1 → va_S (lA s) s.heap H1 locs1 → W p l e room_1 s m args below meth c H1 locs1 (cells + 4) (slots + 24) Q (F0 m 2540 ls1 [])) : W p l e room_1 s m args below meth c H locs cells slots Q (F0 m 1927 ls []) := by
  unfold wl_31 at h
  refine m_aload_n (pc := 1927) C.1 dL_law__1927 rfl hl 1 rfl ?_
  refine m_aload_n (pc := 1928) C.1 dL_law__1928 rfl hl 0 rfl ?_
  refine m_iload (pc := 1929) C.1 dL_law__1929 hl 4 rfl ?_
  refine m_iconst (pc := 1931) C.1 dL_law__1931 ?_
  refine m_iadd (pc := 1932) C.1 dL_law__1932 ?_
  refine l_sld (pc := 1933) C.1 C.2.2.2.2.1.1 C.2.2.2.2.1.2.1 hS (l_idx h0 h5 C.2.2.2.2.1.2.2 (by decide) (by decide)) dL_law__1933 ?_
  refine m_aload_n (pc := 1934) C.1 dL_law__1934 rfl hl 3 rfl ?_
  refine l_callSi (pc := 1935) (b := b) C.1 C.2.2.1 hl.1 C.2.1 C.2.2.2.2.2 hX hS (As := [.ref (b + 0), .int (mI (sA xs i 1)), .ref (b + 250)]) (rest := []) (T_L_late C.2.2.2.1 N 0 rfl (sA xs i 1) (sA_ok xs i 1) 250 rfl h) q_1307 q_1308 q_80 q_1309 pl_L_late ⟨rfl, rfl, by decide, by decide, by show _ ≤ 601024; omega, by show _ ≤ 7293034; omega⟩  (Nat.le_of_ble_eq_true rfl) dL_law__1935 (fun v1 X1 H1 locs ov1 h hX1 hk hS => ?_)
  replace hM := hM.apart hk l_apM
  clear hk
  refine m_istore (pc := 1938) C.1 dL_law__1938 hl (by decide) (fun v => [(5, .int v), (0, .ref sb), (1, .ref (b + 0)), (2, .ref (b + 237 + 0)), (3, .ref (b + 250)), (4, .int (mI i))]) (fun _ => rfl) ov1 (fun z5 ls ez5 oz5 hl => ?_)
  rw [ez5] at hl
  refine m_aload_n (pc := 1940) C.1 dL_law__1940 rfl hl 3 rfl ?_
  refine m_aload_n (pc := 1941) C.1 dL_law__1941 rfl hl 1 rfl ?_
  refine m_iload (pc := 1942) C.1 dL_law__1942 hl 5 rfl ?_
  refine m_iconst (pc := 1944) C.1 dL_law__1944 ?_
  refine m_iadd (pc := 1945) C.1 dL_law__1945 ?_
  refine l_sld (pc := 1946) C.1 C.2.2.2.2.1.1 C.2.2.2.2.1.2.1 hS (l_idx h0 h5 C.2.2.2.2.1.2.2 (by decide) (by decide)) dL_law__1946 ?_
  refine l_callVi (pc := 1947) (b := (b + 237)) C.1 C.2.2.1 hl.1 C.2.1 (Nat.le_trans C.2.2.2.2.2 (Nat.le_add_right _ _)) hM hS (As := [.int (mI (sA xs i 1))]) (rest := []) (r := 0) (T_X12_late C.2.2.2.1 N 0 rfl (sA xs i 1) (sA_ok xs i 1) h) rfl rfl q_1836 q_1837 q_1838 q_92 q_1839 pl_X12_late ⟨rfl, rfl, by decide, by decide, by show _ ≤ 601024; omega, by show _ ≤ 7293034; omega⟩ (Nat.le_of_ble_eq_true rfl) dL_law__1947 (fun v2 M2 H1 locs ov2 h hM2 hk hS => ?_)
  replace hX := hX1.apart hk l_apX
  clear hk
  refine m_istore (pc := 1950) C.1 dL_law__1950 hl (by decide) (fun v => [(6, .int v), (5, .int (mI v1)), (0, .ref sb), (1, .ref (b + 0)), (2, .ref (b + 237 + 0)), (3, .ref (b + 250)), (4, .int (mI i))]) (fun _ => rfl) ov2 (fun z6 ls ez6 oz6 hl => ?_)
  rw [ez6] at hl
  refine m_aload_n (pc := 1952) C.1 dL_law__1952 rfl hl 4 rfl ?_
  refine l_callVi (pc := 1953) (b := (b + 237)) C.1 C.2.2.1 hl.1 C.2.1 (Nat.le_trans C.2.2.2.2.2 (Nat.le_add_right _ _)) hM2 hS (As := []) (rest := []) (r := 0) (T_X12_thrown C.2.2.2.1 N 0 rfl h) rfl rfl q_1463 q_1464 q_1465 q_92 q_1466 pl_X12_thrown ⟨rfl, rfl, by decide, by decide, by show _ ≤ 601024; omega, by show _ ≤ 7293034; omega⟩ (Nat.le_of_ble_eq_true rfl) dL_law__1953 (fun v3 M3 H1 locs ov3 h hM3 hk hS => ?_)
  replace hX := hX.apart hk l_apX
  clear hk
  refine m_iload (pc := 1956) C.1 dL_law__1956 hl 1 rfl ?_
  refine m_icmp_eq (tgt := 1963) (pc := 1958) C.1 ov3 ov1 dL_law__1958 (by decide) (fun _ => ?_) (fun hc => absurd h.1 hc)
  refine m_iload (pc := 1963) C.1 dL_law__1963 hl 1 rfl ?_
  refine m_if_ne (tgt := 1980) (pc := 1965) C.1 ov1 dL_law__1965 (by decide) (fun hc => ?_) (fun hc => ?_)
  · refine m_goto (pc := 1980) C.1 (tgt := 2540) dL_law__1980 (by decide) ?_
    refine W.widen (k := cells + 4) (n := slots + 24) (by omega) (by omega) ?_
    exact kk X1 M3 _ _ _ h.2.2 (lv_sub hl [2, 3, 4, 5, 6] rfl) hX hM3 hS
  replace hc := h.2.1 hc
  refine m_aload_n (pc := 1968) C.1 dL_law__1968 rfl hl 5 rfl ?_
  refine m_iconst (pc := 1969) C.1 dL_law__1969 ?_
  refine l_lald (pc := 1970) C.1 C.2.1 hX (r := 250) rfl (by decide : okI 0) (by decide) (by decide) dL_law__1970 ?_
  refine m_iload (pc := 1971) C.1 dL_law__1971 hl 0 rfl ?_
  refine m_i2l (pc := 1973) C.1 ov2 dL_law__1973 ?_
  refine l_cmp (pc := 1974) C.1 hc (tgt := 1980) dL_law__1974 dL_law__1975 (by decide) ?_
  refine m_goto (pc := 1980) C.1 (tgt := 2540) dL_law__1980 (by decide) ?_
  refine W.widen (k := cells + 4) (n := slots + 24) (by omega) (by omega) ?_
  exact kk X1 M3 _ _ _ h.2.2 (lv_sub hl [2, 3, 4, 5, 6] rfl) hX hM3 hS
def wl_32 (N : Nat) (a1 a2 a3 a4 a5 : Int) (X M : mSt) (Kt : mSt → mSt → Prop) : Prop :=
  w_L_enough N 0 a1 250 X (fun (X1 : mSt) (v1 : Int) => w_X12_enough N 0 a1 M (fun (M2 : mSt) (v2 : Int) => w_X12_thrown N 0 M2 (fun (M3 : mSt) (v3 : Int) => v3 = v1 ∧ (v1 = 0 → (X1 250 0) = v2) ∧ Kt X1 M3)))
theorem Wl_32 (C : lC p l s m args c g sb L xs b) (N : Nat) (hl : lv_has ls 7 [(0, .ref sb), (1, .ref (b + 0)), (2, .ref (b + 237 + 0)), (3, .ref (b + 250)), (4, .int (mI i))]) (hX : mW g b KX X H) (hM : mW g (b + 237) KM M H) (hS : va_S (lA s) s.heap H locs) (oi : okI i) (h0 : 0 ≤ i) (h5 : i + 5 < L) (hc : cells + 4 ≤ 601024) (hs : slots + 24 ≤ 7293034) (h : wl_32 N (sA xs i 1) (sA xs i 2) (sA xs i 3) (sA xs i 4) (sA xs i 5) X M Kt) (kk : ∀ (X1 M1 : mSt) (H1 : Heap) (locs1 : List Loc) (ls1 : Array Slot), Kt X1 M1 → lv_has ls1 7 [(0, .ref sb), (1, .ref (b + 0)), (2, .ref (b + 237 + 0)), (3, .ref (b + 250)), (4, .int (mI i))] → mW g b KX X1 H1 → mW g (b + 237) KM M1 H1 → va_S (lA s) s.heap H1 locs1 → W p l e room_1 s m args below meth c H1 locs1 (cells + 4) (slots + 24) Q (F0 m 2540 ls1 [])) : W p l e room_1 s m args below meth c H locs cells slots Q (F0 m 1983 ls []) := by
  unfold wl_32 at h
  refine m_aload_n (pc := 1983) C.1 dL_law__1983 rfl hl 1 rfl ?_
  refine m_aload_n (pc := 1984) C.1 dL_law__1984 rfl hl 0 rfl ?_
  refine m_iload (pc := 1985) C.1 dL_law__1985 hl 4 rfl ?_
  refine m_iconst (pc := 1987) C.1 dL_law__1987 ?_
  refine m_iadd (pc := 1988) C.1 dL_law__1988 ?_
  refine l_sld (pc := 1989) C.1 C.2.2.2.2.1.1 C.2.2.2.2.1.2.1 hS (l_idx h0 h5 C.2.2.2.2.1.2.2 (by decide) (by decide)) dL_law__1989 ?_
  refine m_aload_n (pc := 1990) C.1 dL_law__1990 rfl hl 3 rfl ?_
  refine l_callSi (pc := 1991) (b := b) C.1 C.2.2.1 hl.1 C.2.1 C.2.2.2.2.2 hX hS (As := [.ref (b + 0), .int (mI (sA xs i 1)), .ref (b + 250)]) (rest := []) (T_L_enough C.2.2.2.1 N 0 rfl (sA xs i 1) (sA_ok xs i 1) 250 rfl h) q_1318 q_1319 q_80 q_1320 pl_L_enough ⟨rfl, rfl, by decide, by decide, by show _ ≤ 601024; omega, by show _ ≤ 7293034; omega⟩  (Nat.le_of_ble_eq_true rfl) dL_law__1991 (fun v1 X1 H1 locs ov1 h hX1 hk hS => ?_)
  replace hM := hM.apart hk l_apM
  clear hk
  refine m_istore (pc := 1994) C.1 dL_law__1994 hl (by decide) (fun v => [(5, .int v), (0, .ref sb), (1, .ref (b + 0)), (2, .ref (b + 237 + 0)), (3, .ref (b + 250)), (4, .int (mI i))]) (fun _ => rfl) ov1 (fun z5 ls ez5 oz5 hl => ?_)
  rw [ez5] at hl
  refine m_aload_n (pc := 1996) C.1 dL_law__1996 rfl hl 3 rfl ?_
  refine m_aload_n (pc := 1997) C.1 dL_law__1997 rfl hl 1 rfl ?_
  refine m_iload (pc := 1998) C.1 dL_law__1998 hl 5 rfl ?_
  refine m_iconst (pc := 2000) C.1 dL_law__2000 ?_
  refine m_iadd (pc := 2001) C.1 dL_law__2001 ?_
  refine l_sld (pc := 2002) C.1 C.2.2.2.2.1.1 C.2.2.2.2.1.2.1 hS (l_idx h0 h5 C.2.2.2.2.1.2.2 (by decide) (by decide)) dL_law__2002 ?_
  refine l_callVi (pc := 2003) (b := (b + 237)) C.1 C.2.2.1 hl.1 C.2.1 (Nat.le_trans C.2.2.2.2.2 (Nat.le_add_right _ _)) hM hS (As := [.int (mI (sA xs i 1))]) (rest := []) (r := 0) (T_X12_enough C.2.2.2.1 N 0 rfl (sA xs i 1) (sA_ok xs i 1) h) rfl rfl q_1840 q_1841 q_1842 q_92 q_1843 pl_X12_enough ⟨rfl, rfl, by decide, by decide, by show _ ≤ 601024; omega, by show _ ≤ 7293034; omega⟩ (Nat.le_of_ble_eq_true rfl) dL_law__2003 (fun v2 M2 H1 locs ov2 h hM2 hk hS => ?_)
  replace hX := hX1.apart hk l_apX
  clear hk
  refine m_istore (pc := 2006) C.1 dL_law__2006 hl (by decide) (fun v => [(6, .int v), (5, .int (mI v1)), (0, .ref sb), (1, .ref (b + 0)), (2, .ref (b + 237 + 0)), (3, .ref (b + 250)), (4, .int (mI i))]) (fun _ => rfl) ov2 (fun z6 ls ez6 oz6 hl => ?_)
  rw [ez6] at hl
  refine m_aload_n (pc := 2008) C.1 dL_law__2008 rfl hl 4 rfl ?_
  refine l_callVi (pc := 2009) (b := (b + 237)) C.1 C.2.2.1 hl.1 C.2.1 (Nat.le_trans C.2.2.2.2.2 (Nat.le_add_right _ _)) hM2 hS (As := []) (rest := []) (r := 0) (T_X12_thrown C.2.2.2.1 N 0 rfl h) rfl rfl q_1463 q_1464 q_1465 q_92 q_1466 pl_X12_thrown ⟨rfl, rfl, by decide, by decide, by show _ ≤ 601024; omega, by show _ ≤ 7293034; omega⟩ (Nat.le_of_ble_eq_true rfl) dL_law__2009 (fun v3 M3 H1 locs ov3 h hM3 hk hS => ?_)
  replace hX := hX.apart hk l_apX
  clear hk
  refine m_iload (pc := 2012) C.1 dL_law__2012 hl 1 rfl ?_
  refine m_icmp_eq (tgt := 2019) (pc := 2014) C.1 ov3 ov1 dL_law__2014 (by decide) (fun _ => ?_) (fun hc => absurd h.1 hc)
  refine m_iload (pc := 2019) C.1 dL_law__2019 hl 1 rfl ?_
  refine m_if_ne (tgt := 2036) (pc := 2021) C.1 ov1 dL_law__2021 (by decide) (fun hc => ?_) (fun hc => ?_)
  · refine m_goto (pc := 2036) C.1 (tgt := 2540) dL_law__2036 (by decide) ?_
    refine W.widen (k := cells + 4) (n := slots + 24) (by omega) (by omega) ?_
    exact kk X1 M3 _ _ _ h.2.2 (lv_sub hl [2, 3, 4, 5, 6] rfl) hX hM3 hS
  replace hc := h.2.1 hc
  refine m_aload_n (pc := 2024) C.1 dL_law__2024 rfl hl 5 rfl ?_
  refine m_iconst (pc := 2025) C.1 dL_law__2025 ?_
  refine l_lald (pc := 2026) C.1 C.2.1 hX (r := 250) rfl (by decide : okI 0) (by decide) (by decide) dL_law__2026 ?_
  refine m_iload (pc := 2027) C.1 dL_law__2027 hl 0 rfl ?_
  refine m_i2l (pc := 2029) C.1 ov2 dL_law__2029 ?_
  refine l_cmp (pc := 2030) C.1 hc (tgt := 2036) dL_law__2030 dL_law__2031 (by decide) ?_
  refine m_goto (pc := 2036) C.1 (tgt := 2540) dL_law__2036 (by decide) ?_
  refine W.widen (k := cells + 4) (n := slots + 24) (by omega) (by omega) ?_
  exact kk X1 M3 _ _ _ h.2.2 (lv_sub hl [2, 3, 4, 5, 6] rfl) hX hM3 hS
def wl_33 (N : Nat) (a1 a2 a3 a4 a5 : Int) (X M : mSt) (Kt : mSt → mSt → Prop) : Prop :=
  w_L_wears N 0 a1 a2 250 X (fun (X1 : mSt) (v1 : Int) => w_X12_wears N 0 a1 a2 M (fun (M2 : mSt) (v2 : Int) => w_X12_thrown N 0 M2 (fun (M3 : mSt) (v3 : Int) => v3 = v1 ∧ (v1 = 0 → (X1 250 0) = v2) ∧ Kt X1 M3)))
theorem Wl_33 (C : lC p l s m args c g sb L xs b) (N : Nat) (hl : lv_has ls 7 [(0, .ref sb), (1, .ref (b + 0)), (2, .ref (b + 237 + 0)), (3, .ref (b + 250)), (4, .int (mI i))]) (hX : mW g b KX X H) (hM : mW g (b + 237) KM M H) (hS : va_S (lA s) s.heap H locs) (oi : okI i) (h0 : 0 ≤ i) (h5 : i + 5 < L) (hc : cells + 4 ≤ 601024) (hs : slots + 24 ≤ 7293034) (h : wl_33 N (sA xs i 1) (sA xs i 2) (sA xs i 3) (sA xs i 4) (sA xs i 5) X M Kt) (kk : ∀ (X1 M1 : mSt) (H1 : Heap) (locs1 : List Loc) (ls1 : Array Slot), Kt X1 M1 → lv_has ls1 7 [(0, .ref sb), (1, .ref (b + 0)), (2, .ref (b + 237 + 0)), (3, .ref (b + 250)), (4, .int (mI i))] → mW g b KX X1 H1 → mW g (b + 237) KM M1 H1 → va_S (lA s) s.heap H1 locs1 → W p l e room_1 s m args below meth c H1 locs1 (cells + 4) (slots + 24) Q (F0 m 2540 ls1 [])) : W p l e room_1 s m args below meth c H locs cells slots Q (F0 m 2039 ls []) := by
  unfold wl_33 at h
  refine m_aload_n (pc := 2039) C.1 dL_law__2039 rfl hl 1 rfl ?_
  refine m_aload_n (pc := 2040) C.1 dL_law__2040 rfl hl 0 rfl ?_
  refine m_iload (pc := 2041) C.1 dL_law__2041 hl 4 rfl ?_
  refine m_iconst (pc := 2043) C.1 dL_law__2043 ?_
  refine m_iadd (pc := 2044) C.1 dL_law__2044 ?_
  refine l_sld (pc := 2045) C.1 C.2.2.2.2.1.1 C.2.2.2.2.1.2.1 hS (l_idx h0 h5 C.2.2.2.2.1.2.2 (by decide) (by decide)) dL_law__2045 ?_
  refine m_aload_n (pc := 2046) C.1 dL_law__2046 rfl hl 0 rfl ?_
  refine m_iload (pc := 2047) C.1 dL_law__2047 hl 4 rfl ?_
  refine m_iconst (pc := 2049) C.1 dL_law__2049 ?_
  refine m_iadd (pc := 2050) C.1 dL_law__2050 ?_
  refine l_sld (pc := 2051) C.1 C.2.2.2.2.1.1 C.2.2.2.2.1.2.1 hS (l_idx h0 h5 C.2.2.2.2.1.2.2 (by decide) (by decide)) dL_law__2051 ?_
  refine m_aload_n (pc := 2052) C.1 dL_law__2052 rfl hl 3 rfl ?_
  refine l_callSi (pc := 2053) (b := b) C.1 C.2.2.1 hl.1 C.2.1 C.2.2.2.2.2 hX hS (As := [.ref (b + 0), .int (mI (sA xs i 1)), .int (mI (sA xs i 2)), .ref (b + 250)]) (rest := []) (T_L_wears C.2.2.2.1 N 0 rfl (sA xs i 1) (sA_ok xs i 1) (sA xs i 2) (sA_ok xs i 2) 250 rfl h) q_1325 q_1326 q_80 q_1327 pl_L_wears ⟨rfl, rfl, by decide, by decide, by show _ ≤ 601024; omega, by show _ ≤ 7293034; omega⟩  (Nat.le_of_ble_eq_true rfl) dL_law__2053 (fun v1 X1 H1 locs ov1 h hX1 hk hS => ?_)
  replace hM := hM.apart hk l_apM
  clear hk
  refine m_istore (pc := 2056) C.1 dL_law__2056 hl (by decide) (fun v => [(5, .int v), (0, .ref sb), (1, .ref (b + 0)), (2, .ref (b + 237 + 0)), (3, .ref (b + 250)), (4, .int (mI i))]) (fun _ => rfl) ov1 (fun z5 ls ez5 oz5 hl => ?_)
  rw [ez5] at hl
  refine m_aload_n (pc := 2058) C.1 dL_law__2058 rfl hl 3 rfl ?_
  refine m_aload_n (pc := 2059) C.1 dL_law__2059 rfl hl 1 rfl ?_
  refine m_iload (pc := 2060) C.1 dL_law__2060 hl 5 rfl ?_
  refine m_iconst (pc := 2062) C.1 dL_law__2062 ?_
  refine m_iadd (pc := 2063) C.1 dL_law__2063 ?_
  refine l_sld (pc := 2064) C.1 C.2.2.2.2.1.1 C.2.2.2.2.1.2.1 hS (l_idx h0 h5 C.2.2.2.2.1.2.2 (by decide) (by decide)) dL_law__2064 ?_
  refine m_aload_n (pc := 2065) C.1 dL_law__2065 rfl hl 1 rfl ?_
  refine m_iload (pc := 2066) C.1 dL_law__2066 hl 5 rfl ?_
  refine m_iconst (pc := 2068) C.1 dL_law__2068 ?_
  refine m_iadd (pc := 2069) C.1 dL_law__2069 ?_
  refine l_sld (pc := 2070) C.1 C.2.2.2.2.1.1 C.2.2.2.2.1.2.1 hS (l_idx h0 h5 C.2.2.2.2.1.2.2 (by decide) (by decide)) dL_law__2070 ?_
  refine l_callVi (pc := 2071) (b := (b + 237)) C.1 C.2.2.1 hl.1 C.2.1 (Nat.le_trans C.2.2.2.2.2 (Nat.le_add_right _ _)) hM hS (As := [.int (mI (sA xs i 1)), .int (mI (sA xs i 2))]) (rest := []) (r := 0) (T_X12_wears C.2.2.2.1 N 0 rfl (sA xs i 1) (sA_ok xs i 1) (sA xs i 2) (sA_ok xs i 2) h) rfl rfl q_1804 q_1805 q_1806 q_92 q_1807 pl_X12_wears ⟨rfl, rfl, by decide, by decide, by show _ ≤ 601024; omega, by show _ ≤ 7293034; omega⟩ (Nat.le_of_ble_eq_true rfl) dL_law__2071 (fun v2 M2 H1 locs ov2 h hM2 hk hS => ?_)
  replace hX := hX1.apart hk l_apX
  clear hk
  refine m_istore (pc := 2074) C.1 dL_law__2074 hl (by decide) (fun v => [(6, .int v), (5, .int (mI v1)), (0, .ref sb), (1, .ref (b + 0)), (2, .ref (b + 237 + 0)), (3, .ref (b + 250)), (4, .int (mI i))]) (fun _ => rfl) ov2 (fun z6 ls ez6 oz6 hl => ?_)
  rw [ez6] at hl
  refine m_aload_n (pc := 2076) C.1 dL_law__2076 rfl hl 4 rfl ?_
  refine l_callVi (pc := 2077) (b := (b + 237)) C.1 C.2.2.1 hl.1 C.2.1 (Nat.le_trans C.2.2.2.2.2 (Nat.le_add_right _ _)) hM2 hS (As := []) (rest := []) (r := 0) (T_X12_thrown C.2.2.2.1 N 0 rfl h) rfl rfl q_1463 q_1464 q_1465 q_92 q_1466 pl_X12_thrown ⟨rfl, rfl, by decide, by decide, by show _ ≤ 601024; omega, by show _ ≤ 7293034; omega⟩ (Nat.le_of_ble_eq_true rfl) dL_law__2077 (fun v3 M3 H1 locs ov3 h hM3 hk hS => ?_)
  replace hX := hX.apart hk l_apX
  clear hk
  refine m_iload (pc := 2080) C.1 dL_law__2080 hl 1 rfl ?_
  refine m_icmp_eq (tgt := 2087) (pc := 2082) C.1 ov3 ov1 dL_law__2082 (by decide) (fun _ => ?_) (fun hc => absurd h.1 hc)
  refine m_iload (pc := 2087) C.1 dL_law__2087 hl 1 rfl ?_
  refine m_if_ne (tgt := 2104) (pc := 2089) C.1 ov1 dL_law__2089 (by decide) (fun hc => ?_) (fun hc => ?_)
  · refine m_goto (pc := 2104) C.1 (tgt := 2540) dL_law__2104 (by decide) ?_
    refine W.widen (k := cells + 4) (n := slots + 24) (by omega) (by omega) ?_
    exact kk X1 M3 _ _ _ h.2.2 (lv_sub hl [2, 3, 4, 5, 6] rfl) hX hM3 hS
  replace hc := h.2.1 hc
  refine m_aload_n (pc := 2092) C.1 dL_law__2092 rfl hl 5 rfl ?_
  refine m_iconst (pc := 2093) C.1 dL_law__2093 ?_
  refine l_lald (pc := 2094) C.1 C.2.1 hX (r := 250) rfl (by decide : okI 0) (by decide) (by decide) dL_law__2094 ?_
  refine m_iload (pc := 2095) C.1 dL_law__2095 hl 0 rfl ?_
  refine m_i2l (pc := 2097) C.1 ov2 dL_law__2097 ?_
  refine l_cmp (pc := 2098) C.1 hc (tgt := 2104) dL_law__2098 dL_law__2099 (by decide) ?_
  refine m_goto (pc := 2104) C.1 (tgt := 2540) dL_law__2104 (by decide) ?_
  refine W.widen (k := cells + 4) (n := slots + 24) (by omega) (by omega) ?_
  exact kk X1 M3 _ _ _ h.2.2 (lv_sub hl [2, 3, 4, 5, 6] rfl) hX hM3 hS
def wl_34 (N : Nat) (a1 a2 a3 a4 a5 : Int) (X M : mSt) (Kt : mSt → mSt → Prop) : Prop :=
  w_X11_like N 0 X (fun (X1 : mSt) (v1 : Int) => w_X12_like N 0 M (fun (M2 : mSt) (v2 : Int) => v1 = v2 ∧ Kt X1 M2))
theorem Wl_34 (C : lC p l s m args c g sb L xs b) (N : Nat) (hl : lv_has ls 7 [(0, .ref sb), (1, .ref (b + 0)), (2, .ref (b + 237 + 0)), (3, .ref (b + 250)), (4, .int (mI i))]) (hX : mW g b KX X H) (hM : mW g (b + 237) KM M H) (hS : va_S (lA s) s.heap H locs) (oi : okI i) (h0 : 0 ≤ i) (h5 : i + 5 < L) (hc : cells + 4 ≤ 601024) (hs : slots + 24 ≤ 7293034) (h : wl_34 N (sA xs i 1) (sA xs i 2) (sA xs i 3) (sA xs i 4) (sA xs i 5) X M Kt) (kk : ∀ (X1 M1 : mSt) (H1 : Heap) (locs1 : List Loc) (ls1 : Array Slot), Kt X1 M1 → lv_has ls1 7 [(0, .ref sb), (1, .ref (b + 0)), (2, .ref (b + 237 + 0)), (3, .ref (b + 250)), (4, .int (mI i))] → mW g b KX X1 H1 → mW g (b + 237) KM M1 H1 → va_S (lA s) s.heap H1 locs1 → W p l e room_1 s m args below meth c H1 locs1 (cells + 4) (slots + 24) Q (F0 m 2540 ls1 [])) : W p l e room_1 s m args below meth c H locs cells slots Q (F0 m 2107 ls []) := by
  unfold wl_34 at h
  refine m_aload_n (pc := 2107) C.1 dL_law__2107 rfl hl 1 rfl ?_
  refine l_callVi (pc := 2108) (b := b) C.1 C.2.2.1 hl.1 C.2.1 C.2.2.2.2.2 hX hS (As := []) (rest := []) (r := 0) (T_X11_like C.2.2.2.1 N 0 rfl h) rfl rfl q_567 q_568 q_569 q_81 q_570 pl_X11_like ⟨rfl, rfl, by decide, by decide, by show _ ≤ 601024; omega, by show _ ≤ 7293034; omega⟩ (Nat.le_of_ble_eq_true rfl) dL_law__2108 (fun v1 X1 H1 locs ov1 h hX1 hk hS => ?_)
  replace hM := hM.apart hk l_apM
  clear hk
  refine m_aload_n (pc := 2111) C.1 dL_law__2111 rfl hl 2 rfl ?_
  refine l_callVi (pc := 2112) (b := (b + 237)) C.1 C.2.2.1 hl.1 C.2.1 (Nat.le_trans C.2.2.2.2.2 (Nat.le_add_right _ _)) hM hS (As := []) (rest := [.int (mI v1)]) (r := 0) (T_X12_like C.2.2.2.1 N 0 rfl h) rfl rfl q_1876 q_1877 q_1878 q_92 q_1879 pl_X12_like ⟨rfl, rfl, by decide, by decide, by show _ ≤ 601024; omega, by show _ ≤ 7293034; omega⟩ (Nat.le_of_ble_eq_true rfl) dL_law__2112 (fun v2 M2 H1 locs ov2 h hM2 hk hS => ?_)
  replace hX := hX1.apart hk l_apX
  clear hk
  refine m_icmp_eq (tgt := 2540) (pc := 2115) C.1 ov1 ov2 dL_law__2115 (by decide) (fun _ => ?_) (fun hc => absurd h.1 hc)
  refine W.widen (k := cells + 4) (n := slots + 24) (by omega) (by omega) ?_
  exact kk X1 M2 _ _ _ h.2 (lv_sub hl [0, 1, 2, 3, 4] rfl) hX hM2 hS
def wl_35 (N : Nat) (a1 a2 a3 a4 a5 : Int) (X M : mSt) (Kt : mSt → mSt → Prop) : Prop :=
  w_X11_halves N 0 X (fun (X1 : mSt) (v1 : Int) => w_X12_halves N 0 M (fun (M2 : mSt) (v2 : Int) => v1 = v2 ∧ Kt X1 M2))
theorem Wl_35 (C : lC p l s m args c g sb L xs b) (N : Nat) (hl : lv_has ls 7 [(0, .ref sb), (1, .ref (b + 0)), (2, .ref (b + 237 + 0)), (3, .ref (b + 250)), (4, .int (mI i))]) (hX : mW g b KX X H) (hM : mW g (b + 237) KM M H) (hS : va_S (lA s) s.heap H locs) (oi : okI i) (h0 : 0 ≤ i) (h5 : i + 5 < L) (hc : cells + 4 ≤ 601024) (hs : slots + 24 ≤ 7293034) (h : wl_35 N (sA xs i 1) (sA xs i 2) (sA xs i 3) (sA xs i 4) (sA xs i 5) X M Kt) (kk : ∀ (X1 M1 : mSt) (H1 : Heap) (locs1 : List Loc) (ls1 : Array Slot), Kt X1 M1 → lv_has ls1 7 [(0, .ref sb), (1, .ref (b + 0)), (2, .ref (b + 237 + 0)), (3, .ref (b + 250)), (4, .int (mI i))] → mW g b KX X1 H1 → mW g (b + 237) KM M1 H1 → va_S (lA s) s.heap H1 locs1 → W p l e room_1 s m args below meth c H1 locs1 (cells + 4) (slots + 24) Q (F0 m 2540 ls1 [])) : W p l e room_1 s m args below meth c H locs cells slots Q (F0 m 2120 ls []) := by
  unfold wl_35 at h
  refine m_aload_n (pc := 2120) C.1 dL_law__2120 rfl hl 1 rfl ?_
  refine l_callVi (pc := 2121) (b := b) C.1 C.2.2.1 hl.1 C.2.1 C.2.2.2.2.2 hX hS (As := []) (rest := []) (r := 0) (T_X11_halves C.2.2.2.1 N 0 rfl h) rfl rfl q_560 q_561 q_562 q_81 q_563 pl_X11_halves ⟨rfl, rfl, by decide, by decide, by show _ ≤ 601024; omega, by show _ ≤ 7293034; omega⟩ (Nat.le_of_ble_eq_true rfl) dL_law__2121 (fun v1 X1 H1 locs ov1 h hX1 hk hS => ?_)
  replace hM := hM.apart hk l_apM
  clear hk
  refine m_aload_n (pc := 2124) C.1 dL_law__2124 rfl hl 2 rfl ?_
  refine l_callVi (pc := 2125) (b := (b + 237)) C.1 C.2.2.1 hl.1 C.2.1 (Nat.le_trans C.2.2.2.2.2 (Nat.le_add_right _ _)) hM hS (As := []) (rest := [.int (mI v1)]) (r := 0) (T_X12_halves C.2.2.2.1 N 0 rfl h) rfl rfl q_1872 q_1873 q_1874 q_92 q_1875 pl_X12_halves ⟨rfl, rfl, by decide, by decide, by show _ ≤ 601024; omega, by show _ ≤ 7293034; omega⟩ (Nat.le_of_ble_eq_true rfl) dL_law__2125 (fun v2 M2 H1 locs ov2 h hM2 hk hS => ?_)
  replace hX := hX1.apart hk l_apX
  clear hk
  refine m_icmp_eq (tgt := 2540) (pc := 2128) C.1 ov1 ov2 dL_law__2128 (by decide) (fun _ => ?_) (fun hc => absurd h.1 hc)
  refine W.widen (k := cells + 4) (n := slots + 24) (by omega) (by omega) ?_
  exact kk X1 M2 _ _ _ h.2 (lv_sub hl [0, 1, 2, 3, 4] rfl) hX hM2 hS
def wl_36 (N : Nat) (a1 a2 a3 a4 a5 : Int) (X M : mSt) (Kt : mSt → mSt → Prop) : Prop :=
  w_L_trial N 0 a1 (bI a2) 250 X (fun (X1 : mSt) (v1 : Int) => w_X12_trial N 0 a1 (bI a2) M (fun (M2 : mSt) (v2 : Int) => w_X12_thrown N 0 M2 (fun (M3 : mSt) (v3 : Int) => v3 = v1 ∧ (v1 = 0 → (X1 250 0) = v2) ∧ Kt X1 M3)))
theorem Wl_36 (C : lC p l s m args c g sb L xs b) (N : Nat) (hl : lv_has ls 7 [(0, .ref sb), (1, .ref (b + 0)), (2, .ref (b + 237 + 0)), (3, .ref (b + 250)), (4, .int (mI i))]) (hX : mW g b KX X H) (hM : mW g (b + 237) KM M H) (hS : va_S (lA s) s.heap H locs) (oi : okI i) (h0 : 0 ≤ i) (h5 : i + 5 < L) (hc : cells + 4 ≤ 601024) (hs : slots + 24 ≤ 7293034) (h : wl_36 N (sA xs i 1) (sA xs i 2) (sA xs i 3) (sA xs i 4) (sA xs i 5) X M Kt) (kk : ∀ (X1 M1 : mSt) (H1 : Heap) (locs1 : List Loc) (ls1 : Array Slot), Kt X1 M1 → lv_has ls1 7 [(0, .ref sb), (1, .ref (b + 0)), (2, .ref (b + 237 + 0)), (3, .ref (b + 250)), (4, .int (mI i))] → mW g b KX X1 H1 → mW g (b + 237) KM M1 H1 → va_S (lA s) s.heap H1 locs1 → W p l e room_1 s m args below meth c H1 locs1 (cells + 4) (slots + 24) Q (F0 m 2540 ls1 [])) : W p l e room_1 s m args below meth c H locs cells slots Q (F0 m 2133 ls []) := by
  unfold wl_36 at h
  refine m_aload_n (pc := 2133) C.1 dL_law__2133 rfl hl 1 rfl ?_
  refine m_aload_n (pc := 2134) C.1 dL_law__2134 rfl hl 0 rfl ?_
  refine m_iload (pc := 2135) C.1 dL_law__2135 hl 4 rfl ?_
  refine m_iconst (pc := 2137) C.1 dL_law__2137 ?_
  refine m_iadd (pc := 2138) C.1 dL_law__2138 ?_
  refine l_sld (pc := 2139) C.1 C.2.2.2.2.1.1 C.2.2.2.2.1.2.1 hS (l_idx h0 h5 C.2.2.2.2.1.2.2 (by decide) (by decide)) dL_law__2139 ?_
  refine m_aload_n (pc := 2140) C.1 dL_law__2140 rfl hl 0 rfl ?_
  refine m_iload (pc := 2141) C.1 dL_law__2141 hl 4 rfl ?_
  refine m_iconst (pc := 2143) C.1 dL_law__2143 ?_
  refine m_iadd (pc := 2144) C.1 dL_law__2144 ?_
  refine l_sld (pc := 2145) C.1 C.2.2.2.2.1.1 C.2.2.2.2.1.2.1 hS (l_idx h0 h5 C.2.2.2.2.1.2.2 (by decide) (by decide)) dL_law__2145 ?_
  refine l_bool (pc := 2146) C.1 (sA_ok xs i 2) dL_law__2146 dL_law__2149 dL_law__2150 dL_law__2153 ?_
  refine m_aload_n (pc := 2154) C.1 dL_law__2154 rfl hl 3 rfl ?_
  refine l_callSi (pc := 2155) (b := b) C.1 C.2.2.1 hl.1 C.2.1 C.2.2.2.2.2 hX hS (As := [.ref (b + 0), .int (mI (sA xs i 1)), .int (mI (bI (sA xs i 2))), .ref (b + 250)]) (rest := []) (T_L_trial C.2.2.2.1 N 0 rfl (sA xs i 1) (sA_ok xs i 1) (bI (sA xs i 2)) (bI_ok _) 250 rfl h) q_1332 q_1333 q_80 q_1334 pl_L_trial ⟨rfl, rfl, by decide, by decide, by show _ ≤ 601024; omega, by show _ ≤ 7293034; omega⟩  (Nat.le_of_ble_eq_true rfl) dL_law__2155 (fun v1 X1 H1 locs ov1 h hX1 hk hS => ?_)
  replace hM := hM.apart hk l_apM
  clear hk
  refine m_istore (pc := 2158) C.1 dL_law__2158 hl (by decide) (fun v => [(5, .int v), (0, .ref sb), (1, .ref (b + 0)), (2, .ref (b + 237 + 0)), (3, .ref (b + 250)), (4, .int (mI i))]) (fun _ => rfl) ov1 (fun z5 ls ez5 oz5 hl => ?_)
  rw [ez5] at hl
  refine m_aload_n (pc := 2160) C.1 dL_law__2160 rfl hl 3 rfl ?_
  refine m_aload_n (pc := 2161) C.1 dL_law__2161 rfl hl 1 rfl ?_
  refine m_iload (pc := 2162) C.1 dL_law__2162 hl 5 rfl ?_
  refine m_iconst (pc := 2164) C.1 dL_law__2164 ?_
  refine m_iadd (pc := 2165) C.1 dL_law__2165 ?_
  refine l_sld (pc := 2166) C.1 C.2.2.2.2.1.1 C.2.2.2.2.1.2.1 hS (l_idx h0 h5 C.2.2.2.2.1.2.2 (by decide) (by decide)) dL_law__2166 ?_
  refine m_aload_n (pc := 2167) C.1 dL_law__2167 rfl hl 1 rfl ?_
  refine m_iload (pc := 2168) C.1 dL_law__2168 hl 5 rfl ?_
  refine m_iconst (pc := 2170) C.1 dL_law__2170 ?_
  refine m_iadd (pc := 2171) C.1 dL_law__2171 ?_
  refine l_sld (pc := 2172) C.1 C.2.2.2.2.1.1 C.2.2.2.2.1.2.1 hS (l_idx h0 h5 C.2.2.2.2.1.2.2 (by decide) (by decide)) dL_law__2172 ?_
  refine l_bool (pc := 2173) C.1 (sA_ok xs i 2) dL_law__2173 dL_law__2176 dL_law__2177 dL_law__2180 ?_
  refine l_callVi (pc := 2181) (b := (b + 237)) C.1 C.2.2.1 hl.1 C.2.1 (Nat.le_trans C.2.2.2.2.2 (Nat.le_add_right _ _)) hM hS (As := [.int (mI (sA xs i 1)), .int (mI (bI (sA xs i 2)))]) (rest := []) (r := 0) (T_X12_trial C.2.2.2.1 N 0 rfl (sA xs i 1) (sA_ok xs i 1) (bI (sA xs i 2)) (bI_ok _) h) rfl rfl q_1880 q_1881 q_1882 q_92 q_1883 pl_X12_trial ⟨rfl, rfl, by decide, by decide, by show _ ≤ 601024; omega, by show _ ≤ 7293034; omega⟩ (Nat.le_of_ble_eq_true rfl) dL_law__2181 (fun v2 M2 H1 locs ov2 h hM2 hk hS => ?_)
  replace hX := hX1.apart hk l_apX
  clear hk
  refine m_istore (pc := 2184) C.1 dL_law__2184 hl (by decide) (fun v => [(6, .int v), (5, .int (mI v1)), (0, .ref sb), (1, .ref (b + 0)), (2, .ref (b + 237 + 0)), (3, .ref (b + 250)), (4, .int (mI i))]) (fun _ => rfl) ov2 (fun z6 ls ez6 oz6 hl => ?_)
  rw [ez6] at hl
  refine m_aload_n (pc := 2186) C.1 dL_law__2186 rfl hl 4 rfl ?_
  refine l_callVi (pc := 2187) (b := (b + 237)) C.1 C.2.2.1 hl.1 C.2.1 (Nat.le_trans C.2.2.2.2.2 (Nat.le_add_right _ _)) hM2 hS (As := []) (rest := []) (r := 0) (T_X12_thrown C.2.2.2.1 N 0 rfl h) rfl rfl q_1463 q_1464 q_1465 q_92 q_1466 pl_X12_thrown ⟨rfl, rfl, by decide, by decide, by show _ ≤ 601024; omega, by show _ ≤ 7293034; omega⟩ (Nat.le_of_ble_eq_true rfl) dL_law__2187 (fun v3 M3 H1 locs ov3 h hM3 hk hS => ?_)
  replace hX := hX.apart hk l_apX
  clear hk
  refine m_iload (pc := 2190) C.1 dL_law__2190 hl 1 rfl ?_
  refine m_icmp_eq (tgt := 2197) (pc := 2192) C.1 ov3 ov1 dL_law__2192 (by decide) (fun _ => ?_) (fun hc => absurd h.1 hc)
  refine m_iload (pc := 2197) C.1 dL_law__2197 hl 1 rfl ?_
  refine m_if_ne (tgt := 2214) (pc := 2199) C.1 ov1 dL_law__2199 (by decide) (fun hc => ?_) (fun hc => ?_)
  · refine m_goto (pc := 2214) C.1 (tgt := 2540) dL_law__2214 (by decide) ?_
    refine W.widen (k := cells + 4) (n := slots + 24) (by omega) (by omega) ?_
    exact kk X1 M3 _ _ _ h.2.2 (lv_sub hl [2, 3, 4, 5, 6] rfl) hX hM3 hS
  replace hc := h.2.1 hc
  refine m_aload_n (pc := 2202) C.1 dL_law__2202 rfl hl 5 rfl ?_
  refine m_iconst (pc := 2203) C.1 dL_law__2203 ?_
  refine l_lald (pc := 2204) C.1 C.2.1 hX (r := 250) rfl (by decide : okI 0) (by decide) (by decide) dL_law__2204 ?_
  refine m_iload (pc := 2205) C.1 dL_law__2205 hl 0 rfl ?_
  refine m_i2l (pc := 2207) C.1 ov2 dL_law__2207 ?_
  refine l_cmp (pc := 2208) C.1 hc (tgt := 2214) dL_law__2208 dL_law__2209 (by decide) ?_
  refine m_goto (pc := 2214) C.1 (tgt := 2540) dL_law__2214 (by decide) ?_
  refine W.widen (k := cells + 4) (n := slots + 24) (by omega) (by omega) ?_
  exact kk X1 M3 _ _ _ h.2.2 (lv_sub hl [2, 3, 4, 5, 6] rfl) hX hM3 hS
def wl_37 (N : Nat) (a1 a2 a3 a4 a5 : Int) (X M : mSt) (Kt : mSt → mSt → Prop) : Prop :=
  w_L_span N 0 a1 (bI a2) 250 X (fun (X1 : mSt) (v1 : Int) => w_X12_span N 0 a1 (bI a2) M (fun (M2 : mSt) (v2 : Int) => w_X12_thrown N 0 M2 (fun (M3 : mSt) (v3 : Int) => v3 = v1 ∧ (v1 = 0 → (X1 250 0) = v2) ∧ Kt X1 M3)))
theorem Wl_37 (C : lC p l s m args c g sb L xs b) (N : Nat) (hl : lv_has ls 7 [(0, .ref sb), (1, .ref (b + 0)), (2, .ref (b + 237 + 0)), (3, .ref (b + 250)), (4, .int (mI i))]) (hX : mW g b KX X H) (hM : mW g (b + 237) KM M H) (hS : va_S (lA s) s.heap H locs) (oi : okI i) (h0 : 0 ≤ i) (h5 : i + 5 < L) (hc : cells + 4 ≤ 601024) (hs : slots + 24 ≤ 7293034) (h : wl_37 N (sA xs i 1) (sA xs i 2) (sA xs i 3) (sA xs i 4) (sA xs i 5) X M Kt) (kk : ∀ (X1 M1 : mSt) (H1 : Heap) (locs1 : List Loc) (ls1 : Array Slot), Kt X1 M1 → lv_has ls1 7 [(0, .ref sb), (1, .ref (b + 0)), (2, .ref (b + 237 + 0)), (3, .ref (b + 250)), (4, .int (mI i))] → mW g b KX X1 H1 → mW g (b + 237) KM M1 H1 → va_S (lA s) s.heap H1 locs1 → W p l e room_1 s m args below meth c H1 locs1 (cells + 4) (slots + 24) Q (F0 m 2540 ls1 [])) : W p l e room_1 s m args below meth c H locs cells slots Q (F0 m 2217 ls []) := by
  unfold wl_37 at h
  refine m_aload_n (pc := 2217) C.1 dL_law__2217 rfl hl 1 rfl ?_
  refine m_aload_n (pc := 2218) C.1 dL_law__2218 rfl hl 0 rfl ?_
  refine m_iload (pc := 2219) C.1 dL_law__2219 hl 4 rfl ?_
  refine m_iconst (pc := 2221) C.1 dL_law__2221 ?_
  refine m_iadd (pc := 2222) C.1 dL_law__2222 ?_
  refine l_sld (pc := 2223) C.1 C.2.2.2.2.1.1 C.2.2.2.2.1.2.1 hS (l_idx h0 h5 C.2.2.2.2.1.2.2 (by decide) (by decide)) dL_law__2223 ?_
  refine m_aload_n (pc := 2224) C.1 dL_law__2224 rfl hl 0 rfl ?_
  refine m_iload (pc := 2225) C.1 dL_law__2225 hl 4 rfl ?_
  refine m_iconst (pc := 2227) C.1 dL_law__2227 ?_
  refine m_iadd (pc := 2228) C.1 dL_law__2228 ?_
  refine l_sld (pc := 2229) C.1 C.2.2.2.2.1.1 C.2.2.2.2.1.2.1 hS (l_idx h0 h5 C.2.2.2.2.1.2.2 (by decide) (by decide)) dL_law__2229 ?_
  refine l_bool (pc := 2230) C.1 (sA_ok xs i 2) dL_law__2230 dL_law__2233 dL_law__2234 dL_law__2237 ?_
  refine m_aload_n (pc := 2238) C.1 dL_law__2238 rfl hl 3 rfl ?_
  refine l_callSi (pc := 2239) (b := b) C.1 C.2.2.1 hl.1 C.2.1 C.2.2.2.2.2 hX hS (As := [.ref (b + 0), .int (mI (sA xs i 1)), .int (mI (bI (sA xs i 2))), .ref (b + 250)]) (rest := []) (T_L_span C.2.2.2.1 N 0 rfl (sA xs i 1) (sA_ok xs i 1) (bI (sA xs i 2)) (bI_ok _) 250 rfl h) q_1348 q_1349 q_80 q_1350 pl_L_span ⟨rfl, rfl, by decide, by decide, by show _ ≤ 601024; omega, by show _ ≤ 7293034; omega⟩  (Nat.le_of_ble_eq_true rfl) dL_law__2239 (fun v1 X1 H1 locs ov1 h hX1 hk hS => ?_)
  replace hM := hM.apart hk l_apM
  clear hk
  refine m_istore (pc := 2242) C.1 dL_law__2242 hl (by decide) (fun v => [(5, .int v), (0, .ref sb), (1, .ref (b + 0)), (2, .ref (b + 237 + 0)), (3, .ref (b + 250)), (4, .int (mI i))]) (fun _ => rfl) ov1 (fun z5 ls ez5 oz5 hl => ?_)
  rw [ez5] at hl
  refine m_aload_n (pc := 2244) C.1 dL_law__2244 rfl hl 3 rfl ?_
  refine m_aload_n (pc := 2245) C.1 dL_law__2245 rfl hl 1 rfl ?_
  refine m_iload (pc := 2246) C.1 dL_law__2246 hl 5 rfl ?_
  refine m_iconst (pc := 2248) C.1 dL_law__2248 ?_
  refine m_iadd (pc := 2249) C.1 dL_law__2249 ?_
  refine l_sld (pc := 2250) C.1 C.2.2.2.2.1.1 C.2.2.2.2.1.2.1 hS (l_idx h0 h5 C.2.2.2.2.1.2.2 (by decide) (by decide)) dL_law__2250 ?_
  refine m_aload_n (pc := 2251) C.1 dL_law__2251 rfl hl 1 rfl ?_
  refine m_iload (pc := 2252) C.1 dL_law__2252 hl 5 rfl ?_
  refine m_iconst (pc := 2254) C.1 dL_law__2254 ?_
  refine m_iadd (pc := 2255) C.1 dL_law__2255 ?_
  refine l_sld (pc := 2256) C.1 C.2.2.2.2.1.1 C.2.2.2.2.1.2.1 hS (l_idx h0 h5 C.2.2.2.2.1.2.2 (by decide) (by decide)) dL_law__2256 ?_
  refine l_bool (pc := 2257) C.1 (sA_ok xs i 2) dL_law__2257 dL_law__2260 dL_law__2261 dL_law__2264 ?_
  refine l_callVi (pc := 2265) (b := (b + 237)) C.1 C.2.2.1 hl.1 C.2.1 (Nat.le_trans C.2.2.2.2.2 (Nat.le_add_right _ _)) hM hS (As := [.int (mI (sA xs i 1)), .int (mI (bI (sA xs i 2)))]) (rest := []) (r := 0) (T_X12_span C.2.2.2.1 N 0 rfl (sA xs i 1) (sA_ok xs i 1) (bI (sA xs i 2)) (bI_ok _) h) rfl rfl q_1888 q_1889 q_1890 q_92 q_1891 pl_X12_span ⟨rfl, rfl, by decide, by decide, by show _ ≤ 601024; omega, by show _ ≤ 7293034; omega⟩ (Nat.le_of_ble_eq_true rfl) dL_law__2265 (fun v2 M2 H1 locs ov2 h hM2 hk hS => ?_)
  replace hX := hX1.apart hk l_apX
  clear hk
  refine m_istore (pc := 2268) C.1 dL_law__2268 hl (by decide) (fun v => [(6, .int v), (5, .int (mI v1)), (0, .ref sb), (1, .ref (b + 0)), (2, .ref (b + 237 + 0)), (3, .ref (b + 250)), (4, .int (mI i))]) (fun _ => rfl) ov2 (fun z6 ls ez6 oz6 hl => ?_)
  rw [ez6] at hl
  refine m_aload_n (pc := 2270) C.1 dL_law__2270 rfl hl 4 rfl ?_
  refine l_callVi (pc := 2271) (b := (b + 237)) C.1 C.2.2.1 hl.1 C.2.1 (Nat.le_trans C.2.2.2.2.2 (Nat.le_add_right _ _)) hM2 hS (As := []) (rest := []) (r := 0) (T_X12_thrown C.2.2.2.1 N 0 rfl h) rfl rfl q_1463 q_1464 q_1465 q_92 q_1466 pl_X12_thrown ⟨rfl, rfl, by decide, by decide, by show _ ≤ 601024; omega, by show _ ≤ 7293034; omega⟩ (Nat.le_of_ble_eq_true rfl) dL_law__2271 (fun v3 M3 H1 locs ov3 h hM3 hk hS => ?_)
  replace hX := hX.apart hk l_apX
  clear hk
  refine m_iload (pc := 2274) C.1 dL_law__2274 hl 1 rfl ?_
  refine m_icmp_eq (tgt := 2281) (pc := 2276) C.1 ov3 ov1 dL_law__2276 (by decide) (fun _ => ?_) (fun hc => absurd h.1 hc)
  refine m_iload (pc := 2281) C.1 dL_law__2281 hl 1 rfl ?_
  refine m_if_ne (tgt := 2298) (pc := 2283) C.1 ov1 dL_law__2283 (by decide) (fun hc => ?_) (fun hc => ?_)
  · refine m_goto (pc := 2298) C.1 (tgt := 2540) dL_law__2298 (by decide) ?_
    refine W.widen (k := cells + 4) (n := slots + 24) (by omega) (by omega) ?_
    exact kk X1 M3 _ _ _ h.2.2 (lv_sub hl [2, 3, 4, 5, 6] rfl) hX hM3 hS
  replace hc := h.2.1 hc
  refine m_aload_n (pc := 2286) C.1 dL_law__2286 rfl hl 5 rfl ?_
  refine m_iconst (pc := 2287) C.1 dL_law__2287 ?_
  refine l_lald (pc := 2288) C.1 C.2.1 hX (r := 250) rfl (by decide : okI 0) (by decide) (by decide) dL_law__2288 ?_
  refine m_iload (pc := 2289) C.1 dL_law__2289 hl 0 rfl ?_
  refine m_i2l (pc := 2291) C.1 ov2 dL_law__2291 ?_
  refine l_cmp (pc := 2292) C.1 hc (tgt := 2298) dL_law__2292 dL_law__2293 (by decide) ?_
  refine m_goto (pc := 2298) C.1 (tgt := 2540) dL_law__2298 (by decide) ?_
  refine W.widen (k := cells + 4) (n := slots + 24) (by omega) (by omega) ?_
  exact kk X1 M3 _ _ _ h.2.2 (lv_sub hl [2, 3, 4, 5, 6] rfl) hX hM3 hS
def wl_38 (N : Nat) (a1 a2 a3 a4 a5 : Int) (X M : mSt) (Kt : mSt → mSt → Prop) : Prop :=
  w_L_led N 0 a1 (bI a2) 250 X (fun (X1 : mSt) (v1 : Int) => w_X12_led N 0 a1 (bI a2) M (fun (M2 : mSt) (v2 : Int) => w_X12_thrown N 0 M2 (fun (M3 : mSt) (v3 : Int) => v3 = v1 ∧ (v1 = 0 → (X1 250 0) = v2) ∧ Kt X1 M3)))
theorem Wl_38 (C : lC p l s m args c g sb L xs b) (N : Nat) (hl : lv_has ls 7 [(0, .ref sb), (1, .ref (b + 0)), (2, .ref (b + 237 + 0)), (3, .ref (b + 250)), (4, .int (mI i))]) (hX : mW g b KX X H) (hM : mW g (b + 237) KM M H) (hS : va_S (lA s) s.heap H locs) (oi : okI i) (h0 : 0 ≤ i) (h5 : i + 5 < L) (hc : cells + 4 ≤ 601024) (hs : slots + 24 ≤ 7293034) (h : wl_38 N (sA xs i 1) (sA xs i 2) (sA xs i 3) (sA xs i 4) (sA xs i 5) X M Kt) (kk : ∀ (X1 M1 : mSt) (H1 : Heap) (locs1 : List Loc) (ls1 : Array Slot), Kt X1 M1 → lv_has ls1 7 [(0, .ref sb), (1, .ref (b + 0)), (2, .ref (b + 237 + 0)), (3, .ref (b + 250)), (4, .int (mI i))] → mW g b KX X1 H1 → mW g (b + 237) KM M1 H1 → va_S (lA s) s.heap H1 locs1 → W p l e room_1 s m args below meth c H1 locs1 (cells + 4) (slots + 24) Q (F0 m 2540 ls1 [])) : W p l e room_1 s m args below meth c H locs cells slots Q (F0 m 2301 ls []) := by
  unfold wl_38 at h
  refine m_aload_n (pc := 2301) C.1 dL_law__2301 rfl hl 1 rfl ?_
  refine m_aload_n (pc := 2302) C.1 dL_law__2302 rfl hl 0 rfl ?_
  refine m_iload (pc := 2303) C.1 dL_law__2303 hl 4 rfl ?_
  refine m_iconst (pc := 2305) C.1 dL_law__2305 ?_
  refine m_iadd (pc := 2306) C.1 dL_law__2306 ?_
  refine l_sld (pc := 2307) C.1 C.2.2.2.2.1.1 C.2.2.2.2.1.2.1 hS (l_idx h0 h5 C.2.2.2.2.1.2.2 (by decide) (by decide)) dL_law__2307 ?_
  refine m_aload_n (pc := 2308) C.1 dL_law__2308 rfl hl 0 rfl ?_
  refine m_iload (pc := 2309) C.1 dL_law__2309 hl 4 rfl ?_
  refine m_iconst (pc := 2311) C.1 dL_law__2311 ?_
  refine m_iadd (pc := 2312) C.1 dL_law__2312 ?_
  refine l_sld (pc := 2313) C.1 C.2.2.2.2.1.1 C.2.2.2.2.1.2.1 hS (l_idx h0 h5 C.2.2.2.2.1.2.2 (by decide) (by decide)) dL_law__2313 ?_
  refine l_bool (pc := 2314) C.1 (sA_ok xs i 2) dL_law__2314 dL_law__2317 dL_law__2318 dL_law__2321 ?_
  refine m_aload_n (pc := 2322) C.1 dL_law__2322 rfl hl 3 rfl ?_
  refine l_callSi (pc := 2323) (b := b) C.1 C.2.2.1 hl.1 C.2.1 C.2.2.2.2.2 hX hS (As := [.ref (b + 0), .int (mI (sA xs i 1)), .int (mI (bI (sA xs i 2))), .ref (b + 250)]) (rest := []) (T_L_led C.2.2.2.1 N 0 rfl (sA xs i 1) (sA_ok xs i 1) (bI (sA xs i 2)) (bI_ok _) 250 rfl h) q_1355 q_1356 q_80 q_1357 pl_L_led ⟨rfl, rfl, by decide, by decide, by show _ ≤ 601024; omega, by show _ ≤ 7293034; omega⟩  (Nat.le_of_ble_eq_true rfl) dL_law__2323 (fun v1 X1 H1 locs ov1 h hX1 hk hS => ?_)
  replace hM := hM.apart hk l_apM
  clear hk
  refine m_istore (pc := 2326) C.1 dL_law__2326 hl (by decide) (fun v => [(5, .int v), (0, .ref sb), (1, .ref (b + 0)), (2, .ref (b + 237 + 0)), (3, .ref (b + 250)), (4, .int (mI i))]) (fun _ => rfl) ov1 (fun z5 ls ez5 oz5 hl => ?_)
  rw [ez5] at hl
  refine m_aload_n (pc := 2328) C.1 dL_law__2328 rfl hl 3 rfl ?_
  refine m_aload_n (pc := 2329) C.1 dL_law__2329 rfl hl 1 rfl ?_
  refine m_iload (pc := 2330) C.1 dL_law__2330 hl 5 rfl ?_
  refine m_iconst (pc := 2332) C.1 dL_law__2332 ?_
  refine m_iadd (pc := 2333) C.1 dL_law__2333 ?_
  refine l_sld (pc := 2334) C.1 C.2.2.2.2.1.1 C.2.2.2.2.1.2.1 hS (l_idx h0 h5 C.2.2.2.2.1.2.2 (by decide) (by decide)) dL_law__2334 ?_
  refine m_aload_n (pc := 2335) C.1 dL_law__2335 rfl hl 1 rfl ?_
  refine m_iload (pc := 2336) C.1 dL_law__2336 hl 5 rfl ?_
  refine m_iconst (pc := 2338) C.1 dL_law__2338 ?_
  refine m_iadd (pc := 2339) C.1 dL_law__2339 ?_
  refine l_sld (pc := 2340) C.1 C.2.2.2.2.1.1 C.2.2.2.2.1.2.1 hS (l_idx h0 h5 C.2.2.2.2.1.2.2 (by decide) (by decide)) dL_law__2340 ?_
  refine l_bool (pc := 2341) C.1 (sA_ok xs i 2) dL_law__2341 dL_law__2344 dL_law__2345 dL_law__2348 ?_
  refine l_callVi (pc := 2349) (b := (b + 237)) C.1 C.2.2.1 hl.1 C.2.1 (Nat.le_trans C.2.2.2.2.2 (Nat.le_add_right _ _)) hM hS (As := [.int (mI (sA xs i 1)), .int (mI (bI (sA xs i 2)))]) (rest := []) (r := 0) (T_X12_led C.2.2.2.1 N 0 rfl (sA xs i 1) (sA_ok xs i 1) (bI (sA xs i 2)) (bI_ok _) h) rfl rfl q_1892 q_1893 q_1894 q_92 q_1895 pl_X12_led ⟨rfl, rfl, by decide, by decide, by show _ ≤ 601024; omega, by show _ ≤ 7293034; omega⟩ (Nat.le_of_ble_eq_true rfl) dL_law__2349 (fun v2 M2 H1 locs ov2 h hM2 hk hS => ?_)
  replace hX := hX1.apart hk l_apX
  clear hk
  refine m_istore (pc := 2352) C.1 dL_law__2352 hl (by decide) (fun v => [(6, .int v), (5, .int (mI v1)), (0, .ref sb), (1, .ref (b + 0)), (2, .ref (b + 237 + 0)), (3, .ref (b + 250)), (4, .int (mI i))]) (fun _ => rfl) ov2 (fun z6 ls ez6 oz6 hl => ?_)
  rw [ez6] at hl
  refine m_aload_n (pc := 2354) C.1 dL_law__2354 rfl hl 4 rfl ?_
  refine l_callVi (pc := 2355) (b := (b + 237)) C.1 C.2.2.1 hl.1 C.2.1 (Nat.le_trans C.2.2.2.2.2 (Nat.le_add_right _ _)) hM2 hS (As := []) (rest := []) (r := 0) (T_X12_thrown C.2.2.2.1 N 0 rfl h) rfl rfl q_1463 q_1464 q_1465 q_92 q_1466 pl_X12_thrown ⟨rfl, rfl, by decide, by decide, by show _ ≤ 601024; omega, by show _ ≤ 7293034; omega⟩ (Nat.le_of_ble_eq_true rfl) dL_law__2355 (fun v3 M3 H1 locs ov3 h hM3 hk hS => ?_)
  replace hX := hX.apart hk l_apX
  clear hk
  refine m_iload (pc := 2358) C.1 dL_law__2358 hl 1 rfl ?_
  refine m_icmp_eq (tgt := 2365) (pc := 2360) C.1 ov3 ov1 dL_law__2360 (by decide) (fun _ => ?_) (fun hc => absurd h.1 hc)
  refine m_iload (pc := 2365) C.1 dL_law__2365 hl 1 rfl ?_
  refine m_if_ne (tgt := 2382) (pc := 2367) C.1 ov1 dL_law__2367 (by decide) (fun hc => ?_) (fun hc => ?_)
  · refine m_goto (pc := 2382) C.1 (tgt := 2540) dL_law__2382 (by decide) ?_
    refine W.widen (k := cells + 4) (n := slots + 24) (by omega) (by omega) ?_
    exact kk X1 M3 _ _ _ h.2.2 (lv_sub hl [2, 3, 4, 5, 6] rfl) hX hM3 hS
  replace hc := h.2.1 hc
  refine m_aload_n (pc := 2370) C.1 dL_law__2370 rfl hl 5 rfl ?_
  refine m_iconst (pc := 2371) C.1 dL_law__2371 ?_
  refine l_lald (pc := 2372) C.1 C.2.1 hX (r := 250) rfl (by decide : okI 0) (by decide) (by decide) dL_law__2372 ?_
  refine m_iload (pc := 2373) C.1 dL_law__2373 hl 0 rfl ?_
  refine m_i2l (pc := 2375) C.1 ov2 dL_law__2375 ?_
  refine l_cmp (pc := 2376) C.1 hc (tgt := 2382) dL_law__2376 dL_law__2377 (by decide) ?_
  refine m_goto (pc := 2382) C.1 (tgt := 2540) dL_law__2382 (by decide) ?_
  refine W.widen (k := cells + 4) (n := slots + 24) (by omega) (by omega) ?_
  exact kk X1 M3 _ _ _ h.2.2 (lv_sub hl [2, 3, 4, 5, 6] rfl) hX hM3 hS
def wl_39 (N : Nat) (a1 a2 a3 a4 a5 : Int) (X M : mSt) (Kt : mSt → mSt → Prop) : Prop :=
  w_L_log N 0 a1 a2 250 X (fun (X1 : mSt) (v1 : Int) => w_X12_log N 0 a1 a2 M (fun (M2 : mSt) (v2 : Int) => w_X12_thrown N 0 M2 (fun (M3 : mSt) (v3 : Int) => v3 = v1 ∧ (v1 = 0 → (X1 250 0) = v2) ∧ Kt X1 M3)))
theorem Wl_39 (C : lC p l s m args c g sb L xs b) (N : Nat) (hl : lv_has ls 7 [(0, .ref sb), (1, .ref (b + 0)), (2, .ref (b + 237 + 0)), (3, .ref (b + 250)), (4, .int (mI i))]) (hX : mW g b KX X H) (hM : mW g (b + 237) KM M H) (hS : va_S (lA s) s.heap H locs) (oi : okI i) (h0 : 0 ≤ i) (h5 : i + 5 < L) (hc : cells + 4 ≤ 601024) (hs : slots + 24 ≤ 7293034) (h : wl_39 N (sA xs i 1) (sA xs i 2) (sA xs i 3) (sA xs i 4) (sA xs i 5) X M Kt) (kk : ∀ (X1 M1 : mSt) (H1 : Heap) (locs1 : List Loc) (ls1 : Array Slot), Kt X1 M1 → lv_has ls1 7 [(0, .ref sb), (1, .ref (b + 0)), (2, .ref (b + 237 + 0)), (3, .ref (b + 250)), (4, .int (mI i))] → mW g b KX X1 H1 → mW g (b + 237) KM M1 H1 → va_S (lA s) s.heap H1 locs1 → W p l e room_1 s m args below meth c H1 locs1 (cells + 4) (slots + 24) Q (F0 m 2540 ls1 [])) : W p l e room_1 s m args below meth c H locs cells slots Q (F0 m 2385 ls []) := by
  unfold wl_39 at h
  refine m_aload_n (pc := 2385) C.1 dL_law__2385 rfl hl 1 rfl ?_
  refine m_aload_n (pc := 2386) C.1 dL_law__2386 rfl hl 0 rfl ?_
  refine m_iload (pc := 2387) C.1 dL_law__2387 hl 4 rfl ?_
  refine m_iconst (pc := 2389) C.1 dL_law__2389 ?_
  refine m_iadd (pc := 2390) C.1 dL_law__2390 ?_
  refine l_sld (pc := 2391) C.1 C.2.2.2.2.1.1 C.2.2.2.2.1.2.1 hS (l_idx h0 h5 C.2.2.2.2.1.2.2 (by decide) (by decide)) dL_law__2391 ?_
  refine m_aload_n (pc := 2392) C.1 dL_law__2392 rfl hl 0 rfl ?_
  refine m_iload (pc := 2393) C.1 dL_law__2393 hl 4 rfl ?_
  refine m_iconst (pc := 2395) C.1 dL_law__2395 ?_
  refine m_iadd (pc := 2396) C.1 dL_law__2396 ?_
  refine l_sld (pc := 2397) C.1 C.2.2.2.2.1.1 C.2.2.2.2.1.2.1 hS (l_idx h0 h5 C.2.2.2.2.1.2.2 (by decide) (by decide)) dL_law__2397 ?_
  refine m_aload_n (pc := 2398) C.1 dL_law__2398 rfl hl 3 rfl ?_
  refine l_callSi (pc := 2399) (b := b) C.1 C.2.2.1 hl.1 C.2.1 C.2.2.2.2.2 hX hS (As := [.ref (b + 0), .int (mI (sA xs i 1)), .int (mI (sA xs i 2)), .ref (b + 250)]) (rest := []) (T_L_log C.2.2.2.1 N 0 rfl (sA xs i 1) (sA_ok xs i 1) (sA xs i 2) (sA_ok xs i 2) 250 rfl h) q_1366 q_1367 q_80 q_1368 pl_L_log ⟨rfl, rfl, by decide, by decide, by show _ ≤ 601024; omega, by show _ ≤ 7293034; omega⟩  (Nat.le_of_ble_eq_true rfl) dL_law__2399 (fun v1 X1 H1 locs ov1 h hX1 hk hS => ?_)
  replace hM := hM.apart hk l_apM
  clear hk
  refine m_istore (pc := 2402) C.1 dL_law__2402 hl (by decide) (fun v => [(5, .int v), (0, .ref sb), (1, .ref (b + 0)), (2, .ref (b + 237 + 0)), (3, .ref (b + 250)), (4, .int (mI i))]) (fun _ => rfl) ov1 (fun z5 ls ez5 oz5 hl => ?_)
  rw [ez5] at hl
  refine m_aload_n (pc := 2404) C.1 dL_law__2404 rfl hl 3 rfl ?_
  refine m_aload_n (pc := 2405) C.1 dL_law__2405 rfl hl 1 rfl ?_
  refine m_iload (pc := 2406) C.1 dL_law__2406 hl 5 rfl ?_
  refine m_iconst (pc := 2408) C.1 dL_law__2408 ?_
  refine m_iadd (pc := 2409) C.1 dL_law__2409 ?_
  refine l_sld (pc := 2410) C.1 C.2.2.2.2.1.1 C.2.2.2.2.1.2.1 hS (l_idx h0 h5 C.2.2.2.2.1.2.2 (by decide) (by decide)) dL_law__2410 ?_
  refine m_aload_n (pc := 2411) C.1 dL_law__2411 rfl hl 1 rfl ?_
  refine m_iload (pc := 2412) C.1 dL_law__2412 hl 5 rfl ?_
  refine m_iconst (pc := 2414) C.1 dL_law__2414 ?_
  refine m_iadd (pc := 2415) C.1 dL_law__2415 ?_
  refine l_sld (pc := 2416) C.1 C.2.2.2.2.1.1 C.2.2.2.2.1.2.1 hS (l_idx h0 h5 C.2.2.2.2.1.2.2 (by decide) (by decide)) dL_law__2416 ?_
  refine l_callVi (pc := 2417) (b := (b + 237)) C.1 C.2.2.1 hl.1 C.2.1 (Nat.le_trans C.2.2.2.2.2 (Nat.le_add_right _ _)) hM hS (As := [.int (mI (sA xs i 1)), .int (mI (sA xs i 2))]) (rest := []) (r := 0) (T_X12_log C.2.2.2.1 N 0 rfl (sA xs i 1) (sA_ok xs i 1) (sA xs i 2) (sA_ok xs i 2) h) rfl rfl q_1900 q_1901 q_1902 q_92 q_1903 pl_X12_log ⟨rfl, rfl, by decide, by decide, by show _ ≤ 601024; omega, by show _ ≤ 7293034; omega⟩ (Nat.le_of_ble_eq_true rfl) dL_law__2417 (fun v2 M2 H1 locs ov2 h hM2 hk hS => ?_)
  replace hX := hX1.apart hk l_apX
  clear hk
  refine m_istore (pc := 2420) C.1 dL_law__2420 hl (by decide) (fun v => [(6, .int v), (5, .int (mI v1)), (0, .ref sb), (1, .ref (b + 0)), (2, .ref (b + 237 + 0)), (3, .ref (b + 250)), (4, .int (mI i))]) (fun _ => rfl) ov2 (fun z6 ls ez6 oz6 hl => ?_)
  rw [ez6] at hl
  refine m_aload_n (pc := 2422) C.1 dL_law__2422 rfl hl 4 rfl ?_
  refine l_callVi (pc := 2423) (b := (b + 237)) C.1 C.2.2.1 hl.1 C.2.1 (Nat.le_trans C.2.2.2.2.2 (Nat.le_add_right _ _)) hM2 hS (As := []) (rest := []) (r := 0) (T_X12_thrown C.2.2.2.1 N 0 rfl h) rfl rfl q_1463 q_1464 q_1465 q_92 q_1466 pl_X12_thrown ⟨rfl, rfl, by decide, by decide, by show _ ≤ 601024; omega, by show _ ≤ 7293034; omega⟩ (Nat.le_of_ble_eq_true rfl) dL_law__2423 (fun v3 M3 H1 locs ov3 h hM3 hk hS => ?_)
  replace hX := hX.apart hk l_apX
  clear hk
  refine m_iload (pc := 2426) C.1 dL_law__2426 hl 1 rfl ?_
  refine m_icmp_eq (tgt := 2433) (pc := 2428) C.1 ov3 ov1 dL_law__2428 (by decide) (fun _ => ?_) (fun hc => absurd h.1 hc)
  refine m_iload (pc := 2433) C.1 dL_law__2433 hl 1 rfl ?_
  refine m_if_ne (tgt := 2450) (pc := 2435) C.1 ov1 dL_law__2435 (by decide) (fun hc => ?_) (fun hc => ?_)
  · refine m_goto (pc := 2450) C.1 (tgt := 2540) dL_law__2450 (by decide) ?_
    refine W.widen (k := cells + 4) (n := slots + 24) (by omega) (by omega) ?_
    exact kk X1 M3 _ _ _ h.2.2 (lv_sub hl [2, 3, 4, 5, 6] rfl) hX hM3 hS
  replace hc := h.2.1 hc
  refine m_aload_n (pc := 2438) C.1 dL_law__2438 rfl hl 5 rfl ?_
  refine m_iconst (pc := 2439) C.1 dL_law__2439 ?_
  refine l_lald (pc := 2440) C.1 C.2.1 hX (r := 250) rfl (by decide : okI 0) (by decide) (by decide) dL_law__2440 ?_
  refine m_iload (pc := 2441) C.1 dL_law__2441 hl 0 rfl ?_
  refine m_i2l (pc := 2443) C.1 ov2 dL_law__2443 ?_
  refine l_cmp (pc := 2444) C.1 hc (tgt := 2450) dL_law__2444 dL_law__2445 (by decide) ?_
  refine m_goto (pc := 2450) C.1 (tgt := 2540) dL_law__2450 (by decide) ?_
  refine W.widen (k := cells + 4) (n := slots + 24) (by omega) (by omega) ?_
  exact kk X1 M3 _ _ _ h.2.2 (lv_sub hl [2, 3, 4, 5, 6] rfl) hX hM3 hS
def wl_40 (N : Nat) (a1 a2 a3 a4 a5 : Int) (X M : mSt) (Kt : mSt → mSt → Prop) : Prop :=
  w_X11_seed N 0 a1 X (fun (X1 : mSt) (v1 : Int) => w_X12_seed N 0 a1 M (fun (M2 : mSt) (v2 : Int) => v1 = v2 ∧ Kt X1 M2))
theorem Wl_40 (C : lC p l s m args c g sb L xs b) (N : Nat) (hl : lv_has ls 7 [(0, .ref sb), (1, .ref (b + 0)), (2, .ref (b + 237 + 0)), (3, .ref (b + 250)), (4, .int (mI i))]) (hX : mW g b KX X H) (hM : mW g (b + 237) KM M H) (hS : va_S (lA s) s.heap H locs) (oi : okI i) (h0 : 0 ≤ i) (h5 : i + 5 < L) (hc : cells + 4 ≤ 601024) (hs : slots + 24 ≤ 7293034) (h : wl_40 N (sA xs i 1) (sA xs i 2) (sA xs i 3) (sA xs i 4) (sA xs i 5) X M Kt) (kk : ∀ (X1 M1 : mSt) (H1 : Heap) (locs1 : List Loc) (ls1 : Array Slot), Kt X1 M1 → lv_has ls1 7 [(0, .ref sb), (1, .ref (b + 0)), (2, .ref (b + 237 + 0)), (3, .ref (b + 250)), (4, .int (mI i))] → mW g b KX X1 H1 → mW g (b + 237) KM M1 H1 → va_S (lA s) s.heap H1 locs1 → W p l e room_1 s m args below meth c H1 locs1 (cells + 4) (slots + 24) Q (F0 m 2540 ls1 [])) : W p l e room_1 s m args below meth c H locs cells slots Q (F0 m 2453 ls []) := by
  unfold wl_40 at h
  refine m_aload_n (pc := 2453) C.1 dL_law__2453 rfl hl 1 rfl ?_
  refine m_aload_n (pc := 2454) C.1 dL_law__2454 rfl hl 0 rfl ?_
  refine m_iload (pc := 2455) C.1 dL_law__2455 hl 4 rfl ?_
  refine m_iconst (pc := 2457) C.1 dL_law__2457 ?_
  refine m_iadd (pc := 2458) C.1 dL_law__2458 ?_
  refine l_sld (pc := 2459) C.1 C.2.2.2.2.1.1 C.2.2.2.2.1.2.1 hS (l_idx h0 h5 C.2.2.2.2.1.2.2 (by decide) (by decide)) dL_law__2459 ?_
  refine l_callVi (pc := 2460) (b := b) C.1 C.2.2.1 hl.1 C.2.1 C.2.2.2.2.2 hX hS (As := [.int (mI (sA xs i 1))]) (rest := []) (r := 0) (T_X11_seed C.2.2.2.1 N 0 rfl (sA xs i 1) (sA_ok xs i 1) h) rfl rfl q_448 q_449 q_450 q_81 q_451 pl_X11_seed ⟨rfl, rfl, by decide, by decide, by show _ ≤ 601024; omega, by show _ ≤ 7293034; omega⟩ (Nat.le_of_ble_eq_true rfl) dL_law__2460 (fun v1 X1 H1 locs ov1 h hX1 hk hS => ?_)
  replace hM := hM.apart hk l_apM
  clear hk
  refine m_aload_n (pc := 2463) C.1 dL_law__2463 rfl hl 2 rfl ?_
  refine m_aload_n (pc := 2464) C.1 dL_law__2464 rfl hl 0 rfl ?_
  refine m_iload (pc := 2465) C.1 dL_law__2465 hl 4 rfl ?_
  refine m_iconst (pc := 2467) C.1 dL_law__2467 ?_
  refine m_iadd (pc := 2468) C.1 dL_law__2468 ?_
  refine l_sld (pc := 2469) C.1 C.2.2.2.2.1.1 C.2.2.2.2.1.2.1 hS (l_idx h0 h5 C.2.2.2.2.1.2.2 (by decide) (by decide)) dL_law__2469 ?_
  refine l_callVi (pc := 2470) (b := (b + 237)) C.1 C.2.2.1 hl.1 C.2.1 (Nat.le_trans C.2.2.2.2.2 (Nat.le_add_right _ _)) hM hS (As := [.int (mI (sA xs i 1))]) (rest := [.int (mI v1)]) (r := 0) (T_X12_seed C.2.2.2.1 N 0 rfl (sA xs i 1) (sA_ok xs i 1) h) rfl rfl q_1904 q_1905 q_1906 q_92 q_1907 pl_X12_seed ⟨rfl, rfl, by decide, by decide, by show _ ≤ 601024; omega, by show _ ≤ 7293034; omega⟩ (Nat.le_of_ble_eq_true rfl) dL_law__2470 (fun v2 M2 H1 locs ov2 h hM2 hk hS => ?_)
  replace hX := hX1.apart hk l_apX
  clear hk
  refine m_icmp_eq (tgt := 2540) (pc := 2473) C.1 ov1 ov2 dL_law__2473 (by decide) (fun _ => ?_) (fun hc => absurd h.1 hc)
  refine W.widen (k := cells + 4) (n := slots + 24) (by omega) (by omega) ?_
  exact kk X1 M2 _ _ _ h.2 (lv_sub hl [0, 1, 2, 3, 4] rfl) hX hM2 hS
def wl_41 (N : Nat) (a1 a2 a3 a4 a5 : Int) (X M : mSt) (Kt : mSt → mSt → Prop) : Prop :=
  w_X11_undo N 0 X (fun (X1 : mSt) (v1 : Int) => w_X12_undo N 0 M (fun (M2 : mSt) (v2 : Int) => v1 = v2 ∧ Kt X1 M2))
theorem Wl_41 (C : lC p l s m args c g sb L xs b) (N : Nat) (hl : lv_has ls 7 [(0, .ref sb), (1, .ref (b + 0)), (2, .ref (b + 237 + 0)), (3, .ref (b + 250)), (4, .int (mI i))]) (hX : mW g b KX X H) (hM : mW g (b + 237) KM M H) (hS : va_S (lA s) s.heap H locs) (oi : okI i) (h0 : 0 ≤ i) (h5 : i + 5 < L) (hc : cells + 4 ≤ 601024) (hs : slots + 24 ≤ 7293034) (h : wl_41 N (sA xs i 1) (sA xs i 2) (sA xs i 3) (sA xs i 4) (sA xs i 5) X M Kt) (kk : ∀ (X1 M1 : mSt) (H1 : Heap) (locs1 : List Loc) (ls1 : Array Slot), Kt X1 M1 → lv_has ls1 7 [(0, .ref sb), (1, .ref (b + 0)), (2, .ref (b + 237 + 0)), (3, .ref (b + 250)), (4, .int (mI i))] → mW g b KX X1 H1 → mW g (b + 237) KM M1 H1 → va_S (lA s) s.heap H1 locs1 → W p l e room_1 s m args below meth c H1 locs1 (cells + 4) (slots + 24) Q (F0 m 2540 ls1 [])) : W p l e room_1 s m args below meth c H locs cells slots Q (F0 m 2478 ls []) := by
  unfold wl_41 at h
  refine m_aload_n (pc := 2478) C.1 dL_law__2478 rfl hl 1 rfl ?_
  refine l_callVi (pc := 2479) (b := b) C.1 C.2.2.1 hl.1 C.2.1 C.2.2.2.2.2 hX hS (As := []) (rest := []) (r := 0) (T_X11_undo C.2.2.2.1 N 0 rfl h) rfl rfl q_452 q_453 q_454 q_81 q_455 pl_X11_undo ⟨rfl, rfl, by decide, by decide, by show _ ≤ 601024; omega, by show _ ≤ 7293034; omega⟩ (Nat.le_of_ble_eq_true rfl) dL_law__2479 (fun v1 X1 H1 locs ov1 h hX1 hk hS => ?_)
  replace hM := hM.apart hk l_apM
  clear hk
  refine m_aload_n (pc := 2482) C.1 dL_law__2482 rfl hl 2 rfl ?_
  refine l_callVi (pc := 2483) (b := (b + 237)) C.1 C.2.2.1 hl.1 C.2.1 (Nat.le_trans C.2.2.2.2.2 (Nat.le_add_right _ _)) hM hS (As := []) (rest := [.int (mI v1)]) (r := 0) (T_X12_undo C.2.2.2.1 N 0 rfl h) rfl rfl q_1908 q_1909 q_1910 q_92 q_1911 pl_X12_undo ⟨rfl, rfl, by decide, by decide, by show _ ≤ 601024; omega, by show _ ≤ 7293034; omega⟩ (Nat.le_of_ble_eq_true rfl) dL_law__2483 (fun v2 M2 H1 locs ov2 h hM2 hk hS => ?_)
  replace hX := hX1.apart hk l_apX
  clear hk
  refine m_icmp_eq (tgt := 2540) (pc := 2486) C.1 ov1 ov2 dL_law__2486 (by decide) (fun _ => ?_) (fun hc => absurd h.1 hc)
  refine W.widen (k := cells + 4) (n := slots + 24) (by omega) (by omega) ?_
  exact kk X1 M2 _ _ _ h.2 (lv_sub hl [0, 1, 2, 3, 4] rfl) hX hM2 hS
def wl_42 (N : Nat) (a1 a2 a3 a4 a5 : Int) (X M : mSt) (Kt : mSt → mSt → Prop) : Prop :=
  w_X11_image N 0 X (fun (X1 : mSt) => w_X12_image N 0 M (fun (M2 : mSt) => Kt X1 M2))
theorem Wl_42 (C : lC p l s m args c g sb L xs b) (N : Nat) (hl : lv_has ls 7 [(0, .ref sb), (1, .ref (b + 0)), (2, .ref (b + 237 + 0)), (3, .ref (b + 250)), (4, .int (mI i))]) (hX : mW g b KX X H) (hM : mW g (b + 237) KM M H) (hS : va_S (lA s) s.heap H locs) (oi : okI i) (h0 : 0 ≤ i) (h5 : i + 5 < L) (hc : cells + 4 ≤ 601024) (hs : slots + 24 ≤ 7293034) (h : wl_42 N (sA xs i 1) (sA xs i 2) (sA xs i 3) (sA xs i 4) (sA xs i 5) X M Kt) (kk : ∀ (X1 M1 : mSt) (H1 : Heap) (locs1 : List Loc) (ls1 : Array Slot), Kt X1 M1 → lv_has ls1 7 [(0, .ref sb), (1, .ref (b + 0)), (2, .ref (b + 237 + 0)), (3, .ref (b + 250)), (4, .int (mI i))] → mW g b KX X1 H1 → mW g (b + 237) KM M1 H1 → va_S (lA s) s.heap H1 locs1 → W p l e room_1 s m args below meth c H1 locs1 (cells + 4) (slots + 24) Q (F0 m 2540 ls1 [])) : W p l e room_1 s m args below meth c H locs cells slots Q (F0 m 2491 ls []) := by
  unfold wl_42 at h
  refine m_aload_n (pc := 2491) C.1 dL_law__2491 rfl hl 1 rfl ?_
  refine l_callVv (pc := 2492) (b := b) C.1 C.2.2.1 hl.1 C.2.1 C.2.2.2.2.2 hX hS (As := []) (rest := []) (r := 0) (T_X11_image C.2.2.2.1 N 0 rfl h) rfl rfl q_472 q_473 q_474 q_81 q_475 pl_X11_image ⟨rfl, rfl, by decide, by decide, by show _ ≤ 601024; omega, by show _ ≤ 7293034; omega⟩ (Nat.le_of_ble_eq_true rfl) dL_law__2492 (fun X1 H1 locs h hX1 hk hS => ?_)
  replace hM := hM.apart hk l_apM
  clear hk
  refine m_aload_n (pc := 2495) C.1 dL_law__2495 rfl hl 2 rfl ?_
  refine l_callVv (pc := 2496) (b := (b + 237)) C.1 C.2.2.1 hl.1 C.2.1 (Nat.le_trans C.2.2.2.2.2 (Nat.le_add_right _ _)) hM hS (As := []) (rest := []) (r := 0) (T_X12_image C.2.2.2.1 N 0 rfl h) rfl rfl q_1912 q_1913 q_1914 q_92 q_1915 pl_X12_image ⟨rfl, rfl, by decide, by decide, by show _ ≤ 601024; omega, by show _ ≤ 7293034; omega⟩ (Nat.le_of_ble_eq_true rfl) dL_law__2496 (fun M2 H1 locs h hM2 hk hS => ?_)
  replace hX := hX1.apart hk l_apX
  clear hk
  refine m_goto (pc := 2499) C.1 (tgt := 2540) dL_law__2499 (by decide) ?_
  refine W.widen (k := cells + 4) (n := slots + 24) (by omega) (by omega) ?_
  exact kk X1 M2 _ _ _ h (lv_sub hl [0, 1, 2, 3, 4] rfl) hX hM2 hS
def wl_43 (N : Nat) (a1 a2 a3 a4 a5 : Int) (X M : mSt) (Kt : mSt → mSt → Prop) : Prop :=
  w_X11_back N 0 X (fun (X1 : mSt) (v1 : Int) => w_X12_back N 0 M (fun (M2 : mSt) (v2 : Int) => v1 = v2 ∧ Kt X1 M2))
theorem Wl_43 (C : lC p l s m args c g sb L xs b) (N : Nat) (hl : lv_has ls 7 [(0, .ref sb), (1, .ref (b + 0)), (2, .ref (b + 237 + 0)), (3, .ref (b + 250)), (4, .int (mI i))]) (hX : mW g b KX X H) (hM : mW g (b + 237) KM M H) (hS : va_S (lA s) s.heap H locs) (oi : okI i) (h0 : 0 ≤ i) (h5 : i + 5 < L) (hc : cells + 4 ≤ 601024) (hs : slots + 24 ≤ 7293034) (h : wl_43 N (sA xs i 1) (sA xs i 2) (sA xs i 3) (sA xs i 4) (sA xs i 5) X M Kt) (kk : ∀ (X1 M1 : mSt) (H1 : Heap) (locs1 : List Loc) (ls1 : Array Slot), Kt X1 M1 → lv_has ls1 7 [(0, .ref sb), (1, .ref (b + 0)), (2, .ref (b + 237 + 0)), (3, .ref (b + 250)), (4, .int (mI i))] → mW g b KX X1 H1 → mW g (b + 237) KM M1 H1 → va_S (lA s) s.heap H1 locs1 → W p l e room_1 s m args below meth c H1 locs1 (cells + 4) (slots + 24) Q (F0 m 2540 ls1 [])) : W p l e room_1 s m args below meth c H locs cells slots Q (F0 m 2502 ls []) := by
  unfold wl_43 at h
  refine m_aload_n (pc := 2502) C.1 dL_law__2502 rfl hl 1 rfl ?_
  refine l_callVi (pc := 2503) (b := b) C.1 C.2.2.1 hl.1 C.2.1 C.2.2.2.2.2 hX hS (As := []) (rest := []) (r := 0) (T_X11_back C.2.2.2.1 N 0 rfl h) rfl rfl q_525 q_526 q_527 q_81 q_528 pl_X11_back ⟨rfl, rfl, by decide, by decide, by show _ ≤ 601024; omega, by show _ ≤ 7293034; omega⟩ (Nat.le_of_ble_eq_true rfl) dL_law__2503 (fun v1 X1 H1 locs ov1 h hX1 hk hS => ?_)
  replace hM := hM.apart hk l_apM
  clear hk
  refine m_aload_n (pc := 2506) C.1 dL_law__2506 rfl hl 2 rfl ?_
  refine l_callVi (pc := 2507) (b := (b + 237)) C.1 C.2.2.1 hl.1 C.2.1 (Nat.le_trans C.2.2.2.2.2 (Nat.le_add_right _ _)) hM hS (As := []) (rest := [.int (mI v1)]) (r := 0) (T_X12_back C.2.2.2.1 N 0 rfl h) rfl rfl q_1916 q_1917 q_1918 q_92 q_1919 pl_X12_back ⟨rfl, rfl, by decide, by decide, by show _ ≤ 601024; omega, by show _ ≤ 7293034; omega⟩ (Nat.le_of_ble_eq_true rfl) dL_law__2507 (fun v2 M2 H1 locs ov2 h hM2 hk hS => ?_)
  replace hX := hX1.apart hk l_apX
  clear hk
  refine m_icmp_eq (tgt := 2540) (pc := 2510) C.1 ov1 ov2 dL_law__2510 (by decide) (fun _ => ?_) (fun hc => absurd h.1 hc)
  refine W.widen (k := cells + 4) (n := slots + 24) (by omega) (by omega) ?_
  exact kk X1 M2 _ _ _ h.2 (lv_sub hl [0, 1, 2, 3, 4] rfl) hX hM2 hS
def wl_44 (N : Nat) (a1 a2 a3 a4 a5 : Int) (X M : mSt) (Kt : mSt → mSt → Prop) : Prop :=
  w_X11_count N 0 a1 X (fun (X1 : mSt) (v1 : Int) => w_X12_count N 0 a1 M (fun (M2 : mSt) (v2 : Int) => v1 = v2 ∧ Kt X1 M2))
theorem Wl_44 (C : lC p l s m args c g sb L xs b) (N : Nat) (hl : lv_has ls 7 [(0, .ref sb), (1, .ref (b + 0)), (2, .ref (b + 237 + 0)), (3, .ref (b + 250)), (4, .int (mI i))]) (hX : mW g b KX X H) (hM : mW g (b + 237) KM M H) (hS : va_S (lA s) s.heap H locs) (oi : okI i) (h0 : 0 ≤ i) (h5 : i + 5 < L) (hc : cells + 4 ≤ 601024) (hs : slots + 24 ≤ 7293034) (h : wl_44 N (sA xs i 1) (sA xs i 2) (sA xs i 3) (sA xs i 4) (sA xs i 5) X M Kt) (kk : ∀ (X1 M1 : mSt) (H1 : Heap) (locs1 : List Loc) (ls1 : Array Slot), Kt X1 M1 → lv_has ls1 7 [(0, .ref sb), (1, .ref (b + 0)), (2, .ref (b + 237 + 0)), (3, .ref (b + 250)), (4, .int (mI i))] → mW g b KX X1 H1 → mW g (b + 237) KM M1 H1 → va_S (lA s) s.heap H1 locs1 → W p l e room_1 s m args below meth c H1 locs1 (cells + 4) (slots + 24) Q (F0 m 2540 ls1 [])) : W p l e room_1 s m args below meth c H locs cells slots Q (F0 m 2515 ls []) := by
  unfold wl_44 at h
  refine m_aload_n (pc := 2515) C.1 dL_law__2515 rfl hl 1 rfl ?_
  refine m_aload_n (pc := 2516) C.1 dL_law__2516 rfl hl 0 rfl ?_
  refine m_iload (pc := 2517) C.1 dL_law__2517 hl 4 rfl ?_
  refine m_iconst (pc := 2519) C.1 dL_law__2519 ?_
  refine m_iadd (pc := 2520) C.1 dL_law__2520 ?_
  refine l_sld (pc := 2521) C.1 C.2.2.2.2.1.1 C.2.2.2.2.1.2.1 hS (l_idx h0 h5 C.2.2.2.2.1.2.2 (by decide) (by decide)) dL_law__2521 ?_
  refine l_callVi (pc := 2522) (b := b) C.1 C.2.2.1 hl.1 C.2.1 C.2.2.2.2.2 hX hS (As := [.int (mI (sA xs i 1))]) (rest := []) (r := 0) (T_X11_count C.2.2.2.1 N 0 rfl (sA xs i 1) (sA_ok xs i 1) h) rfl rfl q_577 q_578 q_579 q_81 q_580 pl_X11_count ⟨rfl, rfl, by decide, by decide, by show _ ≤ 601024; omega, by show _ ≤ 7293034; omega⟩ (Nat.le_of_ble_eq_true rfl) dL_law__2522 (fun v1 X1 H1 locs ov1 h hX1 hk hS => ?_)
  replace hM := hM.apart hk l_apM
  clear hk
  refine m_aload_n (pc := 2525) C.1 dL_law__2525 rfl hl 2 rfl ?_
  refine m_aload_n (pc := 2526) C.1 dL_law__2526 rfl hl 0 rfl ?_
  refine m_iload (pc := 2527) C.1 dL_law__2527 hl 4 rfl ?_
  refine m_iconst (pc := 2529) C.1 dL_law__2529 ?_
  refine m_iadd (pc := 2530) C.1 dL_law__2530 ?_
  refine l_sld (pc := 2531) C.1 C.2.2.2.2.1.1 C.2.2.2.2.1.2.1 hS (l_idx h0 h5 C.2.2.2.2.1.2.2 (by decide) (by decide)) dL_law__2531 ?_
  refine l_callVi (pc := 2532) (b := (b + 237)) C.1 C.2.2.1 hl.1 C.2.1 (Nat.le_trans C.2.2.2.2.2 (Nat.le_add_right _ _)) hM hS (As := [.int (mI (sA xs i 1))]) (rest := [.int (mI v1)]) (r := 0) (T_X12_count C.2.2.2.1 N 0 rfl (sA xs i 1) (sA_ok xs i 1) h) rfl rfl q_1920 q_1921 q_1922 q_92 q_1923 pl_X12_count ⟨rfl, rfl, by decide, by decide, by show _ ≤ 601024; omega, by show _ ≤ 7293034; omega⟩ (Nat.le_of_ble_eq_true rfl) dL_law__2532 (fun v2 M2 H1 locs ov2 h hM2 hk hS => ?_)
  replace hX := hX1.apart hk l_apX
  clear hk
  refine m_icmp_eq (tgt := 2540) (pc := 2535) C.1 ov1 ov2 dL_law__2535 (by decide) (fun _ => ?_) (fun hc => absurd h.1 hc)
  refine W.widen (k := cells + 4) (n := slots + 24) (by omega) (by omega) ?_
  exact kk X1 M2 _ _ _ h.2 (lv_sub hl [0, 1, 2, 3, 4] rfl) hX hM2 hS
/-- one turn of the loop -/
def wl (N : Nat) (k a1 a2 a3 a4 a5 : Int) (X M : mSt) (Kt : mSt → mSt → Prop) : Prop :=
  (k = 0 → wl_0 N a1 a2 a3 a4 a5 X M Kt) ∧ (k = 1 → wl_1 N a1 a2 a3 a4 a5 X M Kt) ∧ (k = 2 → wl_2 N a1 a2 a3 a4 a5 X M Kt) ∧ (k = 3 → wl_3 N a1 a2 a3 a4 a5 X M Kt) ∧ (k = 4 → wl_4 N a1 a2 a3 a4 a5 X M Kt) ∧ (k = 5 → wl_5 N a1 a2 a3 a4 a5 X M Kt) ∧ (k = 6 → wl_6 N a1 a2 a3 a4 a5 X M Kt) ∧ (k = 7 → wl_7 N a1 a2 a3 a4 a5 X M Kt) ∧ (k = 8 → wl_8 N a1 a2 a3 a4 a5 X M Kt) ∧ (k = 9 → wl_9 N a1 a2 a3 a4 a5 X M Kt) ∧ (k = 10 → wl_10 N a1 a2 a3 a4 a5 X M Kt) ∧ (k = 11 → wl_11 N a1 a2 a3 a4 a5 X M Kt) ∧ (k = 12 → wl_12 N a1 a2 a3 a4 a5 X M Kt) ∧ (k = 13 → wl_13 N a1 a2 a3 a4 a5 X M Kt) ∧ (k = 14 → wl_14 N a1 a2 a3 a4 a5 X M Kt) ∧ (k = 15 → wl_15 N a1 a2 a3 a4 a5 X M Kt) ∧ (k = 16 → wl_16 N a1 a2 a3 a4 a5 X M Kt) ∧ (k = 17 → wl_17 N a1 a2 a3 a4 a5 X M Kt) ∧ (k = 18 → wl_18 N a1 a2 a3 a4 a5 X M Kt) ∧ (k = 19 → wl_19 N a1 a2 a3 a4 a5 X M Kt) ∧ (k = 20 → wl_20 N a1 a2 a3 a4 a5 X M Kt) ∧ (k = 21 → wl_21 N a1 a2 a3 a4 a5 X M Kt) ∧ (k = 22 → wl_22 N a1 a2 a3 a4 a5 X M Kt) ∧ (k = 23 → wl_23 N a1 a2 a3 a4 a5 X M Kt) ∧ (k = 24 → wl_24 N a1 a2 a3 a4 a5 X M Kt) ∧ (k = 25 → wl_25 N a1 a2 a3 a4 a5 X M Kt) ∧ (k = 26 → wl_26 N a1 a2 a3 a4 a5 X M Kt) ∧ (k = 27 → wl_27 N a1 a2 a3 a4 a5 X M Kt) ∧ (k = 28 → wl_28 N a1 a2 a3 a4 a5 X M Kt) ∧ (k = 29 → wl_29 N a1 a2 a3 a4 a5 X M Kt) ∧ (k = 30 → wl_30 N a1 a2 a3 a4 a5 X M Kt) ∧ (k = 31 → wl_31 N a1 a2 a3 a4 a5 X M Kt) ∧ (k = 32 → wl_32 N a1 a2 a3 a4 a5 X M Kt) ∧ (k = 33 → wl_33 N a1 a2 a3 a4 a5 X M Kt) ∧ (k = 34 → wl_34 N a1 a2 a3 a4 a5 X M Kt) ∧ (k = 35 → wl_35 N a1 a2 a3 a4 a5 X M Kt) ∧ (k = 36 → wl_36 N a1 a2 a3 a4 a5 X M Kt) ∧ (k = 37 → wl_37 N a1 a2 a3 a4 a5 X M Kt) ∧ (k = 38 → wl_38 N a1 a2 a3 a4 a5 X M Kt) ∧ (k = 39 → wl_39 N a1 a2 a3 a4 a5 X M Kt) ∧ (k = 40 → wl_40 N a1 a2 a3 a4 a5 X M Kt) ∧ (k = 41 → wl_41 N a1 a2 a3 a4 a5 X M Kt) ∧ (k = 42 → wl_42 N a1 a2 a3 a4 a5 X M Kt) ∧ (k = 43 → wl_43 N a1 a2 a3 a4 a5 X M Kt) ∧ (k = 44 → wl_44 N a1 a2 a3 a4 a5 X M Kt) ∧ (44 < k → Kt X M)
theorem bAnd63 (x : Int) : 0 ≤ bAnd x 63 := by
  unfold bAnd
  generalize mI x = y
  have h : ∀ z : Int32, 0 ≤ (z &&& 63) := by
    intro z
    rw [Int32.le_iff_toBitVec_sle]
    have : (z &&& 63).toBitVec = z.toBitVec &&& 63#32 := rfl
    rw [this]
    generalize z.toBitVec = w
    rw [show (0 : Int32).toBitVec = 0#32 from rfl, BitVec.sle_eq_decide, decide_eq_true_eq]
    rw [BitVec.toInt_eq_toNat_of_msb (x := w &&& 63#32) (by rw [BitVec.msb_and]; simp; intro _; decide), show (0#32).toInt = 0 from rfl]
    omega
  have e : mI 63 = 63 := by decide
  rw [e]
  have := Int32.le_iff_toInt_le.mp (h y)
  simpa using this
theorem Wl_turn (C : lC p l s m args c g sb L xs b) (N : Nat) (hl : lv_has ls 7 [(0, .ref sb), (1, .ref (b + 0)), (2, .ref (b + 237 + 0)), (3, .ref (b + 250)), (4, .int (mI i))]) (hX : mW g b KX X H) (hM : mW g (b + 237) KM M H) (hS : va_S (lA s) s.heap H locs) (oi : okI i) (h0 : 0 ≤ i) (h5 : i + 5 < L) (hc : cells + 4 ≤ 601024) (hs : slots + 24 ≤ 7293034) (h : wl N (bAnd (sA xs i 0) 63) (sA xs i 1) (sA xs i 2) (sA xs i 3) (sA xs i 4) (sA xs i 5) X M Kt) (kk : ∀ (X1 M1 : mSt) (H1 : Heap) (locs1 : List Loc) (ls1 : Array Slot), Kt X1 M1 → lv_has ls1 7 [(0, .ref sb), (1, .ref (b + 0)), (2, .ref (b + 237 + 0)), (3, .ref (b + 250)), (4, .int (mI i))] → mW g b KX X1 H1 → mW g (b + 237) KM M1 H1 → va_S (lA s) s.heap H1 locs1 → W p l e room_1 s m args below meth c H1 locs1 (cells + 4) (slots + 24) Q (F0 m 2540 ls1 [])) : W p l e room_1 s m args below meth c H locs cells slots Q (F0 m 40 ls [.int (mI (bAnd (sA xs i 0) 63))]) := by
  unfold wl at h
  by_cases hc0 : bAnd (sA xs i 0) 63 = 0
  · exact m_tabIn (pc := 40) (tgt := 236) C.1 (bAnd_ok _ _) hc0 (by decide) (by decide) rfl dL_law__40 (by decide) (Wl_0 C N hl hX hM hS oi h0 h5 hc hs (h.1 hc0) kk)
  replace h := h.2
  by_cases hc1 : bAnd (sA xs i 0) 63 = 1
  · exact m_tabIn (pc := 40) (tgt := 309) C.1 (bAnd_ok _ _) hc1 (by decide) (by decide) rfl dL_law__40 (by decide) (Wl_1 C N hl hX hM hS oi h0 h5 hc hs (h.1 hc1) kk)
  replace h := h.2
  by_cases hc2 : bAnd (sA xs i 0) 63 = 2
  · exact m_tabIn (pc := 40) (tgt := 334) C.1 (bAnd_ok _ _) hc2 (by decide) (by decide) rfl dL_law__40 (by decide) (Wl_2 C N hl hX hM hS oi h0 h5 hc hs (h.1 hc2) kk)
  replace h := h.2
  by_cases hc3 : bAnd (sA xs i 0) 63 = 3
  · exact m_tabIn (pc := 40) (tgt := 378) C.1 (bAnd_ok _ _) hc3 (by decide) (by decide) rfl dL_law__40 (by decide) (Wl_3 C N hl hX hM hS oi h0 h5 hc hs (h.1 hc3) kk)
  replace h := h.2
  by_cases hc4 : bAnd (sA xs i 0) 63 = 4
  · exact m_tabIn (pc := 40) (tgt := 422) C.1 (bAnd_ok _ _) hc4 (by decide) (by decide) rfl dL_law__40 (by decide) (Wl_4 C N hl hX hM hS oi h0 h5 hc hs (h.1 hc4) kk)
  replace h := h.2
  by_cases hc5 : bAnd (sA xs i 0) 63 = 5
  · exact m_tabIn (pc := 40) (tgt := 435) C.1 (bAnd_ok _ _) hc5 (by decide) (by decide) rfl dL_law__40 (by decide) (Wl_5 C N hl hX hM hS oi h0 h5 hc hs (h.1 hc5) kk)
  replace h := h.2
  by_cases hc6 : bAnd (sA xs i 0) 63 = 6
  · exact m_tabIn (pc := 40) (tgt := 503) C.1 (bAnd_ok _ _) hc6 (by decide) (by decide) rfl dL_law__40 (by decide) (Wl_6 C N hl hX hM hS oi h0 h5 hc hs (h.1 hc6) kk)
  replace h := h.2
  by_cases hc7 : bAnd (sA xs i 0) 63 = 7
  · exact m_tabIn (pc := 40) (tgt := 571) C.1 (bAnd_ok _ _) hc7 (by decide) (by decide) rfl dL_law__40 (by decide) (Wl_7 C N hl hX hM hS oi h0 h5 hc hs (h.1 hc7) kk)
  replace h := h.2
  by_cases hc8 : bAnd (sA xs i 0) 63 = 8
  · exact m_tabIn (pc := 40) (tgt := 655) C.1 (bAnd_ok _ _) hc8 (by decide) (by decide) rfl dL_law__40 (by decide) (Wl_8 C N hl hX hM hS oi h0 h5 hc hs (h.1 hc8) kk)
  replace h := h.2
  by_cases hc9 : bAnd (sA xs i 0) 63 = 9
  · exact m_tabIn (pc := 40) (tgt := 739) C.1 (bAnd_ok _ _) hc9 (by decide) (by decide) rfl dL_law__40 (by decide) (Wl_9 C N hl hX hM hS oi h0 h5 hc hs (h.1 hc9) kk)
  replace h := h.2
  by_cases hc10 : bAnd (sA xs i 0) 63 = 10
  · exact m_tabIn (pc := 40) (tgt := 807) C.1 (bAnd_ok _ _) hc10 (by decide) (by decide) rfl dL_law__40 (by decide) (Wl_10 C N hl hX hM hS oi h0 h5 hc hs (h.1 hc10) kk)
  replace h := h.2
  by_cases hc11 : bAnd (sA xs i 0) 63 = 11
  · exact m_tabIn (pc := 40) (tgt := 898) C.1 (bAnd_ok _ _) hc11 (by decide) (by decide) rfl dL_law__40 (by decide) (Wl_11 C N hl hX hM hS oi h0 h5 hc hs (h.1 hc11) kk)
  replace h := h.2
  by_cases hc12 : bAnd (sA xs i 0) 63 = 12
  · exact m_tabIn (pc := 40) (tgt := 954) C.1 (bAnd_ok _ _) hc12 (by decide) (by decide) rfl dL_law__40 (by decide) (Wl_12 C N hl hX hM hS oi h0 h5 hc hs (h.1 hc12) kk)
  replace h := h.2
  by_cases hc13 : bAnd (sA xs i 0) 63 = 13
  · exact m_tabIn (pc := 40) (tgt := 1022) C.1 (bAnd_ok _ _) hc13 (by decide) (by decide) rfl dL_law__40 (by decide) (Wl_13 C N hl hX hM hS oi h0 h5 hc hs (h.1 hc13) kk)
  replace h := h.2
  by_cases hc14 : bAnd (sA xs i 0) 63 = 14
  · exact m_tabIn (pc := 40) (tgt := 1078) C.1 (bAnd_ok _ _) hc14 (by decide) (by decide) rfl dL_law__40 (by decide) (Wl_14 C N hl hX hM hS oi h0 h5 hc hs (h.1 hc14) kk)
  replace h := h.2
  by_cases hc15 : bAnd (sA xs i 0) 63 = 15
  · exact m_tabIn (pc := 40) (tgt := 1134) C.1 (bAnd_ok _ _) hc15 (by decide) (by decide) rfl dL_law__40 (by decide) (Wl_15 C N hl hX hM hS oi h0 h5 hc hs (h.1 hc15) kk)
  replace h := h.2
  by_cases hc16 : bAnd (sA xs i 0) 63 = 16
  · exact m_tabIn (pc := 40) (tgt := 1147) C.1 (bAnd_ok _ _) hc16 (by decide) (by decide) rfl dL_law__40 (by decide) (Wl_16 C N hl hX hM hS oi h0 h5 hc hs (h.1 hc16) kk)
  replace h := h.2
  by_cases hc17 : bAnd (sA xs i 0) 63 = 17
  · exact m_tabIn (pc := 40) (tgt := 1160) C.1 (bAnd_ok _ _) hc17 (by decide) (by decide) rfl dL_law__40 (by decide) (Wl_17 C N hl hX hM hS oi h0 h5 hc hs (h.1 hc17) kk)
  replace h := h.2
  by_cases hc18 : bAnd (sA xs i 0) 63 = 18
  · exact m_tabIn (pc := 40) (tgt := 1228) C.1 (bAnd_ok _ _) hc18 (by decide) (by decide) rfl dL_law__40 (by decide) (Wl_18 C N hl hX hM hS oi h0 h5 hc hs (h.1 hc18) kk)
  replace h := h.2
  by_cases hc19 : bAnd (sA xs i 0) 63 = 19
  · exact m_tabIn (pc := 40) (tgt := 1284) C.1 (bAnd_ok _ _) hc19 (by decide) (by decide) rfl dL_law__40 (by decide) (Wl_19 C N hl hX hM hS oi h0 h5 hc hs (h.1 hc19) kk)
  replace h := h.2
  by_cases hc20 : bAnd (sA xs i 0) 63 = 20
  · exact m_tabIn (pc := 40) (tgt := 1352) C.1 (bAnd_ok _ _) hc20 (by decide) (by decide) rfl dL_law__40 (by decide) (Wl_20 C N hl hX hM hS oi h0 h5 hc hs (h.1 hc20) kk)
  replace h := h.2
  by_cases hc21 : bAnd (sA xs i 0) 63 = 21
  · exact m_tabIn (pc := 40) (tgt := 1408) C.1 (bAnd_ok _ _) hc21 (by decide) (by decide) rfl dL_law__40 (by decide) (Wl_21 C N hl hX hM hS oi h0 h5 hc hs (h.1 hc21) kk)
  replace h := h.2
  by_cases hc22 : bAnd (sA xs i 0) 63 = 22
  · exact m_tabIn (pc := 40) (tgt := 1476) C.1 (bAnd_ok _ _) hc22 (by decide) (by decide) rfl dL_law__40 (by decide) (Wl_22 C N hl hX hM hS oi h0 h5 hc hs (h.1 hc22) kk)
  replace h := h.2
  by_cases hc23 : bAnd (sA xs i 0) 63 = 23
  · exact m_tabIn (pc := 40) (tgt := 1544) C.1 (bAnd_ok _ _) hc23 (by decide) (by decide) rfl dL_law__40 (by decide) (Wl_23 C N hl hX hM hS oi h0 h5 hc hs (h.1 hc23) kk)
  replace h := h.2
  by_cases hc24 : bAnd (sA xs i 0) 63 = 24
  · exact m_tabIn (pc := 40) (tgt := 1612) C.1 (bAnd_ok _ _) hc24 (by decide) (by decide) rfl dL_law__40 (by decide) (Wl_24 C N hl hX hM hS oi h0 h5 hc hs (h.1 hc24) kk)
  replace h := h.2
  by_cases hc25 : bAnd (sA xs i 0) 63 = 25
  · exact m_tabIn (pc := 40) (tgt := 1704) C.1 (bAnd_ok _ _) hc25 (by decide) (by decide) rfl dL_law__40 (by decide) (Wl_25 C N hl hX hM hS oi h0 h5 hc hs (h.1 hc25) kk)
  replace h := h.2
  by_cases hc26 : bAnd (sA xs i 0) 63 = 26
  · exact m_tabIn (pc := 40) (tgt := 1776) C.1 (bAnd_ok _ _) hc26 (by decide) (by decide) rfl dL_law__40 (by decide) (Wl_26 C N hl hX hM hS oi h0 h5 hc hs (h.1 hc26) kk)
  replace h := h.2
  by_cases hc27 : bAnd (sA xs i 0) 63 = 27
  · exact m_tabIn (pc := 40) (tgt := 1820) C.1 (bAnd_ok _ _) hc27 (by decide) (by decide) rfl dL_law__40 (by decide) (Wl_27 C N hl hX hM hS oi h0 h5 hc hs (h.1 hc27) kk)
  replace h := h.2
  by_cases hc28 : bAnd (sA xs i 0) 63 = 28
  · exact m_tabIn (pc := 40) (tgt := 1833) C.1 (bAnd_ok _ _) hc28 (by decide) (by decide) rfl dL_law__40 (by decide) (Wl_28 C N hl hX hM hS oi h0 h5 hc hs (h.1 hc28) kk)
  replace h := h.2
  by_cases hc29 : bAnd (sA xs i 0) 63 = 29
  · exact m_tabIn (pc := 40) (tgt := 1846) C.1 (bAnd_ok _ _) hc29 (by decide) (by decide) rfl dL_law__40 (by decide) (Wl_29 C N hl hX hM hS oi h0 h5 hc hs (h.1 hc29) kk)
  replace h := h.2
  by_cases hc30 : bAnd (sA xs i 0) 63 = 30
  · exact m_tabIn (pc := 40) (tgt := 1859) C.1 (bAnd_ok _ _) hc30 (by decide) (by decide) rfl dL_law__40 (by decide) (Wl_30 C N hl hX hM hS oi h0 h5 hc hs (h.1 hc30) kk)
  replace h := h.2
  by_cases hc31 : bAnd (sA xs i 0) 63 = 31
  · exact m_tabIn (pc := 40) (tgt := 1927) C.1 (bAnd_ok _ _) hc31 (by decide) (by decide) rfl dL_law__40 (by decide) (Wl_31 C N hl hX hM hS oi h0 h5 hc hs (h.1 hc31) kk)
  replace h := h.2
  by_cases hc32 : bAnd (sA xs i 0) 63 = 32
  · exact m_tabIn (pc := 40) (tgt := 1983) C.1 (bAnd_ok _ _) hc32 (by decide) (by decide) rfl dL_law__40 (by decide) (Wl_32 C N hl hX hM hS oi h0 h5 hc hs (h.1 hc32) kk)
  replace h := h.2
  by_cases hc33 : bAnd (sA xs i 0) 63 = 33
  · exact m_tabIn (pc := 40) (tgt := 2039) C.1 (bAnd_ok _ _) hc33 (by decide) (by decide) rfl dL_law__40 (by decide) (Wl_33 C N hl hX hM hS oi h0 h5 hc hs (h.1 hc33) kk)
  replace h := h.2
  by_cases hc34 : bAnd (sA xs i 0) 63 = 34
  · exact m_tabIn (pc := 40) (tgt := 2107) C.1 (bAnd_ok _ _) hc34 (by decide) (by decide) rfl dL_law__40 (by decide) (Wl_34 C N hl hX hM hS oi h0 h5 hc hs (h.1 hc34) kk)
  replace h := h.2
  by_cases hc35 : bAnd (sA xs i 0) 63 = 35
  · exact m_tabIn (pc := 40) (tgt := 2120) C.1 (bAnd_ok _ _) hc35 (by decide) (by decide) rfl dL_law__40 (by decide) (Wl_35 C N hl hX hM hS oi h0 h5 hc hs (h.1 hc35) kk)
  replace h := h.2
  by_cases hc36 : bAnd (sA xs i 0) 63 = 36
  · exact m_tabIn (pc := 40) (tgt := 2133) C.1 (bAnd_ok _ _) hc36 (by decide) (by decide) rfl dL_law__40 (by decide) (Wl_36 C N hl hX hM hS oi h0 h5 hc hs (h.1 hc36) kk)
  replace h := h.2
  by_cases hc37 : bAnd (sA xs i 0) 63 = 37
  · exact m_tabIn (pc := 40) (tgt := 2217) C.1 (bAnd_ok _ _) hc37 (by decide) (by decide) rfl dL_law__40 (by decide) (Wl_37 C N hl hX hM hS oi h0 h5 hc hs (h.1 hc37) kk)
  replace h := h.2
  by_cases hc38 : bAnd (sA xs i 0) 63 = 38
  · exact m_tabIn (pc := 40) (tgt := 2301) C.1 (bAnd_ok _ _) hc38 (by decide) (by decide) rfl dL_law__40 (by decide) (Wl_38 C N hl hX hM hS oi h0 h5 hc hs (h.1 hc38) kk)
  replace h := h.2
  by_cases hc39 : bAnd (sA xs i 0) 63 = 39
  · exact m_tabIn (pc := 40) (tgt := 2385) C.1 (bAnd_ok _ _) hc39 (by decide) (by decide) rfl dL_law__40 (by decide) (Wl_39 C N hl hX hM hS oi h0 h5 hc hs (h.1 hc39) kk)
  replace h := h.2
  by_cases hc40 : bAnd (sA xs i 0) 63 = 40
  · exact m_tabIn (pc := 40) (tgt := 2453) C.1 (bAnd_ok _ _) hc40 (by decide) (by decide) rfl dL_law__40 (by decide) (Wl_40 C N hl hX hM hS oi h0 h5 hc hs (h.1 hc40) kk)
  replace h := h.2
  by_cases hc41 : bAnd (sA xs i 0) 63 = 41
  · exact m_tabIn (pc := 40) (tgt := 2478) C.1 (bAnd_ok _ _) hc41 (by decide) (by decide) rfl dL_law__40 (by decide) (Wl_41 C N hl hX hM hS oi h0 h5 hc hs (h.1 hc41) kk)
  replace h := h.2
  by_cases hc42 : bAnd (sA xs i 0) 63 = 42
  · exact m_tabIn (pc := 40) (tgt := 2491) C.1 (bAnd_ok _ _) hc42 (by decide) (by decide) rfl dL_law__40 (by decide) (Wl_42 C N hl hX hM hS oi h0 h5 hc hs (h.1 hc42) kk)
  replace h := h.2
  by_cases hc43 : bAnd (sA xs i 0) 63 = 43
  · exact m_tabIn (pc := 40) (tgt := 2502) C.1 (bAnd_ok _ _) hc43 (by decide) (by decide) rfl dL_law__40 (by decide) (Wl_43 C N hl hX hM hS oi h0 h5 hc hs (h.1 hc43) kk)
  replace h := h.2
  by_cases hc44 : bAnd (sA xs i 0) 63 = 44
  · exact m_tabIn (pc := 40) (tgt := 2515) C.1 (bAnd_ok _ _) hc44 (by decide) (by decide) rfl dL_law__40 (by decide) (Wl_44 C N hl hX hM hS oi h0 h5 hc hs (h.1 hc44) kk)
  replace h := h.2
  have hb0 := bAnd63 (sA xs i 0)
  refine m_tabOut (pc := 40) (tgt := 2540) C.1 (bAnd_ok _ _) (Or.inr (by omega)) dL_law__40 (by decide) ?_
  refine W.widen (k := cells + 4) (n := slots + 24) (by omega) (by omega) ?_
  exact kk X M _ _ _ (h (by omega)) hl hX hM hS
end
