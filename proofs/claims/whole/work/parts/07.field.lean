/-! ===== fields ===== -/
section mField
variable {p : Program} {l : Launch} {e : Env} {R : Room} {s : State} {m : MethodId} {args : Array Value} {below : List Frame} {meth : Method} {c : Code} {H : Heap} {locs : List Loc} {cells slots : Nat} {Q : State → Prop}
variable {cc : ByteArray} {pc : Nat} {ls : Array Slot} {rest : List Value} {own : String} {g : mG} {b : Nat} {K : Nat → mK} {S : mSt}
theorem mW_ob (hW : mW g b K S H) {r ci d : Nat} (hk : K r = (0, ci, d)) : t_OB (b + r) (g.D.1 ci) (nf ci) (g.D.2 ci) H (fun j => mvl b r (fk ci j) (S r j)) ∧ ∀ j, j < nf ci → (fk ci j).1 = 2 → 0 ≤ S r j ∧ K (S r j).toNat = (0, (fk ci j).2, 0) := by
  have h := hW.2.2 r
  unfold mCl at h
  rw [hk] at h
  exact h
theorem m_getf (X : mX p s m args c cc own) (hK : mKg g s) (hW : mW g b K S H) {C ref : String} {T : u_T} {N ci d0 r index : Nat} (hin : ∀ w ∈ u_ws C T N, w ∈ wsG) (hc : vwCl[ci]? = some (C, T, N)) (hn : nf ci = N) (j : Nat) (hj : j < N) (hk : K r = (0, ci, d0)) (hl : Cond.fieldLink own index ref (T j).2.1 (T j).2.2.1 ∈ wsG) (hr : (T j).1 = ref) {v : Value} (hv : mvl b r (fk ci j) (S r j) = v) (d : decode cc pc = .ok (.getfield index, 3)) (k : W p l e R s m args below meth c H locs cells slots Q (F0 m (pc + 3) ls (v :: rest))) : W p l e R s m args below meth c H locs cells slots Q (F0 m pc ls (.ref (b + r) :: rest)) := by
  obtain ⟨⟨cell, q1, q2, q3, q4⟩, -⟩ := mW_ob hW hk
  obtain ⟨hS, hfc, kC, hkC, hkind⟩ := hK.1.1 ci _ hc
  obtain ⟨cf, kf, fi, f, hi, hsl⟩ := hS j hj
  subst hr
  refine W.getf X.1 X.2.1 X.2.2.1 (X.2.2.2 _ hl) hi (u_facts hfc hkC (u_lays X.2.2.2 hin hj) hi).1 q1 (by rw [q3]; exact fun h => by cases h) (v := v) ?_ rfl rfl d k
  rw [hsl, q4 j (by omega)]
  exact congrArg some hv
theorem m_geti (X : mX p s m args c cc own) (hK : mKg g s) (hW : mW g b K S H) {C ref : String} {T : u_T} {N ci d0 r index : Nat} (hin : ∀ w ∈ u_ws C T N, w ∈ wsG) (hc : vwCl[ci]? = some (C, T, N)) (hn : nf ci = N) (j : Nat) (hj : j < N) (hk : K r = (0, ci, d0)) (hl : Cond.fieldLink own index ref (T j).2.1 (T j).2.2.1 ∈ wsG) (hr : (T j).1 = ref) (hf : fk ci j = (0, 0)) (d : decode cc pc = .ok (.getfield index, 3)) (k : W p l e R s m args below meth c H locs cells slots Q (F0 m (pc + 3) ls (.int (mI (S r j)) :: rest))) : W p l e R s m args below meth c H locs cells slots Q (F0 m pc ls (.ref (b + r) :: rest)) :=
  m_getf X hK hW hin hc hn j hj hk hl hr (by rw [hf]; rfl) d k
theorem m_getr (X : mX p s m args c cc own) (hK : mKg g s) (hW : mW g b K S H) {C ref : String} {T : u_T} {N ci d0 r o index : Nat} (hin : ∀ w ∈ u_ws C T N, w ∈ wsG) (hc : vwCl[ci]? = some (C, T, N)) (hn : nf ci = N) (j : Nat) (hj : j < N) (hk : K r = (0, ci, d0)) (hl : Cond.fieldLink own index ref (T j).2.1 (T j).2.2.1 ∈ wsG) (hr : (T j).1 = ref) (hf : fk ci j = (1, o)) (d : decode cc pc = .ok (.getfield index, 3)) (k : W p l e R s m args below meth c H locs cells slots Q (F0 m (pc + 3) ls (.ref (b + (r + o)) :: rest))) : W p l e R s m args below meth c H locs cells slots Q (F0 m pc ls (.ref (b + r) :: rest)) :=
  m_getf X hK hW hin hc hn j hj hk hl hr (by rw [hf]; rfl) d k
theorem m_getp (X : mX p s m args c cc own) (hK : mKg g s) (hW : mW g b K S H) {C ref : String} {T : u_T} {N ci d0 r o index : Nat} (hin : ∀ w ∈ u_ws C T N, w ∈ wsG) (hc : vwCl[ci]? = some (C, T, N)) (hn : nf ci = N) (j : Nat) (hj : j < N) (hk : K r = (0, ci, d0)) (hl : Cond.fieldLink own index ref (T j).2.1 (T j).2.2.1 ∈ wsG) (hr : (T j).1 = ref) (hf : fk ci j = (2, o)) (d : decode cc pc = .ok (.getfield index, 3)) (k : ∀ q : Nat, (q : Int) = S r j → K q = (0, o, 0) → W p l e R s m args below meth c H locs cells slots Q (F0 m (pc + 3) ls (.ref (b + q) :: rest))) : W p l e R s m args below meth c H locs cells slots Q (F0 m pc ls (.ref (b + r) :: rest)) := by
  have h2 := (mW_ob hW hk).2 j (by omega) (by rw [hf])
  rw [hf] at h2
  exact m_getf X hK hW hin hc hn j hj hk hl hr (by rw [hf]; rfl) d (k _ (by omega) h2.2)
theorem m_putf (X : mX p s m args c cc own) (hK : mKg g s) (hW : mW g b K S H) (hS : va_S (mA b K s.heap.size) s.heap H locs) {C ref : String} {T : u_T} {N ci r index : Nat} (hin : ∀ w ∈ u_ws C T N, w ∈ wsG) (ty0 : Nat → FieldType) (hty : ∀ k, k < N → parseFieldDescriptor (T k).2.2.1 = some (ty0 k)) (hnm : ∀ a, a < N → ∀ b, b < N → a ≠ b → (T a).2.1 ≠ (T b).2.1) (hc : vwCl[ci]? = some (C, T, N)) (hn : nf ci = N) (j : Nat) (hj : j < N) (hk : K r = (0, ci, 0)) (hl : Cond.fieldLink own index ref (T j).2.1 (T j).2.2.1 ∈ wsG) (hr : (T j).1 = ref) (hfin : (T j).2.2.2 = false) {ty : FieldType} {v : Value} {x : Int} (hd : parseFieldDescriptor (T j).2.2.1 = some ty) (hnr : narrow ty v = v) (hfit : fits ty v = true) (hv : mvl b r (fk ci j) x = v) (hx : okI x) (hp : (fk ci j).1 = 2 → 0 ≤ x ∧ K x.toNat = (0, (fk ci j).2, 0)) (h1 : (fk ci j).1 ≠ 1) (d : decode cc pc = .ok (.putfield index, 3)) (k : ∀ (S1 : mSt) (H1 : Heap) (locs1 : List Loc), S1 = mup S r j x → mW g b K S1 H1 → va_S (mA b K s.heap.size) s.heap H1 locs1 → W p l e R s m args below meth c H1 locs1 cells slots Q (F0 m (pc + 3) ls rest)) : W p l e R s m args below meth c H locs cells slots Q (F0 m pc ls (v :: .ref (b + r) :: rest)) := by
  have hap := va_apart (own := own) X.2.2.2 hin ty0 hty hnm hK.1 hc
  obtain ⟨⟨cell, q1, q2, q3, q4⟩, hpt⟩ := mW_ob hW hk
  obtain ⟨hS9, hfc, kC, hkC, hkind⟩ := hK.1.1 ci _ hc
  obtain ⟨cf, kf, fi, f, hi, hsl⟩ := hS9 j hj
  have hlay := X.2.2.2 _ (hin _ (u_in_lay hj))
  unfold u_lay at hlay
  rw [if_neg (by rw [hfin]; decide)] at hlay
  have hst := (u_facts hfc hkC (u_lays X.2.2.2 hin hj) hi).1
  have h6 := u_store hfc hkC hkind hlay hi hd hnr hfit
  subst hr
  rw [hn] at q4
  refine W.putK X.1 X.2.1 (f := f) ⟨X.2.2.1, X.2.2.2 _ hl, ⟨_, _, _, hi⟩, hst⟩ (by rw [q2]; exact h6) q1 q3 (by rw [hsl]; exact k2_hasslot (q4 j hj)) rfl rfl d fun H1 e1 e2 e3 => ?_
  rw [hsl] at e1 ⊢
  refine k _ H1 _ rfl ⟨hW.1, okS_up hW.2.1 hx, mCl_up hW.2.2 ?_ e3⟩ (hS.put e2 e3 (mA_put (t := 0) (by rw [hk]) (by decide)))
  unfold mCl
  rw [hk]
  refine ⟨t_OB.to (V := updV (fun j => mvl b r (fk ci j) (S r j)) j v) ⟨_, e1, q2, q3, by rw [hn]; exact t_set q4 hap hj v⟩ (fun i _ => ?_), fun i hi2 hf2 => ?_⟩
  · unfold updV
    rw [mup_at]
    by_cases e : i = j
    · subst e; rw [if_pos rfl, if_pos rfl]; exact hv.symm
    · rw [if_neg e, if_neg (by omega)]
  · rw [mup_at]
    by_cases e : i = j
    · subst e; rw [if_pos rfl]; exact hp hf2
    · rw [if_neg (by omega)]; exact hpt i hi2 hf2
theorem m_puti (X : mX p s m args c cc own) (hK : mKg g s) (hW : mW g b K S H) (hS : va_S (mA b K s.heap.size) s.heap H locs) {C ref : String} {T : u_T} {N ci r index : Nat} (hin : ∀ w ∈ u_ws C T N, w ∈ wsG) (ty0 : Nat → FieldType) (hty : ∀ k, k < N → parseFieldDescriptor (T k).2.2.1 = some (ty0 k)) (hnm : ∀ a, a < N → ∀ b, b < N → a ≠ b → (T a).2.1 ≠ (T b).2.1) (hc : vwCl[ci]? = some (C, T, N)) (hn : nf ci = N) (j : Nat) (hj : j < N) (hk : K r = (0, ci, 0)) (hl : Cond.fieldLink own index ref (T j).2.1 (T j).2.2.1 ∈ wsG) (hr : (T j).1 = ref) (hfin : (T j).2.2.2 = false) (hf : fk ci j = (0, 0)) (hd : (T j).2.2.1 = "I") {x : Int} (hx : okI x) (d : decode cc pc = .ok (.putfield index, 3)) (k : ∀ (S1 : mSt) (H1 : Heap) (locs1 : List Loc), S1 = mup S r j x → mW g b K S1 H1 → va_S (mA b K s.heap.size) s.heap H1 locs1 → W p l e R s m args below meth c H1 locs1 cells slots Q (F0 m (pc + 3) ls rest)) : W p l e R s m args below meth c H locs cells slots Q (F0 m pc ls (.int (mI x) :: .ref (b + r) :: rest)) :=
  m_putf X hK hW hS hin ty0 hty hnm hc hn j hj hk hl hr hfin (ty := .int) (by rw [hd]; decide +kernel) rfl rfl (by rw [hf]; rfl) hx (by rw [hf]; intro h; cases h) (by rw [hf]; decide) d k
theorem m_putz (X : mX p s m args c cc own) (hK : mKg g s) (hW : mW g b K S H) (hS : va_S (mA b K s.heap.size) s.heap H locs) {C ref : String} {T : u_T} {N ci r index : Nat} (hin : ∀ w ∈ u_ws C T N, w ∈ wsG) (ty0 : Nat → FieldType) (hty : ∀ k, k < N → parseFieldDescriptor (T k).2.2.1 = some (ty0 k)) (hnm : ∀ a, a < N → ∀ b, b < N → a ≠ b → (T a).2.1 ≠ (T b).2.1) (hc : vwCl[ci]? = some (C, T, N)) (hn : nf ci = N) (j : Nat) (hj : j < N) (hk : K r = (0, ci, 0)) (hl : Cond.fieldLink own index ref (T j).2.1 (T j).2.2.1 ∈ wsG) (hr : (T j).1 = ref) (hfin : (T j).2.2.2 = false) (hf : fk ci j = (0, 0)) (hd : (T j).2.2.1 = "Z") {x : Int} (hx : x = 0 ∨ x = 1) (d : decode cc pc = .ok (.putfield index, 3)) (k : ∀ (S1 : mSt) (H1 : Heap) (locs1 : List Loc), S1 = mup S r j x → mW g b K S1 H1 → va_S (mA b K s.heap.size) s.heap H1 locs1 → W p l e R s m args below meth c H1 locs1 cells slots Q (F0 m (pc + 3) ls rest)) : W p l e R s m args below meth c H locs cells slots Q (F0 m pc ls (.int (mI x) :: .ref (b + r) :: rest)) :=
  m_putf X hK hW hS hin ty0 hty hnm hc hn j hj hk hl hr hfin (ty := .boolean) (by rw [hd]; decide +kernel) (by rcases hx with rfl | rfl <;> decide +kernel) (by rcases hx with rfl | rfl <;> decide +kernel) (by rw [hf]; rfl) (by rcases hx with rfl | rfl <;> decide) (by rw [hf]; intro h; cases h) (by rw [hf]; decide) d k
theorem m_putp (X : mX p s m args c cc own) (hK : mKg g s) (hW : mW g b K S H) (hS : va_S (mA b K s.heap.size) s.heap H locs) {C ref : String} {T : u_T} {N ci r o q index : Nat} (hin : ∀ w ∈ u_ws C T N, w ∈ wsG) (ty0 : Nat → FieldType) (hty : ∀ k, k < N → parseFieldDescriptor (T k).2.2.1 = some (ty0 k)) (hnm : ∀ a, a < N → ∀ b, b < N → a ≠ b → (T a).2.1 ≠ (T b).2.1) (hc : vwCl[ci]? = some (C, T, N)) (hn : nf ci = N) (j : Nat) (hj : j < N) (hk : K r = (0, ci, 0)) (hl : Cond.fieldLink own index ref (T j).2.1 (T j).2.2.1 ∈ wsG) (hr : (T j).1 = ref) (hfin : (T j).2.2.2 = false) (hf : fk ci j = (2, o)) {n : String} (hd : parseFieldDescriptor (T j).2.2.1 = some (.object n)) (hq : K q = (0, o, 0)) (hx : okI (q : Int)) (d : decode cc pc = .ok (.putfield index, 3)) (k : ∀ (S1 : mSt) (H1 : Heap) (locs1 : List Loc), S1 = mup S r j (q : Int) → mW g b K S1 H1 → va_S (mA b K s.heap.size) s.heap H1 locs1 → W p l e R s m args below meth c H1 locs1 cells slots Q (F0 m (pc + 3) ls rest)) : W p l e R s m args below meth c H locs cells slots Q (F0 m pc ls (.ref (b + q) :: .ref (b + r) :: rest)) :=
  m_putf X hK hW hS hin ty0 hty hnm hc hn j hj hk hl hr hfin (ty := .object n) hd rfl rfl (by rw [hf]; rfl) hx (by rw [hf]; intro _; exact ⟨by omega, hq⟩) (by rw [hf]; show (2 : Nat) ≠ 1; decide) d k
end mField
