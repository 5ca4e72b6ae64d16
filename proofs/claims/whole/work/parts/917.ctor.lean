set_option maxHeartbeats 4000000
set_option maxRecDepth 20000
theorem mCl_ob {g : mG} {b r ci d : Nat} {K : Nat → mK} {f : Int → Int} {H : Heap} (h : mCl g b K r f H) (hk : K r = (0, ci, d)) : t_OB (b + r) (g.D.1 ci) (nf ci) (g.D.2 ci) H (fun j => mvl b r (fk ci j) (f j)) ∧ ∀ j, j < nf ci → (fk ci j).1 = 2 → 0 ≤ f j ∧ K (f j).toNat = (0, (fk ci j).2, 0) := by
  unfold mCl at h
  rw [hk] at h
  exact h
def w_X5_init (r : Nat) (S : mSt) (Q : mSt → Prop) : Prop :=
  ∀ S1 : mSt, S1 = mz S r → ∀ S2 : mSt, S2 = mz S1 (r + 1) → ∀ S3 : mSt, S3 = mz S2 (r + 2) → ∀ S4 : mSt, S4 = mz S3 (r + 3) → ∀ S5 : mSt, S5 = mz S4 (r + 4) → ∀ S6 : mSt, S6 = mz S5 (r + 5) → ∀ S7 : mSt, S7 = mz S6 (r + 6) → ∀ S8 : mSt, S8 = mup S7 r 6 255 → ∀ S9 : mSt, S9 = mup S8 (r + 5) 0 0 → ∀ S10 : mSt, S10 = mup S9 (r + 6) 0 3 → ∀ S11 : mSt, S11 = mup S10 (r + 5) 1 1 → ∀ S12 : mSt, S12 = mup S11 (r + 6) 1 3 → ∀ S13 : mSt, S13 = mup S12 (r + 5) 2 2 → ∀ S14 : mSt, S14 = mup S13 (r + 6) 2 3 → ∀ S15 : mSt, S15 = mup S14 (r + 5) 3 3 → ∀ S16 : mSt, S16 = mup S15 (r + 6) 3 3 → ∀ S17 : mSt, S17 = mup S16 (r + 5) 4 4 → ∀ S18 : mSt, S18 = mup S17 (r + 6) 4 3 → ∀ S19 : mSt, S19 = mup S18 (r + 5) 5 5 → ∀ S20 : mSt, S20 = mup S19 (r + 6) 5 3 → ∀ S21 : mSt, S21 = mup S20 (r + 5) 6 6 → ∀ S22 : mSt, S22 = mup S21 (r + 6) 6 3 → ∀ S23 : mSt, S23 = mup S22 (r + 5) 7 7 → ∀ S24 : mSt, S24 = mup S23 (r + 6) 7 3 → Q S24
theorem T_X5_init {l : Launch} {g : mG} {b : Nat} (r : Nat) (hkr : KX r = (0, 3, 0)) {S : mSt} {Q : mSt → Prop} (h : w_X5_init r S Q) : vx_Met l yX5_init (Cond.code yX5_init cX5_init 2 none :: wsG) { frames := 1, cells := 6, slots := 48, locals := 20 } (cPc g b KX r 3 S) (cQv g b KX r (r + 7) S Q) (cEx (gA b r)) 6 48 (gA b r) :=
  c_of (by decide) (by decide) rfl (fun p e s m args below meth c ls X hK hA hml hr hlk hnm hG hl => by
    have X : mX p s m args c cX5_init "MoonWash$Moon" := X
    have hS : va_S (gA b r) s.heap s.heap [] := va_S.rf
    unfold w_X5_init at h
    replace h := h _ rfl
    generalize hS1 : mz S r = S1 at hG h
    refine m_aload_n (pc := 0) X dX5_init_0 rfl hl 0 rfl ?_
    refine c_obj (pc := 1) X hml hl.1 (rest := []) q_129 (by decide) (by decide) dX5_init_1 ?_
    refine m_aload_n (pc := 4) X dX5_init_4 rfl hl 0 rfl ?_
    refine m_bipush (pc := 5) X dX5_init_5 rfl ?_
    refine c_newa (pc := 7) X hK hG hS (k_3_0 hkr) (Or.inl ⟨rfl, rfl⟩) (by decide : okI 8) rfl (by decide) q_183 dX5_init_7 (by decide) (by decide) (fun S2 H eS2 hG hq hS => ?_)
    replace h := h S2 eS2
    have hG : gW g b KX S S2 r r (r + 2) 3 [] H := hG
    refine c_putr (pc := 9) X hK hG hS inX5 tyX5 tyX5_ok nmX5 rfl rfl 0 (by decide) hnm rfl q_130 rfl rfl rfl (ty := (.array .int)) (by decide +kernel) rfl rfl dX5_init_9 (fun H locs hG hq hS => ?_)
    have hG : gW g b KX S S2 r r (r + 2) 3 [0] H := hG
    refine m_aload_n (pc := 12) X dX5_init_12 rfl hl 0 rfl ?_
    refine m_bipush (pc := 13) X dX5_init_13 rfl ?_
    refine c_newa (pc := 15) X hK hG hS (k_3_1 hkr) (Or.inl ⟨rfl, rfl⟩) (by decide : okI 8) rfl (by decide) q_183 dX5_init_15 (by decide) (by decide) (fun S3 H eS3 hG hq hS => ?_)
    replace h := h S3 eS3
    have hG : gW g b KX S S3 r r (r + 3) 3 [0] H := hG
    refine c_putr (pc := 17) X hK hG hS inX5 tyX5 tyX5_ok nmX5 rfl rfl 1 (by decide) hnm rfl q_135 rfl rfl rfl (ty := (.array .int)) (by decide +kernel) rfl rfl dX5_init_17 (fun H locs hG hq hS => ?_)
    have hG : gW g b KX S S3 r r (r + 3) 3 [1, 0] H := hG
    refine m_aload_n (pc := 20) X dX5_init_20 rfl hl 0 rfl ?_
    refine m_bipush (pc := 21) X dX5_init_21 rfl ?_
    refine c_newa (pc := 23) X hK hG hS (k_3_2 hkr) (Or.inl ⟨rfl, rfl⟩) (by decide : okI 8) rfl (by decide) q_183 dX5_init_23 (by decide) (by decide) (fun S4 H eS4 hG hq hS => ?_)
    replace h := h S4 eS4
    have hG : gW g b KX S S4 r r (r + 4) 3 [1, 0] H := hG
    refine c_putr (pc := 25) X hK hG hS inX5 tyX5 tyX5_ok nmX5 rfl rfl 2 (by decide) hnm rfl q_139 rfl rfl rfl (ty := (.array .int)) (by decide +kernel) rfl rfl dX5_init_25 (fun H locs hG hq hS => ?_)
    have hG : gW g b KX S S4 r r (r + 4) 3 [2, 1, 0] H := hG
    refine m_aload_n (pc := 28) X dX5_init_28 rfl hl 0 rfl ?_
    refine m_bipush (pc := 29) X dX5_init_29 rfl ?_
    refine c_newa (pc := 31) X hK hG hS (k_3_3 hkr) (Or.inl ⟨rfl, rfl⟩) (by decide : okI 8) rfl (by decide) q_183 dX5_init_31 (by decide) (by decide) (fun S5 H eS5 hG hq hS => ?_)
    replace h := h S5 eS5
    have hG : gW g b KX S S5 r r (r + 5) 3 [2, 1, 0] H := hG
    refine c_putr (pc := 33) X hK hG hS inX5 tyX5 tyX5_ok nmX5 rfl rfl 3 (by decide) hnm rfl q_142 rfl rfl rfl (ty := (.array .int)) (by decide +kernel) rfl rfl dX5_init_33 (fun H locs hG hq hS => ?_)
    have hG : gW g b KX S S5 r r (r + 5) 3 [3, 2, 1, 0] H := hG
    refine m_aload_n (pc := 36) X dX5_init_36 rfl hl 0 rfl ?_
    refine m_bipush (pc := 37) X dX5_init_37 rfl ?_
    refine c_newa (pc := 39) X hK hG hS (k_3_4 hkr) (Or.inl ⟨rfl, rfl⟩) (by decide : okI 8) rfl (by decide) q_183 dX5_init_39 (by decide) (by decide) (fun S6 H eS6 hG hq hS => ?_)
    replace h := h S6 eS6
    have hG : gW g b KX S S6 r r (r + 6) 3 [3, 2, 1, 0] H := hG
    refine c_putr (pc := 41) X hK hG hS inX5 tyX5 tyX5_ok nmX5 rfl rfl 4 (by decide) hnm rfl q_147 rfl rfl rfl (ty := (.array .int)) (by decide +kernel) rfl rfl dX5_init_41 (fun H locs hG hq hS => ?_)
    have hG : gW g b KX S S6 r r (r + 6) 3 [4, 3, 2, 1, 0] H := hG
    refine m_aload_n (pc := 44) X dX5_init_44 rfl hl 0 rfl ?_
    refine m_bipush (pc := 45) X dX5_init_45 rfl ?_
    refine c_newa (pc := 47) X hK hG hS (k_3_5 hkr) (Or.inl ⟨rfl, rfl⟩) (by decide : okI 8) rfl (by decide) q_183 dX5_init_47 (by decide) (by decide) (fun S7 H eS7 hG hq hS => ?_)
    replace h := h S7 eS7
    have hG : gW g b KX S S7 r r (r + 7) 3 [4, 3, 2, 1, 0] H := hG
    refine c_putr (pc := 49) X hK hG hS inX5 tyX5 tyX5_ok nmX5 rfl rfl 5 (by decide) hnm rfl q_150 rfl rfl rfl (ty := (.array .int)) (by decide +kernel) rfl rfl dX5_init_49 (fun H locs hG hq hS => ?_)
    have hG : gW g b KX S S7 r r (r + 7) 3 [5, 4, 3, 2, 1, 0] H := hG
    refine m_aload_n (pc := 52) X dX5_init_52 rfl hl 0 rfl ?_
    refine m_sipush (pc := 53) X dX5_init_53 rfl ?_
    refine c_puti (pc := 56) X hK hG hS inX5 tyX5 tyX5_ok nmX5 rfl rfl 6 (by decide) hnm rfl q_154 rfl rfl rfl (by decide : okI 255) dX5_init_56 (fun S8 H locs eS8 hG hq hS => ?_)
    replace h := h S8 eS8
    have hG : gW g b KX S S8 r r (r + 7) 3 [6, 5, 4, 3, 2, 1, 0] H := hG
    refine m_iconst (pc := 59) X dX5_init_59 ?_
    refine m_istore_n (pc := 60) X dX5_init_60 rfl hl (by decide) (fun v => [(1, .int v), (0, .ref (b + r))]) (fun _ => rfl) (by decide : okI 0) (fun v ls ev _ hl => ?_)
    rw [ev] at hl
    clear ev
    refine m_iload_n (pc := 61) X dX5_init_61 rfl hl 0 rfl ?_
    refine m_bipush (pc := 62) X dX5_init_62 rfl ?_
    refine m_icmp_ge (pc := 64) (tgt := 87) X (by decide : okI 0) (by decide : okI 8) dX5_init_64 (by decide) (fun hc => absurd hc (by decide)) (fun _ => ?_)
    refine m_aload_n (pc := 67) X dX5_init_67 rfl hl 1 rfl ?_
    refine c_getr (pc := 68) X hK hG inX5 rfl rfl 4 (by decide) (by decide) q_147 rfl rfl dX5_init_68 ?_
    refine m_iload_n (pc := 71) X dX5_init_71 rfl hl 0 rfl ?_
    refine m_iload_n (pc := 72) X dX5_init_72 rfl hl 0 rfl ?_
    refine c_iast (pc := 73) X hK hG hS (by omega) (by omega) (by omega) (k_3_4 hkr) (by decide : okI 0) (by decide : okI 0) (by decide) (by decide) dX5_init_73 (fun S9 H locs eS9 hG hS => ?_)
    replace h := h S9 eS9
    have hG : gW g b KX S S9 r r (r + 7) 3 [6, 5, 4, 3, 2, 1, 0] H := hG
    refine m_aload_n (pc := 74) X dX5_init_74 rfl hl 1 rfl ?_
    refine c_getr (pc := 75) X hK hG inX5 rfl rfl 5 (by decide) (by decide) q_150 rfl rfl dX5_init_75 ?_
    refine m_iload_n (pc := 78) X dX5_init_78 rfl hl 0 rfl ?_
    refine m_iconst (pc := 79) X dX5_init_79 ?_
    refine c_iast (pc := 80) X hK hG hS (by omega) (by omega) (by omega) (k_3_5 hkr) (by decide : okI 0) (by decide : okI 3) (by decide) (by decide) dX5_init_80 (fun S10 H locs eS10 hG hS => ?_)
    replace h := h S10 eS10
    have hG : gW g b KX S S10 r r (r + 7) 3 [6, 5, 4, 3, 2, 1, 0] H := hG
    refine m_iinc (pc := 81) X dX5_init_81 hl (by decide) (q0 := 0) rfl (fun v => [(1, .int v), (0, .ref (b + r))]) (fun _ => rfl) (fun v ls ev _ hl => ?_)
    rw [show nm (0 + 1) = 1 by decide] at ev
    rw [ev] at hl
    clear ev
    refine m_goto (pc := 84) (tgt := 61) X dX5_init_84 (by decide) ?_
    refine m_iload_n (pc := 61) X dX5_init_61 rfl hl 0 rfl ?_
    refine m_bipush (pc := 62) X dX5_init_62 rfl ?_
    refine m_icmp_ge (pc := 64) (tgt := 87) X (by decide : okI 1) (by decide : okI 8) dX5_init_64 (by decide) (fun hc => absurd hc (by decide)) (fun _ => ?_)
    refine m_aload_n (pc := 67) X dX5_init_67 rfl hl 1 rfl ?_
    refine c_getr (pc := 68) X hK hG inX5 rfl rfl 4 (by decide) (by decide) q_147 rfl rfl dX5_init_68 ?_
    refine m_iload_n (pc := 71) X dX5_init_71 rfl hl 0 rfl ?_
    refine m_iload_n (pc := 72) X dX5_init_72 rfl hl 0 rfl ?_
    refine c_iast (pc := 73) X hK hG hS (by omega) (by omega) (by omega) (k_3_4 hkr) (by decide : okI 1) (by decide : okI 1) (by decide) (by decide) dX5_init_73 (fun S11 H locs eS11 hG hS => ?_)
    replace h := h S11 eS11
    have hG : gW g b KX S S11 r r (r + 7) 3 [6, 5, 4, 3, 2, 1, 0] H := hG
    refine m_aload_n (pc := 74) X dX5_init_74 rfl hl 1 rfl ?_
    refine c_getr (pc := 75) X hK hG inX5 rfl rfl 5 (by decide) (by decide) q_150 rfl rfl dX5_init_75 ?_
    refine m_iload_n (pc := 78) X dX5_init_78 rfl hl 0 rfl ?_
    refine m_iconst (pc := 79) X dX5_init_79 ?_
    refine c_iast (pc := 80) X hK hG hS (by omega) (by omega) (by omega) (k_3_5 hkr) (by decide : okI 1) (by decide : okI 3) (by decide) (by decide) dX5_init_80 (fun S12 H locs eS12 hG hS => ?_)
    replace h := h S12 eS12
    have hG : gW g b KX S S12 r r (r + 7) 3 [6, 5, 4, 3, 2, 1, 0] H := hG
    refine m_iinc (pc := 81) X dX5_init_81 hl (by decide) (q0 := 0) rfl (fun v => [(1, .int v), (0, .ref (b + r))]) (fun _ => rfl) (fun v ls ev _ hl => ?_)
    rw [show nm (1 + 1) = 2 by decide] at ev
    rw [ev] at hl
    clear ev
    refine m_goto (pc := 84) (tgt := 61) X dX5_init_84 (by decide) ?_
    refine m_iload_n (pc := 61) X dX5_init_61 rfl hl 0 rfl ?_
    refine m_bipush (pc := 62) X dX5_init_62 rfl ?_
    refine m_icmp_ge (pc := 64) (tgt := 87) X (by decide : okI 2) (by decide : okI 8) dX5_init_64 (by decide) (fun hc => absurd hc (by decide)) (fun _ => ?_)
    refine m_aload_n (pc := 67) X dX5_init_67 rfl hl 1 rfl ?_
    refine c_getr (pc := 68) X hK hG inX5 rfl rfl 4 (by decide) (by decide) q_147 rfl rfl dX5_init_68 ?_
    refine m_iload_n (pc := 71) X dX5_init_71 rfl hl 0 rfl ?_
    refine m_iload_n (pc := 72) X dX5_init_72 rfl hl 0 rfl ?_
    refine c_iast (pc := 73) X hK hG hS (by omega) (by omega) (by omega) (k_3_4 hkr) (by decide : okI 2) (by decide : okI 2) (by decide) (by decide) dX5_init_73 (fun S13 H locs eS13 hG hS => ?_)
    replace h := h S13 eS13
    have hG : gW g b KX S S13 r r (r + 7) 3 [6, 5, 4, 3, 2, 1, 0] H := hG
    refine m_aload_n (pc := 74) X dX5_init_74 rfl hl 1 rfl ?_
    refine c_getr (pc := 75) X hK hG inX5 rfl rfl 5 (by decide) (by decide) q_150 rfl rfl dX5_init_75 ?_
    refine m_iload_n (pc := 78) X dX5_init_78 rfl hl 0 rfl ?_
    refine m_iconst (pc := 79) X dX5_init_79 ?_
    refine c_iast (pc := 80) X hK hG hS (by omega) (by omega) (by omega) (k_3_5 hkr) (by decide : okI 2) (by decide : okI 3) (by decide) (by decide) dX5_init_80 (fun S14 H locs eS14 hG hS => ?_)
    replace h := h S14 eS14
    have hG : gW g b KX S S14 r r (r + 7) 3 [6, 5, 4, 3, 2, 1, 0] H := hG
    refine m_iinc (pc := 81) X dX5_init_81 hl (by decide) (q0 := 0) rfl (fun v => [(1, .int v), (0, .ref (b + r))]) (fun _ => rfl) (fun v ls ev _ hl => ?_)
    rw [show nm (2 + 1) = 3 by decide] at ev
    rw [ev] at hl
    clear ev
    refine m_goto (pc := 84) (tgt := 61) X dX5_init_84 (by decide) ?_
    refine m_iload_n (pc := 61) X dX5_init_61 rfl hl 0 rfl ?_
    refine m_bipush (pc := 62) X dX5_init_62 rfl ?_
    refine m_icmp_ge (pc := 64) (tgt := 87) X (by decide : okI 3) (by decide : okI 8) dX5_init_64 (by decide) (fun hc => absurd hc (by decide)) (fun _ => ?_)
    refine m_aload_n (pc := 67) X dX5_init_67 rfl hl 1 rfl ?_
    refine c_getr (pc := 68) X hK hG inX5 rfl rfl 4 (by decide) (by decide) q_147 rfl rfl dX5_init_68 ?_
    refine m_iload_n (pc := 71) X dX5_init_71 rfl hl 0 rfl ?_
    refine m_iload_n (pc := 72) X dX5_init_72 rfl hl 0 rfl ?_
    refine c_iast (pc := 73) X hK hG hS (by omega) (by omega) (by omega) (k_3_4 hkr) (by decide : okI 3) (by decide : okI 3) (by decide) (by decide) dX5_init_73 (fun S15 H locs eS15 hG hS => ?_)
    replace h := h S15 eS15
    have hG : gW g b KX S S15 r r (r + 7) 3 [6, 5, 4, 3, 2, 1, 0] H := hG
    refine m_aload_n (pc := 74) X dX5_init_74 rfl hl 1 rfl ?_
    refine c_getr (pc := 75) X hK hG inX5 rfl rfl 5 (by decide) (by decide) q_150 rfl rfl dX5_init_75 ?_
    refine m_iload_n (pc := 78) X dX5_init_78 rfl hl 0 rfl ?_
    refine m_iconst (pc := 79) X dX5_init_79 ?_
    refine c_iast (pc := 80) X hK hG hS (by omega) (by omega) (by omega) (k_3_5 hkr) (by decide : okI 3) (by decide : okI 3) (by decide) (by decide) dX5_init_80 (fun S16 H locs eS16 hG hS => ?_)
    replace h := h S16 eS16
    have hG : gW g b KX S S16 r r (r + 7) 3 [6, 5, 4, 3, 2, 1, 0] H := hG
    refine m_iinc (pc := 81) X dX5_init_81 hl (by decide) (q0 := 0) rfl (fun v => [(1, .int v), (0, .ref (b + r))]) (fun _ => rfl) (fun v ls ev _ hl => ?_)
    rw [show nm (3 + 1) = 4 by decide] at ev
    rw [ev] at hl
    clear ev
    refine m_goto (pc := 84) (tgt := 61) X dX5_init_84 (by decide) ?_
    refine m_iload_n (pc := 61) X dX5_init_61 rfl hl 0 rfl ?_
    refine m_bipush (pc := 62) X dX5_init_62 rfl ?_
    refine m_icmp_ge (pc := 64) (tgt := 87) X (by decide : okI 4) (by decide : okI 8) dX5_init_64 (by decide) (fun hc => absurd hc (by decide)) (fun _ => ?_)
    refine m_aload_n (pc := 67) X dX5_init_67 rfl hl 1 rfl ?_
    refine c_getr (pc := 68) X hK hG inX5 rfl rfl 4 (by decide) (by decide) q_147 rfl rfl dX5_init_68 ?_
    refine m_iload_n (pc := 71) X dX5_init_71 rfl hl 0 rfl ?_
    refine m_iload_n (pc := 72) X dX5_init_72 rfl hl 0 rfl ?_
    refine c_iast (pc := 73) X hK hG hS (by omega) (by omega) (by omega) (k_3_4 hkr) (by decide : okI 4) (by decide : okI 4) (by decide) (by decide) dX5_init_73 (fun S17 H locs eS17 hG hS => ?_)
    replace h := h S17 eS17
    have hG : gW g b KX S S17 r r (r + 7) 3 [6, 5, 4, 3, 2, 1, 0] H := hG
    refine m_aload_n (pc := 74) X dX5_init_74 rfl hl 1 rfl ?_
    refine c_getr (pc := 75) X hK hG inX5 rfl rfl 5 (by decide) (by decide) q_150 rfl rfl dX5_init_75 ?_
    refine m_iload_n (pc := 78) X dX5_init_78 rfl hl 0 rfl ?_
    refine m_iconst (pc := 79) X dX5_init_79 ?_
    refine c_iast (pc := 80) X hK hG hS (by omega) (by omega) (by omega) (k_3_5 hkr) (by decide : okI 4) (by decide : okI 3) (by decide) (by decide) dX5_init_80 (fun S18 H locs eS18 hG hS => ?_)
    replace h := h S18 eS18
    have hG : gW g b KX S S18 r r (r + 7) 3 [6, 5, 4, 3, 2, 1, 0] H := hG
    refine m_iinc (pc := 81) X dX5_init_81 hl (by decide) (q0 := 0) rfl (fun v => [(1, .int v), (0, .ref (b + r))]) (fun _ => rfl) (fun v ls ev _ hl => ?_)
    rw [show nm (4 + 1) = 5 by decide] at ev
    rw [ev] at hl
    clear ev
    refine m_goto (pc := 84) (tgt := 61) X dX5_init_84 (by decide) ?_
    refine m_iload_n (pc := 61) X dX5_init_61 rfl hl 0 rfl ?_
    refine m_bipush (pc := 62) X dX5_init_62 rfl ?_
    refine m_icmp_ge (pc := 64) (tgt := 87) X (by decide : okI 5) (by decide : okI 8) dX5_init_64 (by decide) (fun hc => absurd hc (by decide)) (fun _ => ?_)
    refine m_aload_n (pc := 67) X dX5_init_67 rfl hl 1 rfl ?_
    refine c_getr (pc := 68) X hK hG inX5 rfl rfl 4 (by decide) (by decide) q_147 rfl rfl dX5_init_68 ?_
    refine m_iload_n (pc := 71) X dX5_init_71 rfl hl 0 rfl ?_
    refine m_iload_n (pc := 72) X dX5_init_72 rfl hl 0 rfl ?_
    refine c_iast (pc := 73) X hK hG hS (by omega) (by omega) (by omega) (k_3_4 hkr) (by decide : okI 5) (by decide : okI 5) (by decide) (by decide) dX5_init_73 (fun S19 H locs eS19 hG hS => ?_)
    replace h := h S19 eS19
    have hG : gW g b KX S S19 r r (r + 7) 3 [6, 5, 4, 3, 2, 1, 0] H := hG
    refine m_aload_n (pc := 74) X dX5_init_74 rfl hl 1 rfl ?_
    refine c_getr (pc := 75) X hK hG inX5 rfl rfl 5 (by decide) (by decide) q_150 rfl rfl dX5_init_75 ?_
    refine m_iload_n (pc := 78) X dX5_init_78 rfl hl 0 rfl ?_
    refine m_iconst (pc := 79) X dX5_init_79 ?_
    refine c_iast (pc := 80) X hK hG hS (by omega) (by omega) (by omega) (k_3_5 hkr) (by decide : okI 5) (by decide : okI 3) (by decide) (by decide) dX5_init_80 (fun S20 H locs eS20 hG hS => ?_)
    replace h := h S20 eS20
    have hG : gW g b KX S S20 r r (r + 7) 3 [6, 5, 4, 3, 2, 1, 0] H := hG
    refine m_iinc (pc := 81) X dX5_init_81 hl (by decide) (q0 := 0) rfl (fun v => [(1, .int v), (0, .ref (b + r))]) (fun _ => rfl) (fun v ls ev _ hl => ?_)
    rw [show nm (5 + 1) = 6 by decide] at ev
    rw [ev] at hl
    clear ev
    refine m_goto (pc := 84) (tgt := 61) X dX5_init_84 (by decide) ?_
    refine m_iload_n (pc := 61) X dX5_init_61 rfl hl 0 rfl ?_
    refine m_bipush (pc := 62) X dX5_init_62 rfl ?_
    refine m_icmp_ge (pc := 64) (tgt := 87) X (by decide : okI 6) (by decide : okI 8) dX5_init_64 (by decide) (fun hc => absurd hc (by decide)) (fun _ => ?_)
    refine m_aload_n (pc := 67) X dX5_init_67 rfl hl 1 rfl ?_
    refine c_getr (pc := 68) X hK hG inX5 rfl rfl 4 (by decide) (by decide) q_147 rfl rfl dX5_init_68 ?_
    refine m_iload_n (pc := 71) X dX5_init_71 rfl hl 0 rfl ?_
    refine m_iload_n (pc := 72) X dX5_init_72 rfl hl 0 rfl ?_
    refine c_iast (pc := 73) X hK hG hS (by omega) (by omega) (by omega) (k_3_4 hkr) (by decide : okI 6) (by decide : okI 6) (by decide) (by decide) dX5_init_73 (fun S21 H locs eS21 hG hS => ?_)
    replace h := h S21 eS21
    have hG : gW g b KX S S21 r r (r + 7) 3 [6, 5, 4, 3, 2, 1, 0] H := hG
    refine m_aload_n (pc := 74) X dX5_init_74 rfl hl 1 rfl ?_
    refine c_getr (pc := 75) X hK hG inX5 rfl rfl 5 (by decide) (by decide) q_150 rfl rfl dX5_init_75 ?_
    refine m_iload_n (pc := 78) X dX5_init_78 rfl hl 0 rfl ?_
    refine m_iconst (pc := 79) X dX5_init_79 ?_
    refine c_iast (pc := 80) X hK hG hS (by omega) (by omega) (by omega) (k_3_5 hkr) (by decide : okI 6) (by decide : okI 3) (by decide) (by decide) dX5_init_80 (fun S22 H locs eS22 hG hS => ?_)
    replace h := h S22 eS22
    have hG : gW g b KX S S22 r r (r + 7) 3 [6, 5, 4, 3, 2, 1, 0] H := hG
    refine m_iinc (pc := 81) X dX5_init_81 hl (by decide) (q0 := 0) rfl (fun v => [(1, .int v), (0, .ref (b + r))]) (fun _ => rfl) (fun v ls ev _ hl => ?_)
    rw [show nm (6 + 1) = 7 by decide] at ev
    rw [ev] at hl
    clear ev
    refine m_goto (pc := 84) (tgt := 61) X dX5_init_84 (by decide) ?_
    refine m_iload_n (pc := 61) X dX5_init_61 rfl hl 0 rfl ?_
    refine m_bipush (pc := 62) X dX5_init_62 rfl ?_
    refine m_icmp_ge (pc := 64) (tgt := 87) X (by decide : okI 7) (by decide : okI 8) dX5_init_64 (by decide) (fun hc => absurd hc (by decide)) (fun _ => ?_)
    refine m_aload_n (pc := 67) X dX5_init_67 rfl hl 1 rfl ?_
    refine c_getr (pc := 68) X hK hG inX5 rfl rfl 4 (by decide) (by decide) q_147 rfl rfl dX5_init_68 ?_
    refine m_iload_n (pc := 71) X dX5_init_71 rfl hl 0 rfl ?_
    refine m_iload_n (pc := 72) X dX5_init_72 rfl hl 0 rfl ?_
    refine c_iast (pc := 73) X hK hG hS (by omega) (by omega) (by omega) (k_3_4 hkr) (by decide : okI 7) (by decide : okI 7) (by decide) (by decide) dX5_init_73 (fun S23 H locs eS23 hG hS => ?_)
    replace h := h S23 eS23
    have hG : gW g b KX S S23 r r (r + 7) 3 [6, 5, 4, 3, 2, 1, 0] H := hG
    refine m_aload_n (pc := 74) X dX5_init_74 rfl hl 1 rfl ?_
    refine c_getr (pc := 75) X hK hG inX5 rfl rfl 5 (by decide) (by decide) q_150 rfl rfl dX5_init_75 ?_
    refine m_iload_n (pc := 78) X dX5_init_78 rfl hl 0 rfl ?_
    refine m_iconst (pc := 79) X dX5_init_79 ?_
    refine c_iast (pc := 80) X hK hG hS (by omega) (by omega) (by omega) (k_3_5 hkr) (by decide : okI 7) (by decide : okI 3) (by decide) (by decide) dX5_init_80 (fun S24 H locs eS24 hG hS => ?_)
    replace h := h S24 eS24
    have hG : gW g b KX S S24 r r (r + 7) 3 [6, 5, 4, 3, 2, 1, 0] H := hG
    refine m_iinc (pc := 81) X dX5_init_81 hl (by decide) (q0 := 0) rfl (fun v => [(1, .int v), (0, .ref (b + r))]) (fun _ => rfl) (fun v ls ev _ hl => ?_)
    rw [show nm (7 + 1) = 8 by decide] at ev
    rw [ev] at hl
    clear ev
    refine m_goto (pc := 84) (tgt := 61) X dX5_init_84 (by decide) ?_
    refine m_iload_n (pc := 61) X dX5_init_61 rfl hl 0 rfl ?_
    refine m_bipush (pc := 62) X dX5_init_62 rfl ?_
    refine m_icmp_ge (pc := 64) (tgt := 87) X (by decide : okI 8) (by decide : okI 8) dX5_init_64 (by decide) (fun _ => ?_) (fun hc => absurd hc (by decide))
    exact c_ret (pc := 87) X hr hlk hG hS hkr (by decide +kernel) h (by decide) (by decide) dX5_init_87)
def w_X2_init (r : Nat) (S : mSt) (Q : mSt → Prop) : Prop :=
  ∀ S1 : mSt, S1 = mz S r → w_X5_init (r + 1) S1 (fun S2 : mSt => ∀ S3 : mSt, S3 = mz S2 (r + 8) → ∀ S4 : mSt, S4 = mz S3 (r + 9) → ∀ S5 : mSt, S5 = mup S4 r 6 30 → ∀ S6 : mSt, S6 = mup S5 r 7 5 → ∀ S7 : mSt, S7 = mup S6 r 10 1 → ∀ S8 : mSt, S8 = mz S7 (r + 10) → Q S8)
theorem T_X2_init {l : Launch} {g : mG} {b : Nat} (r : Nat) (hkr : KX r = (0, 1, 0)) {S : mSt} {Q : mSt → Prop} (h : w_X2_init r S Q) : vx_Met l yX2_init (Cond.code yX2_init cX2_init 1 none :: wsG) { frames := 2, cells := 10, slots := 337, locals := 41 } (cPc g b KX r 1 S) (cQv g b KX r (r + 11) S Q) (cEx (gA b r)) 10 337 (gA b r) :=
  c_of (by decide) (by decide) rfl (fun p e s m args below meth c ls X hK hA hml hr hlk hnm hG hl => by
    have X : mX p s m args c cX2_init "MoonWash$Laundry" := X
    have hS : va_S (gA b r) s.heap s.heap [] := va_S.rf
    unfold w_X2_init at h
    replace h := h _ rfl
    generalize hS1 : mz S r = S1 at hG h
    refine m_aload_n (pc := 0) X dX2_init_0 rfl hl 0 rfl ?_
    refine c_obj (pc := 1) X hml hl.1 (rest := []) q_123 (by decide) (by decide) dX2_init_1 ?_
    refine m_aload_n (pc := 4) X dX2_init_4 rfl hl 0 rfl ?_
    refine c_make (pc := 5) X hml hl.1 hK hA hG (by omega) hS inX5 tyX5 tyX5_ok rfl rfl (fun j hj => by match j, hj with | 0, _ => exact rfl | 1, _ => exact rfl | 2, _ => exact rfl | 3, _ => exact rfl | 4, _ => exact rfl | 5, _ => exact rfl | 6, _ => exact rfl | 7, _ => exact rfl | 8, _ => exact rfl | k + 9, h => exact absurd h (by omega)) q_124 q_125 q_83 rfl rfl (T_X5_init (r + 1) (k_1_0 hkr) h) (by omega) (Or.inl q_126) q_127 q_128 (by decide +kernel) ⟨rfl, rfl, by decide, by decide, by decide, by decide⟩ (by decide) (Nat.le_of_ble_eq_true rfl) dX2_init_5 dX2_init_8 dX2_init_9 (fun S2 H locs h hG hq hS => ?_)
    have hG : gW g b KX S S2 r r (r + 8) 1 [] H := hG
    refine c_putr (pc := 12) X hK hG hS inX2 tyX2 tyX2_ok nmX2 rfl rfl 0 (by decide) hnm rfl q_184 rfl rfl rfl (ty := (.object "MoonWash$Moon")) (by decide +kernel) rfl rfl dX2_init_12 (fun H locs hG hq hS => ?_)
    have hG : gW g b KX S S2 r r (r + 8) 1 [0] H := hG
    refine m_aload_n (pc := 15) X dX2_init_15 rfl hl 0 rfl ?_
    refine m_bipush (pc := 16) X dX2_init_16 rfl ?_
    refine c_newa (pc := 18) X hK hG hS (k_1_1 hkr) (Or.inl ⟨rfl, rfl⟩) (by decide : okI 24) rfl (by decide) q_183 dX2_init_18 (by decide) (by decide) (fun S3 H eS3 hG hq hS => ?_)
    replace h := h S3 eS3
    have hG : gW g b KX S S3 r r (r + 9) 1 [0] H := hG
    refine c_putr (pc := 20) X hK hG hS inX2 tyX2 tyX2_ok nmX2 rfl rfl 1 (by decide) hnm rfl q_188 rfl rfl rfl (ty := (.array .int)) (by decide +kernel) rfl rfl dX2_init_20 (fun H locs hG hq hS => ?_)
    have hG : gW g b KX S S3 r r (r + 9) 1 [1, 0] H := hG
    refine m_aload_n (pc := 23) X dX2_init_23 rfl hl 0 rfl ?_
    refine m_bipush (pc := 24) X dX2_init_24 rfl ?_
    refine c_newa (pc := 26) X hK hG hS (k_1_3 hkr) (Or.inl ⟨rfl, rfl⟩) (by decide : okI 16) rfl (by decide) q_183 dX2_init_26 (by decide) (by decide) (fun S4 H eS4 hG hq hS => ?_)
    replace h := h S4 eS4
    have hG : gW g b KX S S4 r r (r + 10) 1 [1, 0] H := hG
    refine c_putr (pc := 28) X hK hG hS inX2 tyX2 tyX2_ok nmX2 rfl rfl 3 (by decide) hnm rfl q_193 rfl rfl rfl (ty := (.array .int)) (by decide +kernel) rfl rfl dX2_init_28 (fun H locs hG hq hS => ?_)
    have hG : gW g b KX S S4 r r (r + 10) 1 [3, 1, 0] H := hG
    refine m_aload_n (pc := 31) X dX2_init_31 rfl hl 0 rfl ?_
    refine m_bipush (pc := 32) X dX2_init_32 rfl ?_
    refine c_puti (pc := 34) X hK hG hS inX2 tyX2 tyX2_ok nmX2 rfl rfl 6 (by decide) hnm rfl q_199 rfl rfl rfl (by decide : okI 30) dX2_init_34 (fun S5 H locs eS5 hG hq hS => ?_)
    replace h := h S5 eS5
    have hG : gW g b KX S S5 r r (r + 10) 1 [6, 3, 1, 0] H := hG
    refine m_aload_n (pc := 37) X dX2_init_37 rfl hl 0 rfl ?_
    refine m_iconst (pc := 38) X dX2_init_38 ?_
    refine c_puti (pc := 39) X hK hG hS inX2 tyX2 tyX2_ok nmX2 rfl rfl 7 (by decide) hnm rfl q_202 rfl rfl rfl (by decide : okI 5) dX2_init_39 (fun S6 H locs eS6 hG hq hS => ?_)
    replace h := h S6 eS6
    have hG : gW g b KX S S6 r r (r + 10) 1 [7, 6, 3, 1, 0] H := hG
    refine m_aload_n (pc := 42) X dX2_init_42 rfl hl 0 rfl ?_
    refine m_iconst (pc := 43) X dX2_init_43 ?_
    refine c_puti (pc := 44) X hK hG hS inX2 tyX2 tyX2_ok nmX2 rfl rfl 10 (by decide) hnm rfl q_211 rfl rfl rfl (by decide : okI 1) dX2_init_44 (fun S7 H locs eS7 hG hq hS => ?_)
    replace h := h S7 eS7
    have hG : gW g b KX S S7 r r (r + 10) 1 [10, 7, 6, 3, 1, 0] H := hG
    refine m_aload_n (pc := 47) X dX2_init_47 rfl hl 0 rfl ?_
    refine m_sipush (pc := 48) X dX2_init_48 rfl ?_
    refine c_newa (pc := 51) X hK hG hS (k_1_11 hkr) (Or.inl ⟨rfl, rfl⟩) (by decide : okI 240) rfl (by decide) q_183 dX2_init_51 (by decide) (by decide) (fun S8 H eS8 hG hq hS => ?_)
    replace h := h S8 eS8
    have hG : gW g b KX S S8 r r (r + 11) 1 [10, 7, 6, 3, 1, 0] H := hG
    refine c_putr (pc := 53) X hK hG hS inX2 tyX2 tyX2_ok nmX2 rfl rfl 11 (by decide) hnm rfl q_213 rfl rfl rfl (ty := (.array .int)) (by decide +kernel) rfl rfl dX2_init_53 (fun H locs hG hq hS => ?_)
    have hG : gW g b KX S S8 r r (r + 11) 1 [11, 10, 7, 6, 3, 1, 0] H := hG
    exact c_ret (pc := 56) X hr hlk hG hS hkr (by decide +kernel) h (by decide) (by decide) dX2_init_56)
def w_X3_init (r : Nat) (S : mSt) (Q : mSt → Prop) : Prop :=
  ∀ S1 : mSt, S1 = mz S r → ∀ S2 : mSt, S2 = mup S1 r 0 (-1) → ∀ S3 : mSt, S3 = mz S2 (r + 1) → ∀ S4 : mSt, S4 = mz S3 (r + 2) → ∀ S5 : mSt, S5 = mz S4 (r + 3) → ∀ S6 : mSt, S6 = mz S5 (r + 4) → ∀ S7 : mSt, S7 = mz S6 (r + 5) → ∀ S8 : mSt, S8 = mz S7 (r + 6) → Q S8
theorem T_X3_init {l : Launch} {g : mG} {b : Nat} (r : Nat) (hkr : KX r = (0, 2, 0)) {S : mSt} {Q : mSt → Prop} (h : w_X3_init r S Q) : vx_Met l yX3_init (Cond.code yX3_init cX3_init 1 none :: wsG) { frames := 1, cells := 6, slots := 478, locals := 20 } (cPc g b KX r 2 S) (cQv g b KX r (r + 7) S Q) (cEx (gA b r)) 6 478 (gA b r) :=
  c_of (by decide) (by decide) rfl (fun p e s m args below meth c ls X hK hA hml hr hlk hnm hG hl => by
    have X : mX p s m args c cX3_init "MoonWash$Law" := X
    have hS : va_S (gA b r) s.heap s.heap [] := va_S.rf
    unfold w_X3_init at h
    replace h := h _ rfl
    generalize hS1 : mz S r = S1 at hG h
    refine m_aload_n (pc := 0) X dX3_init_0 rfl hl 0 rfl ?_
    refine c_obj (pc := 1) X hml hl.1 (rest := []) q_247 (by decide) (by decide) dX3_init_1 ?_
    refine m_aload_n (pc := 4) X dX3_init_4 rfl hl 0 rfl ?_
    refine m_iconst (pc := 5) X dX3_init_5 ?_
    refine c_puti (pc := 6) X hK hG hS inX3 tyX3 tyX3_ok nmX3 rfl rfl 0 (by decide) hnm rfl q_248 rfl rfl rfl (by decide : okI (-1)) dX3_init_6 (fun S2 H locs eS2 hG hq hS => ?_)
    replace h := h S2 eS2
    have hG : gW g b KX S S2 r r (r + 1) 2 [0] H := hG
    refine m_aload_n (pc := 9) X dX3_init_9 rfl hl 0 rfl ?_
    refine m_bipush (pc := 10) X dX3_init_10 rfl ?_
    refine c_newa (pc := 12) X hK hG hS (k_2_1 hkr) (Or.inl ⟨rfl, rfl⟩) (by decide : okI 12) rfl (by decide) q_183 dX3_init_12 (by decide) (by decide) (fun S3 H eS3 hG hq hS => ?_)
    replace h := h S3 eS3
    have hG : gW g b KX S S3 r r (r + 2) 2 [0] H := hG
    refine c_putr (pc := 14) X hK hG hS inX3 tyX3 tyX3_ok nmX3 rfl rfl 1 (by decide) hnm rfl q_250 rfl rfl rfl (ty := (.array .int)) (by decide +kernel) rfl rfl dX3_init_14 (fun H locs hG hq hS => ?_)
    have hG : gW g b KX S S3 r r (r + 2) 2 [1, 0] H := hG
    refine m_aload_n (pc := 17) X dX3_init_17 rfl hl 0 rfl ?_
    refine m_bipush (pc := 18) X dX3_init_18 rfl ?_
    refine c_newa (pc := 20) X hK hG hS (k_2_2 hkr) (Or.inl ⟨rfl, rfl⟩) (by decide : okI 12) rfl (by decide) q_183 dX3_init_20 (by decide) (by decide) (fun S4 H eS4 hG hq hS => ?_)
    replace h := h S4 eS4
    have hG : gW g b KX S S4 r r (r + 3) 2 [1, 0] H := hG
    refine c_putr (pc := 22) X hK hG hS inX3 tyX3 tyX3_ok nmX3 rfl rfl 2 (by decide) hnm rfl q_251 rfl rfl rfl (ty := (.array .int)) (by decide +kernel) rfl rfl dX3_init_22 (fun H locs hG hq hS => ?_)
    have hG : gW g b KX S S4 r r (r + 3) 2 [2, 1, 0] H := hG
    refine m_aload_n (pc := 25) X dX3_init_25 rfl hl 0 rfl ?_
    refine m_bipush (pc := 26) X dX3_init_26 rfl ?_
    refine c_newa (pc := 28) X hK hG hS (k_2_3 hkr) (Or.inl ⟨rfl, rfl⟩) (by decide : okI 12) rfl (by decide) q_183 dX3_init_28 (by decide) (by decide) (fun S5 H eS5 hG hq hS => ?_)
    replace h := h S5 eS5
    have hG : gW g b KX S S5 r r (r + 4) 2 [2, 1, 0] H := hG
    refine c_putr (pc := 30) X hK hG hS inX3 tyX3 tyX3_ok nmX3 rfl rfl 3 (by decide) hnm rfl q_252 rfl rfl rfl (ty := (.array .int)) (by decide +kernel) rfl rfl dX3_init_30 (fun H locs hG hq hS => ?_)
    have hG : gW g b KX S S5 r r (r + 4) 2 [3, 2, 1, 0] H := hG
    refine m_aload_n (pc := 33) X dX3_init_33 rfl hl 0 rfl ?_
    refine m_sipush (pc := 34) X dX3_init_34 rfl ?_
    refine c_newa (pc := 37) X hK hG hS (k_2_4 hkr) (Or.inl ⟨rfl, rfl⟩) (by decide : okI 400) rfl (by decide) q_183 dX3_init_37 (by decide) (by decide) (fun S6 H eS6 hG hq hS => ?_)
    replace h := h S6 eS6
    have hG : gW g b KX S S6 r r (r + 5) 2 [3, 2, 1, 0] H := hG
    refine c_putr (pc := 39) X hK hG hS inX3 tyX3 tyX3_ok nmX3 rfl rfl 4 (by decide) hnm rfl q_253 rfl rfl rfl (ty := (.array .int)) (by decide +kernel) rfl rfl dX3_init_39 (fun H locs hG hq hS => ?_)
    have hG : gW g b KX S S6 r r (r + 5) 2 [4, 3, 2, 1, 0] H := hG
    refine m_aload_n (pc := 42) X dX3_init_42 rfl hl 0 rfl ?_
    refine m_bipush (pc := 43) X dX3_init_43 rfl ?_
    refine c_newa (pc := 45) X hK hG hS (k_2_6 hkr) (Or.inl ⟨rfl, rfl⟩) (by decide : okI 10) rfl (by decide) q_183 dX3_init_45 (by decide) (by decide) (fun S7 H eS7 hG hq hS => ?_)
    replace h := h S7 eS7
    have hG : gW g b KX S S7 r r (r + 6) 2 [4, 3, 2, 1, 0] H := hG
    refine c_putr (pc := 47) X hK hG hS inX3 tyX3 tyX3_ok nmX3 rfl rfl 6 (by decide) hnm rfl q_255 rfl rfl rfl (ty := (.array .int)) (by decide +kernel) rfl rfl dX3_init_47 (fun H locs hG hq hS => ?_)
    have hG : gW g b KX S S7 r r (r + 6) 2 [6, 4, 3, 2, 1, 0] H := hG
    refine m_aload_n (pc := 50) X dX3_init_50 rfl hl 0 rfl ?_
    refine m_bipush (pc := 51) X dX3_init_51 rfl ?_
    refine c_newa (pc := 53) X hK hG hS (k_2_7 hkr) (Or.inl ⟨rfl, rfl⟩) (by decide : okI 32) rfl (by decide) q_183 dX3_init_53 (by decide) (by decide) (fun S8 H eS8 hG hq hS => ?_)
    replace h := h S8 eS8
    have hG : gW g b KX S S8 r r (r + 7) 2 [6, 4, 3, 2, 1, 0] H := hG
    refine c_putr (pc := 55) X hK hG hS inX3 tyX3 tyX3_ok nmX3 rfl rfl 7 (by decide) hnm rfl q_256 rfl rfl rfl (ty := (.array .int)) (by decide +kernel) rfl rfl dX3_init_55 (fun H locs hG hq hS => ?_)
    have hG : gW g b KX S S8 r r (r + 7) 2 [7, 6, 4, 3, 2, 1, 0] H := hG
    exact c_ret (pc := 58) X hr hlk hG hS hkr (by decide +kernel) h (by decide) (by decide) dX3_init_58)
def w_X7_init (S : mSt) (Q : mSt → Prop) : Prop :=
  ∀ S1 : mSt, S1 = mz S 226 → ∀ S2 : mSt, S2 = mzz S1 227 8 → ∀ S3 : mSt, S3 = mz S2 236 → Q S3
theorem T_X7_init {l : Launch} {g : mG} {b : Nat} {S : mSt} {Q : mSt → Prop} (h : w_X7_init S Q) : vx_Met l yX7_init (Cond.code yX7_init cX7_init 1 none :: wsG) { frames := 1, cells := 10, slots := 328, locals := 20 } (cPc g b KX 226 5 S) (cQv g b KX 226 237 S Q) (cEx (gA b 226)) 10 328 (gA b 226) :=
  c_of (by decide) (by decide) rfl (fun p e s m args below meth c ls X hK hA hml hr hlk hnm hG hl => by
    have X : mX p s m args c cX7_init "MoonWash$PegPlan" := X
    have hS : va_S (gA b 226) s.heap s.heap [] := va_S.rf
    unfold w_X7_init at h
    replace h := h _ rfl
    generalize hS1 : mz S 226 = S1 at hG h
    refine m_aload_n (pc := 0) X dX7_init_0 rfl hl 0 rfl ?_
    refine c_obj (pc := 1) X hml hl.1 (rest := []) q_382 (by decide) (by decide) dX7_init_1 ?_
    refine m_aload_n (pc := 4) X dX7_init_4 rfl hl 0 rfl ?_
    refine m_bipush (pc := 5) X dX7_init_5 rfl ?_
    refine m_bipush (pc := 7) X dX7_init_7 rfl ?_
    refine c_mna (pc := 9) (N := 8) (M := 8) X hK hA hG hS (by decide +kernel) (by decide +kernel) (by decide : okI 8) rfl (by decide) (by decide : okI 8) rfl (by decide) q_183 q_383 dX7_init_9 (by decide) (by decide) (fun S2 H eS2 hG hS => ?_)
    replace h := h S2 eS2
    have hG : gW g b KX S S2 226 226 236 5 [] H := hG
    refine c_putr (pc := 13) X hK hG hS inX7 tyX7 tyX7_ok nmX7 rfl rfl 0 (by decide) hnm rfl q_384 rfl rfl rfl (ty := (.array (.array .int))) (by decide +kernel) rfl rfl dX7_init_13 (fun H locs hG hq hS => ?_)
    have hG : gW g b KX S S2 226 226 236 5 [0] H := hG
    refine m_aload_n (pc := 16) X dX7_init_16 rfl hl 0 rfl ?_
    refine m_sipush (pc := 17) X dX7_init_17 rfl ?_
    refine c_newa (pc := 20) X hK hG hS rfl (Or.inl ⟨rfl, rfl⟩) (by decide : okI 256) rfl (by decide) q_183 dX7_init_20 (by decide) (by decide) (fun S3 H eS3 hG hq hS => ?_)
    replace h := h S3 eS3
    have hG : gW g b KX S S3 226 226 237 5 [0] H := hG
    refine c_putr (pc := 22) X hK hG hS inX7 tyX7 tyX7_ok nmX7 rfl rfl 1 (by decide) hnm rfl q_386 rfl rfl rfl (ty := (.array .int)) (by decide +kernel) rfl rfl dX7_init_22 (fun H locs hG hq hS => ?_)
    have hG : gW g b KX S S3 226 226 237 5 [1, 0] H := hG
    exact c_ret (pc := 25) X hr hlk hG hS rfl (by decide +kernel) h (by decide) (by decide) dX7_init_25)
def w_X9_init (S : mSt) (Q : mSt → Prop) : Prop :=
  ∀ S1 : mSt, S1 = mz S 205 → ∀ S2 : mSt, S2 = mzz S1 206 8 → ∀ S3 : mSt, S3 = mz S2 215 → ∀ S4 : mSt, S4 = mzz S3 216 9 → Q S4
theorem T_X9_init {l : Launch} {g : mG} {b : Nat} {S : mSt} {Q : mSt → Prop} (h : w_X9_init S Q) : vx_Met l yX9_init (Cond.code yX9_init cX9_init 1 none :: wsG) { frames := 1, cells := 20, slots := 1529, locals := 20 } (cPc g b KX 205 7 S) (cQv g b KX 205 226 S Q) (cEx (gA b 205)) 20 1529 (gA b 205) :=
  c_of (by decide) (by decide) rfl (fun p e s m args below meth c ls X hK hA hml hr hlk hnm hG hl => by
    have X : mX p s m args c cX9_init "MoonWash$WaterPlan" := X
    have hS : va_S (gA b 205) s.heap s.heap [] := va_S.rf
    unfold w_X9_init at h
    replace h := h _ rfl
    generalize hS1 : mz S 205 = S1 at hG h
    refine m_aload_n (pc := 0) X dX9_init_0 rfl hl 0 rfl ?_
    refine c_obj (pc := 1) X hml hl.1 (rest := []) q_361 (by decide) (by decide) dX9_init_1 ?_
    refine m_aload_n (pc := 4) X dX9_init_4 rfl hl 0 rfl ?_
    refine m_bipush (pc := 5) X dX9_init_5 rfl ?_
    refine m_bipush (pc := 7) X dX9_init_7 rfl ?_
    refine c_mna (pc := 9) (N := 8) (M := 7) X hK hA hG hS (by decide +kernel) (by decide +kernel) (by decide : okI 8) rfl (by decide) (by decide : okI 7) rfl (by decide) q_183 q_362 dX9_init_9 (by decide) (by decide) (fun S2 H eS2 hG hS => ?_)
    replace h := h S2 eS2
    have hG : gW g b KX S S2 205 205 215 7 [] H := hG
    refine c_putr (pc := 13) X hK hG hS inX9 tyX9 tyX9_ok nmX9 rfl rfl 0 (by decide) hnm rfl q_364 rfl rfl rfl (ty := (.array (.array .int))) (by decide +kernel) rfl rfl dX9_init_13 (fun H locs hG hq hS => ?_)
    have hG : gW g b KX S S2 205 205 215 7 [0] H := hG
    refine m_aload_n (pc := 16) X dX9_init_16 rfl hl 0 rfl ?_
    refine m_bipush (pc := 17) X dX9_init_17 rfl ?_
    refine c_newa (pc := 19) X hK hG hS rfl (Or.inl ⟨rfl, rfl⟩) (by decide : okI 7) rfl (by decide) q_183 dX9_init_19 (by decide) (by decide) (fun S3 H eS3 hG hq hS => ?_)
    replace h := h S3 eS3
    have hG : gW g b KX S S3 205 205 216 7 [0] H := hG
    refine c_putr (pc := 21) X hK hG hS inX9 tyX9 tyX9_ok nmX9 rfl rfl 1 (by decide) hnm rfl q_365 rfl rfl rfl (ty := (.array .int)) (by decide +kernel) rfl rfl dX9_init_21 (fun H locs hG hq hS => ?_)
    have hG : gW g b KX S S3 205 205 216 7 [1, 0] H := hG
    refine m_aload_n (pc := 24) X dX9_init_24 rfl hl 0 rfl ?_
    refine m_bipush (pc := 25) X dX9_init_25 rfl ?_
    refine m_sipush (pc := 27) X dX9_init_27 rfl ?_
    refine c_mna (pc := 30) (N := 9) (M := 161) X hK hA hG hS (by decide +kernel) (by decide +kernel) (by decide : okI 9) rfl (by decide) (by decide : okI 161) rfl (by decide) q_183 q_362 dX9_init_30 (by decide) (by decide) (fun S4 H eS4 hG hS => ?_)
    replace h := h S4 eS4
    have hG : gW g b KX S S4 205 205 226 7 [1, 0] H := hG
    refine c_putr (pc := 34) X hK hG hS inX9 tyX9 tyX9_ok nmX9 rfl rfl 3 (by decide) hnm rfl q_367 rfl rfl rfl (ty := (.array (.array .int))) (by decide +kernel) rfl rfl dX9_init_34 (fun H locs hG hq hS => ?_)
    have hG : gW g b KX S S4 205 205 226 7 [3, 1, 0] H := hG
    exact c_ret (pc := 37) X hr hlk hG hS rfl (by decide +kernel) h (by decide) (by decide) dX9_init_37)
def w_X1_init (S : mSt) (Q : mSt → Prop) : Prop :=
  ∀ S1 : mSt, S1 = mz S 178 → w_X2_init 179 S1 (fun S2 : mSt => w_X3_init 190 S2 (fun S3 : mSt => ∀ S4 : mSt, S4 = mz S3 197 → Q S4))
theorem T_X1_init {l : Launch} {g : mG} {b : Nat} {S : mSt} {Q : mSt → Prop} (h : w_X1_init S Q) : vx_Met l yX1_init (Cond.code yX1_init cX1_init 1 none :: wsG) { frames := 3, cells := 19, slots := 844, locals := 61 } (cPc g b KX 178 0 S) (cQv g b KX 178 198 S Q) (cEx (gA b 178)) 19 844 (gA b 178) :=
  c_of (by decide) (by decide) rfl (fun p e s m args below meth c ls X hK hA hml hr hlk hnm hG hl => by
    have X : mX p s m args c cX1_init "MoonWash$Image" := X
    have hS : va_S (gA b 178) s.heap s.heap [] := va_S.rf
    unfold w_X1_init at h
    replace h := h _ rfl
    generalize hS1 : mz S 178 = S1 at hG h
    refine m_aload_n (pc := 0) X dX1_init_0 rfl hl 0 rfl ?_
    refine c_obj (pc := 1) X hml hl.1 (rest := []) q_332 (by decide) (by decide) dX1_init_1 ?_
    refine m_aload_n (pc := 4) X dX1_init_4 rfl hl 0 rfl ?_
    refine c_make (pc := 5) X hml hl.1 hK hA hG (by omega) hS inX2 tyX2 tyX2_ok rfl rfl (fun j hj => by match j, hj with | 0, _ => exact rfl | 1, _ => exact rfl | 2, _ => exact rfl | 3, _ => exact rfl | 4, _ => exact rfl | 5, _ => exact rfl | 6, _ => exact rfl | 7, _ => exact rfl | 8, _ => exact rfl | 9, _ => exact rfl | 10, _ => exact rfl | 11, _ => exact rfl | 12, _ => exact rfl | k + 13, h => exact absurd h (by omega)) q_333 q_119 q_82 rfl rfl (T_X2_init 179 rfl h) (by omega) (Or.inr ⟨"MoonWash", n_334⟩) q_121 q_122 (by decide +kernel) ⟨rfl, rfl, by decide, by decide, by decide, by decide⟩ (by decide) (Nat.le_of_ble_eq_true rfl) dX1_init_5 dX1_init_8 dX1_init_9 (fun S2 H locs h hG hq hS => ?_)
    have hG : gW g b KX S S2 178 178 190 0 [] H := hG
    refine c_putr (pc := 12) X hK hG hS inX1 tyX1 tyX1_ok nmX1 rfl rfl 0 (by decide) hnm rfl q_337 rfl rfl rfl (ty := (.object "MoonWash$Laundry")) (by decide +kernel) rfl rfl dX1_init_12 (fun H locs hG hq hS => ?_)
    have hG : gW g b KX S S2 178 178 190 0 [0] H := hG
    refine m_aload_n (pc := 15) X dX1_init_15 rfl hl 0 rfl ?_
    refine c_make (pc := 16) X hml hl.1 hK hA hG (by omega) hS inX3 tyX3 tyX3_ok rfl rfl (fun j hj => by match j, hj with | 0, _ => exact rfl | 1, _ => exact rfl | 2, _ => exact rfl | 3, _ => exact rfl | 4, _ => exact rfl | 5, _ => exact rfl | 6, _ => exact rfl | 7, _ => exact rfl | k + 8, h => exact absurd h (by omega)) q_335 q_243 q_84 rfl rfl (T_X3_init 190 rfl h) (by omega) (Or.inr ⟨"MoonWash", n_336⟩) q_245 q_246 (by decide +kernel) ⟨rfl, rfl, by decide, by decide, by decide, by decide⟩ (by decide) (Nat.le_of_ble_eq_true rfl) dX1_init_16 dX1_init_19 dX1_init_20 (fun S3 H locs h hG hq hS => ?_)
    have hG : gW g b KX S S3 178 178 197 0 [0] H := hG
    refine c_putr (pc := 23) X hK hG hS inX1 tyX1 tyX1_ok nmX1 rfl rfl 1 (by decide) hnm rfl q_339 rfl rfl rfl (ty := (.object "MoonWash$Law")) (by decide +kernel) rfl rfl dX1_init_23 (fun H locs hG hq hS => ?_)
    have hG : gW g b KX S S3 178 178 197 0 [1, 0] H := hG
    refine m_aload_n (pc := 26) X dX1_init_26 rfl hl 0 rfl ?_
    refine m_bipush (pc := 27) X dX1_init_27 rfl ?_
    refine c_newa (pc := 29) X hK hG hS rfl (Or.inl ⟨rfl, rfl⟩) (by decide : okI 8) rfl (by decide) q_183 dX1_init_29 (by decide) (by decide) (fun S4 H eS4 hG hq hS => ?_)
    replace h := h S4 eS4
    have hG : gW g b KX S S4 178 178 198 0 [1, 0] H := hG
    refine c_putr (pc := 31) X hK hG hS inX1 tyX1 tyX1_ok nmX1 rfl rfl 2 (by decide) hnm rfl q_341 rfl rfl rfl (ty := (.array .int)) (by decide +kernel) rfl rfl dX1_init_31 (fun H locs hG hq hS => ?_)
    have hG : gW g b KX S S4 178 178 198 0 [2, 1, 0] H := hG
    exact c_ret (pc := 34) X hr hlk hG hS rfl (by decide +kernel) h (by decide) (by decide) dX1_init_34)
def w_X6_init (S : mSt) (Q : mSt → Prop) : Prop :=
  ∀ S1 : mSt, S1 = mz S 44 → w_X2_init 46 S1 (fun S2 : mSt => w_X2_init 57 S2 (fun S3 : mSt => w_X2_init 68 S3 (fun S4 : mSt => w_X2_init 79 S4 (fun S5 : mSt => w_X2_init 90 S5 (fun S6 : mSt => w_X2_init 101 S6 (fun S7 : mSt => w_X2_init 112 S7 (fun S8 : mSt => w_X2_init 123 S8 (fun S9 : mSt => w_X2_init 134 S9 (fun S10 : mSt => w_X2_init 145 S10 (fun S11 : mSt => w_X2_init 156 S11 (fun S12 : mSt => w_X2_init 167 S12 (fun S13 : mSt => Q S13))))))))))))
theorem T_X6_init {l : Launch} {g : mG} {b : Nat} {S : mSt} {Q : mSt → Prop} (h : w_X6_init S Q) : vx_Met l yX6_init (Cond.code yX6_init cX6_init 2 none :: wsG) { frames := 3, cells := 133, slots := 4212, locals := 61 } (cPc g b KX 44 4 S) (cQv g b KX 44 178 S Q) (cEx (gA b 44)) 133 4212 (gA b 44) :=
  c_of (by decide) (by decide) rfl (fun p e s m args below meth c ls X hK hA hml hr hlk hnm hG hl => by
    have X : mX p s m args c cX6_init "MoonWash$Past" := X
    have hS : va_S (gA b 44) s.heap s.heap [] := va_S.rf
    unfold w_X6_init at h
    replace h := h _ rfl
    generalize hS1 : mz S 44 = S1 at hG h
    refine m_aload_n (pc := 0) X dX6_init_0 rfl hl 0 rfl ?_
    refine c_obj (pc := 1) X hml hl.1 (rest := []) q_312 (by decide) (by decide) dX6_init_1 ?_
    refine m_aload_n (pc := 4) X dX6_init_4 rfl hl 0 rfl ?_
    refine m_bipush (pc := 5) X dX6_init_5 rfl ?_
    refine c_anew (pc := 7) (t := 2) (N := 12) X hK hG hS rfl hA.1 (by decide : okI 12) rfl (by decide) q_313 dX6_init_7 (by decide) (by decide) (fun H hArr hG hS => ?_)
    have hG : gW g b KX S S1 44 45 46 4 [] H := hG
    refine c_putr (pc := 10) X hK hG hS inX6 tyX6 tyX6_ok nmX6 rfl rfl 0 (by decide) hnm rfl q_316 rfl rfl rfl (ty := (.array (.object "MoonWash$Laundry"))) (by decide +kernel) rfl rfl dX6_init_10 (fun H locs hG hq hS => ?_)
    replace hArr := (hq _ (by omega)).trans hArr
    have hG : gW g b KX S S1 44 45 46 4 [0] H := hG
    refine m_iconst (pc := 13) X dX6_init_13 ?_
    refine m_istore_n (pc := 14) X dX6_init_14 rfl hl (by decide) (fun v => [(1, .int v), (0, .ref (b + 44))]) (fun _ => rfl) (by decide : okI 0) (fun v ls ev _ hl => ?_)
    rw [ev] at hl
    clear ev
    refine m_iload_n (pc := 15) X dX6_init_15 rfl hl 0 rfl ?_
    refine m_bipush (pc := 16) X dX6_init_16 rfl ?_
    refine m_icmp_ge (pc := 18) (tgt := 40) X (by decide : okI 0) (by decide : okI 12) dX6_init_18 (by decide) (fun hc => absurd hc (by decide)) (fun _ => ?_)
    refine m_aload_n (pc := 21) X dX6_init_21 rfl hl 1 rfl ?_
    refine c_getr (pc := 22) X hK hG inX6 rfl rfl 0 (by decide) (by decide) q_316 rfl rfl dX6_init_22 ?_
    refine m_iload_n (pc := 25) X dX6_init_25 rfl hl 0 rfl ?_
    refine c_make (pc := 26) X hml hl.1 hK hA hG (by omega) hS inX2 tyX2 tyX2_ok rfl rfl (fun j hj => by match j, hj with | 0, _ => exact rfl | 1, _ => exact rfl | 2, _ => exact rfl | 3, _ => exact rfl | 4, _ => exact rfl | 5, _ => exact rfl | 6, _ => exact rfl | 7, _ => exact rfl | 8, _ => exact rfl | 9, _ => exact rfl | 10, _ => exact rfl | 11, _ => exact rfl | 12, _ => exact rfl | k + 13, h => exact absurd h (by omega)) q_313 q_119 q_82 rfl rfl (T_X2_init 46 rfl h) (by omega) (Or.inr ⟨"MoonWash", n_315⟩) q_121 q_122 (by decide +kernel) ⟨rfl, rfl, by decide, by decide, by decide, by decide⟩ (by decide) (Nat.le_of_ble_eq_true rfl) dX6_init_26 dX6_init_29 dX6_init_30 (fun S2 H locs h hG hq hS => ?_)
    replace hArr := (hq _ (by omega)).trans hArr
    have hG : gW g b KX S S2 44 45 57 4 [0] H := hG
    obtain ⟨⟨cv, v1, v2, v3, -⟩, -⟩ := mCl_ob (hG.2.2.2.2.2.1 46 (by omega) (by omega) (by omega)) rfl
    refine c_ast (pc := 33) (t := 2) (ci1 := 1) (N := 12) X hK hG hS (by omega) rfl rfl hArr v1 v2 (by rw [v3]; rfl) (by decide : okI 0) (by decide) (by decide) dX6_init_33 (fun H locs hArr hG hS => ?_)
    refine m_iinc (pc := 34) X dX6_init_34 hl (by decide) (q0 := 0) rfl (fun v => [(1, .int v), (0, .ref (b + 44))]) (fun _ => rfl) (fun v ls ev _ hl => ?_)
    rw [show nm (0 + 1) = 1 by decide] at ev
    rw [ev] at hl
    clear ev
    refine m_goto (pc := 37) (tgt := 15) X dX6_init_37 (by decide) ?_
    refine m_iload_n (pc := 15) X dX6_init_15 rfl hl 0 rfl ?_
    refine m_bipush (pc := 16) X dX6_init_16 rfl ?_
    refine m_icmp_ge (pc := 18) (tgt := 40) X (by decide : okI 1) (by decide : okI 12) dX6_init_18 (by decide) (fun hc => absurd hc (by decide)) (fun _ => ?_)
    refine m_aload_n (pc := 21) X dX6_init_21 rfl hl 1 rfl ?_
    refine c_getr (pc := 22) X hK hG inX6 rfl rfl 0 (by decide) (by decide) q_316 rfl rfl dX6_init_22 ?_
    refine m_iload_n (pc := 25) X dX6_init_25 rfl hl 0 rfl ?_
    refine c_make (pc := 26) X hml hl.1 hK hA hG (by omega) hS inX2 tyX2 tyX2_ok rfl rfl (fun j hj => by match j, hj with | 0, _ => exact rfl | 1, _ => exact rfl | 2, _ => exact rfl | 3, _ => exact rfl | 4, _ => exact rfl | 5, _ => exact rfl | 6, _ => exact rfl | 7, _ => exact rfl | 8, _ => exact rfl | 9, _ => exact rfl | 10, _ => exact rfl | 11, _ => exact rfl | 12, _ => exact rfl | k + 13, h => exact absurd h (by omega)) q_313 q_119 q_82 rfl rfl (T_X2_init 57 rfl h) (by omega) (Or.inr ⟨"MoonWash", n_315⟩) q_121 q_122 (by decide +kernel) ⟨rfl, rfl, by decide, by decide, by decide, by decide⟩ (by decide) (Nat.le_of_ble_eq_true rfl) dX6_init_26 dX6_init_29 dX6_init_30 (fun S3 H locs h hG hq hS => ?_)
    replace hArr := (hq _ (by omega)).trans hArr
    have hG : gW g b KX S S3 44 45 68 4 [0] H := hG
    obtain ⟨⟨cv, v1, v2, v3, -⟩, -⟩ := mCl_ob (hG.2.2.2.2.2.1 57 (by omega) (by omega) (by omega)) rfl
    refine c_ast (pc := 33) (t := 2) (ci1 := 1) (N := 12) X hK hG hS (by omega) rfl rfl hArr v1 v2 (by rw [v3]; rfl) (by decide : okI 1) (by decide) (by decide) dX6_init_33 (fun H locs hArr hG hS => ?_)
    refine m_iinc (pc := 34) X dX6_init_34 hl (by decide) (q0 := 0) rfl (fun v => [(1, .int v), (0, .ref (b + 44))]) (fun _ => rfl) (fun v ls ev _ hl => ?_)
    rw [show nm (1 + 1) = 2 by decide] at ev
    rw [ev] at hl
    clear ev
    refine m_goto (pc := 37) (tgt := 15) X dX6_init_37 (by decide) ?_
    refine m_iload_n (pc := 15) X dX6_init_15 rfl hl 0 rfl ?_
    refine m_bipush (pc := 16) X dX6_init_16 rfl ?_
    refine m_icmp_ge (pc := 18) (tgt := 40) X (by decide : okI 2) (by decide : okI 12) dX6_init_18 (by decide) (fun hc => absurd hc (by decide)) (fun _ => ?_)
    refine m_aload_n (pc := 21) X dX6_init_21 rfl hl 1 rfl ?_
    refine c_getr (pc := 22) X hK hG inX6 rfl rfl 0 (by decide) (by decide) q_316 rfl rfl dX6_init_22 ?_
    refine m_iload_n (pc := 25) X dX6_init_25 rfl hl 0 rfl ?_
    refine c_make (pc := 26) X hml hl.1 hK hA hG (by omega) hS inX2 tyX2 tyX2_ok rfl rfl (fun j hj => by match j, hj with | 0, _ => exact rfl | 1, _ => exact rfl | 2, _ => exact rfl | 3, _ => exact rfl | 4, _ => exact rfl | 5, _ => exact rfl | 6, _ => exact rfl | 7, _ => exact rfl | 8, _ => exact rfl | 9, _ => exact rfl | 10, _ => exact rfl | 11, _ => exact rfl | 12, _ => exact rfl | k + 13, h => exact absurd h (by omega)) q_313 q_119 q_82 rfl rfl (T_X2_init 68 rfl h) (by omega) (Or.inr ⟨"MoonWash", n_315⟩) q_121 q_122 (by decide +kernel) ⟨rfl, rfl, by decide, by decide, by decide, by decide⟩ (by decide) (Nat.le_of_ble_eq_true rfl) dX6_init_26 dX6_init_29 dX6_init_30 (fun S4 H locs h hG hq hS => ?_)
    replace hArr := (hq _ (by omega)).trans hArr
    have hG : gW g b KX S S4 44 45 79 4 [0] H := hG
    obtain ⟨⟨cv, v1, v2, v3, -⟩, -⟩ := mCl_ob (hG.2.2.2.2.2.1 68 (by omega) (by omega) (by omega)) rfl
    refine c_ast (pc := 33) (t := 2) (ci1 := 1) (N := 12) X hK hG hS (by omega) rfl rfl hArr v1 v2 (by rw [v3]; rfl) (by decide : okI 2) (by decide) (by decide) dX6_init_33 (fun H locs hArr hG hS => ?_)
    refine m_iinc (pc := 34) X dX6_init_34 hl (by decide) (q0 := 0) rfl (fun v => [(1, .int v), (0, .ref (b + 44))]) (fun _ => rfl) (fun v ls ev _ hl => ?_)
    rw [show nm (2 + 1) = 3 by decide] at ev
    rw [ev] at hl
    clear ev
    refine m_goto (pc := 37) (tgt := 15) X dX6_init_37 (by decide) ?_
    refine m_iload_n (pc := 15) X dX6_init_15 rfl hl 0 rfl ?_
    refine m_bipush (pc := 16) X dX6_init_16 rfl ?_
    refine m_icmp_ge (pc := 18) (tgt := 40) X (by decide : okI 3) (by decide : okI 12) dX6_init_18 (by decide) (fun hc => absurd hc (by decide)) (fun _ => ?_)
    refine m_aload_n (pc := 21) X dX6_init_21 rfl hl 1 rfl ?_
    refine c_getr (pc := 22) X hK hG inX6 rfl rfl 0 (by decide) (by decide) q_316 rfl rfl dX6_init_22 ?_
    refine m_iload_n (pc := 25) X dX6_init_25 rfl hl 0 rfl ?_
    refine c_make (pc := 26) X hml hl.1 hK hA hG (by omega) hS inX2 tyX2 tyX2_ok rfl rfl (fun j hj => by match j, hj with | 0, _ => exact rfl | 1, _ => exact rfl | 2, _ => exact rfl | 3, _ => exact rfl | 4, _ => exact rfl | 5, _ => exact rfl | 6, _ => exact rfl | 7, _ => exact rfl | 8, _ => exact rfl | 9, _ => exact rfl | 10, _ => exact rfl | 11, _ => exact rfl | 12, _ => exact rfl | k + 13, h => exact absurd h (by omega)) q_313 q_119 q_82 rfl rfl (T_X2_init 79 rfl h) (by omega) (Or.inr ⟨"MoonWash", n_315⟩) q_121 q_122 (by decide +kernel) ⟨rfl, rfl, by decide, by decide, by decide, by decide⟩ (by decide) (Nat.le_of_ble_eq_true rfl) dX6_init_26 dX6_init_29 dX6_init_30 (fun S5 H locs h hG hq hS => ?_)
    replace hArr := (hq _ (by omega)).trans hArr
    have hG : gW g b KX S S5 44 45 90 4 [0] H := hG
    obtain ⟨⟨cv, v1, v2, v3, -⟩, -⟩ := mCl_ob (hG.2.2.2.2.2.1 79 (by omega) (by omega) (by omega)) rfl
    refine c_ast (pc := 33) (t := 2) (ci1 := 1) (N := 12) X hK hG hS (by omega) rfl rfl hArr v1 v2 (by rw [v3]; rfl) (by decide : okI 3) (by decide) (by decide) dX6_init_33 (fun H locs hArr hG hS => ?_)
    refine m_iinc (pc := 34) X dX6_init_34 hl (by decide) (q0 := 0) rfl (fun v => [(1, .int v), (0, .ref (b + 44))]) (fun _ => rfl) (fun v ls ev _ hl => ?_)
    rw [show nm (3 + 1) = 4 by decide] at ev
    rw [ev] at hl
    clear ev
    refine m_goto (pc := 37) (tgt := 15) X dX6_init_37 (by decide) ?_
    refine m_iload_n (pc := 15) X dX6_init_15 rfl hl 0 rfl ?_
    refine m_bipush (pc := 16) X dX6_init_16 rfl ?_
    refine m_icmp_ge (pc := 18) (tgt := 40) X (by decide : okI 4) (by decide : okI 12) dX6_init_18 (by decide) (fun hc => absurd hc (by decide)) (fun _ => ?_)
    refine m_aload_n (pc := 21) X dX6_init_21 rfl hl 1 rfl ?_
    refine c_getr (pc := 22) X hK hG inX6 rfl rfl 0 (by decide) (by decide) q_316 rfl rfl dX6_init_22 ?_
    refine m_iload_n (pc := 25) X dX6_init_25 rfl hl 0 rfl ?_
    refine c_make (pc := 26) X hml hl.1 hK hA hG (by omega) hS inX2 tyX2 tyX2_ok rfl rfl (fun j hj => by match j, hj with | 0, _ => exact rfl | 1, _ => exact rfl | 2, _ => exact rfl | 3, _ => exact rfl | 4, _ => exact rfl | 5, _ => exact rfl | 6, _ => exact rfl | 7, _ => exact rfl | 8, _ => exact rfl | 9, _ => exact rfl | 10, _ => exact rfl | 11, _ => exact rfl | 12, _ => exact rfl | k + 13, h => exact absurd h (by omega)) q_313 q_119 q_82 rfl rfl (T_X2_init 90 rfl h) (by omega) (Or.inr ⟨"MoonWash", n_315⟩) q_121 q_122 (by decide +kernel) ⟨rfl, rfl, by decide, by decide, by decide, by decide⟩ (by decide) (Nat.le_of_ble_eq_true rfl) dX6_init_26 dX6_init_29 dX6_init_30 (fun S6 H locs h hG hq hS => ?_)
    replace hArr := (hq _ (by omega)).trans hArr
    have hG : gW g b KX S S6 44 45 101 4 [0] H := hG
    obtain ⟨⟨cv, v1, v2, v3, -⟩, -⟩ := mCl_ob (hG.2.2.2.2.2.1 90 (by omega) (by omega) (by omega)) rfl
    refine c_ast (pc := 33) (t := 2) (ci1 := 1) (N := 12) X hK hG hS (by omega) rfl rfl hArr v1 v2 (by rw [v3]; rfl) (by decide : okI 4) (by decide) (by decide) dX6_init_33 (fun H locs hArr hG hS => ?_)
    refine m_iinc (pc := 34) X dX6_init_34 hl (by decide) (q0 := 0) rfl (fun v => [(1, .int v), (0, .ref (b + 44))]) (fun _ => rfl) (fun v ls ev _ hl => ?_)
    rw [show nm (4 + 1) = 5 by decide] at ev
    rw [ev] at hl
    clear ev
    refine m_goto (pc := 37) (tgt := 15) X dX6_init_37 (by decide) ?_
    refine m_iload_n (pc := 15) X dX6_init_15 rfl hl 0 rfl ?_
    refine m_bipush (pc := 16) X dX6_init_16 rfl ?_
    refine m_icmp_ge (pc := 18) (tgt := 40) X (by decide : okI 5) (by decide : okI 12) dX6_init_18 (by decide) (fun hc => absurd hc (by decide)) (fun _ => ?_)
    refine m_aload_n (pc := 21) X dX6_init_21 rfl hl 1 rfl ?_
    refine c_getr (pc := 22) X hK hG inX6 rfl rfl 0 (by decide) (by decide) q_316 rfl rfl dX6_init_22 ?_
    refine m_iload_n (pc := 25) X dX6_init_25 rfl hl 0 rfl ?_
    refine c_make (pc := 26) X hml hl.1 hK hA hG (by omega) hS inX2 tyX2 tyX2_ok rfl rfl (fun j hj => by match j, hj with | 0, _ => exact rfl | 1, _ => exact rfl | 2, _ => exact rfl | 3, _ => exact rfl | 4, _ => exact rfl | 5, _ => exact rfl | 6, _ => exact rfl | 7, _ => exact rfl | 8, _ => exact rfl | 9, _ => exact rfl | 10, _ => exact rfl | 11, _ => exact rfl | 12, _ => exact rfl | k + 13, h => exact absurd h (by omega)) q_313 q_119 q_82 rfl rfl (T_X2_init 101 rfl h) (by omega) (Or.inr ⟨"MoonWash", n_315⟩) q_121 q_122 (by decide +kernel) ⟨rfl, rfl, by decide, by decide, by decide, by decide⟩ (by decide) (Nat.le_of_ble_eq_true rfl) dX6_init_26 dX6_init_29 dX6_init_30 (fun S7 H locs h hG hq hS => ?_)
    replace hArr := (hq _ (by omega)).trans hArr
    have hG : gW g b KX S S7 44 45 112 4 [0] H := hG
    obtain ⟨⟨cv, v1, v2, v3, -⟩, -⟩ := mCl_ob (hG.2.2.2.2.2.1 101 (by omega) (by omega) (by omega)) rfl
    refine c_ast (pc := 33) (t := 2) (ci1 := 1) (N := 12) X hK hG hS (by omega) rfl rfl hArr v1 v2 (by rw [v3]; rfl) (by decide : okI 5) (by decide) (by decide) dX6_init_33 (fun H locs hArr hG hS => ?_)
    refine m_iinc (pc := 34) X dX6_init_34 hl (by decide) (q0 := 0) rfl (fun v => [(1, .int v), (0, .ref (b + 44))]) (fun _ => rfl) (fun v ls ev _ hl => ?_)
    rw [show nm (5 + 1) = 6 by decide] at ev
    rw [ev] at hl
    clear ev
    refine m_goto (pc := 37) (tgt := 15) X dX6_init_37 (by decide) ?_
    refine m_iload_n (pc := 15) X dX6_init_15 rfl hl 0 rfl ?_
    refine m_bipush (pc := 16) X dX6_init_16 rfl ?_
    refine m_icmp_ge (pc := 18) (tgt := 40) X (by decide : okI 6) (by decide : okI 12) dX6_init_18 (by decide) (fun hc => absurd hc (by decide)) (fun _ => ?_)
    refine m_aload_n (pc := 21) X dX6_init_21 rfl hl 1 rfl ?_
    refine c_getr (pc := 22) X hK hG inX6 rfl rfl 0 (by decide) (by decide) q_316 rfl rfl dX6_init_22 ?_
    refine m_iload_n (pc := 25) X dX6_init_25 rfl hl 0 rfl ?_
    refine c_make (pc := 26) X hml hl.1 hK hA hG (by omega) hS inX2 tyX2 tyX2_ok rfl rfl (fun j hj => by match j, hj with | 0, _ => exact rfl | 1, _ => exact rfl | 2, _ => exact rfl | 3, _ => exact rfl | 4, _ => exact rfl | 5, _ => exact rfl | 6, _ => exact rfl | 7, _ => exact rfl | 8, _ => exact rfl | 9, _ => exact rfl | 10, _ => exact rfl | 11, _ => exact rfl | 12, _ => exact rfl | k + 13, h => exact absurd h (by omega)) q_313 q_119 q_82 rfl rfl (T_X2_init 112 rfl h) (by omega) (Or.inr ⟨"MoonWash", n_315⟩) q_121 q_122 (by decide +kernel) ⟨rfl, rfl, by decide, by decide, by decide, by decide⟩ (by decide) (Nat.le_of_ble_eq_true rfl) dX6_init_26 dX6_init_29 dX6_init_30 (fun S8 H locs h hG hq hS => ?_)
    replace hArr := (hq _ (by omega)).trans hArr
    have hG : gW g b KX S S8 44 45 123 4 [0] H := hG
    obtain ⟨⟨cv, v1, v2, v3, -⟩, -⟩ := mCl_ob (hG.2.2.2.2.2.1 112 (by omega) (by omega) (by omega)) rfl
    refine c_ast (pc := 33) (t := 2) (ci1 := 1) (N := 12) X hK hG hS (by omega) rfl rfl hArr v1 v2 (by rw [v3]; rfl) (by decide : okI 6) (by decide) (by decide) dX6_init_33 (fun H locs hArr hG hS => ?_)
    refine m_iinc (pc := 34) X dX6_init_34 hl (by decide) (q0 := 0) rfl (fun v => [(1, .int v), (0, .ref (b + 44))]) (fun _ => rfl) (fun v ls ev _ hl => ?_)
    rw [show nm (6 + 1) = 7 by decide] at ev
    rw [ev] at hl
    clear ev
    refine m_goto (pc := 37) (tgt := 15) X dX6_init_37 (by decide) ?_
    refine m_iload_n (pc := 15) X dX6_init_15 rfl hl 0 rfl ?_
    refine m_bipush (pc := 16) X dX6_init_16 rfl ?_
    refine m_icmp_ge (pc := 18) (tgt := 40) X (by decide : okI 7) (by decide : okI 12) dX6_init_18 (by decide) (fun hc => absurd hc (by decide)) (fun _ => ?_)
    refine m_aload_n (pc := 21) X dX6_init_21 rfl hl 1 rfl ?_
    refine c_getr (pc := 22) X hK hG inX6 rfl rfl 0 (by decide) (by decide) q_316 rfl rfl dX6_init_22 ?_
    refine m_iload_n (pc := 25) X dX6_init_25 rfl hl 0 rfl ?_
    refine c_make (pc := 26) X hml hl.1 hK hA hG (by omega) hS inX2 tyX2 tyX2_ok rfl rfl (fun j hj => by match j, hj with | 0, _ => exact rfl | 1, _ => exact rfl | 2, _ => exact rfl | 3, _ => exact rfl | 4, _ => exact rfl | 5, _ => exact rfl | 6, _ => exact rfl | 7, _ => exact rfl | 8, _ => exact rfl | 9, _ => exact rfl | 10, _ => exact rfl | 11, _ => exact rfl | 12, _ => exact rfl | k + 13, h => exact absurd h (by omega)) q_313 q_119 q_82 rfl rfl (T_X2_init 123 rfl h) (by omega) (Or.inr ⟨"MoonWash", n_315⟩) q_121 q_122 (by decide +kernel) ⟨rfl, rfl, by decide, by decide, by decide, by decide⟩ (by decide) (Nat.le_of_ble_eq_true rfl) dX6_init_26 dX6_init_29 dX6_init_30 (fun S9 H locs h hG hq hS => ?_)
    replace hArr := (hq _ (by omega)).trans hArr
    have hG : gW g b KX S S9 44 45 134 4 [0] H := hG
    obtain ⟨⟨cv, v1, v2, v3, -⟩, -⟩ := mCl_ob (hG.2.2.2.2.2.1 123 (by omega) (by omega) (by omega)) rfl
    refine c_ast (pc := 33) (t := 2) (ci1 := 1) (N := 12) X hK hG hS (by omega) rfl rfl hArr v1 v2 (by rw [v3]; rfl) (by decide : okI 7) (by decide) (by decide) dX6_init_33 (fun H locs hArr hG hS => ?_)
    refine m_iinc (pc := 34) X dX6_init_34 hl (by decide) (q0 := 0) rfl (fun v => [(1, .int v), (0, .ref (b + 44))]) (fun _ => rfl) (fun v ls ev _ hl => ?_)
    rw [show nm (7 + 1) = 8 by decide] at ev
    rw [ev] at hl
    clear ev
    refine m_goto (pc := 37) (tgt := 15) X dX6_init_37 (by decide) ?_
    refine m_iload_n (pc := 15) X dX6_init_15 rfl hl 0 rfl ?_
    refine m_bipush (pc := 16) X dX6_init_16 rfl ?_
    refine m_icmp_ge (pc := 18) (tgt := 40) X (by decide : okI 8) (by decide : okI 12) dX6_init_18 (by decide) (fun hc => absurd hc (by decide)) (fun _ => ?_)
    refine m_aload_n (pc := 21) X dX6_init_21 rfl hl 1 rfl ?_
    refine c_getr (pc := 22) X hK hG inX6 rfl rfl 0 (by decide) (by decide) q_316 rfl rfl dX6_init_22 ?_
    refine m_iload_n (pc := 25) X dX6_init_25 rfl hl 0 rfl ?_
    refine c_make (pc := 26) X hml hl.1 hK hA hG (by omega) hS inX2 tyX2 tyX2_ok rfl rfl (fun j hj => by match j, hj with | 0, _ => exact rfl | 1, _ => exact rfl | 2, _ => exact rfl | 3, _ => exact rfl | 4, _ => exact rfl | 5, _ => exact rfl | 6, _ => exact rfl | 7, _ => exact rfl | 8, _ => exact rfl | 9, _ => exact rfl | 10, _ => exact rfl | 11, _ => exact rfl | 12, _ => exact rfl | k + 13, h => exact absurd h (by omega)) q_313 q_119 q_82 rfl rfl (T_X2_init 134 rfl h) (by omega) (Or.inr ⟨"MoonWash", n_315⟩) q_121 q_122 (by decide +kernel) ⟨rfl, rfl, by decide, by decide, by decide, by decide⟩ (by decide) (Nat.le_of_ble_eq_true rfl) dX6_init_26 dX6_init_29 dX6_init_30 (fun S10 H locs h hG hq hS => ?_)
    replace hArr := (hq _ (by omega)).trans hArr
    have hG : gW g b KX S S10 44 45 145 4 [0] H := hG
    obtain ⟨⟨cv, v1, v2, v3, -⟩, -⟩ := mCl_ob (hG.2.2.2.2.2.1 134 (by omega) (by omega) (by omega)) rfl
    refine c_ast (pc := 33) (t := 2) (ci1 := 1) (N := 12) X hK hG hS (by omega) rfl rfl hArr v1 v2 (by rw [v3]; rfl) (by decide : okI 8) (by decide) (by decide) dX6_init_33 (fun H locs hArr hG hS => ?_)
    refine m_iinc (pc := 34) X dX6_init_34 hl (by decide) (q0 := 0) rfl (fun v => [(1, .int v), (0, .ref (b + 44))]) (fun _ => rfl) (fun v ls ev _ hl => ?_)
    rw [show nm (8 + 1) = 9 by decide] at ev
    rw [ev] at hl
    clear ev
    refine m_goto (pc := 37) (tgt := 15) X dX6_init_37 (by decide) ?_
    refine m_iload_n (pc := 15) X dX6_init_15 rfl hl 0 rfl ?_
    refine m_bipush (pc := 16) X dX6_init_16 rfl ?_
    refine m_icmp_ge (pc := 18) (tgt := 40) X (by decide : okI 9) (by decide : okI 12) dX6_init_18 (by decide) (fun hc => absurd hc (by decide)) (fun _ => ?_)
    refine m_aload_n (pc := 21) X dX6_init_21 rfl hl 1 rfl ?_
    refine c_getr (pc := 22) X hK hG inX6 rfl rfl 0 (by decide) (by decide) q_316 rfl rfl dX6_init_22 ?_
    refine m_iload_n (pc := 25) X dX6_init_25 rfl hl 0 rfl ?_
    refine c_make (pc := 26) X hml hl.1 hK hA hG (by omega) hS inX2 tyX2 tyX2_ok rfl rfl (fun j hj => by match j, hj with | 0, _ => exact rfl | 1, _ => exact rfl | 2, _ => exact rfl | 3, _ => exact rfl | 4, _ => exact rfl | 5, _ => exact rfl | 6, _ => exact rfl | 7, _ => exact rfl | 8, _ => exact rfl | 9, _ => exact rfl | 10, _ => exact rfl | 11, _ => exact rfl | 12, _ => exact rfl | k + 13, h => exact absurd h (by omega)) q_313 q_119 q_82 rfl rfl (T_X2_init 145 rfl h) (by omega) (Or.inr ⟨"MoonWash", n_315⟩) q_121 q_122 (by decide +kernel) ⟨rfl, rfl, by decide, by decide, by decide, by decide⟩ (by decide) (Nat.le_of_ble_eq_true rfl) dX6_init_26 dX6_init_29 dX6_init_30 (fun S11 H locs h hG hq hS => ?_)
    replace hArr := (hq _ (by omega)).trans hArr
    have hG : gW g b KX S S11 44 45 156 4 [0] H := hG
    obtain ⟨⟨cv, v1, v2, v3, -⟩, -⟩ := mCl_ob (hG.2.2.2.2.2.1 145 (by omega) (by omega) (by omega)) rfl
    refine c_ast (pc := 33) (t := 2) (ci1 := 1) (N := 12) X hK hG hS (by omega) rfl rfl hArr v1 v2 (by rw [v3]; rfl) (by decide : okI 9) (by decide) (by decide) dX6_init_33 (fun H locs hArr hG hS => ?_)
    refine m_iinc (pc := 34) X dX6_init_34 hl (by decide) (q0 := 0) rfl (fun v => [(1, .int v), (0, .ref (b + 44))]) (fun _ => rfl) (fun v ls ev _ hl => ?_)
    rw [show nm (9 + 1) = 10 by decide] at ev
    rw [ev] at hl
    clear ev
    refine m_goto (pc := 37) (tgt := 15) X dX6_init_37 (by decide) ?_
    refine m_iload_n (pc := 15) X dX6_init_15 rfl hl 0 rfl ?_
    refine m_bipush (pc := 16) X dX6_init_16 rfl ?_
    refine m_icmp_ge (pc := 18) (tgt := 40) X (by decide : okI 10) (by decide : okI 12) dX6_init_18 (by decide) (fun hc => absurd hc (by decide)) (fun _ => ?_)
    refine m_aload_n (pc := 21) X dX6_init_21 rfl hl 1 rfl ?_
    refine c_getr (pc := 22) X hK hG inX6 rfl rfl 0 (by decide) (by decide) q_316 rfl rfl dX6_init_22 ?_
    refine m_iload_n (pc := 25) X dX6_init_25 rfl hl 0 rfl ?_
    refine c_make (pc := 26) X hml hl.1 hK hA hG (by omega) hS inX2 tyX2 tyX2_ok rfl rfl (fun j hj => by match j, hj with | 0, _ => exact rfl | 1, _ => exact rfl | 2, _ => exact rfl | 3, _ => exact rfl | 4, _ => exact rfl | 5, _ => exact rfl | 6, _ => exact rfl | 7, _ => exact rfl | 8, _ => exact rfl | 9, _ => exact rfl | 10, _ => exact rfl | 11, _ => exact rfl | 12, _ => exact rfl | k + 13, h => exact absurd h (by omega)) q_313 q_119 q_82 rfl rfl (T_X2_init 156 rfl h) (by omega) (Or.inr ⟨"MoonWash", n_315⟩) q_121 q_122 (by decide +kernel) ⟨rfl, rfl, by decide, by decide, by decide, by decide⟩ (by decide) (Nat.le_of_ble_eq_true rfl) dX6_init_26 dX6_init_29 dX6_init_30 (fun S12 H locs h hG hq hS => ?_)
    replace hArr := (hq _ (by omega)).trans hArr
    have hG : gW g b KX S S12 44 45 167 4 [0] H := hG
    obtain ⟨⟨cv, v1, v2, v3, -⟩, -⟩ := mCl_ob (hG.2.2.2.2.2.1 156 (by omega) (by omega) (by omega)) rfl
    refine c_ast (pc := 33) (t := 2) (ci1 := 1) (N := 12) X hK hG hS (by omega) rfl rfl hArr v1 v2 (by rw [v3]; rfl) (by decide : okI 10) (by decide) (by decide) dX6_init_33 (fun H locs hArr hG hS => ?_)
    refine m_iinc (pc := 34) X dX6_init_34 hl (by decide) (q0 := 0) rfl (fun v => [(1, .int v), (0, .ref (b + 44))]) (fun _ => rfl) (fun v ls ev _ hl => ?_)
    rw [show nm (10 + 1) = 11 by decide] at ev
    rw [ev] at hl
    clear ev
    refine m_goto (pc := 37) (tgt := 15) X dX6_init_37 (by decide) ?_
    refine m_iload_n (pc := 15) X dX6_init_15 rfl hl 0 rfl ?_
    refine m_bipush (pc := 16) X dX6_init_16 rfl ?_
    refine m_icmp_ge (pc := 18) (tgt := 40) X (by decide : okI 11) (by decide : okI 12) dX6_init_18 (by decide) (fun hc => absurd hc (by decide)) (fun _ => ?_)
    refine m_aload_n (pc := 21) X dX6_init_21 rfl hl 1 rfl ?_
    refine c_getr (pc := 22) X hK hG inX6 rfl rfl 0 (by decide) (by decide) q_316 rfl rfl dX6_init_22 ?_
    refine m_iload_n (pc := 25) X dX6_init_25 rfl hl 0 rfl ?_
    refine c_make (pc := 26) X hml hl.1 hK hA hG (by omega) hS inX2 tyX2 tyX2_ok rfl rfl (fun j hj => by match j, hj with | 0, _ => exact rfl | 1, _ => exact rfl | 2, _ => exact rfl | 3, _ => exact rfl | 4, _ => exact rfl | 5, _ => exact rfl | 6, _ => exact rfl | 7, _ => exact rfl | 8, _ => exact rfl | 9, _ => exact rfl | 10, _ => exact rfl | 11, _ => exact rfl | 12, _ => exact rfl | k + 13, h => exact absurd h (by omega)) q_313 q_119 q_82 rfl rfl (T_X2_init 167 rfl h) (by omega) (Or.inr ⟨"MoonWash", n_315⟩) q_121 q_122 (by decide +kernel) ⟨rfl, rfl, by decide, by decide, by decide, by decide⟩ (by decide) (Nat.le_of_ble_eq_true rfl) dX6_init_26 dX6_init_29 dX6_init_30 (fun S13 H locs h hG hq hS => ?_)
    replace hArr := (hq _ (by omega)).trans hArr
    have hG : gW g b KX S S13 44 45 178 4 [0] H := hG
    obtain ⟨⟨cv, v1, v2, v3, -⟩, -⟩ := mCl_ob (hG.2.2.2.2.2.1 167 (by omega) (by omega) (by omega)) rfl
    refine c_ast (pc := 33) (t := 2) (ci1 := 1) (N := 12) X hK hG hS (by omega) rfl rfl hArr v1 v2 (by rw [v3]; rfl) (by decide : okI 11) (by decide) (by decide) dX6_init_33 (fun H locs hArr hG hS => ?_)
    refine m_iinc (pc := 34) X dX6_init_34 hl (by decide) (q0 := 0) rfl (fun v => [(1, .int v), (0, .ref (b + 44))]) (fun _ => rfl) (fun v ls ev _ hl => ?_)
    rw [show nm (11 + 1) = 12 by decide] at ev
    rw [ev] at hl
    clear ev
    refine m_goto (pc := 37) (tgt := 15) X dX6_init_37 (by decide) ?_
    refine m_iload_n (pc := 15) X dX6_init_15 rfl hl 0 rfl ?_
    refine m_bipush (pc := 16) X dX6_init_16 rfl ?_
    refine m_icmp_ge (pc := 18) (tgt := 40) X (by decide : okI 12) (by decide : okI 12) dX6_init_18 (by decide) (fun _ => ?_) (fun hc => absurd hc (by decide))
    have hG : gW g b KX S S13 44 44 178 4 [0] H := hG.close (S1 := S13) (by decide) (by decide) hG.2.1 (fun _ _ => rfl) (by
      unfold mCl
      rw [show KX 45 = (3, 12, 0) from rfl]
      refine hArr.trans (congrArg some (arrV_congr fun j hj => ?_))
      match j, hj with
      | 0, _ => exact rfl
      | 1, _ => exact rfl
      | 2, _ => exact rfl
      | 3, _ => exact rfl
      | 4, _ => exact rfl
      | 5, _ => exact rfl
      | 6, _ => exact rfl
      | 7, _ => exact rfl
      | 8, _ => exact rfl
      | 9, _ => exact rfl
      | 10, _ => exact rfl
      | 11, _ => exact rfl
      | k + 12, h => exact absurd h (by omega))
    exact c_ret (pc := 40) X hr hlk hG hS rfl (by decide +kernel) h (by decide) (by decide) dX6_init_40)
theorem W_X10_loop {p : Program} {l : Launch} {e : Env} {s : State} {m : MethodId} {args : Array Value} {below : List Frame} {meth : Method} {c : Code} {g : mG} {b : Nat} {R : Room} {S0 S : mSt} {Q : mSt → Prop} {cells slots : Nat} (X : mX p s m args c cX10_init "MoonWash$Words") (hK : mKg g s) (hA : cAr s) (hr : meth.sig.returnType = none) (hlk : meth.locks = false) (h : Q (mz S 40)) : ∀ (k : Nat) (i : Int) (H : Heap) (locs : List Loc) (ls : Array Slot), i + k = 401 → 0 ≤ i → lv_has ls 2 [(1, .int (mI i)), (0, .ref (b + 38))] → gW g b KX S0 S 38 40 44 8 [6, 4, 3, 2, 1, 0] H → va_S (gA b 38) s.heap H locs → H[b + 40]? = some (arrV (g.cy 4) 401 (fun j => if (j : Int) < i then .ref (g.ad 0) else .null)) → W p l e R s m args below meth c H locs cells slots (vx_MQ below (cQv g b KX 38 44 S0 Q) (cEx (gA b 38)) args s cells slots (gA b 38)) (F0 m 57 ls []) := by
  intro k
  induction k with
  | zero =>
    intro i H locs ls hi h0 hl hG hS hArr
    have hi4 : i = 401 := by omega
    have oi : okI i := by unfold okI; omega
    refine m_iload_n (pc := 57) X dX10_init_57 rfl hl 0 rfl ?_
    refine m_sipush (pc := 58) X dX10_init_58 rfl ?_
    refine m_icmp_gt (pc := 61) (tgt := 79) X oi (by decide : okI 400) dX10_init_61 (by decide) (fun _ => ?_) (fun hc => absurd hc (by omega))
    have hG2 : gW g b KX S0 (mz S 40) 38 38 44 8 [6, 4, 3, 2, 1, 0] H := hG.close (by decide) (by decide) (okS_z hG.2.1) (fun r' h => mz_ne S h) (by
      unfold mCl
      rw [show KX 40 = (5, 401, 0) from rfl]
      refine ⟨hArr.trans (congrArg some (arrV_congr fun j hj => ?_)), fun j _ => ?_⟩
      · rw [if_pos (by omega), mz_at]; rfl
      · rw [mz_at]; decide)
    exact c_ret (pc := 79) X hr hlk hG2 hS rfl (by decide +kernel) h (Nat.le_refl _) (Nat.le_refl _) dX10_init_79
  | succ k ih =>
    intro i H locs ls hi h0 hl hG hS hArr
    have oi : okI i := by unfold okI; omega
    refine m_iload_n (pc := 57) X dX10_init_57 rfl hl 0 rfl ?_
    refine m_sipush (pc := 58) X dX10_init_58 rfl ?_
    refine m_icmp_gt (pc := 61) (tgt := 79) X oi (by decide : okI 400) dX10_init_61 (by decide) (fun hc => absurd hc (by omega)) (fun _ => ?_)
    refine m_aload_n (pc := 64) X dX10_init_64 rfl hl 1 rfl ?_
    refine c_getr (pc := 65) X hK hG inX10 rfl rfl 1 (by decide) (by decide) q_285 rfl rfl dX10_init_65 ?_
    refine m_iload_n (pc := 68) X dX10_init_68 rfl hl 0 rfl ?_
    refine c_token (pc := 69) X hK hS (fun q h => Nat.le_trans hG.1 (Nat.le_trans (Nat.le_add_right _ _) h)) 0 (by decide) rfl q_282 dX10_init_69 ?_
    obtain ⟨cv, v1, v2, v3, -⟩ := ((hK.2.2.1.2.2.1.1 0 (by decide)).2.1.narrow (fun q (h : b + 38 ≤ q) => Nat.le_trans hG.1 (Nat.le_trans (Nat.le_add_right _ _) h))).kept hS.2.1
    have v4 : cv.cls = g.D.1 6 := Option.some.inj (v3.symm.trans (hK.1.1 6 _ rfl).2.1)
    refine c_ast (pc := 72) (t := 4) (ci1 := 6) (N := 401) X hK hG hS (by decide) rfl rfl hArr v1 v4 v2 oi h0 (by omega) dX10_init_72 (fun H locs hArr hG hS => ?_)
    refine m_iinc (pc := 73) X dX10_init_73 hl (by decide) (q0 := 0) rfl (fun v => [(1, .int v), (0, .ref (b + 38))]) (fun _ => rfl) (fun v ls ev _ hl => ?_)
    rw [nm_of (by omega) (by omega)] at ev
    rw [ev] at hl
    refine m_goto (pc := 76) (tgt := 57) X dX10_init_76 (by decide) ?_
    refine ih (i + 1) H locs ls (by omega) (by omega) hl hG hS (hArr.trans (congrArg some (arrV_congr fun j _ => ?_)))
    unfold updV
    by_cases e : j = i.toNat
    · rw [if_pos e, if_pos (by omega)]
    · rw [if_neg e]
      show (if (j : Int) < i then Value.ref (g.ad 0) else Value.null) = _
      by_cases e2 : (j : Int) < i
      · rw [if_pos e2, if_pos (by omega)]
      · rw [if_neg e2, if_neg (by omega)]
def w_X10_init (S : mSt) (Q : mSt → Prop) : Prop :=
  ∀ S1 : mSt, S1 = mz S 38 → ∀ S2 : mSt, S2 = mz S1 39 → ∀ S3 : mSt, S3 = mz S2 41 → ∀ S4 : mSt, S4 = mz S3 42 → ∀ S5 : mSt, S5 = mz S4 43 → ∀ S6 : mSt, S6 = mup S5 38 6 (-1) → Q (mz S6 40)
theorem T_X10_init {l : Launch} {g : mG} {b : Nat} {S : mSt} {Q : mSt → Prop} (h : w_X10_init S Q) : vx_Met l yX10_init (Cond.code yX10_init cX10_init 2 none :: wsG) { frames := 1, cells := 5, slots := 2004, locals := 20 } (cPc g b KX 38 8 S) (cQv g b KX 38 44 S Q) (cEx (gA b 38)) 5 2004 (gA b 38) :=
  c_of (by decide) (by decide) rfl (fun p e s m args below meth c ls X hK hA hml hr hlk hnm hG hl => by
    have X : mX p s m args c cX10_init "MoonWash$Words" := X
    have hS : va_S (gA b 38) s.heap s.heap [] := va_S.rf
    unfold w_X10_init at h
    replace h := h _ rfl
    generalize hS1 : mz S 38 = S1 at hG h
    refine m_aload_n (pc := 0) X dX10_init_0 rfl hl 0 rfl ?_
    refine c_obj (pc := 1) X hml hl.1 (rest := []) q_279 (by decide) (by decide) dX10_init_1 ?_
    refine m_aload_n (pc := 4) X dX10_init_4 rfl hl 0 rfl ?_
    refine m_sipush (pc := 5) X dX10_init_5 rfl ?_
    refine c_newa (pc := 8) X hK hG hS rfl (Or.inl ⟨rfl, rfl⟩) (by decide : okI 400) rfl (by decide) q_183 dX10_init_8 (by decide) (by decide) (fun S2 H eS2 hG hq hS => ?_)
    replace h := h S2 eS2
    have hG : gW g b KX S S2 38 38 40 8 [] H := hG
    refine c_putr (pc := 10) X hK hG hS inX10 tyX10 tyX10_ok nmX10 rfl rfl 0 (by decide) hnm rfl q_284 rfl rfl rfl (ty := (.array .int)) (by decide +kernel) rfl rfl dX10_init_10 (fun H locs hG hq hS => ?_)
    have hG : gW g b KX S S2 38 38 40 8 [0] H := hG
    refine m_aload_n (pc := 13) X dX10_init_13 rfl hl 0 rfl ?_
    refine m_sipush (pc := 14) X dX10_init_14 rfl ?_
    refine c_anew (pc := 17) (t := 4) (N := 401) X hK hG hS rfl hA.2.1 (by decide : okI 401) rfl (by decide) q_280 dX10_init_17 (by decide) (by decide) (fun H hArr hG hS => ?_)
    have hG : gW g b KX S S2 38 40 41 8 [0] H := hG
    refine c_putr (pc := 20) X hK hG hS inX10 tyX10 tyX10_ok nmX10 rfl rfl 1 (by decide) hnm rfl q_285 rfl rfl rfl (ty := (.array (.object "MoonWash$Token"))) (by decide +kernel) rfl rfl dX10_init_20 (fun H locs hG hq hS => ?_)
    replace hArr := (hq _ (by omega)).trans hArr
    have hG : gW g b KX S S2 38 40 41 8 [1, 0] H := hG
    refine m_aload_n (pc := 23) X dX10_init_23 rfl hl 0 rfl ?_
    refine m_sipush (pc := 24) X dX10_init_24 rfl ?_
    refine c_newa (pc := 27) X hK hG hS rfl (Or.inl ⟨rfl, rfl⟩) (by decide : okI 401) rfl (by decide) q_183 dX10_init_27 (by decide) (by decide) (fun S3 H eS3 hG hq hS => ?_)
    replace h := h S3 eS3
    replace hArr := (hq _ (by omega)).trans hArr
    have hG : gW g b KX S S3 38 40 42 8 [1, 0] H := hG
    refine c_putr (pc := 29) X hK hG hS inX10 tyX10 tyX10_ok nmX10 rfl rfl 2 (by decide) hnm rfl q_286 rfl rfl rfl (ty := (.array .int)) (by decide +kernel) rfl rfl dX10_init_29 (fun H locs hG hq hS => ?_)
    replace hArr := (hq _ (by omega)).trans hArr
    have hG : gW g b KX S S3 38 40 42 8 [2, 1, 0] H := hG
    refine m_aload_n (pc := 32) X dX10_init_32 rfl hl 0 rfl ?_
    refine m_sipush (pc := 33) X dX10_init_33 rfl ?_
    refine c_newa (pc := 36) X hK hG hS rfl (Or.inl ⟨rfl, rfl⟩) (by decide : okI 401) rfl (by decide) q_183 dX10_init_36 (by decide) (by decide) (fun S4 H eS4 hG hq hS => ?_)
    replace h := h S4 eS4
    replace hArr := (hq _ (by omega)).trans hArr
    have hG : gW g b KX S S4 38 40 43 8 [2, 1, 0] H := hG
    refine c_putr (pc := 38) X hK hG hS inX10 tyX10 tyX10_ok nmX10 rfl rfl 3 (by decide) hnm rfl q_287 rfl rfl rfl (ty := (.array .int)) (by decide +kernel) rfl rfl dX10_init_38 (fun H locs hG hq hS => ?_)
    replace hArr := (hq _ (by omega)).trans hArr
    have hG : gW g b KX S S4 38 40 43 8 [3, 2, 1, 0] H := hG
    refine m_aload_n (pc := 41) X dX10_init_41 rfl hl 0 rfl ?_
    refine m_sipush (pc := 42) X dX10_init_42 rfl ?_
    refine c_newa (pc := 45) X hK hG hS rfl (Or.inl ⟨rfl, rfl⟩) (by decide : okI 401) rfl (by decide) q_183 dX10_init_45 (by decide) (by decide) (fun S5 H eS5 hG hq hS => ?_)
    replace h := h S5 eS5
    replace hArr := (hq _ (by omega)).trans hArr
    have hG : gW g b KX S S5 38 40 44 8 [3, 2, 1, 0] H := hG
    refine c_putr (pc := 47) X hK hG hS inX10 tyX10 tyX10_ok nmX10 rfl rfl 4 (by decide) hnm rfl q_288 rfl rfl rfl (ty := (.array .int)) (by decide +kernel) rfl rfl dX10_init_47 (fun H locs hG hq hS => ?_)
    replace hArr := (hq _ (by omega)).trans hArr
    have hG : gW g b KX S S5 38 40 44 8 [4, 3, 2, 1, 0] H := hG
    refine m_aload_n (pc := 50) X dX10_init_50 rfl hl 0 rfl ?_
    refine m_iconst (pc := 51) X dX10_init_51 ?_
    refine c_puti (pc := 52) X hK hG hS inX10 tyX10 tyX10_ok nmX10 rfl rfl 6 (by decide) hnm rfl q_290 rfl rfl rfl (by decide : okI (-1)) dX10_init_52 (fun S6 H locs eS6 hG hq hS => ?_)
    replace h := h S6 eS6
    replace hArr := (hq _ (by omega)).trans hArr
    have hG : gW g b KX S S6 38 40 44 8 [6, 4, 3, 2, 1, 0] H := hG
    refine m_iconst (pc := 55) X dX10_init_55 ?_
    refine m_istore_n (pc := 56) X dX10_init_56 rfl hl (by decide) (fun v => [(1, .int v), (0, .ref (b + 38))]) (fun _ => rfl) (by decide : okI 0) (fun v ls ev _ hl => ?_)
    rw [ev] at hl
    clear ev
    exact W_X10_loop X hK hA hr hlk h 401 0 H locs ls rfl (by decide) hl hG hS (hArr.trans (congrArg some (arrV_congr fun j _ => by rw [if_neg (by omega)]))))
def w_X11_init (S : mSt) (Q : mSt → Prop) : Prop :=
  ∀ S1 : mSt, S1 = mz S 0 → ∀ S2 : mSt, S2 = mz S1 1 → ∀ S3 : mSt, S3 = mup S2 0 2 (-1) → w_X2_init 2 S3 (fun S4 : mSt => ∀ S5 : mSt, S5 = mup S4 0 3 2 → w_X2_init 13 S5 (fun S6 : mSt => ∀ S7 : mSt, S7 = mup S6 0 4 13 → w_X3_init 24 S7 (fun S8 : mSt => ∀ S9 : mSt, S9 = mup S8 0 5 24 → w_X3_init 31 S9 (fun S10 : mSt => ∀ S11 : mSt, S11 = mup S10 0 6 31 → w_X10_init S11 (fun S12 : mSt => w_X6_init S12 (fun S13 : mSt => w_X1_init S13 (fun S14 : mSt => w_X5_init 198 S14 (fun S15 : mSt => w_X9_init S15 (fun S16 : mSt => w_X7_init S16 (fun S17 : mSt => Q S17))))))))))
theorem T_X11_init {l : Launch} {g : mG} {b : Nat} {S : mSt} {Q : mSt → Prop} (h : w_X11_init S Q) : vx_Met l yX11_init (Cond.code yX11_init cX11_init 1 none :: wsG) { frames := 4, cells := 236, slots := 11066, locals := 82 } (cPc g b KX 0 9 S) (cQv g b KX 0 237 S Q) (cEx (gA b 0)) 236 11066 (gA b 0) :=
  c_of (by decide) (by decide) rfl (fun p e s m args below meth c ls X hK hA hml hr hlk hnm hG hl => by
    have X : mX p s m args c cX11_init "MoonWash" := X
    have hS : va_S (gA b 0) s.heap s.heap [] := va_S.rf
    unfold w_X11_init at h
    replace h := h _ rfl
    generalize hS1 : mz S 0 = S1 at hG h
    refine m_aload_n (pc := 0) X dX11_init_0 rfl hl 0 rfl ?_
    refine c_obj (pc := 1) X hml hl.1 (rest := []) q_115 (by decide) (by decide) dX11_init_1 ?_
    refine m_aload_n (pc := 4) X dX11_init_4 rfl hl 0 rfl ?_
    refine m_sipush (pc := 5) X dX11_init_5 rfl ?_
    refine c_newa (pc := 8) X hK hG hS rfl (Or.inl ⟨rfl, rfl⟩) (by decide : okI 400) rfl (by decide) q_183 dX11_init_8 (by decide) (by decide) (fun S2 H eS2 hG hq hS => ?_)
    replace h := h S2 eS2
    have hG : gW g b KX S S2 0 0 2 9 [] H := hG
    refine c_putr (pc := 10) X hK hG hS inX11 tyX11 tyX11_ok nmX11 rfl rfl 0 (by decide) hnm rfl q_392 rfl rfl rfl (ty := (.array .int)) (by decide +kernel) rfl rfl dX11_init_10 (fun H locs hG hq hS => ?_)
    have hG : gW g b KX S S2 0 0 2 9 [0] H := hG
    refine m_aload_n (pc := 13) X dX11_init_13 rfl hl 0 rfl ?_
    refine m_iconst (pc := 14) X dX11_init_14 ?_
    refine c_puti (pc := 15) X hK hG hS inX11 tyX11 tyX11_ok nmX11 rfl rfl 2 (by decide) hnm rfl q_394 rfl rfl rfl (by decide : okI (-1)) dX11_init_15 (fun S3 H locs eS3 hG hq hS => ?_)
    replace h := h S3 eS3
    have hG : gW g b KX S S3 0 0 2 9 [2, 0] H := hG
    refine m_aload_n (pc := 18) X dX11_init_18 rfl hl 0 rfl ?_
    refine c_make (pc := 19) X hml hl.1 hK hA hG (by omega) hS inX2 tyX2 tyX2_ok rfl rfl (fun j hj => by match j, hj with | 0, _ => exact rfl | 1, _ => exact rfl | 2, _ => exact rfl | 3, _ => exact rfl | 4, _ => exact rfl | 5, _ => exact rfl | 6, _ => exact rfl | 7, _ => exact rfl | 8, _ => exact rfl | 9, _ => exact rfl | 10, _ => exact rfl | 11, _ => exact rfl | 12, _ => exact rfl | k + 13, h => exact absurd h (by omega)) q_118 q_119 q_82 rfl rfl (T_X2_init 2 rfl h) (by omega) (Or.inr ⟨"MoonWash", n_120⟩) q_121 q_122 (by decide +kernel) ⟨rfl, rfl, by decide, by decide, by decide, by decide⟩ (by decide) (Nat.le_of_ble_eq_true rfl) dX11_init_19 dX11_init_22 dX11_init_23 (fun S4 H locs h hG hq hS => ?_)
    have hG : gW g b KX S S4 0 0 13 9 [2, 0] H := hG
    refine c_putp (pc := 26) X hK hG hS inX11 tyX11 tyX11_ok nmX11 rfl rfl 3 (by decide) hnm rfl q_395 rfl rfl rfl (by decide : okI 2) (ty := (.object "MoonWash$Laundry")) (by decide +kernel) rfl rfl dX11_init_26 (fun S5 H locs eS5 hG hq hS => ?_)
    replace h := h S5 eS5
    have hG : gW g b KX S S5 0 0 13 9 [3, 2, 0] H := hG
    refine m_aload_n (pc := 29) X dX11_init_29 rfl hl 0 rfl ?_
    refine c_make (pc := 30) X hml hl.1 hK hA hG (by omega) hS inX2 tyX2 tyX2_ok rfl rfl (fun j hj => by match j, hj with | 0, _ => exact rfl | 1, _ => exact rfl | 2, _ => exact rfl | 3, _ => exact rfl | 4, _ => exact rfl | 5, _ => exact rfl | 6, _ => exact rfl | 7, _ => exact rfl | 8, _ => exact rfl | 9, _ => exact rfl | 10, _ => exact rfl | 11, _ => exact rfl | 12, _ => exact rfl | k + 13, h => exact absurd h (by omega)) q_118 q_119 q_82 rfl rfl (T_X2_init 13 rfl h) (by omega) (Or.inr ⟨"MoonWash", n_120⟩) q_121 q_122 (by decide +kernel) ⟨rfl, rfl, by decide, by decide, by decide, by decide⟩ (by decide) (Nat.le_of_ble_eq_true rfl) dX11_init_30 dX11_init_33 dX11_init_34 (fun S6 H locs h hG hq hS => ?_)
    have hG : gW g b KX S S6 0 0 24 9 [3, 2, 0] H := hG
    refine c_putp (pc := 37) X hK hG hS inX11 tyX11 tyX11_ok nmX11 rfl rfl 4 (by decide) hnm rfl q_396 rfl rfl rfl (by decide : okI 13) (ty := (.object "MoonWash$Laundry")) (by decide +kernel) rfl rfl dX11_init_37 (fun S7 H locs eS7 hG hq hS => ?_)
    replace h := h S7 eS7
    have hG : gW g b KX S S7 0 0 24 9 [4, 3, 2, 0] H := hG
    refine m_aload_n (pc := 40) X dX11_init_40 rfl hl 0 rfl ?_
    refine c_make (pc := 41) X hml hl.1 hK hA hG (by omega) hS inX3 tyX3 tyX3_ok rfl rfl (fun j hj => by match j, hj with | 0, _ => exact rfl | 1, _ => exact rfl | 2, _ => exact rfl | 3, _ => exact rfl | 4, _ => exact rfl | 5, _ => exact rfl | 6, _ => exact rfl | 7, _ => exact rfl | k + 8, h => exact absurd h (by omega)) q_242 q_243 q_84 rfl rfl (T_X3_init 24 rfl h) (by omega) (Or.inr ⟨"MoonWash", n_244⟩) q_245 q_246 (by decide +kernel) ⟨rfl, rfl, by decide, by decide, by decide, by decide⟩ (by decide) (Nat.le_of_ble_eq_true rfl) dX11_init_41 dX11_init_44 dX11_init_45 (fun S8 H locs h hG hq hS => ?_)
    have hG : gW g b KX S S8 0 0 31 9 [4, 3, 2, 0] H := hG
    refine c_putp (pc := 48) X hK hG hS inX11 tyX11 tyX11_ok nmX11 rfl rfl 5 (by decide) hnm rfl q_397 rfl rfl rfl (by decide : okI 24) (ty := (.object "MoonWash$Law")) (by decide +kernel) rfl rfl dX11_init_48 (fun S9 H locs eS9 hG hq hS => ?_)
    replace h := h S9 eS9
    have hG : gW g b KX S S9 0 0 31 9 [5, 4, 3, 2, 0] H := hG
    refine m_aload_n (pc := 51) X dX11_init_51 rfl hl 0 rfl ?_
    refine c_make (pc := 52) X hml hl.1 hK hA hG (by omega) hS inX3 tyX3 tyX3_ok rfl rfl (fun j hj => by match j, hj with | 0, _ => exact rfl | 1, _ => exact rfl | 2, _ => exact rfl | 3, _ => exact rfl | 4, _ => exact rfl | 5, _ => exact rfl | 6, _ => exact rfl | 7, _ => exact rfl | k + 8, h => exact absurd h (by omega)) q_242 q_243 q_84 rfl rfl (T_X3_init 31 rfl h) (by omega) (Or.inr ⟨"MoonWash", n_244⟩) q_245 q_246 (by decide +kernel) ⟨rfl, rfl, by decide, by decide, by decide, by decide⟩ (by decide) (Nat.le_of_ble_eq_true rfl) dX11_init_52 dX11_init_55 dX11_init_56 (fun S10 H locs h hG hq hS => ?_)
    have hG : gW g b KX S S10 0 0 38 9 [5, 4, 3, 2, 0] H := hG
    refine c_putp (pc := 59) X hK hG hS inX11 tyX11 tyX11_ok nmX11 rfl rfl 6 (by decide) hnm rfl q_398 rfl rfl rfl (by decide : okI 31) (ty := (.object "MoonWash$Law")) (by decide +kernel) rfl rfl dX11_init_59 (fun S11 H locs eS11 hG hq hS => ?_)
    replace h := h S11 eS11
    have hG : gW g b KX S S11 0 0 38 9 [6, 5, 4, 3, 2, 0] H := hG
    refine m_aload_n (pc := 62) X dX11_init_62 rfl hl 0 rfl ?_
    refine c_make (pc := 63) X hml hl.1 hK hA hG (by omega) hS inX10 tyX10 tyX10_ok rfl rfl (fun j hj => by match j, hj with | 0, _ => exact rfl | 1, _ => exact rfl | 2, _ => exact rfl | 3, _ => exact rfl | 4, _ => exact rfl | 5, _ => exact rfl | 6, _ => exact rfl | k + 7, h => exact absurd h (by omega)) q_274 q_275 q_85 rfl rfl (T_X10_init h) (by omega) (Or.inl q_276) q_277 q_278 (by decide +kernel) ⟨rfl, rfl, by decide, by decide, by decide, by decide⟩ (by decide) (Nat.le_of_ble_eq_true rfl) dX11_init_63 dX11_init_66 dX11_init_67 (fun S12 H locs h hG hq hS => ?_)
    have hG : gW g b KX S S12 0 0 44 9 [6, 5, 4, 3, 2, 0] H := hG
    refine c_putr (pc := 70) X hK hG hS inX11 tyX11 tyX11_ok nmX11 rfl rfl 7 (by decide) hnm rfl q_399 rfl rfl rfl (ty := (.object "MoonWash$Words")) (by decide +kernel) rfl rfl dX11_init_70 (fun H locs hG hq hS => ?_)
    have hG : gW g b KX S S12 0 0 44 9 [7, 6, 5, 4, 3, 2, 0] H := hG
    refine m_aload_n (pc := 73) X dX11_init_73 rfl hl 0 rfl ?_
    refine c_make (pc := 74) X hml hl.1 hK hA hG (by omega) hS inX6 tyX6 tyX6_ok rfl rfl (fun j hj => by match j, hj with | 0, _ => exact rfl | 1, _ => exact rfl | 2, _ => exact rfl | k + 3, h => exact absurd h (by omega)) q_307 q_308 q_88 rfl rfl (T_X6_init h) (by omega) (Or.inl q_309) q_310 q_311 (by decide +kernel) ⟨rfl, rfl, by decide, by decide, by decide, by decide⟩ (by decide) (Nat.le_of_ble_eq_true rfl) dX11_init_74 dX11_init_77 dX11_init_78 (fun S13 H locs h hG hq hS => ?_)
    have hG : gW g b KX S S13 0 0 178 9 [7, 6, 5, 4, 3, 2, 0] H := hG
    refine c_putr (pc := 81) X hK hG hS inX11 tyX11 tyX11_ok nmX11 rfl rfl 8 (by decide) hnm rfl q_400 rfl rfl rfl (ty := (.object "MoonWash$Past")) (by decide +kernel) rfl rfl dX11_init_81 (fun H locs hG hq hS => ?_)
    have hG : gW g b KX S S13 0 0 178 9 [8, 7, 6, 5, 4, 3, 2, 0] H := hG
    refine m_aload_n (pc := 84) X dX11_init_84 rfl hl 0 rfl ?_
    refine c_make (pc := 85) X hml hl.1 hK hA hG (by omega) hS inX1 tyX1 tyX1_ok rfl rfl (fun j hj => by match j, hj with | 0, _ => exact rfl | 1, _ => exact rfl | 2, _ => exact rfl | 3, _ => exact rfl | k + 4, h => exact absurd h (by omega)) q_327 q_328 q_89 rfl rfl (T_X1_init h) (by omega) (Or.inr ⟨"MoonWash", n_329⟩) q_330 q_331 (by decide +kernel) ⟨rfl, rfl, by decide, by decide, by decide, by decide⟩ (by decide) (Nat.le_of_ble_eq_true rfl) dX11_init_85 dX11_init_88 dX11_init_89 (fun S14 H locs h hG hq hS => ?_)
    have hG : gW g b KX S S14 0 0 198 9 [8, 7, 6, 5, 4, 3, 2, 0] H := hG
    refine c_putr (pc := 92) X hK hG hS inX11 tyX11 tyX11_ok nmX11 rfl rfl 9 (by decide) hnm rfl q_401 rfl rfl rfl (ty := (.object "MoonWash$Image")) (by decide +kernel) rfl rfl dX11_init_92 (fun H locs hG hq hS => ?_)
    have hG : gW g b KX S S14 0 0 198 9 [9, 8, 7, 6, 5, 4, 3, 2, 0] H := hG
    refine m_aload_n (pc := 95) X dX11_init_95 rfl hl 0 rfl ?_
    refine c_make (pc := 96) X hml hl.1 hK hA hG (by omega) hS inX5 tyX5 tyX5_ok rfl rfl (fun j hj => by match j, hj with | 0, _ => exact rfl | 1, _ => exact rfl | 2, _ => exact rfl | 3, _ => exact rfl | 4, _ => exact rfl | 5, _ => exact rfl | 6, _ => exact rfl | 7, _ => exact rfl | 8, _ => exact rfl | k + 9, h => exact absurd h (by omega)) q_354 q_125 q_83 rfl rfl (T_X5_init 198 rfl h) (by omega) (Or.inl q_355) q_127 q_128 (by decide +kernel) ⟨rfl, rfl, by decide, by decide, by decide, by decide⟩ (by decide) (Nat.le_of_ble_eq_true rfl) dX11_init_96 dX11_init_99 dX11_init_100 (fun S15 H locs h hG hq hS => ?_)
    have hG : gW g b KX S S15 0 0 205 9 [9, 8, 7, 6, 5, 4, 3, 2, 0] H := hG
    refine c_putr (pc := 103) X hK hG hS inX11 tyX11 tyX11_ok nmX11 rfl rfl 10 (by decide) hnm rfl q_402 rfl rfl rfl (ty := (.object "MoonWash$Moon")) (by decide +kernel) rfl rfl dX11_init_103 (fun H locs hG hq hS => ?_)
    have hG : gW g b KX S S15 0 0 205 9 [10, 9, 8, 7, 6, 5, 4, 3, 2, 0] H := hG
    refine m_aload_n (pc := 106) X dX11_init_106 rfl hl 0 rfl ?_
    refine c_make (pc := 107) X hml hl.1 hK hA hG (by omega) hS inX9 tyX9 tyX9_ok rfl rfl (fun j hj => by match j, hj with | 0, _ => exact rfl | 1, _ => exact rfl | 2, _ => exact rfl | 3, _ => exact rfl | k + 4, h => exact absurd h (by omega)) q_356 q_357 q_90 rfl rfl (T_X9_init h) (by omega) (Or.inr ⟨"MoonWash", n_358⟩) q_359 q_360 (by decide +kernel) ⟨rfl, rfl, by decide, by decide, by decide, by decide⟩ (by decide) (Nat.le_of_ble_eq_true rfl) dX11_init_107 dX11_init_110 dX11_init_111 (fun S16 H locs h hG hq hS => ?_)
    have hG : gW g b KX S S16 0 0 226 9 [10, 9, 8, 7, 6, 5, 4, 3, 2, 0] H := hG
    refine c_putr (pc := 114) X hK hG hS inX11 tyX11 tyX11_ok nmX11 rfl rfl 11 (by decide) hnm rfl q_403 rfl rfl rfl (ty := (.object "MoonWash$WaterPlan")) (by decide +kernel) rfl rfl dX11_init_114 (fun H locs hG hq hS => ?_)
    have hG : gW g b KX S S16 0 0 226 9 [11, 10, 9, 8, 7, 6, 5, 4, 3, 2, 0] H := hG
    refine m_aload_n (pc := 117) X dX11_init_117 rfl hl 0 rfl ?_
    refine c_make (pc := 118) X hml hl.1 hK hA hG (by omega) hS inX7 tyX7 tyX7_ok rfl rfl (fun j hj => by match j, hj with | 0, _ => exact rfl | 1, _ => exact rfl | k + 2, h => exact absurd h (by omega)) q_377 q_378 q_91 rfl rfl (T_X7_init h) (by omega) (Or.inr ⟨"MoonWash", n_379⟩) q_380 q_381 (by decide +kernel) ⟨rfl, rfl, by decide, by decide, by decide, by decide⟩ (by decide) (Nat.le_of_ble_eq_true rfl) dX11_init_118 dX11_init_121 dX11_init_122 (fun S17 H locs h hG hq hS => ?_)
    have hG : gW g b KX S S17 0 0 237 9 [11, 10, 9, 8, 7, 6, 5, 4, 3, 2, 0] H := hG
    refine c_putr (pc := 125) X hK hG hS inX11 tyX11 tyX11_ok nmX11 rfl rfl 12 (by decide) hnm rfl q_404 rfl rfl rfl (ty := (.object "MoonWash$PegPlan")) (by decide +kernel) rfl rfl dX11_init_125 (fun H locs hG hq hS => ?_)
    have hG : gW g b KX S S17 0 0 237 9 [12, 11, 10, 9, 8, 7, 6, 5, 4, 3, 2, 0] H := hG
    exact c_ret (pc := 128) X hr hlk hG hS rfl (by decide +kernel) h (by decide) (by decide) dX11_init_128)
theorem T_has_c {l : Launch} {g : mG} {b : Nat} {S0 S : mSt} {dn : List Nat} {p0 w0 v0 j : Int} (h1 : 1 ∈ dn) (op : okI p0) (ow : okI w0) (ov : okI v0) (hj : nm (nm (14 + nm (6 * p0)) + w0) = j) (h0 : 0 ≤ j) (h2 : j < 750) : vx_Met l yX12_has (Cond.code yX12_has cX12_has 4 none :: wsG) { frames := 0, cells := 0, slots := 0, locals := 0 } (va_Pc [.ref (b + 0), .int (mI p0), .int (mI w0), .int (mI v0)] (fun U => gW g b KM S0 S 0 0 13 10 dn U.heap ∧ U.heap.size = b + 13 ∧ mKg g U)) (va_Qv (fun u : mSt => u = mup S 1 j v0) (fun u t => gW g b KM S0 u 0 0 13 10 dn t.heap) (gA b 0)) (cEx (gA b 0)) 0 0 (gA b 0) := by
  refine vx_ofW (cc := cX12_has) (maxL := 4) (ret := none) (by decide) rfl ?_
  intro p e s m args below meth c s₁ B hml ht hv
  obtain ⟨rfl, hG, hsz, hK⟩ := hv
  have hts := atoms_spec (ws := Cond.code yX12_has cX12_has 4 none :: wsG) B.pre
  have hl := lv_entry (n := 4) [Value.ref (b + 0), .int (mI p0), .int (mI w0), .int (mI v0)] (Nat.le_of_ble_eq_true rfl)
  rw [lg_entry_eq]
  have X : mX p s m _ c cX12_has "MoonWashModel" := ⟨B.exec, B.bytes, findClass_of_methodNamed B.named, fun w hw => hts w (List.mem_cons_of_mem _ hw)⟩
  have hS : va_S (gA b 0) s.heap s.heap [] := va_S.rf
  refine m_aload_n (pc := 0) X dX12_has_0 rfl hl 0 rfl ?_
  refine c_getr (pc := 1) X hK hG inX12 rfl rfl 1 (by decide) h1 q_1384 rfl rfl dX12_has_1 ?_
  refine m_bipush (pc := 4) X dX12_has_4 rfl ?_
  refine m_bipush (pc := 6) X dX12_has_6 rfl ?_
  refine m_iload_n (pc := 8) X dX12_has_8 rfl hl 1 rfl ?_
  refine m_imul (pc := 9) X dX12_has_9 ?_
  refine m_iadd (pc := 10) X dX12_has_10 ?_
  refine m_iload_n (pc := 11) X dX12_has_11 rfl hl 2 rfl ?_
  refine m_iadd (pc := 12) X dX12_has_12 ?_
  refine m_iload_n (pc := 13) X dX12_has_13 rfl hl 3 rfl ?_
  rw [hj]
  refine c_iast (pc := 14) X hK hG hS (by decide) (by decide) (by decide) (rfl : KM 1 = (1, 750, 0)) (by unfold okI; omega) ov (by omega) (by omega) dX12_has_14 (fun S1 H locs e1 hG hS => ?_)
  exact vx_ret (W.vret X.1 X.2.1 B.returns (fun t ht _ => ⟨⟨S1, rfl, e1, (show gW g b KM S0 S1 0 0 13 10 dn t.heap by rw [ht]; exact hG)⟩, hS.F ht⟩) hS.2.2 dX12_has_15 B.notSynchronized)
theorem c_has {p : Program} {l : Launch} {e : Env} {R : Room} {s : State} {m : MethodId} {args : Array Value} {below : List Frame} {meth : Method} {c : Code} {H : Heap} {locs : List Loc} {cells slots : Nat} {Q : State → Prop} {cc : ByteArray} {pc nL : Nat} {ls : Array Slot} {rest : List Value} {g : mG} {b : Nat} {S0 S : mSt} {dn : List Nat} {p0 w0 v0 j : Int} (X : mX p s m args c cc "MoonWashModel") (hml : c.maxLocals = nL) (hls : ls.size = nL) (hK : mKg g s) (hG : gW g b KM S0 S 0 0 13 10 dn H) (hS : va_S (gA b 0) s.heap H locs) (h1 : 1 ∈ dn) (op : okI p0) (ow : okI w0) (ov : okI v0) (hj : nm (nm (14 + nm (6 * p0)) + w0) = j) (h0 : 0 ≤ j) (h2 : j < 750) (hR : 1 ≤ R.frames ∧ 30 ≤ R.locals ∧ cells ≤ R.cells ∧ slots ≤ R.slots) (d : decode cc pc = .ok (.invokevirtual 51, 3)) (hst : (rest.map fun v => v.category).sum ≤ 8) (k : ∀ (S1 : mSt) (H1 : Heap) (locs1 : List Loc), S1 = mup S 1 j v0 → gW g b KM S0 S1 0 0 13 10 dn H1 → va_S (gA b 0) s.heap H1 locs1 → W p l e R s m args below meth c H1 locs1 cells slots Q (F0 m (pc + 3) ls rest)) : W p l e R s m args below meth c H locs cells slots Q (F0 m pc ls (.int (mI v0) :: .int (mI w0) :: .int (mI p0) :: .ref (b + 0) :: rest)) := by
  have hrv : ∃ cellB : Cell, H[b + 0]? = some cellB ∧ cellB.vm.isStatics = false ∧ s.vm.findClass "MoonWashModel" = some cellB.cls := by
    obtain ⟨⟨cell, q1, q2, q3, q4⟩, -⟩ := hG.2.2.2.2.1
    obtain ⟨-, hfc, -⟩ := hK.1.1 10 _ rfl
    exact ⟨cell, q1, by rw [q3]; rfl, by rw [q2]; exact hfc⟩
  exact vx_callv (A1 := gA b 0) (AX := gA b 0) (mc := 0) (ms := 0) (vx_runV (nL := nL) (C := "MoonWashModel") (As := [.int (mI p0), .int (mI w0), .int (mI v0)]) (rest := rest) ⟨X.1, X.2.1, hml, X.2.2.1, X.2.2.2⟩ (T_has_c (g := g) (b := b) (S0 := S0) (S := S) h1 op ow ov hj h0 h2) (cwV 3 X.2.2.2 (mGV q_1379 q_1381 q_22 q_92 q_1382) rfl rfl rfl ⟨rfl, by decide +kernel⟩ ⟨by show 0 + 1 ≤ _; omega, by show 8 + (4 + 11) + 0 ≤ _; omega⟩) ⟨fun _ U _ _ q => ⟨q.1, q.2.1, q.2.2.1, q.2.2.2.call⟩, hrv, fun U hU hWm => ⟨rfl, by rw [hU]; exact hG, by rw [hU]; exact hG.2.2.1, hK.to hWm hU hS (fun q h => Nat.le_trans hG.1 (by have : b + 0 ≤ q := h; omega))⟩⟩ rfl rfl hls rfl (lv_room hst) d ⟨hR.2.2.1, hR.2.2.2⟩) hS (fun _ _ h => h) (fun _ h => h) (fun _ _ h => h) (fun _ _ _ _ _ _ _ _ _ _ hf => hf.elim) (fun u t H1 locs1 ht _ hq hw _ _ hS1 => k u H1 locs1 hq (ht ▸ hw) hS1)
def w_X12_init (S : mSt) (Q : mSt → Prop) : Prop :=
  ∀ S1 : mSt, S1 = mz S 0 → ∀ S2 : mSt, S2 = mz S1 1 → ∀ S3 : mSt, S3 = mz S2 2 → ∀ S4 : mSt, S4 = mz S3 3 → ∀ S5 : mSt, S5 = mz S4 4 → ∀ S6 : mSt, S6 = mz S5 5 → ∀ S7 : mSt, S7 = mz S6 6 → ∀ S8 : mSt, S8 = mup S7 0 13 (-1) → ∀ S9 : mSt, S9 = mz S8 7 → ∀ S10 : mSt, S10 = mz S9 8 → ∀ S11 : mSt, S11 = mz S10 9 → ∀ S12 : mSt, S12 = mz S11 10 → ∀ S13 : mSt, S13 = mz S12 11 → ∀ S14 : mSt, S14 = mz S13 12 → ∀ S15 : mSt, S15 = mup S14 1 1 (-1) → ∀ S16 : mSt, S16 = mup S15 1 5 30 → ∀ S17 : mSt, S17 = mup S16 1 6 5 → ∀ S18 : mSt, S18 = mup S17 1 12 1 → ∀ S19 : mSt, S19 = mup S18 1 18 1 → ∀ S20 : mSt, S20 = mup S19 1 19 0 → ∀ S21 : mSt, S21 = mup S20 1 62 3 → ∀ S22 : mSt, S22 = mup S21 1 24 1 → ∀ S23 : mSt, S23 = mup S22 1 25 1 → ∀ S24 : mSt, S24 = mup S23 1 63 3 → ∀ S25 : mSt, S25 = mup S24 1 30 1 → ∀ S26 : mSt, S26 = mup S25 1 31 2 → ∀ S27 : mSt, S27 = mup S26 1 64 3 → ∀ S28 : mSt, S28 = mup S27 1 36 1 → ∀ S29 : mSt, S29 = mup S28 1 37 3 → ∀ S30 : mSt, S30 = mup S29 1 65 3 → ∀ S31 : mSt, S31 = mup S30 1 42 1 → ∀ S32 : mSt, S32 = mup S31 1 43 4 → ∀ S33 : mSt, S33 = mup S32 1 66 3 → ∀ S34 : mSt, S34 = mup S33 1 48 1 → ∀ S35 : mSt, S35 = mup S34 1 49 5 → ∀ S36 : mSt, S36 = mup S35 1 67 3 → ∀ S37 : mSt, S37 = mup S36 1 54 1 → ∀ S38 : mSt, S38 = mup S37 1 55 6 → ∀ S39 : mSt, S39 = mup S38 1 68 3 → ∀ S40 : mSt, S40 = mup S39 1 60 1 → ∀ S41 : mSt, S41 = mup S40 1 61 7 → ∀ S42 : mSt, S42 = mup S41 1 69 3 → Q S42
theorem T_X12_init {l : Launch} {g : mG} {b : Nat} {S : mSt} {Q : mSt → Prop} (h : w_X12_init S Q) : vx_Met l yX12_init (Cond.code yX12_init cX12_init 2 none :: wsG) { frames := 2, cells := 12, slots := 8817, locals := 60 } (cPc g b KM 0 10 S) (cQv g b KM 0 13 S Q) (cEx (gA b 0)) 12 8817 (gA b 0) :=
  c_of (by decide) (by decide) rfl (fun p e s m args below meth c ls X hK hA hml hr hlk hnm hG hl => by
    have X : mX p s m args c cX12_init "MoonWashModel" := X
    have hS : va_S (gA b 0) s.heap s.heap [] := va_S.rf
    unfold w_X12_init at h
    replace h := h _ rfl
    generalize hS1 : mz S 0 = S1 at hG h
    refine m_aload_n (pc := 0) X dX12_init_0 rfl hl 0 rfl ?_
    refine c_obj (pc := 1) X hml hl.1 (rest := []) q_1378 (by decide) (by decide) dX12_init_1 ?_
    refine m_aload_n (pc := 4) X dX12_init_4 rfl hl 0 rfl ?_
    refine m_sipush (pc := 5) X dX12_init_5 rfl ?_
    refine c_newa (pc := 8) X hK hG hS rfl (Or.inl ⟨rfl, rfl⟩) (by decide : okI 750) rfl (by decide) q_183 dX12_init_8 (by decide) (by decide) (fun S2 H eS2 hG hq hS => ?_)
    replace h := h S2 eS2
    have hG : gW g b KM S S2 0 0 2 10 [] H := hG
    refine c_putr (pc := 10) X hK hG hS inX12 tyX12 tyX12_ok nmX12 rfl rfl 1 (by decide) hnm rfl q_1384 rfl rfl rfl (ty := (.array .int)) (by decide +kernel) rfl rfl dX12_init_10 (fun H locs hG hq hS => ?_)
    have hG : gW g b KM S S2 0 0 2 10 [1] H := hG
    refine m_aload_n (pc := 13) X dX12_init_13 rfl hl 0 rfl ?_
    refine m_sipush (pc := 14) X dX12_init_14 rfl ?_
    refine c_newa (pc := 17) X hK hG hS rfl (Or.inl ⟨rfl, rfl⟩) (by decide : okI 750) rfl (by decide) q_183 dX12_init_17 (by decide) (by decide) (fun S3 H eS3 hG hq hS => ?_)
    replace h := h S3 eS3
    have hG : gW g b KM S S3 0 0 3 10 [1] H := hG
    refine c_putr (pc := 19) X hK hG hS inX12 tyX12 tyX12_ok nmX12 rfl rfl 2 (by decide) hnm rfl q_1385 rfl rfl rfl (ty := (.array .int)) (by decide +kernel) rfl rfl dX12_init_19 (fun H locs hG hq hS => ?_)
    have hG : gW g b KM S S3 0 0 3 10 [2, 1] H := hG
    refine m_aload_n (pc := 22) X dX12_init_22 rfl hl 0 rfl ?_
    refine m_sipush (pc := 23) X dX12_init_23 rfl ?_
    refine c_newa (pc := 26) X hK hG hS rfl (Or.inl ⟨rfl, rfl⟩) (by decide : okI 750) rfl (by decide) q_183 dX12_init_26 (by decide) (by decide) (fun S4 H eS4 hG hq hS => ?_)
    replace h := h S4 eS4
    have hG : gW g b KM S S4 0 0 4 10 [2, 1] H := hG
    refine c_putr (pc := 28) X hK hG hS inX12 tyX12 tyX12_ok nmX12 rfl rfl 3 (by decide) hnm rfl q_1386 rfl rfl rfl (ty := (.array .int)) (by decide +kernel) rfl rfl dX12_init_28 (fun H locs hG hq hS => ?_)
    have hG : gW g b KM S S4 0 0 4 10 [3, 2, 1] H := hG
    refine m_aload_n (pc := 31) X dX12_init_31 rfl hl 0 rfl ?_
    refine m_sipush (pc := 32) X dX12_init_32 rfl ?_
    refine c_newa (pc := 35) X hK hG hS rfl (Or.inl ⟨rfl, rfl⟩) (by decide : okI 350) rfl (by decide) q_183 dX12_init_35 (by decide) (by decide) (fun S5 H eS5 hG hq hS => ?_)
    replace h := h S5 eS5
    have hG : gW g b KM S S5 0 0 5 10 [3, 2, 1] H := hG
    refine c_putr (pc := 37) X hK hG hS inX12 tyX12 tyX12_ok nmX12 rfl rfl 5 (by decide) hnm rfl q_1388 rfl rfl rfl (ty := (.array .int)) (by decide +kernel) rfl rfl dX12_init_37 (fun H locs hG hq hS => ?_)
    have hG : gW g b KM S S5 0 0 5 10 [5, 3, 2, 1] H := hG
    refine m_aload_n (pc := 40) X dX12_init_40 rfl hl 0 rfl ?_
    refine m_sipush (pc := 41) X dX12_init_41 rfl ?_
    refine c_newa (pc := 44) X hK hG hS rfl (Or.inl ⟨rfl, rfl⟩) (by decide : okI 4200) rfl (by decide) q_183 dX12_init_44 (by decide) (by decide) (fun S6 H eS6 hG hq hS => ?_)
    replace h := h S6 eS6
    have hG : gW g b KM S S6 0 0 6 10 [5, 3, 2, 1] H := hG
    refine c_putr (pc := 46) X hK hG hS inX12 tyX12 tyX12_ok nmX12 rfl rfl 6 (by decide) hnm rfl q_1389 rfl rfl rfl (ty := (.array .int)) (by decide +kernel) rfl rfl dX12_init_46 (fun H locs hG hq hS => ?_)
    have hG : gW g b KM S S6 0 0 6 10 [6, 5, 3, 2, 1] H := hG
    refine m_aload_n (pc := 49) X dX12_init_49 rfl hl 0 rfl ?_
    refine m_sipush (pc := 50) X dX12_init_50 rfl ?_
    refine c_newa (pc := 53) X hK hG hS rfl (Or.inl ⟨rfl, rfl⟩) (by decide : okI 400) rfl (by decide) q_183 dX12_init_53 (by decide) (by decide) (fun S7 H eS7 hG hq hS => ?_)
    replace h := h S7 eS7
    have hG : gW g b KM S S7 0 0 7 10 [6, 5, 3, 2, 1] H := hG
    refine c_putr (pc := 55) X hK hG hS inX12 tyX12 tyX12_ok nmX12 rfl rfl 8 (by decide) hnm rfl q_1391 rfl rfl rfl (ty := (.array .int)) (by decide +kernel) rfl rfl dX12_init_55 (fun H locs hG hq hS => ?_)
    have hG : gW g b KM S S7 0 0 7 10 [8, 6, 5, 3, 2, 1] H := hG
    refine m_aload_n (pc := 58) X dX12_init_58 rfl hl 0 rfl ?_
    refine m_iconst (pc := 59) X dX12_init_59 ?_
    refine c_puti (pc := 60) X hK hG hS inX12 tyX12 tyX12_ok nmX12 rfl rfl 13 (by decide) hnm rfl q_1396 rfl rfl rfl (by decide : okI (-1)) dX12_init_60 (fun S8 H locs eS8 hG hq hS => ?_)
    replace h := h S8 eS8
    have hG : gW g b KM S S8 0 0 7 10 [13, 8, 6, 5, 3, 2, 1] H := hG
    refine m_aload_n (pc := 63) X dX12_init_63 rfl hl 0 rfl ?_
    refine m_bipush (pc := 64) X dX12_init_64 rfl ?_
    refine c_newa (pc := 66) X hK hG hS rfl (Or.inl ⟨rfl, rfl⟩) (by decide : okI 8) rfl (by decide) q_183 dX12_init_66 (by decide) (by decide) (fun S9 H eS9 hG hq hS => ?_)
    replace h := h S9 eS9
    have hG : gW g b KM S S9 0 0 8 10 [13, 8, 6, 5, 3, 2, 1] H := hG
    refine c_putr (pc := 68) X hK hG hS inX12 tyX12 tyX12_ok nmX12 rfl rfl 15 (by decide) hnm rfl q_1398 rfl rfl rfl (ty := (.array .int)) (by decide +kernel) rfl rfl dX12_init_68 (fun H locs hG hq hS => ?_)
    have hG : gW g b KM S S9 0 0 8 10 [15, 13, 8, 6, 5, 3, 2, 1] H := hG
    refine m_aload_n (pc := 71) X dX12_init_71 rfl hl 0 rfl ?_
    refine m_bipush (pc := 72) X dX12_init_72 rfl ?_
    refine c_newa (pc := 74) X hK hG hS rfl (Or.inl ⟨rfl, rfl⟩) (by decide : okI 56) rfl (by decide) q_183 dX12_init_74 (by decide) (by decide) (fun S10 H eS10 hG hq hS => ?_)
    replace h := h S10 eS10
    have hG : gW g b KM S S10 0 0 9 10 [15, 13, 8, 6, 5, 3, 2, 1] H := hG
    refine c_putr (pc := 76) X hK hG hS inX12 tyX12 tyX12_ok nmX12 rfl rfl 21 (by decide) hnm rfl q_1404 rfl rfl rfl (ty := (.array .int)) (by decide +kernel) rfl rfl dX12_init_76 (fun H locs hG hq hS => ?_)
    have hG : gW g b KM S S10 0 0 9 10 [21, 15, 13, 8, 6, 5, 3, 2, 1] H := hG
    refine m_aload_n (pc := 79) X dX12_init_79 rfl hl 0 rfl ?_
    refine m_sipush (pc := 80) X dX12_init_80 rfl ?_
    refine c_newa (pc := 83) X hK hG hS rfl (Or.inl ⟨rfl, rfl⟩) (by decide : okI 1449) rfl (by decide) q_183 dX12_init_83 (by decide) (by decide) (fun S11 H eS11 hG hq hS => ?_)
    replace h := h S11 eS11
    have hG : gW g b KM S S11 0 0 10 10 [21, 15, 13, 8, 6, 5, 3, 2, 1] H := hG
    refine c_putr (pc := 85) X hK hG hS inX12 tyX12 tyX12_ok nmX12 rfl rfl 22 (by decide) hnm rfl q_1405 rfl rfl rfl (ty := (.array .int)) (by decide +kernel) rfl rfl dX12_init_85 (fun H locs hG hq hS => ?_)
    have hG : gW g b KM S S11 0 0 10 10 [22, 21, 15, 13, 8, 6, 5, 3, 2, 1] H := hG
    refine m_aload_n (pc := 88) X dX12_init_88 rfl hl 0 rfl ?_
    refine m_bipush (pc := 89) X dX12_init_89 rfl ?_
    refine c_newa (pc := 91) X hK hG hS rfl (Or.inl ⟨rfl, rfl⟩) (by decide : okI 64) rfl (by decide) q_183 dX12_init_91 (by decide) (by decide) (fun S12 H eS12 hG hq hS => ?_)
    replace h := h S12 eS12
    have hG : gW g b KM S S12 0 0 11 10 [22, 21, 15, 13, 8, 6, 5, 3, 2, 1] H := hG
    refine c_putr (pc := 93) X hK hG hS inX12 tyX12 tyX12_ok nmX12 rfl rfl 23 (by decide) hnm rfl q_1406 rfl rfl rfl (ty := (.array .int)) (by decide +kernel) rfl rfl dX12_init_93 (fun H locs hG hq hS => ?_)
    have hG : gW g b KM S S12 0 0 11 10 [23, 22, 21, 15, 13, 8, 6, 5, 3, 2, 1] H := hG
    refine m_aload_n (pc := 96) X dX12_init_96 rfl hl 0 rfl ?_
    refine m_bipush (pc := 97) X dX12_init_97 rfl ?_
    refine c_newa (pc := 99) X hK hG hS rfl (Or.inr ⟨rfl, rfl⟩) (by decide : okI 32) rfl (by decide) q_1462 dX12_init_99 (by decide) (by decide) (fun S13 H eS13 hG hq hS => ?_)
    replace h := h S13 eS13
    have hG : gW g b KM S S13 0 0 12 10 [23, 22, 21, 15, 13, 8, 6, 5, 3, 2, 1] H := hG
    refine c_putr (pc := 101) X hK hG hS inX12 tyX12 tyX12_ok nmX12 rfl rfl 24 (by decide) hnm rfl q_1407 rfl rfl rfl (ty := (.array .boolean)) (by decide +kernel) rfl rfl dX12_init_101 (fun H locs hG hq hS => ?_)
    have hG : gW g b KM S S13 0 0 12 10 [24, 23, 22, 21, 15, 13, 8, 6, 5, 3, 2, 1] H := hG
    refine m_aload_n (pc := 104) X dX12_init_104 rfl hl 0 rfl ?_
    refine m_bipush (pc := 105) X dX12_init_105 rfl ?_
    refine c_newa (pc := 107) X hK hG hS rfl (Or.inl ⟨rfl, rfl⟩) (by decide : okI 8) rfl (by decide) q_183 dX12_init_107 (by decide) (by decide) (fun S14 H eS14 hG hq hS => ?_)
    replace h := h S14 eS14
    have hG : gW g b KM S S14 0 0 13 10 [24, 23, 22, 21, 15, 13, 8, 6, 5, 3, 2, 1] H := hG
    refine c_putr (pc := 109) X hK hG hS inX12 tyX12 tyX12_ok nmX12 rfl rfl 25 (by decide) hnm rfl q_1408 rfl rfl rfl (ty := (.array .int)) (by decide +kernel) rfl rfl dX12_init_109 (fun H locs hG hq hS => ?_)
    have hG : gW g b KM S S14 0 0 13 10 [25, 24, 23, 22, 21, 15, 13, 8, 6, 5, 3, 2, 1] H := hG
    refine m_aload_n (pc := 112) X dX12_init_112 rfl hl 0 rfl ?_
    refine c_getr (pc := 113) X hK hG inX12 rfl rfl 1 (by decide) (by decide) q_1384 rfl rfl dX12_init_113 ?_
    refine m_iconst (pc := 116) X dX12_init_116 ?_
    refine m_iconst (pc := 117) X dX12_init_117 ?_
    refine c_iast (pc := 118) X hK hG hS (by omega) (by omega) (by omega) rfl (by decide : okI 1) (by decide : okI (-1)) (by decide) (by decide) dX12_init_118 (fun S15 H locs eS15 hG hS => ?_)
    replace h := h S15 eS15
    have hG : gW g b KM S S15 0 0 13 10 [25, 24, 23, 22, 21, 15, 13, 8, 6, 5, 3, 2, 1] H := hG
    refine m_aload_n (pc := 119) X dX12_init_119 rfl hl 0 rfl ?_
    refine c_getr (pc := 120) X hK hG inX12 rfl rfl 1 (by decide) (by decide) q_1384 rfl rfl dX12_init_120 ?_
    refine m_iconst (pc := 123) X dX12_init_123 ?_
    refine m_bipush (pc := 124) X dX12_init_124 rfl ?_
    refine c_iast (pc := 126) X hK hG hS (by omega) (by omega) (by omega) rfl (by decide : okI 5) (by decide : okI 30) (by decide) (by decide) dX12_init_126 (fun S16 H locs eS16 hG hS => ?_)
    replace h := h S16 eS16
    have hG : gW g b KM S S16 0 0 13 10 [25, 24, 23, 22, 21, 15, 13, 8, 6, 5, 3, 2, 1] H := hG
    refine m_aload_n (pc := 127) X dX12_init_127 rfl hl 0 rfl ?_
    refine c_getr (pc := 128) X hK hG inX12 rfl rfl 1 (by decide) (by decide) q_1384 rfl rfl dX12_init_128 ?_
    refine m_bipush (pc := 131) X dX12_init_131 rfl ?_
    refine m_iconst (pc := 133) X dX12_init_133 ?_
    refine c_iast (pc := 134) X hK hG hS (by omega) (by omega) (by omega) rfl (by decide : okI 6) (by decide : okI 5) (by decide) (by decide) dX12_init_134 (fun S17 H locs eS17 hG hS => ?_)
    replace h := h S17 eS17
    have hG : gW g b KM S S17 0 0 13 10 [25, 24, 23, 22, 21, 15, 13, 8, 6, 5, 3, 2, 1] H := hG
    refine m_aload_n (pc := 135) X dX12_init_135 rfl hl 0 rfl ?_
    refine c_getr (pc := 136) X hK hG inX12 rfl rfl 1 (by decide) (by decide) q_1384 rfl rfl dX12_init_136 ?_
    refine m_bipush (pc := 139) X dX12_init_139 rfl ?_
    refine m_iconst (pc := 141) X dX12_init_141 ?_
    refine c_iast (pc := 142) X hK hG hS (by omega) (by omega) (by omega) rfl (by decide : okI 12) (by decide : okI 1) (by decide) (by decide) dX12_init_142 (fun S18 H locs eS18 hG hS => ?_)
    replace h := h S18 eS18
    have hG : gW g b KM S S18 0 0 13 10 [25, 24, 23, 22, 21, 15, 13, 8, 6, 5, 3, 2, 1] H := hG
    refine m_iconst (pc := 143) X dX12_init_143 ?_
    refine m_istore_n (pc := 144) X dX12_init_144 rfl hl (by decide) (fun v => [(1, .int v), (0, .ref (b + 0))]) (fun _ => rfl) (by decide : okI 0) (fun v ls ev _ hl => ?_)
    rw [ev] at hl
    clear ev
    refine m_iload_n (pc := 145) X dX12_init_145 rfl hl 0 rfl ?_
    refine m_bipush (pc := 146) X dX12_init_146 rfl ?_
    refine m_icmp_ge (pc := 148) (tgt := 181) X (by decide : okI 0) (by decide : okI 8) dX12_init_148 (by decide) (fun hc => absurd hc (by decide)) (fun _ => ?_)
    refine m_aload_n (pc := 151) X dX12_init_151 rfl hl 1 rfl ?_
    refine m_iload_n (pc := 152) X dX12_init_152 rfl hl 0 rfl ?_
    refine m_iconst (pc := 153) X dX12_init_153 ?_
    refine m_iconst (pc := 154) X dX12_init_154 ?_
    refine c_has (pc := 155) X hml hl.1 hK hG hS (by decide) (by decide : okI 0) (by decide : okI 4) (by decide : okI 1) (j := 18) (by decide) (by decide) (by decide) ⟨by decide, by decide, by decide, by decide⟩ (rest := []) dX12_init_155 (Nat.le_of_ble_eq_true rfl) (fun S19 H locs eS19 hG hS => ?_)
    replace h := h S19 eS19
    have hG : gW g b KM S S19 0 0 13 10 [25, 24, 23, 22, 21, 15, 13, 8, 6, 5, 3, 2, 1] H := hG
    refine m_aload_n (pc := 158) X dX12_init_158 rfl hl 1 rfl ?_
    refine m_iload_n (pc := 159) X dX12_init_159 rfl hl 0 rfl ?_
    refine m_iconst (pc := 160) X dX12_init_160 ?_
    refine m_iload_n (pc := 161) X dX12_init_161 rfl hl 0 rfl ?_
    refine c_has (pc := 162) X hml hl.1 hK hG hS (by decide) (by decide : okI 0) (by decide : okI 5) (by decide : okI 0) (j := 19) (by decide) (by decide) (by decide) ⟨by decide, by decide, by decide, by decide⟩ (rest := []) dX12_init_162 (Nat.le_of_ble_eq_true rfl) (fun S20 H locs eS20 hG hS => ?_)
    replace h := h S20 eS20
    have hG : gW g b KM S S20 0 0 13 10 [25, 24, 23, 22, 21, 15, 13, 8, 6, 5, 3, 2, 1] H := hG
    refine m_aload_n (pc := 165) X dX12_init_165 rfl hl 1 rfl ?_
    refine c_getr (pc := 166) X hK hG inX12 rfl rfl 1 (by decide) (by decide) q_1384 rfl rfl dX12_init_166 ?_
    refine m_bipush (pc := 169) X dX12_init_169 rfl ?_
    refine m_iload_n (pc := 171) X dX12_init_171 rfl hl 0 rfl ?_
    refine m_iadd (pc := 172) X dX12_init_172 ?_
    rw [show nm (62 + 0) = 62 by decide]
    refine m_iconst (pc := 173) X dX12_init_173 ?_
    refine c_iast (pc := 174) X hK hG hS (by omega) (by omega) (by omega) rfl (by decide : okI 62) (by decide : okI 3) (by decide) (by decide) dX12_init_174 (fun S21 H locs eS21 hG hS => ?_)
    replace h := h S21 eS21
    have hG : gW g b KM S S21 0 0 13 10 [25, 24, 23, 22, 21, 15, 13, 8, 6, 5, 3, 2, 1] H := hG
    refine m_iinc (pc := 175) X dX12_init_175 hl (by decide) (q0 := 0) rfl (fun v => [(1, .int v), (0, .ref (b + 0))]) (fun _ => rfl) (fun v ls ev _ hl => ?_)
    rw [show nm (0 + 1) = 1 by decide] at ev
    rw [ev] at hl
    clear ev
    refine m_goto (pc := 178) (tgt := 145) X dX12_init_178 (by decide) ?_
    refine m_iload_n (pc := 145) X dX12_init_145 rfl hl 0 rfl ?_
    refine m_bipush (pc := 146) X dX12_init_146 rfl ?_
    refine m_icmp_ge (pc := 148) (tgt := 181) X (by decide : okI 1) (by decide : okI 8) dX12_init_148 (by decide) (fun hc => absurd hc (by decide)) (fun _ => ?_)
    refine m_aload_n (pc := 151) X dX12_init_151 rfl hl 1 rfl ?_
    refine m_iload_n (pc := 152) X dX12_init_152 rfl hl 0 rfl ?_
    refine m_iconst (pc := 153) X dX12_init_153 ?_
    refine m_iconst (pc := 154) X dX12_init_154 ?_
    refine c_has (pc := 155) X hml hl.1 hK hG hS (by decide) (by decide : okI 1) (by decide : okI 4) (by decide : okI 1) (j := 24) (by decide) (by decide) (by decide) ⟨by decide, by decide, by decide, by decide⟩ (rest := []) dX12_init_155 (Nat.le_of_ble_eq_true rfl) (fun S22 H locs eS22 hG hS => ?_)
    replace h := h S22 eS22
    have hG : gW g b KM S S22 0 0 13 10 [25, 24, 23, 22, 21, 15, 13, 8, 6, 5, 3, 2, 1] H := hG
    refine m_aload_n (pc := 158) X dX12_init_158 rfl hl 1 rfl ?_
    refine m_iload_n (pc := 159) X dX12_init_159 rfl hl 0 rfl ?_
    refine m_iconst (pc := 160) X dX12_init_160 ?_
    refine m_iload_n (pc := 161) X dX12_init_161 rfl hl 0 rfl ?_
    refine c_has (pc := 162) X hml hl.1 hK hG hS (by decide) (by decide : okI 1) (by decide : okI 5) (by decide : okI 1) (j := 25) (by decide) (by decide) (by decide) ⟨by decide, by decide, by decide, by decide⟩ (rest := []) dX12_init_162 (Nat.le_of_ble_eq_true rfl) (fun S23 H locs eS23 hG hS => ?_)
    replace h := h S23 eS23
    have hG : gW g b KM S S23 0 0 13 10 [25, 24, 23, 22, 21, 15, 13, 8, 6, 5, 3, 2, 1] H := hG
    refine m_aload_n (pc := 165) X dX12_init_165 rfl hl 1 rfl ?_
    refine c_getr (pc := 166) X hK hG inX12 rfl rfl 1 (by decide) (by decide) q_1384 rfl rfl dX12_init_166 ?_
    refine m_bipush (pc := 169) X dX12_init_169 rfl ?_
    refine m_iload_n (pc := 171) X dX12_init_171 rfl hl 0 rfl ?_
    refine m_iadd (pc := 172) X dX12_init_172 ?_
    rw [show nm (62 + 1) = 63 by decide]
    refine m_iconst (pc := 173) X dX12_init_173 ?_
    refine c_iast (pc := 174) X hK hG hS (by omega) (by omega) (by omega) rfl (by decide : okI 63) (by decide : okI 3) (by decide) (by decide) dX12_init_174 (fun S24 H locs eS24 hG hS => ?_)
    replace h := h S24 eS24
    have hG : gW g b KM S S24 0 0 13 10 [25, 24, 23, 22, 21, 15, 13, 8, 6, 5, 3, 2, 1] H := hG
    refine m_iinc (pc := 175) X dX12_init_175 hl (by decide) (q0 := 0) rfl (fun v => [(1, .int v), (0, .ref (b + 0))]) (fun _ => rfl) (fun v ls ev _ hl => ?_)
    rw [show nm (1 + 1) = 2 by decide] at ev
    rw [ev] at hl
    clear ev
    refine m_goto (pc := 178) (tgt := 145) X dX12_init_178 (by decide) ?_
    refine m_iload_n (pc := 145) X dX12_init_145 rfl hl 0 rfl ?_
    refine m_bipush (pc := 146) X dX12_init_146 rfl ?_
    refine m_icmp_ge (pc := 148) (tgt := 181) X (by decide : okI 2) (by decide : okI 8) dX12_init_148 (by decide) (fun hc => absurd hc (by decide)) (fun _ => ?_)
    refine m_aload_n (pc := 151) X dX12_init_151 rfl hl 1 rfl ?_
    refine m_iload_n (pc := 152) X dX12_init_152 rfl hl 0 rfl ?_
    refine m_iconst (pc := 153) X dX12_init_153 ?_
    refine m_iconst (pc := 154) X dX12_init_154 ?_
    refine c_has (pc := 155) X hml hl.1 hK hG hS (by decide) (by decide : okI 2) (by decide : okI 4) (by decide : okI 1) (j := 30) (by decide) (by decide) (by decide) ⟨by decide, by decide, by decide, by decide⟩ (rest := []) dX12_init_155 (Nat.le_of_ble_eq_true rfl) (fun S25 H locs eS25 hG hS => ?_)
    replace h := h S25 eS25
    have hG : gW g b KM S S25 0 0 13 10 [25, 24, 23, 22, 21, 15, 13, 8, 6, 5, 3, 2, 1] H := hG
    refine m_aload_n (pc := 158) X dX12_init_158 rfl hl 1 rfl ?_
    refine m_iload_n (pc := 159) X dX12_init_159 rfl hl 0 rfl ?_
    refine m_iconst (pc := 160) X dX12_init_160 ?_
    refine m_iload_n (pc := 161) X dX12_init_161 rfl hl 0 rfl ?_
    refine c_has (pc := 162) X hml hl.1 hK hG hS (by decide) (by decide : okI 2) (by decide : okI 5) (by decide : okI 2) (j := 31) (by decide) (by decide) (by decide) ⟨by decide, by decide, by decide, by decide⟩ (rest := []) dX12_init_162 (Nat.le_of_ble_eq_true rfl) (fun S26 H locs eS26 hG hS => ?_)
    replace h := h S26 eS26
    have hG : gW g b KM S S26 0 0 13 10 [25, 24, 23, 22, 21, 15, 13, 8, 6, 5, 3, 2, 1] H := hG
    refine m_aload_n (pc := 165) X dX12_init_165 rfl hl 1 rfl ?_
    refine c_getr (pc := 166) X hK hG inX12 rfl rfl 1 (by decide) (by decide) q_1384 rfl rfl dX12_init_166 ?_
    refine m_bipush (pc := 169) X dX12_init_169 rfl ?_
    refine m_iload_n (pc := 171) X dX12_init_171 rfl hl 0 rfl ?_
    refine m_iadd (pc := 172) X dX12_init_172 ?_
    rw [show nm (62 + 2) = 64 by decide]
    refine m_iconst (pc := 173) X dX12_init_173 ?_
    refine c_iast (pc := 174) X hK hG hS (by omega) (by omega) (by omega) rfl (by decide : okI 64) (by decide : okI 3) (by decide) (by decide) dX12_init_174 (fun S27 H locs eS27 hG hS => ?_)
    replace h := h S27 eS27
    have hG : gW g b KM S S27 0 0 13 10 [25, 24, 23, 22, 21, 15, 13, 8, 6, 5, 3, 2, 1] H := hG
    refine m_iinc (pc := 175) X dX12_init_175 hl (by decide) (q0 := 0) rfl (fun v => [(1, .int v), (0, .ref (b + 0))]) (fun _ => rfl) (fun v ls ev _ hl => ?_)
    rw [show nm (2 + 1) = 3 by decide] at ev
    rw [ev] at hl
    clear ev
    refine m_goto (pc := 178) (tgt := 145) X dX12_init_178 (by decide) ?_
    refine m_iload_n (pc := 145) X dX12_init_145 rfl hl 0 rfl ?_
    refine m_bipush (pc := 146) X dX12_init_146 rfl ?_
    refine m_icmp_ge (pc := 148) (tgt := 181) X (by decide : okI 3) (by decide : okI 8) dX12_init_148 (by decide) (fun hc => absurd hc (by decide)) (fun _ => ?_)
    refine m_aload_n (pc := 151) X dX12_init_151 rfl hl 1 rfl ?_
    refine m_iload_n (pc := 152) X dX12_init_152 rfl hl 0 rfl ?_
    refine m_iconst (pc := 153) X dX12_init_153 ?_
    refine m_iconst (pc := 154) X dX12_init_154 ?_
    refine c_has (pc := 155) X hml hl.1 hK hG hS (by decide) (by decide : okI 3) (by decide : okI 4) (by decide : okI 1) (j := 36) (by decide) (by decide) (by decide) ⟨by decide, by decide, by decide, by decide⟩ (rest := []) dX12_init_155 (Nat.le_of_ble_eq_true rfl) (fun S28 H locs eS28 hG hS => ?_)
    replace h := h S28 eS28
    have hG : gW g b KM S S28 0 0 13 10 [25, 24, 23, 22, 21, 15, 13, 8, 6, 5, 3, 2, 1] H := hG
    refine m_aload_n (pc := 158) X dX12_init_158 rfl hl 1 rfl ?_
    refine m_iload_n (pc := 159) X dX12_init_159 rfl hl 0 rfl ?_
    refine m_iconst (pc := 160) X dX12_init_160 ?_
    refine m_iload_n (pc := 161) X dX12_init_161 rfl hl 0 rfl ?_
    refine c_has (pc := 162) X hml hl.1 hK hG hS (by decide) (by decide : okI 3) (by decide : okI 5) (by decide : okI 3) (j := 37) (by decide) (by decide) (by decide) ⟨by decide, by decide, by decide, by decide⟩ (rest := []) dX12_init_162 (Nat.le_of_ble_eq_true rfl) (fun S29 H locs eS29 hG hS => ?_)
    replace h := h S29 eS29
    have hG : gW g b KM S S29 0 0 13 10 [25, 24, 23, 22, 21, 15, 13, 8, 6, 5, 3, 2, 1] H := hG
    refine m_aload_n (pc := 165) X dX12_init_165 rfl hl 1 rfl ?_
    refine c_getr (pc := 166) X hK hG inX12 rfl rfl 1 (by decide) (by decide) q_1384 rfl rfl dX12_init_166 ?_
    refine m_bipush (pc := 169) X dX12_init_169 rfl ?_
    refine m_iload_n (pc := 171) X dX12_init_171 rfl hl 0 rfl ?_
    refine m_iadd (pc := 172) X dX12_init_172 ?_
    rw [show nm (62 + 3) = 65 by decide]
    refine m_iconst (pc := 173) X dX12_init_173 ?_
    refine c_iast (pc := 174) X hK hG hS (by omega) (by omega) (by omega) rfl (by decide : okI 65) (by decide : okI 3) (by decide) (by decide) dX12_init_174 (fun S30 H locs eS30 hG hS => ?_)
    replace h := h S30 eS30
    have hG : gW g b KM S S30 0 0 13 10 [25, 24, 23, 22, 21, 15, 13, 8, 6, 5, 3, 2, 1] H := hG
    refine m_iinc (pc := 175) X dX12_init_175 hl (by decide) (q0 := 0) rfl (fun v => [(1, .int v), (0, .ref (b + 0))]) (fun _ => rfl) (fun v ls ev _ hl => ?_)
    rw [show nm (3 + 1) = 4 by decide] at ev
    rw [ev] at hl
    clear ev
    refine m_goto (pc := 178) (tgt := 145) X dX12_init_178 (by decide) ?_
    refine m_iload_n (pc := 145) X dX12_init_145 rfl hl 0 rfl ?_
    refine m_bipush (pc := 146) X dX12_init_146 rfl ?_
    refine m_icmp_ge (pc := 148) (tgt := 181) X (by decide : okI 4) (by decide : okI 8) dX12_init_148 (by decide) (fun hc => absurd hc (by decide)) (fun _ => ?_)
    refine m_aload_n (pc := 151) X dX12_init_151 rfl hl 1 rfl ?_
    refine m_iload_n (pc := 152) X dX12_init_152 rfl hl 0 rfl ?_
    refine m_iconst (pc := 153) X dX12_init_153 ?_
    refine m_iconst (pc := 154) X dX12_init_154 ?_
    refine c_has (pc := 155) X hml hl.1 hK hG hS (by decide) (by decide : okI 4) (by decide : okI 4) (by decide : okI 1) (j := 42) (by decide) (by decide) (by decide) ⟨by decide, by decide, by decide, by decide⟩ (rest := []) dX12_init_155 (Nat.le_of_ble_eq_true rfl) (fun S31 H locs eS31 hG hS => ?_)
    replace h := h S31 eS31
    have hG : gW g b KM S S31 0 0 13 10 [25, 24, 23, 22, 21, 15, 13, 8, 6, 5, 3, 2, 1] H := hG
    refine m_aload_n (pc := 158) X dX12_init_158 rfl hl 1 rfl ?_
    refine m_iload_n (pc := 159) X dX12_init_159 rfl hl 0 rfl ?_
    refine m_iconst (pc := 160) X dX12_init_160 ?_
    refine m_iload_n (pc := 161) X dX12_init_161 rfl hl 0 rfl ?_
    refine c_has (pc := 162) X hml hl.1 hK hG hS (by decide) (by decide : okI 4) (by decide : okI 5) (by decide : okI 4) (j := 43) (by decide) (by decide) (by decide) ⟨by decide, by decide, by decide, by decide⟩ (rest := []) dX12_init_162 (Nat.le_of_ble_eq_true rfl) (fun S32 H locs eS32 hG hS => ?_)
    replace h := h S32 eS32
    have hG : gW g b KM S S32 0 0 13 10 [25, 24, 23, 22, 21, 15, 13, 8, 6, 5, 3, 2, 1] H := hG
    refine m_aload_n (pc := 165) X dX12_init_165 rfl hl 1 rfl ?_
    refine c_getr (pc := 166) X hK hG inX12 rfl rfl 1 (by decide) (by decide) q_1384 rfl rfl dX12_init_166 ?_
    refine m_bipush (pc := 169) X dX12_init_169 rfl ?_
    refine m_iload_n (pc := 171) X dX12_init_171 rfl hl 0 rfl ?_
    refine m_iadd (pc := 172) X dX12_init_172 ?_
    rw [show nm (62 + 4) = 66 by decide]
    refine m_iconst (pc := 173) X dX12_init_173 ?_
    refine c_iast (pc := 174) X hK hG hS (by omega) (by omega) (by omega) rfl (by decide : okI 66) (by decide : okI 3) (by decide) (by decide) dX12_init_174 (fun S33 H locs eS33 hG hS => ?_)
    replace h := h S33 eS33
    have hG : gW g b KM S S33 0 0 13 10 [25, 24, 23, 22, 21, 15, 13, 8, 6, 5, 3, 2, 1] H := hG
    refine m_iinc (pc := 175) X dX12_init_175 hl (by decide) (q0 := 0) rfl (fun v => [(1, .int v), (0, .ref (b + 0))]) (fun _ => rfl) (fun v ls ev _ hl => ?_)
    rw [show nm (4 + 1) = 5 by decide] at ev
    rw [ev] at hl
    clear ev
    refine m_goto (pc := 178) (tgt := 145) X dX12_init_178 (by decide) ?_
    refine m_iload_n (pc := 145) X dX12_init_145 rfl hl 0 rfl ?_
    refine m_bipush (pc := 146) X dX12_init_146 rfl ?_
    refine m_icmp_ge (pc := 148) (tgt := 181) X (by decide : okI 5) (by decide : okI 8) dX12_init_148 (by decide) (fun hc => absurd hc (by decide)) (fun _ => ?_)
    refine m_aload_n (pc := 151) X dX12_init_151 rfl hl 1 rfl ?_
    refine m_iload_n (pc := 152) X dX12_init_152 rfl hl 0 rfl ?_
    refine m_iconst (pc := 153) X dX12_init_153 ?_
    refine m_iconst (pc := 154) X dX12_init_154 ?_
    refine c_has (pc := 155) X hml hl.1 hK hG hS (by decide) (by decide : okI 5) (by decide : okI 4) (by decide : okI 1) (j := 48) (by decide) (by decide) (by decide) ⟨by decide, by decide, by decide, by decide⟩ (rest := []) dX12_init_155 (Nat.le_of_ble_eq_true rfl) (fun S34 H locs eS34 hG hS => ?_)
    replace h := h S34 eS34
    have hG : gW g b KM S S34 0 0 13 10 [25, 24, 23, 22, 21, 15, 13, 8, 6, 5, 3, 2, 1] H := hG
    refine m_aload_n (pc := 158) X dX12_init_158 rfl hl 1 rfl ?_
    refine m_iload_n (pc := 159) X dX12_init_159 rfl hl 0 rfl ?_
    refine m_iconst (pc := 160) X dX12_init_160 ?_
    refine m_iload_n (pc := 161) X dX12_init_161 rfl hl 0 rfl ?_
    refine c_has (pc := 162) X hml hl.1 hK hG hS (by decide) (by decide : okI 5) (by decide : okI 5) (by decide : okI 5) (j := 49) (by decide) (by decide) (by decide) ⟨by decide, by decide, by decide, by decide⟩ (rest := []) dX12_init_162 (Nat.le_of_ble_eq_true rfl) (fun S35 H locs eS35 hG hS => ?_)
    replace h := h S35 eS35
    have hG : gW g b KM S S35 0 0 13 10 [25, 24, 23, 22, 21, 15, 13, 8, 6, 5, 3, 2, 1] H := hG
    refine m_aload_n (pc := 165) X dX12_init_165 rfl hl 1 rfl ?_
    refine c_getr (pc := 166) X hK hG inX12 rfl rfl 1 (by decide) (by decide) q_1384 rfl rfl dX12_init_166 ?_
    refine m_bipush (pc := 169) X dX12_init_169 rfl ?_
    refine m_iload_n (pc := 171) X dX12_init_171 rfl hl 0 rfl ?_
    refine m_iadd (pc := 172) X dX12_init_172 ?_
    rw [show nm (62 + 5) = 67 by decide]
    refine m_iconst (pc := 173) X dX12_init_173 ?_
    refine c_iast (pc := 174) X hK hG hS (by omega) (by omega) (by omega) rfl (by decide : okI 67) (by decide : okI 3) (by decide) (by decide) dX12_init_174 (fun S36 H locs eS36 hG hS => ?_)
    replace h := h S36 eS36
    have hG : gW g b KM S S36 0 0 13 10 [25, 24, 23, 22, 21, 15, 13, 8, 6, 5, 3, 2, 1] H := hG
    refine m_iinc (pc := 175) X dX12_init_175 hl (by decide) (q0 := 0) rfl (fun v => [(1, .int v), (0, .ref (b + 0))]) (fun _ => rfl) (fun v ls ev _ hl => ?_)
    rw [show nm (5 + 1) = 6 by decide] at ev
    rw [ev] at hl
    clear ev
    refine m_goto (pc := 178) (tgt := 145) X dX12_init_178 (by decide) ?_
    refine m_iload_n (pc := 145) X dX12_init_145 rfl hl 0 rfl ?_
    refine m_bipush (pc := 146) X dX12_init_146 rfl ?_
    refine m_icmp_ge (pc := 148) (tgt := 181) X (by decide : okI 6) (by decide : okI 8) dX12_init_148 (by decide) (fun hc => absurd hc (by decide)) (fun _ => ?_)
    refine m_aload_n (pc := 151) X dX12_init_151 rfl hl 1 rfl ?_
    refine m_iload_n (pc := 152) X dX12_init_152 rfl hl 0 rfl ?_
    refine m_iconst (pc := 153) X dX12_init_153 ?_
    refine m_iconst (pc := 154) X dX12_init_154 ?_
    refine c_has (pc := 155) X hml hl.1 hK hG hS (by decide) (by decide : okI 6) (by decide : okI 4) (by decide : okI 1) (j := 54) (by decide) (by decide) (by decide) ⟨by decide, by decide, by decide, by decide⟩ (rest := []) dX12_init_155 (Nat.le_of_ble_eq_true rfl) (fun S37 H locs eS37 hG hS => ?_)
    replace h := h S37 eS37
    have hG : gW g b KM S S37 0 0 13 10 [25, 24, 23, 22, 21, 15, 13, 8, 6, 5, 3, 2, 1] H := hG
    refine m_aload_n (pc := 158) X dX12_init_158 rfl hl 1 rfl ?_
    refine m_iload_n (pc := 159) X dX12_init_159 rfl hl 0 rfl ?_
    refine m_iconst (pc := 160) X dX12_init_160 ?_
    refine m_iload_n (pc := 161) X dX12_init_161 rfl hl 0 rfl ?_
    refine c_has (pc := 162) X hml hl.1 hK hG hS (by decide) (by decide : okI 6) (by decide : okI 5) (by decide : okI 6) (j := 55) (by decide) (by decide) (by decide) ⟨by decide, by decide, by decide, by decide⟩ (rest := []) dX12_init_162 (Nat.le_of_ble_eq_true rfl) (fun S38 H locs eS38 hG hS => ?_)
    replace h := h S38 eS38
    have hG : gW g b KM S S38 0 0 13 10 [25, 24, 23, 22, 21, 15, 13, 8, 6, 5, 3, 2, 1] H := hG
    refine m_aload_n (pc := 165) X dX12_init_165 rfl hl 1 rfl ?_
    refine c_getr (pc := 166) X hK hG inX12 rfl rfl 1 (by decide) (by decide) q_1384 rfl rfl dX12_init_166 ?_
    refine m_bipush (pc := 169) X dX12_init_169 rfl ?_
    refine m_iload_n (pc := 171) X dX12_init_171 rfl hl 0 rfl ?_
    refine m_iadd (pc := 172) X dX12_init_172 ?_
    rw [show nm (62 + 6) = 68 by decide]
    refine m_iconst (pc := 173) X dX12_init_173 ?_
    refine c_iast (pc := 174) X hK hG hS (by omega) (by omega) (by omega) rfl (by decide : okI 68) (by decide : okI 3) (by decide) (by decide) dX12_init_174 (fun S39 H locs eS39 hG hS => ?_)
    replace h := h S39 eS39
    have hG : gW g b KM S S39 0 0 13 10 [25, 24, 23, 22, 21, 15, 13, 8, 6, 5, 3, 2, 1] H := hG
    refine m_iinc (pc := 175) X dX12_init_175 hl (by decide) (q0 := 0) rfl (fun v => [(1, .int v), (0, .ref (b + 0))]) (fun _ => rfl) (fun v ls ev _ hl => ?_)
    rw [show nm (6 + 1) = 7 by decide] at ev
    rw [ev] at hl
    clear ev
    refine m_goto (pc := 178) (tgt := 145) X dX12_init_178 (by decide) ?_
    refine m_iload_n (pc := 145) X dX12_init_145 rfl hl 0 rfl ?_
    refine m_bipush (pc := 146) X dX12_init_146 rfl ?_
    refine m_icmp_ge (pc := 148) (tgt := 181) X (by decide : okI 7) (by decide : okI 8) dX12_init_148 (by decide) (fun hc => absurd hc (by decide)) (fun _ => ?_)
    refine m_aload_n (pc := 151) X dX12_init_151 rfl hl 1 rfl ?_
    refine m_iload_n (pc := 152) X dX12_init_152 rfl hl 0 rfl ?_
    refine m_iconst (pc := 153) X dX12_init_153 ?_
    refine m_iconst (pc := 154) X dX12_init_154 ?_
    refine c_has (pc := 155) X hml hl.1 hK hG hS (by decide) (by decide : okI 7) (by decide : okI 4) (by decide : okI 1) (j := 60) (by decide) (by decide) (by decide) ⟨by decide, by decide, by decide, by decide⟩ (rest := []) dX12_init_155 (Nat.le_of_ble_eq_true rfl) (fun S40 H locs eS40 hG hS => ?_)
    replace h := h S40 eS40
    have hG : gW g b KM S S40 0 0 13 10 [25, 24, 23, 22, 21, 15, 13, 8, 6, 5, 3, 2, 1] H := hG
    refine m_aload_n (pc := 158) X dX12_init_158 rfl hl 1 rfl ?_
    refine m_iload_n (pc := 159) X dX12_init_159 rfl hl 0 rfl ?_
    refine m_iconst (pc := 160) X dX12_init_160 ?_
    refine m_iload_n (pc := 161) X dX12_init_161 rfl hl 0 rfl ?_
    refine c_has (pc := 162) X hml hl.1 hK hG hS (by decide) (by decide : okI 7) (by decide : okI 5) (by decide : okI 7) (j := 61) (by decide) (by decide) (by decide) ⟨by decide, by decide, by decide, by decide⟩ (rest := []) dX12_init_162 (Nat.le_of_ble_eq_true rfl) (fun S41 H locs eS41 hG hS => ?_)
    replace h := h S41 eS41
    have hG : gW g b KM S S41 0 0 13 10 [25, 24, 23, 22, 21, 15, 13, 8, 6, 5, 3, 2, 1] H := hG
    refine m_aload_n (pc := 165) X dX12_init_165 rfl hl 1 rfl ?_
    refine c_getr (pc := 166) X hK hG inX12 rfl rfl 1 (by decide) (by decide) q_1384 rfl rfl dX12_init_166 ?_
    refine m_bipush (pc := 169) X dX12_init_169 rfl ?_
    refine m_iload_n (pc := 171) X dX12_init_171 rfl hl 0 rfl ?_
    refine m_iadd (pc := 172) X dX12_init_172 ?_
    rw [show nm (62 + 7) = 69 by decide]
    refine m_iconst (pc := 173) X dX12_init_173 ?_
    refine c_iast (pc := 174) X hK hG hS (by omega) (by omega) (by omega) rfl (by decide : okI 69) (by decide : okI 3) (by decide) (by decide) dX12_init_174 (fun S42 H locs eS42 hG hS => ?_)
    replace h := h S42 eS42
    have hG : gW g b KM S S42 0 0 13 10 [25, 24, 23, 22, 21, 15, 13, 8, 6, 5, 3, 2, 1] H := hG
    refine m_iinc (pc := 175) X dX12_init_175 hl (by decide) (q0 := 0) rfl (fun v => [(1, .int v), (0, .ref (b + 0))]) (fun _ => rfl) (fun v ls ev _ hl => ?_)
    rw [show nm (7 + 1) = 8 by decide] at ev
    rw [ev] at hl
    clear ev
    refine m_goto (pc := 178) (tgt := 145) X dX12_init_178 (by decide) ?_
    refine m_iload_n (pc := 145) X dX12_init_145 rfl hl 0 rfl ?_
    refine m_bipush (pc := 146) X dX12_init_146 rfl ?_
    refine m_icmp_ge (pc := 148) (tgt := 181) X (by decide : okI 8) (by decide : okI 8) dX12_init_148 (by decide) (fun _ => ?_) (fun hc => absurd hc (by decide))
    exact c_ret (pc := 181) X hr hlk hG hS rfl (by decide +kernel) h (by decide) (by decide) dX12_init_181)
