set_option maxHeartbeats 4000000
set_option maxRecDepth 20000
/-! ===== the pure part: a night, both sides ===== -/
theorem mcp_ne (S : mSt) {r1 r r2 : Nat} (n : Int) (h : r ≠ r2) : mcp S r1 r2 n r = S r := by funext i; exact if_neg fun q => h q.1
/-- what a night sees of a laundry -/
def RY (S : mSt) (r : Nat) (f : mRow) : Prop := RM S (r + 1) f ∧ S r 6 = f 5 ∧ S r 7 = f 6 ∧ S r 8 = f 7 ∧ S r 9 = f 8 ∧ S r 10 = f 12
/-- what a night leaves of the memory -/
def NF (r lw : Nat) (S S' : mSt) : Prop := (∀ r', (r' < r ∨ r + 7 < r') → r' ≠ lw + 5 → r' ≠ lw + 6 → S' r' = S r') ∧ ∀ i, i ≠ 6 → i ≠ 10 → S' r i = S r i
theorem NF.rf (r lw : Nat) (S : mSt) : NF r lw S S := ⟨fun _ _ _ _ => rfl, fun _ _ _ => rfl⟩
theorem NF.tr {r lw : Nat} {S S1 S2 : mSt} (h : NF r lw S S1) (h' : NF r lw S1 S2) : NF r lw S S2 := ⟨fun r' a b c => (h'.1 r' a b c).trans (h.1 r' a b c), fun i a b => (h'.2 i a b).trans (h.2 i a b)⟩
theorem NF.moon {r lw : Nat} {S : mSt} {k : Nat} (i v : Int) (h1 : r + 1 ≤ k) (h2 : k ≤ r + 7) : NF r lw S (mup S k i v) := ⟨fun r' a _ _ => mup_ne _ _ _ (by omega), fun i _ _ => by rw [mup_ne _ _ _ (by omega)]⟩
theorem NF.at6 {r lw : Nat} {S : mSt} (v : Int) : NF r lw S (mup S r 6 v) := ⟨fun r' a _ _ => mup_ne _ _ _ (by omega), fun i a _ => mup_i _ _ _ a⟩
theorem NF.at10 {r lw : Nat} {S : mSt} (v : Int) : NF r lw S (mup S r 10 v) := ⟨fun r' a _ _ => mup_ne _ _ _ (by omega), fun i _ a => mup_i _ _ _ a⟩
section ryw
variable {S : mSt} {r : Nat} {f : mRow} {p v : Int}
theorem RY.moonly {k : Nat} {i : Int} {g : mRow} (h : RY S r f) (h1 : r + 1 ≤ k) (hm : RM (mup S k i v) (r + 1) g) (hg : g 5 = f 5 ∧ g 6 = f 6 ∧ g 7 = f 7 ∧ g 8 = f 8 ∧ g 12 = f 12) : RY (mup S k i v) r g := by
  obtain ⟨-, h2, h3, h4, h5, h6⟩ := h
  refine ⟨hm, ?_, ?_, ?_, ?_, ?_⟩ <;> rw [mup_ne _ _ _ (by omega)] <;> omega
theorem RY.grey (h : RY S r f) (p0 : 0 ≤ p) (p1 : p < 8) : RY (mup S (r + 1 + 1) p v) r (fup f (14 + 6 * p) v) := h.moonly (by omega) (h.1.grey p0 p1) (by simp only [fup_ne _ _ (show (5:Int) ≠ 14 + 6 * p by omega), fup_ne _ _ (show (6:Int) ≠ 14 + 6 * p by omega), fup_ne _ _ (show (7:Int) ≠ 14 + 6 * p by omega), fup_ne _ _ (show (8:Int) ≠ 14 + 6 * p by omega), fup_ne _ _ (show (12:Int) ≠ 14 + 6 * p by omega), and_self])
theorem RY.stain (h : RY S r f) (p0 : 0 ≤ p) (p1 : p < 8) : RY (mup S (r + 1 + 4) p v) r (fup f (14 + 6 * p + 3) v) := h.moonly (by omega) (h.1.stain p0 p1) (by simp only [fup_ne _ _ (show (5:Int) ≠ 14 + 6 * p + 3 by omega), fup_ne _ _ (show (6:Int) ≠ 14 + 6 * p + 3 by omega), fup_ne _ _ (show (7:Int) ≠ 14 + 6 * p + 3 by omega), fup_ne _ _ (show (8:Int) ≠ 14 + 6 * p + 3 by omega), fup_ne _ _ (show (12:Int) ≠ 14 + 6 * p + 3 by omega), and_self])
theorem RY.unhang (h : RY S r f) (p0 : 0 ≤ p) (p1 : p < 8) : RY (mup S (r + 1) 6 (bAnd (S (r + 1) 6) (bXor (bShl 1 p) (-1)))) r (fup f (14 + 6 * p + 4) 0) := h.moonly (by omega) (h.1.unhang p0 p1) (by simp only [fup_ne _ _ (show (5:Int) ≠ 14 + 6 * p + 4 by omega), fup_ne _ _ (show (6:Int) ≠ 14 + 6 * p + 4 by omega), fup_ne _ _ (show (7:Int) ≠ 14 + 6 * p + 4 by omega), fup_ne _ _ (show (8:Int) ≠ 14 + 6 * p + 4 by omega), fup_ne _ _ (show (12:Int) ≠ 14 + 6 * p + 4 by omega), and_self])
theorem RY.damp (h : RY S r f) : RY (mup S (r + 1) 8 v) r (fup f 10 v) := h.moonly (by omega) h.1.damp (by simp [fup])
theorem RY.night (h : RY S r f) : RY (mup S (r + 1) 7 v) r (fup f 9 v) := h.moonly (by omega) h.1.night (by simp [fup])
theorem RM.up (h : RM S (r + 1) f) {i : Int} : RM (mup S r i v) (r + 1) f := h.of (fun r' a _ => mup_ne _ _ _ (by omega))
theorem RY.water (h : RY S r f) : RY (mup S r 6 v) r (fup f 5 v) := by
  obtain ⟨h1, h2, h3, h4, h5, h6⟩ := h
  refine ⟨h1.up.other (by decide) (by decide) (by decide), ?_, ?_, ?_, ?_, ?_⟩
  · rw [mup_same, fup_at]
  all_goals rw [mup_i _ _ _ (by decide), fup_ne _ _ (by decide)]; assumption
theorem RY.seed (h : RY S r f) : RY (mup S r 10 v) r (fup f 12 v) := by
  obtain ⟨h1, h2, h3, h4, h5, h6⟩ := h
  refine ⟨h1.up.other (by decide) (by decide) (by decide), ?_, ?_, ?_, ?_, ?_⟩
  case refine_5 => rw [mup_same, fup_at]
  all_goals rw [mup_i _ _ _ (by decide), fup_ne _ _ (by decide)]; assumption
end ryw
section cNight
variable {N : Nat} {S : mSt} {r lw : Nat} {f : mRow} {A : mLaw} {Q : mSt → Int → Prop}
theorem s_draw (h : RY S r f) (k : Q (mup S r 10 (sd (f 12))) (dv (drw f))) : w_X2_draw N r S Q := by
  unfold w_X2_draw
  intro S1 e1
  obtain ⟨-, -, -, -, -, h6⟩ := h
  rw [h6] at e1
  have e : S1 r 10 = sd (f 12) := by rw [e1]; exact mup_same _ _ _ _
  have e2 : bAnd (bUsh (S1 r 10) 16) 32767 = dv (drw f) := by rw [e]; unfold dv drw; rw [fup_at]
  rw [e2, e1]
  exact k
theorem sd_ok (x : Int) : okI (sd x) := nm_ok _
theorem RY.draw (h : RY S r f) : RY (mup S r 10 (sd (f 12))) r (drw f) := h.seed
theorem s_setHung {p : Int} {x2 : Int} {Q : mSt → Prop} (hz : x2 = 0) (h : Q (mup S r 6 (bAnd (S r 6) (bXor (bShl 1 p) (-1))))) : w_X5_setHung N r p x2 S Q := by
  unfold w_X5_setHung
  intro v1 e1
  refine ⟨fun _ S2 e2 => ?_, fun q => by omega⟩
  rw [e2, e1]; exact h
theorem s_setHung1 {p : Int} {x2 : Int} {Q : mSt → Prop} (hz : x2 ≠ 0) (h : Q (mup S r 6 (bOr (S r 6) (bShl 1 p)))) : w_X5_setHung N r p x2 S Q := by
  unfold w_X5_setHung
  intro v1 e1
  refine ⟨fun q => by omega, fun _ S2 e2 => ?_⟩
  rw [e2, e1]; exact h
theorem s_pass {x : Int} (hok : okS S) (hY : RY S r f) (hR : RN f) (h : ∀ S', okS S' → RY S' r (fPass f) → NF r lw S S' → Q S' x) : w_X2_oneNight_133 N Q r x S := by
  unfold w_X2_oneNight_133
  obtain ⟨h1, h2, h3⟩ := hR
  have hY0 := hY
  obtain ⟨-, g2, g3, -, -, -⟩ := hY
  intro S1 e1 S2 e2
  rw [g2, g3, nm_of (by omega) (by omega), iMin_min] at e1
  have y1 : RY S1 r (fup f 5 (min 99 (f 5 + f 6))) := by rw [e1]; exact hY0.water
  have e9 : S1 (r + 1) 7 = f 9 := by rw [e1, mup_ne _ _ _ (by omega)]; exact hY0.1.2.1
  rw [e9] at e2
  refine h S2 ?_ ?_ ?_
  · rw [e2, e1]; exact okS_up (okS_up hok (by unfold okI; omega)) (nm_ok _)
  · rw [e2]; exact y1.night
  · rw [e2, e1]; exact (NF.at6 _).tr (NF.moon _ _ (by omega) (by omega))
theorem s_thief {x : Int} (hok : okS S) (hY : RY S r f) (hR : RN f) (h : ∀ S', okS S' → RY S' r (fThief f) → NF r lw S S' → Q S' x) : w_X2_oneNight_80 N Q r x S := by
  unfold w_X2_oneNight_80
  unfold fThief at h
  refine s_draw hY ?_
  have y1 := hY.draw
  have ok1 : okS (mup S r 10 (sd (f 12))) := okS_up hok (sd_ok _)
  have n1 : NF r lw S (mup S r 10 (sd (f 12))) := NF.at10 _
  generalize mup S r 10 (sd (f 12)) = S1 at y1 ok1 n1
  have e8 : S1 r 9 = f 8 := by have := y1.2.2.2.2.1; rw [drw_hi _ (by decide)] at this; exact this
  rw [e8, dv_rem _ (by decide) (by decide)]
  refine ⟨fun q => ?_, fun q => ?_⟩
  · rw [if_neg (by omega)] at h
    exact s_pass ok1 y1 hR.dr (fun S' ok' y' n' => h S' ok' y' (n1.tr n'))
  · rw [if_pos q] at h
    refine s_draw y1 ?_
    have y2 := y1.draw
    have ok2 : okS (mup S1 r 10 (sd (drw f 12))) := okS_up ok1 (sd_ok _)
    have n2 : NF r lw S (mup S1 r 10 (sd (drw f 12))) := n1.tr (NF.at10 _)
    generalize mup S1 r 10 (sd (drw f 12)) = S2 at y2 ok2 n2
    have hR2 := hR.dr.dr
    generalize drw (drw f) = g at h y2 hR2
    intro v3 e3
    have hd := dv_ok g
    rw [dv_rem _ (by decide) (by decide)] at e3
    rw [← e3] at h
    have p0 : 0 ≤ v3 := by omega
    have p1 : v3 < 8 := by omega
    have hs := hR2.steal p0 p1
    unfold fSteal at h hs
    refine s_isHung y2.1 p0 p1 ⟨fun q3 => ?_, fun q3 => ?_⟩
    · rw [if_neg (by omega)] at h
      exact s_pass ok2 y2 hR2 (fun S' ok' y' n' => h S' ok' y' (n2.tr n'))
    · have q4 : g (14 + 6 * v3 + 4) = 1 := by have := (hR2.1.at p0 p1).2.2.2.2.1; omega
      rw [if_pos q4] at h hs
      refine s_setHung rfl ⟨p0, p1, fun S7 e7 => ?_⟩
      have y7 : RY S7 r (fup (fup g (14 + 6 * v3 + 4) 0) (14 + 6 * v3) 9) := by rw [e7]; exact (y2.unhang p0 p1).grey p0 p1
      exact s_pass (by rw [e7]; exact okS_up (okS_up ok2 (bAnd_ok _ _)) (by decide)) y7 hs (fun S' ok' y' n' => h S' ok' y' ((n2.tr (by rw [e7]; exact (NF.moon _ _ (by omega) (by omega)).tr (NF.moon _ _ (by omega) (by omega)))).tr n'))
theorem s_night (hN : 1000 ≤ N) (hA : LX N S lw A) (hB : LB A) (hok : okS S) (hY : RY S r f) (hR : RN f) (ap : lw + 6 < r ∨ r + 7 < lw) (h : ∀ S', okS S' → RY S' r (fNight A f) → NF r lw S S' → Q S' (fNightN A f)) : w_X2_oneNight N r lw S Q := by
  unfold w_X2_oneNight
  unfold fNight fNightN at h
  refine s_draw hY (fun S2 e2 => ?_)
  have hd := dv_ok (drw f)
  rw [dv_rem _ (by decide) (by decide)] at e2
  have y2 : RY S2 r (fDay f) := by rw [e2]; exact hY.draw.damp
  have ok2 : okS S2 := by rw [e2]; exact okS_up (okS_up hok (sd_ok _)) (by unfold okI; omega)
  have n2 : NF r lw S S2 := by rw [e2]; exact (NF.at10 _).tr (NF.moon _ _ (by omega) (by omega))
  have hR2 := hR.day
  generalize fDay f = g at y2 hR2 h
  refine s_air hN (hA.of (fun j hj => n2.1 _ (by omega) (by omega) (by omega))) hB ok2 y2.1 hR2.1 (by omega) (fun S3 ok3 m3 k3 v4 e4 => ?_)
  have n3 : NF r lw S2 S3 := ⟨fun r' a b c => k3 r' (by omega) b c, fun i _ _ => by rw [k3 r (by omega) (by omega) (by omega)]⟩
  have hi := fun k hk => fAirs_hi A g (k := k) hk 8 (by omega)
  have hR3 := hR2.airs hB
  have y3 : RY S3 r (fAirs A g 8) := by
    obtain ⟨-, a2, a3, a4, a5, a6⟩ := y2
    refine ⟨m3, ?_, ?_, ?_, ?_, ?_⟩ <;> rw [k3 r (by omega) (by omega) (by omega), hi _ (by omega)] <;> assumption
  have n3' := n2.tr n3
  subst e4
  generalize fAirs A g 8 = g at h hR3 y3
  clear n3 k3 m3 hi y2 hR2 e2
  unfold fWolf at h
  refine s_draw y3 ?_
  have y4 := y3.draw
  have ok4 : okS (mup S3 r 10 (sd (g 12))) := okS_up ok3 (sd_ok _)
  have n4 : NF r lw S (mup S3 r 10 (sd (g 12))) := n3'.tr (NF.at10 _)
  generalize mup S3 r 10 (sd (g 12)) = S4 at y4 ok4 n4
  have e8 : S4 r 8 = g 7 := by have := y4.2.2.2.1; rw [drw_hi _ (by decide)] at this; exact this
  rw [e8, dv_rem _ (by decide) (by decide)]
  refine ⟨fun q => ?_, fun q => ?_⟩
  · rw [if_neg (by omega)] at h
    exact s_thief ok4 y4 hR3.dr (fun S' ok' y' n' => h S' ok' y' (n4.tr n'))
  · rw [if_pos q] at h
    refine s_draw y4 ?_
    have y5 := y4.draw
    have ok5 : okS (mup S4 r 10 (sd (drw g 12))) := okS_up ok4 (sd_ok _)
    have n5 : NF r lw S (mup S4 r 10 (sd (drw g 12))) := n4.tr (NF.at10 _)
    generalize mup S4 r 10 (sd (drw g 12)) = S5 at y5 ok5 n5
    have hR5 := hR3.dr.dr
    generalize drw (drw g) = g5 at h y5 hR5
    intro v7 e7
    rw [dv_rem _ (by decide) (by decide)] at e7
    rw [← e7] at h
    refine s_draw y5 ?_
    have y6 := y5.draw
    have ok6 : okS (mup S5 r 10 (sd (g5 12))) := okS_up ok5 (sd_ok _)
    have n6 : NF r lw S (mup S5 r 10 (sd (g5 12))) := n5.tr (NF.at10 _)
    generalize mup S5 r 10 (sd (g5 12)) = S6 at y6 ok6 n6
    have hd5 := dv_ok g5
    have hR6 := hR5.dr
    generalize drw g5 = g6 at h y6 hR6
    intro v9 e9
    have hd6 := dv_ok g6
    rw [dv_rem _ (by decide) (by decide)] at e9
    rw [← e9] at h
    have p0 : 0 ≤ v7 := by omega
    have p1 : v7 < 8 := by omega
    have hb := hR6.bite p0 p1 (k := v9) (by omega) (by omega)
    unfold fBite at h hb
    refine s_isHung y6.1 p0 p1 ⟨fun q3 => ?_, fun q3 => ?_⟩
    · rw [if_neg (by omega)] at h
      exact s_thief ok6 y6 hR6 (fun S' ok' y' n' => h S' ok' y' (n6.tr n'))
    · have q4 : g6 (14 + 6 * v7 + 4) = 1 := by have := (hR6.1.at p0 p1).2.2.2.2.1; omega
      rw [if_pos q4] at h hb
      refine ⟨p0, p1, p0, p1, fun S7 e7 => ?_⟩
      have es : S6 (r + 1 + 4) v7 = g6 (14 + 6 * v7 + 3) := (y6.1.1 v7 p0 p1).2.2.2.1
      rw [es] at e7
      have y7 : RY S7 r (fup g6 (14 + 6 * v7 + 3) (bOr (g6 (14 + 6 * v7 + 3)) (bShl 1 v9))) := by rw [e7]; exact y6.stain p0 p1
      exact s_thief (by rw [e7]; exact okS_up ok6 (bOr_ok _ _)) y7 hb (fun S' ok' y' n' => h S' ok' y' ((n6.tr (by rw [e7]; exact NF.moon _ _ (by omega) (by omega))).tr n'))
end cNight
section mNight2
variable {N : Nat} {S : mSt} {A : mLaw} {Q : mSt → Int → Prop}
theorem a_pass1 {x : Int} {f : mRow} (hok : okS S) (hf : S 1 = f) (hR : RN f) (h : ∀ S', okS S' → S' 1 = fPass f → MG S S' → Q S' x) : w_X12_night_121 N Q 0 x S := by
  unfold w_X12_night_121
  subst hf
  exact a_pass hok hR h
theorem a_thief {x : Int} {f : mRow} (hok : okS S) (hf : S 1 = f) (hR : RN f) (h : ∀ S', okS S' → S' 1 = fThief f → MG S S' → Q S' x) : w_X12_night_73 N Q 0 x S := by
  unfold w_X12_night_73
  unfold fThief at h
  simp only [Nat.zero_add]
  refine a_draw (by decide) (by decide) ?_
  rw [hf]
  have h1 : (mup S 1 12 (sd (f 12))) 1 = drw f := by rw [mup_1, hf]; rfl
  have ok1 : okS (mup S 1 12 (sd (f 12))) := okS_up hok (sd_ok _)
  have n1 : MG S (mup S 1 12 (sd (f 12))) := MG.up _ _
  generalize mup S 1 12 (sd (f 12)) = S1 at h1 ok1 n1
  rw [h1, drw_hi _ (show (8 : Int) ≠ 12 by decide)]
  refine ⟨fun q => ?_, fun q => ?_⟩
  · rw [if_neg (by omega)] at h
    exact a_pass1 ok1 h1 hR.dr (fun S' ok' y' n' => h S' ok' y' (n1.tr n'))
  · rw [if_pos q] at h
    refine a_draw (by decide) (by decide) ?_
    rw [h1]
    have h2 : (mup S1 1 12 (sd (drw f 12))) 1 = drw (drw f) := by rw [mup_1, h1]; rfl
    have ok2 : okS (mup S1 1 12 (sd (drw f 12))) := okS_up ok1 (sd_ok _)
    have n2 : MG S (mup S1 1 12 (sd (drw f 12))) := n1.tr (MG.up _ _)
    generalize mup S1 1 12 (sd (drw f 12)) = S2 at h2 ok2 n2
    have hR2 := hR.dr.dr
    generalize drw (drw f) = g at h h2 hR2
    have hd := dv_ok g
    intro v3 e3
    rw [← e3] at h
    have p0 : 0 ≤ v3 := by omega
    have p1 : v3 < 8 := by omega
    have hs := hR2.steal p0 p1
    unfold fSteal at h hs
    refine a_of p0 p1 (by omega) (by omega) ?_
    rw [h2]
    refine ⟨fun q3 => ?_, fun q3 => ?_⟩
    · rw [if_neg q3] at h
      exact a_pass1 ok2 h2 hR2 (fun S' ok' y' n' => h S' ok' y' (n2.tr n'))
    · rw [if_pos q3] at h hs
      refine a_has p0 p1 (by omega) (by omega) (a_has p0 p1 (by omega) (by omega) ?_)
      rw [show 14 + 6 * v3 + 0 = 14 + 6 * v3 by omega]
      exact a_pass1 (okS_up (okS_up ok2 (by decide)) (by decide)) (by rw [mup_1, mup_1, h2]) hs (fun S' ok' y' n' => h S' ok' y' ((n2.tr ((MG.up _ _).tr (MG.up _ _))).tr n'))
theorem a_night (hN : 1000 ≤ N) (hL : LM N (S 1) A) (hB : LB A) (hok : okS S) (hR : RN (S 1)) (h : ∀ S', okS S' → S' 1 = fNight A (S 1) → MG S S' → Q S' (fNightN A (S 1))) : w_X12_night N 0 S Q := by
  unfold w_X12_night
  unfold fNight fNightN at h
  simp only [Nat.zero_add]
  have hd := dv_ok (drw (S 1))
  refine a_draw (by decide) (by decide) (fun S2 e2 => ?_)
  have h2 : S2 1 = fDay (S 1) := by rw [e2, mup_1, mup_1]; rfl
  have ok2 : okS S2 := by rw [e2]; exact okS_up (okS_up hok (sd_ok _)) (by unfold okI; omega)
  have n2 : MG S S2 := by rw [e2]; exact (MG.up _ _).tr (MG.up _ _)
  have hR2 := hR.day
  have hL2 : LM N (fDay (S 1)) A := by
    have hh : ∀ k : Int, k ≠ 10 → k ≠ 12 → fDay (S 1) k = S 1 k := fun k h1 h2 => by unfold fDay; rw [fup_ne _ _ h1, drw_hi _ h2]
    exact hL.of (hh _ (by decide) (by decide)) (hh _ (by decide) (by decide)) (fun k hk _ => hh _ (by omega) (by omega))
  generalize fDay (S 1) = g at h2 hR2 hL2 h
  refine a_air hN (by rw [h2]; exact hL2) hB ok2 (by rw [h2]; exact hR2.1) (fun S3 ok3 h3 k3 v4 e4 => ?_)
  rw [h2] at h3 e4
  have hR3 := hR2.airs hB
  subst e4
  have n3' := n2.tr k3
  generalize fAirs A g 8 = g at h hR3 h3
  clear k3 h2 hR2 e2
  unfold fWolf at h
  refine a_draw (by decide) (by decide) ?_
  rw [h3]
  have h4 : (mup S3 1 12 (sd (g 12))) 1 = drw g := by rw [mup_1, h3]; rfl
  have ok4 : okS (mup S3 1 12 (sd (g 12))) := okS_up ok3 (sd_ok _)
  have n4 : MG S (mup S3 1 12 (sd (g 12))) := n3'.tr (MG.up _ _)
  generalize mup S3 1 12 (sd (g 12)) = S4 at h4 ok4 n4
  rw [h4, drw_hi _ (show (7 : Int) ≠ 12 by decide)]
  refine ⟨fun q => ?_, fun q => ?_⟩
  · rw [if_neg (by omega)] at h
    exact a_thief ok4 h4 hR3.dr (fun S' ok' y' n' => h S' ok' y' (n4.tr n'))
  · rw [if_pos q] at h
    refine a_draw (by decide) (by decide) ?_
    rw [h4]
    have h5 : (mup S4 1 12 (sd (drw g 12))) 1 = drw (drw g) := by rw [mup_1, h4]; rfl
    have ok5 : okS (mup S4 1 12 (sd (drw g 12))) := okS_up ok4 (sd_ok _)
    have n5 : MG S (mup S4 1 12 (sd (drw g 12))) := n4.tr (MG.up _ _)
    generalize mup S4 1 12 (sd (drw g 12)) = S5 at h5 ok5 n5
    have hR5 := hR3.dr.dr
    generalize drw (drw g) = g5 at h h5 hR5
    have hd5 := dv_ok g5
    intro v7 e7
    rw [← e7] at h
    refine a_draw (by decide) (by decide) ?_
    rw [h5]
    have h6 : (mup S5 1 12 (sd (g5 12))) 1 = drw g5 := by rw [mup_1, h5]; rfl
    have ok6 : okS (mup S5 1 12 (sd (g5 12))) := okS_up ok5 (sd_ok _)
    have n6 : MG S (mup S5 1 12 (sd (g5 12))) := n5.tr (MG.up _ _)
    generalize mup S5 1 12 (sd (g5 12)) = S6 at h6 ok6 n6
    have hR6 := hR5.dr
    generalize drw g5 = g6 at h h6 hR6
    have hd6 := dv_ok g6
    intro v9 e9
    rw [← e9] at h
    have p0 : 0 ≤ v7 := by omega
    have p1 : v7 < 8 := by omega
    have hb := hR6.bite p0 p1 (k := v9) (by omega) (by omega)
    unfold fBite at h hb
    refine a_of p0 p1 (by omega) (by omega) ?_
    rw [h6]
    refine ⟨fun q3 => ?_, fun q3 => ?_⟩
    · rw [if_neg q3] at h
      exact a_thief ok6 h6 hR6 (fun S' ok' y' n' => h S' ok' y' (n6.tr n'))
    · rw [if_pos q3] at h hb
      refine a_of p0 p1 (by omega) (by omega) (a_has p0 p1 (by omega) (by omega) ?_)
      rw [h6]
      exact a_thief (okS_up ok6 (bOr_ok _ _)) (by rw [mup_1, h6]) hb (fun S' ok' y' n' => h S' ok' y' ((n6.tr (MG.up _ _)).tr n'))
end mNight2
