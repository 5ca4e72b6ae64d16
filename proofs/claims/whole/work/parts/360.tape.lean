set_option maxHeartbeats 400000
set_option maxRecDepth 20000
section tapes
variable {N : Nat} {X : mSt} {tx : Int → Int} {L : Int}
theorem x_cutTape {Q : mSt → Prop} (hN : 5000 ≤ N) (ok : okS X) (h9 : X 0 1 = L) (L0 : 0 ≤ L) (hL : L ≤ 400) (hX : ∀ k, 0 ≤ k → k < L → X 1 k = tx k) (h : ∀ (X' : mSt) (n : Nat), okS X' → CC X' tx L n 0 (-1) → (∀ r, r ≠ 0 → (r < 38 ∨ 43 < r) → X' r = X r) → (∀ i, i ≠ 1 → X' 0 i = X 0 i) → X' 0 1 = 0 → Q X') : w_X11_cutTape N 0 X Q := by
  unfold w_X11_cutTape w_X10_cut
  rw [h9]
  intro v1 e1
  rw [iMin_min, iMax_max] at e1
  have e1' : v1 = L := by omega
  subst e1'
  refine ⟨by omega, by omega, by omega, fun S3 e3 S4 e4 S5 e5 v6 e6 v7 e7 => ?_⟩
  subst e6; subst e7
  have e3' : S3 = mcp X 1 39 v1 := e3
  have e4' : S4 = mup S3 38 6 (-1) := e4
  have e5' : S5 = mup S4 38 5 0 := e5
  have ok5 : okS S5 := by rw [e5', e4', e3']; exact okS_up (okS_up (okS_cp ok) (by decide)) (by decide)
  have x39 : ∀ k, 0 ≤ k → k < v1 → S5 39 k = tx k := fun k a b => by rw [e5', mup_ne _ _ _ (by decide), e4', mup_ne _ _ _ (by decide), e3', mcp_in _ _ _ a b]; exact hX k a b
  have fr : ∀ r, (r < 38 ∨ 43 < r) → S5 r = X r := fun r hr => by rw [e5', mup_ne _ _ _ (by omega), e4', mup_ne _ _ _ (by omega), e3', mcp_ne _ _ (by omega)]
  have c5 : S5 38 5 = 0 := by rw [e5', mup_same]
  have c6 : S5 38 6 = -1 := by rw [e5', mup_i _ _ _ (by decide), e4', mup_same]
  refine s_cut (tx := tx) hN ok5 L0 hL x39 (fun X2 n ok2 k2 t2 hn hLn => ⟨by omega, by omega, fun S10 e10 => ⟨by omega, by omega, fun S12 e12 => ⟨by omega, by omega, fun S14 e14 => ⟨by omega, by omega, fun S16 e16 S17 e17 => ?_⟩⟩⟩⟩)
  have f10 : S10 = mup X2 40 n 0 := e10
  have f12 : S12 = mup S10 41 n v1 := e12
  have f14 : S14 = mup S12 42 n 0 := e14
  have f16 : S16 = mup S14 43 n (-1) := e16
  have oL : okI v1 := by unfold okI; omega
  have ok16 : okS S16 := by rw [f16, f14, f12, f10]; exact okS_up (okS_up (okS_up (okS_up ok2 (by decide)) oL) (by decide)) (by decide)
  have g : ∀ r, (r < 40 ∨ 43 < r) → S16 r = X2 r := fun r hr => by rw [f16, mup_ne _ _ _ (by omega), f14, mup_ne _ _ _ (by omega), f12, mup_ne _ _ _ (by omega), f10, mup_ne _ _ _ (by omega)]
  have v40 : ∀ i, S16 40 i = if i = (n : Int) then 0 else X2 40 i := fun i => by
    rw [f16, mup_ne _ _ _ (by decide), f14, mup_ne _ _ _ (by decide), f12, mup_ne _ _ _ (by decide), f10]
    split
    · next h => rw [h, mup_same]
    · next h => rw [mup_i _ _ _ h]
  have v41 : ∀ i, S16 41 i = if i = (n : Int) then v1 else X2 41 i := fun i => by
    rw [f16, mup_ne _ _ _ (by decide), f14, mup_ne _ _ _ (by decide), f12]
    split
    · next h => rw [h, mup_same]
    · next h => rw [mup_i _ _ _ h, f10, mup_ne _ _ _ (by decide)]
  have v42 : ∀ i, S16 42 i = if i = (n : Int) then 0 else X2 42 i := fun i => by
    rw [f16, mup_ne _ _ _ (by decide), f14]
    split
    · next h => rw [h, mup_same]
    · next h => rw [mup_i _ _ _ h, f12, mup_ne _ _ _ (by decide), f10, mup_ne _ _ _ (by decide)]
  have v43 : ∀ i, S16 43 i = if i = (n : Int) then -1 else X2 43 i := fun i => by
    rw [f16]
    split
    · next h => rw [h, mup_same]
    · next h => rw [mup_i _ _ _ h, f14, mup_ne _ _ _ (by decide), f12, mup_ne _ _ _ (by decide), f10, mup_ne _ _ _ (by decide)]
  have T : TK S16 tx v1 n := by
    refine ⟨fun i hi => ?_, hn, hLn, ⟨?_, ?_, ?_, ?_⟩, fun k a b => by rw [g 39 (by decide), k2 39 (by decide)]; exact x39 k a b⟩
    · rw [v40, v41, v42, v43, if_neg (by omega), if_neg (by omega), if_neg (by omega), if_neg (by omega)]; exact t2 i hi
    · rw [v40, if_pos rfl]
    · rw [v41, if_pos rfl]
    · rw [v42, if_pos rfl]
    · rw [v43, if_pos rfl]
  have s38 : S17 38 = S5 38 := by rw [e17, mup_ne _ _ _ (by decide), g 38 (by decide), k2 38 (by decide)]
  refine h S17 n (by rw [e17]; exact okS_up ok16 (by decide)) ⟨T.of (fun r a b => by rw [e17, mup_ne _ _ _ (by omega)]), by rw [s38]; exact c5, by omega, by rw [s38]; exact c6⟩ (fun r h0 hr => by rw [e17, mup_ne _ _ _ h0, g r (by omega), k2 r (by omega)]; exact fr r hr) (fun i hi => by rw [e17, mup_i _ _ _ hi, g 0 (by decide), k2 0 (by decide), fr 0 (by decide)]) (by rw [e17, mup_same])
end tapes
