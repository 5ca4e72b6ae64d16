set_option maxHeartbeats 4000000
set_option maxRecDepth 200000
/-! ===== the law's start: the premises, read ===== -/
def stP : List Nat := [159, 167, 170, 173, 176, 179, 182, 185, 188, 191, 194, 197, 202, 205, 208, 211, 214, 217, 220, 223, 226, 229, 232, 235, 238, 241, 244, 247, 250, 253, 256, 259, 262, 265]
abbrev stT (j : Nat) : Term := .string "MoonWash$Token" (stP.getD j 0)
abbrev tkX (i : Nat) : Term := .static "MoonWash$Token" (tkN.getD i "") "LMoonWash$Token;"
abbrev tkAll : Term := .static "MoonWash$Token" "ALL" "[LMoonWash$Token;"
abbrev lw_fl : List Cond := flatC (Jvm.Cond.and given_1 narrow_1)
theorem f_ex : ∀ i, i < 36 → Cond.exactly (tkX i) "MoonWash$Token" ∈ lw_fl := by decide +kernel
theorem f_or : ∀ i, i < 36 → Cond.eq (.field (tkX i) "java/lang/Enum" "ordinal" "I") (.int (Int32.ofNat i)) ∈ lw_fl := by decide +kernel
theorem f_te : ∀ i, i < 36 → Cond.eq (.field (tkX i) "MoonWash$Token" "term" "I") (.int (tkT.getD i 0)) ∈ lw_fl := by decide +kernel
theorem f_tx : ∀ i, i < 36 → Cond.eq (.field (tkX i) "MoonWash$Token" "text" "Ljava/lang/String;") (stT (tkS.getD i 0)) ∈ lw_fl := by decide +kernel
theorem f_al : ∀ i, i < 36 → Cond.eq (.elem tkAll (.int (Int32.ofNat i))) (tkX i) ∈ lw_fl := by decide +kernel
theorem f_aa : Cond.arrayOf tkAll (.object "MoonWash$Token") ∈ lw_fl := by decide +kernel
theorem f_an : Cond.eq (.length tkAll) (.int 36) ∈ lw_fl := by decide +kernel
def stQ : List Nat := [527, 669, 725, 730, 753, 758, 763, 531, 540, 550, 560, 588, 597, 606, 783, 615, 626, 791, 800, 570, 578, 635, 646, 657, 700, 674, 683, 691, 710, 776, 768, 717, 735, 744]
def stL (j : Nat) : List Cond := Cond.exactly (stT j) "java/lang/String" :: Cond.eq (.field (stT j) "java/lang/String" "coder" "B") (.int 0) :: Cond.arrayOf (.field (stT j) "java/lang/String" "value" "[B") .byte :: Cond.eq (.length (.field (stT j) "java/lang/String" "value" "[B")) (.int (Int32.ofNat (lenJS.getD j 0))) :: (List.range (lenJS.getD j 0)).map (fun k => Cond.eq (.elem (.field (stT j) "java/lang/String" "value" "[B") (.int (Int32.ofNat k))) (.int ((bytJS.getD j []).getD k 0)))
theorem f_st : ∀ j, j < 34 → (lw_fl.drop (stQ.getD j 0)).take (4 + lenJS.getD j 0) = stL j := by decide +kernel
theorem f_s {j : Nat} (hj : j < 34) : ∀ c ∈ stL j, c ∈ lw_fl := fun c hc => by
  rw [← f_st j hj] at hc
  exact List.mem_of_mem_drop (List.mem_of_mem_take hc)
theorem f_mr : ∀ r ∈ mRf, Cond.eq (.string "MoonWashModel" r.1) (stT r.2.2) ∈ lw_fl := by decide +kernel
theorem f_nc : ∀ r ∈ mNcL, Cond.not (.castable r.1 r.2) ∈ lw_fl := by decide +kernel
theorem f_cs : Cond.eq (.static "java/lang/String" "COMPACT_STRINGS" "Z") (.int 1) ∈ lw_fl := by decide +kernel
theorem f_fm : Cond.isRef (.static "jdk/internal/util/Preconditions" "SIOOBE_FORMATTER" "Ljava/util/function/BiFunction;") ∈ lw_fl := by decide +kernel
theorem f_us : Cond.isRef (.static Bundle.tN "UNASSIGNED_STACK" Bundle.steD) ∈ lw_fl := by decide +kernel
theorem f_ss : Cond.isRef (.static Bundle.tN "SUPPRESSED_SENTINEL" Bundle.listD) ∈ lw_fl := by decide +kernel
theorem w_ls : ∀ i, i < 36 → Cond.laysStatic "MoonWash$Token" (tkN.getD i "") "LMoonWash$Token;" ∈ lw_tbl := by decide +kernel
theorem w_la : Cond.laysStatic "MoonWash$Token" "ALL" "[LMoonWash$Token;" ∈ lw_tbl := by decide +kernel
theorem w_sr : ∀ r ∈ mRf, Cond.stringRef "MoonWashModel" r.1 r.2.1 ∈ lw_tbl := by decide +kernel
theorem w_cs : Cond.laysStatic "java/lang/String" "COMPACT_STRINGS" "Z" ∈ lw_tbl := by decide +kernel
theorem w_fm : Cond.laysStatic "jdk/internal/util/Preconditions" "SIOOBE_FORMATTER" "Ljava/util/function/BiFunction;" ∈ lw_tbl := by decide +kernel
theorem w_us : Cond.laysStatic Bundle.tN "UNASSIGNED_STACK" Bundle.steD ∈ lw_tbl := by decide +kernel
theorem w_ss : Cond.laysStatic Bundle.tN "SUPPRESSED_SENTINEL" Bundle.listD ∈ lw_tbl := by decide +kernel
theorem w_ini : ∀ C ∈ ["MoonWash$Token", "java/lang/String", "jdk/internal/util/Preconditions", Bundle.tN], Cond.initialized C ∈ lw_tbl := by decide +kernel
theorem w_ao : ∀ t ∈ [FieldType.object "MoonWash$Laundry", .object "MoonWash$Token", .array .int], Cond.arrayOver t ∈ lw_tbl := by decide +kernel
theorem w_ac : ∀ t ∈ [FieldType.int, .boolean, .long], Cond.arrayClass t ∈ lw_tbl := by decide +kernel
theorem js_inj : ∀ i, i < 34 → ∀ j, j < 34 → lenJS.getD i 0 = lenJS.getD j 0 → (∀ k, k < 8 → k < lenJS.getD i 0 → (bytJS.getD i []).getD k 0 = (bytJS.getD j []).getD k 0) → i = j := by decide +kernel
