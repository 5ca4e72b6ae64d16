/-! ===== regions: kinds, the world of a part, what never changes ===== -/
abbrev mK : Type := Nat × Nat × Nat
/-- the classes and slots, the array classes, the bound of what never changes, the tokens, the texts, their bytes, the row of all tokens -/
abbrev mG : Type := va_G × (Nat → ClassId) × Nat × (Nat → Nat) × (Nat → Nat) × (Nat → Nat) × Nat
abbrev mG.D (g : mG) : va_G := g.1
abbrev mG.cy (g : mG) : Nat → ClassId := g.2.1
abbrev mG.lo (g : mG) : Nat := g.2.2.1
abbrev mG.ad (g : mG) : Nat → Nat := g.2.2.2.1
abbrev mG.sa (g : mG) : Nat → Nat := g.2.2.2.2.1
abbrev mG.sv (g : mG) : Nat → Nat := g.2.2.2.2.2.1
abbrev mG.al (g : mG) : Nat := g.2.2.2.2.2.2
def nf (c : Nat) : Nat := match c with
  | 0 => 4
  | 1 => 13
  | 2 => 8
  | 3 => 9
  | 4 => 3
  | 5 => 2
  | 6 => 0
  | 7 => 4
  | 8 => 7
  | 9 => 13
  | 10 => 26
  | _ => 0
def fk (c j : Nat) : Nat × Nat := match c, j with
  | 0, 0 => (1, 1)
  | 0, 1 => (1, 12)
  | 0, 2 => (1, 19)
  | 1, 0 => (1, 1)
  | 1, 1 => (1, 8)
  | 1, 3 => (1, 9)
  | 1, 11 => (1, 10)
  | 2, 1 => (1, 1)
  | 2, 2 => (1, 2)
  | 2, 3 => (1, 3)
  | 2, 4 => (1, 4)
  | 2, 6 => (1, 5)
  | 2, 7 => (1, 6)
  | 3, 0 => (1, 1)
  | 3, 1 => (1, 2)
  | 3, 2 => (1, 3)
  | 3, 3 => (1, 4)
  | 3, 4 => (1, 5)
  | 3, 5 => (1, 6)
  | 4, 0 => (1, 1)
  | 5, 0 => (1, 1)
  | 5, 1 => (1, 10)
  | 7, 0 => (1, 1)
  | 7, 1 => (1, 10)
  | 7, 3 => (1, 11)
  | 8, 0 => (1, 1)
  | 8, 1 => (1, 2)
  | 8, 2 => (1, 3)
  | 8, 3 => (1, 4)
  | 8, 4 => (1, 5)
  | 9, 0 => (1, 1)
  | 9, 3 => (2, 1)
  | 9, 4 => (2, 1)
  | 9, 5 => (2, 2)
  | 9, 6 => (2, 2)
  | 9, 7 => (1, 38)
  | 9, 8 => (1, 44)
  | 9, 9 => (1, 178)
  | 9, 10 => (1, 198)
  | 9, 11 => (1, 205)
  | 9, 12 => (1, 226)
  | 10, 1 => (1, 1)
  | 10, 2 => (1, 2)
  | 10, 3 => (1, 3)
  | 10, 5 => (1, 4)
  | 10, 6 => (1, 5)
  | 10, 8 => (1, 6)
  | 10, 15 => (1, 7)
  | 10, 21 => (1, 8)
  | 10, 22 => (1, 9)
  | 10, 23 => (1, 10)
  | 10, 24 => (1, 11)
  | 10, 25 => (1, 12)
  | _, _ => (0, 0)
def kxl : List mK := [(0, 9, 0), (1, 400, 0), (0, 1, 0), (0, 3, 0), (1, 8, 0), (1, 8, 0), (1, 8, 0), (1, 8, 0), (1, 8, 0), (1, 8, 0), (1, 24, 0), (1, 16, 0), (1, 240, 0), (0, 1, 0), (0, 3, 0), (1, 8, 0), (1, 8, 0), (1, 8, 0), (1, 8, 0), (1, 8, 0), (1, 8, 0), (1, 24, 0), (1, 16, 0), (1, 240, 0), (0, 2, 0), (1, 12, 0), (1, 12, 0), (1, 12, 0), (1, 400, 0), (1, 10, 0), (1, 32, 0), (0, 2, 0), (1, 12, 0), (1, 12, 0), (1, 12, 0), (1, 400, 0), (1, 10, 0), (1, 32, 0), (0, 8, 0), (1, 400, 0), (5, 401, 0), (1, 401, 0), (1, 401, 0), (1, 401, 0), (0, 4, 0), (3, 12, 0), (0, 1, 0), (0, 3, 0), (1, 8, 0), (1, 8, 0), (1, 8, 0), (1, 8, 0), (1, 8, 0), (1, 8, 0), (1, 24, 0), (1, 16, 0), (1, 240, 0), (0, 1, 0), (0, 3, 0), (1, 8, 0), (1, 8, 0), (1, 8, 0), (1, 8, 0), (1, 8, 0), (1, 8, 0), (1, 24, 0), (1, 16, 0), (1, 240, 0), (0, 1, 0), (0, 3, 0), (1, 8, 0), (1, 8, 0), (1, 8, 0), (1, 8, 0), (1, 8, 0), (1, 8, 0), (1, 24, 0), (1, 16, 0), (1, 240, 0), (0, 1, 0), (0, 3, 0), (1, 8, 0), (1, 8, 0), (1, 8, 0), (1, 8, 0), (1, 8, 0), (1, 8, 0), (1, 24, 0), (1, 16, 0), (1, 240, 0), (0, 1, 0), (0, 3, 0), (1, 8, 0), (1, 8, 0), (1, 8, 0), (1, 8, 0), (1, 8, 0), (1, 8, 0), (1, 24, 0), (1, 16, 0), (1, 240, 0), (0, 1, 0), (0, 3, 0), (1, 8, 0), (1, 8, 0), (1, 8, 0), (1, 8, 0), (1, 8, 0), (1, 8, 0), (1, 24, 0), (1, 16, 0), (1, 240, 0), (0, 1, 0), (0, 3, 0), (1, 8, 0), (1, 8, 0), (1, 8, 0), (1, 8, 0), (1, 8, 0), (1, 8, 0), (1, 24, 0), (1, 16, 0), (1, 240, 0), (0, 1, 0), (0, 3, 0), (1, 8, 0), (1, 8, 0), (1, 8, 0), (1, 8, 0), (1, 8, 0), (1, 8, 0), (1, 24, 0), (1, 16, 0), (1, 240, 0), (0, 1, 0), (0, 3, 0), (1, 8, 0), (1, 8, 0), (1, 8, 0), (1, 8, 0), (1, 8, 0), (1, 8, 0), (1, 24, 0), (1, 16, 0), (1, 240, 0), (0, 1, 0), (0, 3, 0), (1, 8, 0), (1, 8, 0), (1, 8, 0), (1, 8, 0), (1, 8, 0), (1, 8, 0), (1, 24, 0), (1, 16, 0), (1, 240, 0), (0, 1, 0), (0, 3, 0), (1, 8, 0), (1, 8, 0), (1, 8, 0), (1, 8, 0), (1, 8, 0), (1, 8, 0), (1, 24, 0), (1, 16, 0), (1, 240, 0), (0, 1, 0), (0, 3, 0), (1, 8, 0), (1, 8, 0), (1, 8, 0), (1, 8, 0), (1, 8, 0), (1, 8, 0), (1, 24, 0), (1, 16, 0), (1, 240, 0), (0, 0, 0), (0, 1, 0), (0, 3, 0), (1, 8, 0), (1, 8, 0), (1, 8, 0), (1, 8, 0), (1, 8, 0), (1, 8, 0), (1, 24, 0), (1, 16, 0), (1, 240, 0), (0, 2, 0), (1, 12, 0), (1, 12, 0), (1, 12, 0), (1, 400, 0), (1, 10, 0), (1, 32, 0), (1, 8, 0), (0, 3, 0), (1, 8, 0), (1, 8, 0), (1, 8, 0), (1, 8, 0), (1, 8, 0), (1, 8, 0), (0, 7, 0), (4, 8, 7), (1, 7, 0), (1, 7, 0), (1, 7, 0), (1, 7, 0), (1, 7, 0), (1, 7, 0), (1, 7, 0), (1, 7, 0), (1, 7, 0), (4, 9, 161), (1, 161, 0), (1, 161, 0), (1, 161, 0), (1, 161, 0), (1, 161, 0), (1, 161, 0), (1, 161, 0), (1, 161, 0), (1, 161, 0), (0, 5, 0), (4, 8, 8), (1, 8, 0), (1, 8, 0), (1, 8, 0), (1, 8, 0), (1, 8, 0), (1, 8, 0), (1, 8, 0), (1, 8, 0), (1, 256, 0), (9, 0, 0), (9, 0, 0), (9, 0, 0), (9, 0, 0), (9, 0, 0), (9, 0, 0), (9, 0, 0), (9, 0, 0), (9, 0, 0), (9, 0, 0), (9, 0, 0), (9, 0, 0), (9, 0, 0), (6, 1, 0)]
def kml : List mK := [(0, 10, 0), (1, 750, 0), (1, 750, 0), (1, 750, 0), (1, 350, 0), (1, 4200, 0), (1, 400, 0), (1, 8, 0), (1, 56, 0), (1, 1449, 0), (1, 64, 0), (2, 32, 0), (1, 8, 0)]
def KX (r : Nat) : mK := kxl.getD r (9, 0, 0)
def KM (r : Nat) : mK := kml.getD r (9, 0, 0)
def tkN : List String := ["END", "NUMBER", "OTHER", "SEMICOLON", "OPEN", "CLOSE", "PLUS", "LESS", "MORE", "SOAP", "WATER", "ROUGH", "TAKES", "PART", "GREY", "THIN", "WET", "STAINS", "WIND", "DAMP", "NIGHT", "DUE", "LIGHT", "SPRING", "WOLVES", "THIEVES", "SHINE", "DULL", "DRY", "SOIL", "IF", "OR", "AND", "NOT", "FULL", "HUNG"]
def tkT : List Int32 := [-1, -1, -1, -1, -1, -1, -1, -1, -1, -1, -1, -1, -1, 1000, 1001, 1002, 1003, 1004, 1005, 1006, 1007, -1, -1, -1, -1, -1, -1, -1, -1, -1, -1, -1, -1, -1, -1, -1]
def tkS : List Nat := [0, 0, 0, 1, 2, 3, 4, 5, 6, 7, 8, 9, 10, 11, 12, 13, 14, 15, 16, 17, 18, 19, 20, 21, 22, 23, 24, 25, 26, 27, 28, 29, 30, 31, 32, 33]
def lenJS : List Nat := [0, 1, 1, 1, 1, 1, 1, 4, 5, 5, 5, 4, 4, 4, 3, 6, 4, 4, 5, 3, 5, 6, 6, 7, 5, 4, 3, 4, 2, 2, 3, 3, 4, 4]
def bytJS : List (List Int32) := [[], [59], [40], [41], [43], [60], [62], [115, 111, 97, 112], [119, 97, 116, 101, 114], [114, 111, 117, 103, 104], [116, 97, 107, 101, 115], [112, 97, 114, 116], [103, 114, 101, 121], [116, 104, 105, 110], [119, 101, 116], [115, 116, 97, 105, 110, 115], [119, 105, 110, 100], [100, 97, 109, 112], [110, 105, 103, 104, 116], [100, 117, 101], [108, 105, 103, 104, 116], [115, 112, 114, 105, 110, 103], [119, 111, 108, 118, 101, 115], [116, 104, 105, 101, 118, 101, 115], [115, 104, 105, 110, 101], [100, 117, 108, 108], [100, 114, 121], [115, 111, 105, 108], [105, 102], [111, 114], [97, 110, 100], [110, 111, 116], [102, 117, 108, 108], [104, 117, 110, 103]]
def nJS : Nat := 34
theorem getD_big (l : List mK) {r : Nat} {t : mK} (h : l.getD r (9, 0, 0) = t) (h9 : t.1 ≠ 9) : r < l.length := Nat.lt_of_not_le fun q => h9 (by rw [← h, List.getD_eq_getElem?_getD, List.getElem?_eq_none q]; rfl)
theorem KX_lt {r : Nat} {t : mK} (h : KX r = t) (h9 : t.1 ≠ 9) : r < 251 := getD_big kxl h h9
theorem KM_lt {r : Nat} {t : mK} (h : KM r = t) (h9 : t.1 ≠ 9) : r < 13 := getD_big kml h h9
theorem ptr_ok {q c : Nat} (h : KX q = (0, c, 0)) : okI (q : Int) := by have := KX_lt h (by decide : (0 : Nat) ≠ 9); unfold okI; omega
theorem ka_0_0 : ∀ r, r < 251 → KX r = (0, 0, 0) → KX (r + 1) = (0, 1, 0) := by decide +kernel
theorem k_0_0 {r : Nat} (h : KX r = (0, 0, 0)) : KX (r + 1) = (0, 1, 0) := ka_0_0 r (KX_lt h (by decide : (0 : Nat) ≠ 9)) h
theorem ka_0_1 : ∀ r, r < 251 → KX r = (0, 0, 0) → KX (r + 12) = (0, 2, 0) := by decide +kernel
theorem k_0_1 {r : Nat} (h : KX r = (0, 0, 0)) : KX (r + 12) = (0, 2, 0) := ka_0_1 r (KX_lt h (by decide : (0 : Nat) ≠ 9)) h
theorem ka_0_2 : ∀ r, r < 251 → KX r = (0, 0, 0) → KX (r + 19) = (1, 8, 0) := by decide +kernel
theorem k_0_2 {r : Nat} (h : KX r = (0, 0, 0)) : KX (r + 19) = (1, 8, 0) := ka_0_2 r (KX_lt h (by decide : (0 : Nat) ≠ 9)) h
theorem ka_1_0 : ∀ r, r < 251 → KX r = (0, 1, 0) → KX (r + 1) = (0, 3, 0) := by decide +kernel
theorem k_1_0 {r : Nat} (h : KX r = (0, 1, 0)) : KX (r + 1) = (0, 3, 0) := ka_1_0 r (KX_lt h (by decide : (0 : Nat) ≠ 9)) h
theorem ka_1_1 : ∀ r, r < 251 → KX r = (0, 1, 0) → KX (r + 8) = (1, 24, 0) := by decide +kernel
theorem k_1_1 {r : Nat} (h : KX r = (0, 1, 0)) : KX (r + 8) = (1, 24, 0) := ka_1_1 r (KX_lt h (by decide : (0 : Nat) ≠ 9)) h
theorem ka_1_3 : ∀ r, r < 251 → KX r = (0, 1, 0) → KX (r + 9) = (1, 16, 0) := by decide +kernel
theorem k_1_3 {r : Nat} (h : KX r = (0, 1, 0)) : KX (r + 9) = (1, 16, 0) := ka_1_3 r (KX_lt h (by decide : (0 : Nat) ≠ 9)) h
theorem ka_1_11 : ∀ r, r < 251 → KX r = (0, 1, 0) → KX (r + 10) = (1, 240, 0) := by decide +kernel
theorem k_1_11 {r : Nat} (h : KX r = (0, 1, 0)) : KX (r + 10) = (1, 240, 0) := ka_1_11 r (KX_lt h (by decide : (0 : Nat) ≠ 9)) h
theorem ka_2_1 : ∀ r, r < 251 → KX r = (0, 2, 0) → KX (r + 1) = (1, 12, 0) := by decide +kernel
theorem k_2_1 {r : Nat} (h : KX r = (0, 2, 0)) : KX (r + 1) = (1, 12, 0) := ka_2_1 r (KX_lt h (by decide : (0 : Nat) ≠ 9)) h
theorem ka_2_2 : ∀ r, r < 251 → KX r = (0, 2, 0) → KX (r + 2) = (1, 12, 0) := by decide +kernel
theorem k_2_2 {r : Nat} (h : KX r = (0, 2, 0)) : KX (r + 2) = (1, 12, 0) := ka_2_2 r (KX_lt h (by decide : (0 : Nat) ≠ 9)) h
theorem ka_2_3 : ∀ r, r < 251 → KX r = (0, 2, 0) → KX (r + 3) = (1, 12, 0) := by decide +kernel
theorem k_2_3 {r : Nat} (h : KX r = (0, 2, 0)) : KX (r + 3) = (1, 12, 0) := ka_2_3 r (KX_lt h (by decide : (0 : Nat) ≠ 9)) h
theorem ka_2_4 : ∀ r, r < 251 → KX r = (0, 2, 0) → KX (r + 4) = (1, 400, 0) := by decide +kernel
theorem k_2_4 {r : Nat} (h : KX r = (0, 2, 0)) : KX (r + 4) = (1, 400, 0) := ka_2_4 r (KX_lt h (by decide : (0 : Nat) ≠ 9)) h
theorem ka_2_6 : ∀ r, r < 251 → KX r = (0, 2, 0) → KX (r + 5) = (1, 10, 0) := by decide +kernel
theorem k_2_6 {r : Nat} (h : KX r = (0, 2, 0)) : KX (r + 5) = (1, 10, 0) := ka_2_6 r (KX_lt h (by decide : (0 : Nat) ≠ 9)) h
theorem ka_2_7 : ∀ r, r < 251 → KX r = (0, 2, 0) → KX (r + 6) = (1, 32, 0) := by decide +kernel
theorem k_2_7 {r : Nat} (h : KX r = (0, 2, 0)) : KX (r + 6) = (1, 32, 0) := ka_2_7 r (KX_lt h (by decide : (0 : Nat) ≠ 9)) h
theorem ka_3_0 : ∀ r, r < 251 → KX r = (0, 3, 0) → KX (r + 1) = (1, 8, 0) := by decide +kernel
theorem k_3_0 {r : Nat} (h : KX r = (0, 3, 0)) : KX (r + 1) = (1, 8, 0) := ka_3_0 r (KX_lt h (by decide : (0 : Nat) ≠ 9)) h
theorem ka_3_1 : ∀ r, r < 251 → KX r = (0, 3, 0) → KX (r + 2) = (1, 8, 0) := by decide +kernel
theorem k_3_1 {r : Nat} (h : KX r = (0, 3, 0)) : KX (r + 2) = (1, 8, 0) := ka_3_1 r (KX_lt h (by decide : (0 : Nat) ≠ 9)) h
theorem ka_3_2 : ∀ r, r < 251 → KX r = (0, 3, 0) → KX (r + 3) = (1, 8, 0) := by decide +kernel
theorem k_3_2 {r : Nat} (h : KX r = (0, 3, 0)) : KX (r + 3) = (1, 8, 0) := ka_3_2 r (KX_lt h (by decide : (0 : Nat) ≠ 9)) h
theorem ka_3_3 : ∀ r, r < 251 → KX r = (0, 3, 0) → KX (r + 4) = (1, 8, 0) := by decide +kernel
theorem k_3_3 {r : Nat} (h : KX r = (0, 3, 0)) : KX (r + 4) = (1, 8, 0) := ka_3_3 r (KX_lt h (by decide : (0 : Nat) ≠ 9)) h
theorem ka_3_4 : ∀ r, r < 251 → KX r = (0, 3, 0) → KX (r + 5) = (1, 8, 0) := by decide +kernel
theorem k_3_4 {r : Nat} (h : KX r = (0, 3, 0)) : KX (r + 5) = (1, 8, 0) := ka_3_4 r (KX_lt h (by decide : (0 : Nat) ≠ 9)) h
theorem ka_3_5 : ∀ r, r < 251 → KX r = (0, 3, 0) → KX (r + 6) = (1, 8, 0) := by decide +kernel
theorem k_3_5 {r : Nat} (h : KX r = (0, 3, 0)) : KX (r + 6) = (1, 8, 0) := ka_3_5 r (KX_lt h (by decide : (0 : Nat) ≠ 9)) h
theorem ka_4_0 : ∀ r, r < 251 → KX r = (0, 4, 0) → KX (r + 1) = (3, 12, 0) := by decide +kernel
theorem k_4_0 {r : Nat} (h : KX r = (0, 4, 0)) : KX (r + 1) = (3, 12, 0) := ka_4_0 r (KX_lt h (by decide : (0 : Nat) ≠ 9)) h
theorem ka_5_0 : ∀ r, r < 251 → KX r = (0, 5, 0) → KX (r + 1) = (4, 8, 8) := by decide +kernel
theorem k_5_0 {r : Nat} (h : KX r = (0, 5, 0)) : KX (r + 1) = (4, 8, 8) := ka_5_0 r (KX_lt h (by decide : (0 : Nat) ≠ 9)) h
theorem ka_5_1 : ∀ r, r < 251 → KX r = (0, 5, 0) → KX (r + 10) = (1, 256, 0) := by decide +kernel
theorem k_5_1 {r : Nat} (h : KX r = (0, 5, 0)) : KX (r + 10) = (1, 256, 0) := ka_5_1 r (KX_lt h (by decide : (0 : Nat) ≠ 9)) h
theorem ka_7_0 : ∀ r, r < 251 → KX r = (0, 7, 0) → KX (r + 1) = (4, 8, 7) := by decide +kernel
theorem k_7_0 {r : Nat} (h : KX r = (0, 7, 0)) : KX (r + 1) = (4, 8, 7) := ka_7_0 r (KX_lt h (by decide : (0 : Nat) ≠ 9)) h
theorem ka_7_1 : ∀ r, r < 251 → KX r = (0, 7, 0) → KX (r + 10) = (1, 7, 0) := by decide +kernel
theorem k_7_1 {r : Nat} (h : KX r = (0, 7, 0)) : KX (r + 10) = (1, 7, 0) := ka_7_1 r (KX_lt h (by decide : (0 : Nat) ≠ 9)) h
theorem ka_7_3 : ∀ r, r < 251 → KX r = (0, 7, 0) → KX (r + 11) = (4, 9, 161) := by decide +kernel
theorem k_7_3 {r : Nat} (h : KX r = (0, 7, 0)) : KX (r + 11) = (4, 9, 161) := ka_7_3 r (KX_lt h (by decide : (0 : Nat) ≠ 9)) h
theorem ka_8_0 : ∀ r, r < 251 → KX r = (0, 8, 0) → KX (r + 1) = (1, 400, 0) := by decide +kernel
theorem k_8_0 {r : Nat} (h : KX r = (0, 8, 0)) : KX (r + 1) = (1, 400, 0) := ka_8_0 r (KX_lt h (by decide : (0 : Nat) ≠ 9)) h
theorem ka_8_1 : ∀ r, r < 251 → KX r = (0, 8, 0) → KX (r + 2) = (5, 401, 0) := by decide +kernel
theorem k_8_1 {r : Nat} (h : KX r = (0, 8, 0)) : KX (r + 2) = (5, 401, 0) := ka_8_1 r (KX_lt h (by decide : (0 : Nat) ≠ 9)) h
theorem ka_8_2 : ∀ r, r < 251 → KX r = (0, 8, 0) → KX (r + 3) = (1, 401, 0) := by decide +kernel
theorem k_8_2 {r : Nat} (h : KX r = (0, 8, 0)) : KX (r + 3) = (1, 401, 0) := ka_8_2 r (KX_lt h (by decide : (0 : Nat) ≠ 9)) h
theorem ka_8_3 : ∀ r, r < 251 → KX r = (0, 8, 0) → KX (r + 4) = (1, 401, 0) := by decide +kernel
theorem k_8_3 {r : Nat} (h : KX r = (0, 8, 0)) : KX (r + 4) = (1, 401, 0) := ka_8_3 r (KX_lt h (by decide : (0 : Nat) ≠ 9)) h
theorem ka_8_4 : ∀ r, r < 251 → KX r = (0, 8, 0) → KX (r + 5) = (1, 401, 0) := by decide +kernel
theorem k_8_4 {r : Nat} (h : KX r = (0, 8, 0)) : KX (r + 5) = (1, 401, 0) := ka_8_4 r (KX_lt h (by decide : (0 : Nat) ≠ 9)) h
theorem ka_9_0 : ∀ r, r < 251 → KX r = (0, 9, 0) → KX (r + 1) = (1, 400, 0) := by decide +kernel
theorem k_9_0 {r : Nat} (h : KX r = (0, 9, 0)) : KX (r + 1) = (1, 400, 0) := ka_9_0 r (KX_lt h (by decide : (0 : Nat) ≠ 9)) h
theorem ka_9_7 : ∀ r, r < 251 → KX r = (0, 9, 0) → KX (r + 38) = (0, 8, 0) := by decide +kernel
theorem k_9_7 {r : Nat} (h : KX r = (0, 9, 0)) : KX (r + 38) = (0, 8, 0) := ka_9_7 r (KX_lt h (by decide : (0 : Nat) ≠ 9)) h
theorem ka_9_8 : ∀ r, r < 251 → KX r = (0, 9, 0) → KX (r + 44) = (0, 4, 0) := by decide +kernel
theorem k_9_8 {r : Nat} (h : KX r = (0, 9, 0)) : KX (r + 44) = (0, 4, 0) := ka_9_8 r (KX_lt h (by decide : (0 : Nat) ≠ 9)) h
theorem ka_9_9 : ∀ r, r < 251 → KX r = (0, 9, 0) → KX (r + 178) = (0, 0, 0) := by decide +kernel
theorem k_9_9 {r : Nat} (h : KX r = (0, 9, 0)) : KX (r + 178) = (0, 0, 0) := ka_9_9 r (KX_lt h (by decide : (0 : Nat) ≠ 9)) h
theorem ka_9_10 : ∀ r, r < 251 → KX r = (0, 9, 0) → KX (r + 198) = (0, 3, 0) := by decide +kernel
theorem k_9_10 {r : Nat} (h : KX r = (0, 9, 0)) : KX (r + 198) = (0, 3, 0) := ka_9_10 r (KX_lt h (by decide : (0 : Nat) ≠ 9)) h
theorem ka_9_11 : ∀ r, r < 251 → KX r = (0, 9, 0) → KX (r + 205) = (0, 7, 0) := by decide +kernel
theorem k_9_11 {r : Nat} (h : KX r = (0, 9, 0)) : KX (r + 205) = (0, 7, 0) := ka_9_11 r (KX_lt h (by decide : (0 : Nat) ≠ 9)) h
theorem ka_9_12 : ∀ r, r < 251 → KX r = (0, 9, 0) → KX (r + 226) = (0, 5, 0) := by decide +kernel
theorem k_9_12 {r : Nat} (h : KX r = (0, 9, 0)) : KX (r + 226) = (0, 5, 0) := ka_9_12 r (KX_lt h (by decide : (0 : Nat) ≠ 9)) h
theorem ka_10_1 : ∀ r, r < 13 → KM r = (0, 10, 0) → KM (r + 1) = (1, 750, 0) := by decide +kernel
theorem k_10_1 {r : Nat} (h : KM r = (0, 10, 0)) : KM (r + 1) = (1, 750, 0) := ka_10_1 r (KM_lt h (by decide : (0 : Nat) ≠ 9)) h
theorem ka_10_2 : ∀ r, r < 13 → KM r = (0, 10, 0) → KM (r + 2) = (1, 750, 0) := by decide +kernel
theorem k_10_2 {r : Nat} (h : KM r = (0, 10, 0)) : KM (r + 2) = (1, 750, 0) := ka_10_2 r (KM_lt h (by decide : (0 : Nat) ≠ 9)) h
theorem ka_10_3 : ∀ r, r < 13 → KM r = (0, 10, 0) → KM (r + 3) = (1, 750, 0) := by decide +kernel
theorem k_10_3 {r : Nat} (h : KM r = (0, 10, 0)) : KM (r + 3) = (1, 750, 0) := ka_10_3 r (KM_lt h (by decide : (0 : Nat) ≠ 9)) h
theorem ka_10_5 : ∀ r, r < 13 → KM r = (0, 10, 0) → KM (r + 4) = (1, 350, 0) := by decide +kernel
theorem k_10_5 {r : Nat} (h : KM r = (0, 10, 0)) : KM (r + 4) = (1, 350, 0) := ka_10_5 r (KM_lt h (by decide : (0 : Nat) ≠ 9)) h
theorem ka_10_6 : ∀ r, r < 13 → KM r = (0, 10, 0) → KM (r + 5) = (1, 4200, 0) := by decide +kernel
theorem k_10_6 {r : Nat} (h : KM r = (0, 10, 0)) : KM (r + 5) = (1, 4200, 0) := ka_10_6 r (KM_lt h (by decide : (0 : Nat) ≠ 9)) h
theorem ka_10_8 : ∀ r, r < 13 → KM r = (0, 10, 0) → KM (r + 6) = (1, 400, 0) := by decide +kernel
theorem k_10_8 {r : Nat} (h : KM r = (0, 10, 0)) : KM (r + 6) = (1, 400, 0) := ka_10_8 r (KM_lt h (by decide : (0 : Nat) ≠ 9)) h
theorem ka_10_15 : ∀ r, r < 13 → KM r = (0, 10, 0) → KM (r + 7) = (1, 8, 0) := by decide +kernel
theorem k_10_15 {r : Nat} (h : KM r = (0, 10, 0)) : KM (r + 7) = (1, 8, 0) := ka_10_15 r (KM_lt h (by decide : (0 : Nat) ≠ 9)) h
theorem ka_10_21 : ∀ r, r < 13 → KM r = (0, 10, 0) → KM (r + 8) = (1, 56, 0) := by decide +kernel
theorem k_10_21 {r : Nat} (h : KM r = (0, 10, 0)) : KM (r + 8) = (1, 56, 0) := ka_10_21 r (KM_lt h (by decide : (0 : Nat) ≠ 9)) h
theorem ka_10_22 : ∀ r, r < 13 → KM r = (0, 10, 0) → KM (r + 9) = (1, 1449, 0) := by decide +kernel
theorem k_10_22 {r : Nat} (h : KM r = (0, 10, 0)) : KM (r + 9) = (1, 1449, 0) := ka_10_22 r (KM_lt h (by decide : (0 : Nat) ≠ 9)) h
theorem ka_10_23 : ∀ r, r < 13 → KM r = (0, 10, 0) → KM (r + 10) = (1, 64, 0) := by decide +kernel
theorem k_10_23 {r : Nat} (h : KM r = (0, 10, 0)) : KM (r + 10) = (1, 64, 0) := ka_10_23 r (KM_lt h (by decide : (0 : Nat) ≠ 9)) h
theorem ka_10_24 : ∀ r, r < 13 → KM r = (0, 10, 0) → KM (r + 11) = (2, 32, 0) := by decide +kernel
theorem k_10_24 {r : Nat} (h : KM r = (0, 10, 0)) : KM (r + 11) = (2, 32, 0) := ka_10_24 r (KM_lt h (by decide : (0 : Nat) ≠ 9)) h
theorem ka_10_25 : ∀ r, r < 13 → KM r = (0, 10, 0) → KM (r + 12) = (1, 8, 0) := by decide +kernel
theorem k_10_25 {r : Nat} (h : KM r = (0, 10, 0)) : KM (r + 12) = (1, 8, 0) := ka_10_25 r (KM_lt h (by decide : (0 : Nat) ≠ 9)) h
theorem ka_rows : ∀ r, r < 251 → KX r = (3, 12, 0) → ∀ i, i < 12 → KX (r + 1 + 11 * i) = (0, 1, 0) := by decide +kernel
theorem k_rows {r : Nat} {i : Int} (h : KX r = (3, 12, 0)) (h0 : 0 ≤ i) (h1 : i < 12) : KX (r + 1 + 11 * i.toNat) = (0, 1, 0) := ka_rows r (KX_lt h (by decide : (3 : Nat) ≠ 9)) h _ (by omega)
theorem ka_grid : ∀ r, r < 251 → ∀ i, i < 9 → ((KX r).1 = 4 ∧ i < (KX r).2.1) → KX (r + 1 + i) = (1, (KX r).2.2, 0) := by decide +kernel
theorem ka_gr9 : ∀ r, r < 251 → (KX r).1 = 4 → (KX r).2.1 ≤ 9 := by decide +kernel
theorem k_grid {r n q : Nat} {i : Int} (h : KX r = (4, n, q)) (h0 : 0 ≤ i) (h1 : i < n) : KX (r + 1 + i.toNat) = (1, q, 0) := by
  have hr := KX_lt h (by show (4 : Nat) ≠ 9; decide)
  have h4 : (KX r).1 = 4 := by rw [h]
  have h5 := ka_gr9 r hr h4
  have h6 := ka_grid r hr i.toNat (by rw [h] at h5; dsimp only at h5; omega) ⟨h4, by rw [h]; dsimp only; omega⟩
  rw [h] at h6
  exact h6
