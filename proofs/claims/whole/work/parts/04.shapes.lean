def shXl : List Shp := [.inl (7, [some 53, some 55, some 1, some 56, some 60, some 64, some 68, some 69, some 70, none]), .inl (6, [none, some 2, some 3, some 4, none, some 5, some 6, some 7, some 8, none, some 9, some 10, some 11, none, none]), .inr (.inl (0, 6)), .inr (.inl (0, 6)), .inr (.inl (0, 6)), .inr (.inl (0, 6)), .inr (.inl (0, 6)), .inr (.inl (2, 6)), .inr (.inl (0, 6)), .inr (.inl (0, 10)), .inr (.inl (0, 10)), .inr (.inl (0, 10)), .inl (6, [none, some 13, some 14, some 15, none, some 16, some 17, some 18, some 19, none, some 20, some 21, some 22, none, none]), .inr (.inl (0, 6)), .inr (.inl (0, 6)), .inr (.inl (0, 6)), .inr (.inl (0, 6)), .inr (.inl (0, 6)), .inr (.inl (2, 6)), .inr (.inl (0, 6)), .inr (.inl (0, 10)), .inr (.inl (0, 10)), .inr (.inl (0, 10)), .inl (6, [none, some 24, some 25, some 26, none, some 27, some 28, some 29, some 30, none, some 31, some 32, some 33, none, none]), .inr (.inl (0, 6)), .inr (.inl (0, 6)), .inr (.inl (0, 6)), .inr (.inl (0, 6)), .inr (.inl (0, 6)), .inr (.inl (2, 6)), .inr (.inl (0, 6)), .inr (.inl (0, 10)), .inr (.inl (0, 10)), .inr (.inl (0, 10)), .inl (6, [none, some 35, some 36, some 37, none, some 38, some 39, some 40, some 41, none, some 42, some 43, some 44, none, none]), .inr (.inl (0, 6)), .inr (.inl (0, 6)), .inr (.inl (0, 6)), .inr (.inl (0, 6)), .inr (.inl (0, 6)), .inr (.inl (2, 6)), .inr (.inl (0, 6)), .inr (.inl (0, 10)), .inr (.inl (0, 10)), .inr (.inl (0, 10)), .inl (3, [some 46, none, none]), .inr (.inl (0, 40)), .inl (3, [some 48, none, none]), .inr (.inl (0, 40)), .inl (3, [some 50, none, none]), .inr (.inl (0, 40)), .inl (3, [some 52, none, none]), .inr (.inl (0, 40)), .inl (4, [some 54, none]), .inr (.inl (1, 320)), .inl (5, [some 12, none, none, none, some 53, none, none, none, none, none, none]), .inl (2, [none, some 57, some 58, some 1, some 59]), .inr (.inl (0, 6)), .inr (.inl (2, 6)), .inr (.inl (0, 12)), .inl (0, [none, some 61, some 1, some 62, some 63]), .inr (.inl (0, 6)), .inr (.inl (0, 6)), .inr (.inl (0, 6)), .inl (1, [none, none, some 65, some 66, some 67]), .inr (.inl (0, 64)), .inr (.inl (0, 8)), .inr (.inl (2, 8)), .inr (.inr (3, [23, 34])), .inr (.inl (2, 2)), .inr (.inr (4, [45, 47, 49, 51]))]
def shX (k : Nat) : Shp := shXl.getD k (.inr (.inl (0, 0)))
def shMl : List Shp := [.inl (8, [some 1, some 2, none, none, some 3, some 4, none, none, none, none, none, none, some 5, some 6, none, none, none, none, none, none, none, none, some 7, some 8, some 9, some 10, none, some 11, some 12, some 13, some 14, none, none, some 15, some 16, some 17, some 18, none]), .inr (.inl (0, 228)), .inr (.inl (0, 18)), .inr (.inl (0, 57)), .inr (.inl (0, 18)), .inr (.inl (0, 6)), .inr (.inl (0, 320)), .inr (.inl (0, 13)), .inr (.inl (0, 56)), .inr (.inl (0, 12)), .inr (.inl (0, 12)), .inr (.inl (0, 6)), .inr (.inl (0, 6)), .inr (.inl (0, 100)), .inr (.inl (0, 16)), .inr (.inl (2, 2)), .inr (.inl (0, 4)), .inr (.inl (0, 4)), .inr (.inl (0, 160))]
def shM (k : Nat) : Shp := shMl.getD k (.inr (.inl (0, 0)))
theorem sX0 : shX 0 = .inl (7, [some 53, some 55, some 1, some 56, some 60, some 64, some 68, some 69, some 70, none]) := rfl
theorem lX0 : 0 < 71 := by decide
theorem sX1 : shX 1 = .inl (6, [none, some 2, some 3, some 4, none, some 5, some 6, some 7, some 8, none, some 9, some 10, some 11, none, none]) := rfl
theorem lX1 : 1 < 71 := by decide
theorem sX2 : shX 2 = .inr (.inl (0, 6)) := rfl
theorem lX2 : 2 < 71 := by decide
theorem sX3 : shX 3 = .inr (.inl (0, 6)) := rfl
theorem lX3 : 3 < 71 := by decide
theorem sX4 : shX 4 = .inr (.inl (0, 6)) := rfl
theorem lX4 : 4 < 71 := by decide
theorem sX5 : shX 5 = .inr (.inl (0, 6)) := rfl
theorem lX5 : 5 < 71 := by decide
theorem sX6 : shX 6 = .inr (.inl (0, 6)) := rfl
theorem lX6 : 6 < 71 := by decide
theorem sX7 : shX 7 = .inr (.inl (2, 6)) := rfl
theorem lX7 : 7 < 71 := by decide
theorem sX8 : shX 8 = .inr (.inl (0, 6)) := rfl
theorem lX8 : 8 < 71 := by decide
theorem sX9 : shX 9 = .inr (.inl (0, 10)) := rfl
theorem lX9 : 9 < 71 := by decide
theorem sX10 : shX 10 = .inr (.inl (0, 10)) := rfl
theorem lX10 : 10 < 71 := by decide
theorem sX11 : shX 11 = .inr (.inl (0, 10)) := rfl
theorem lX11 : 11 < 71 := by decide
theorem sX12 : shX 12 = .inl (6, [none, some 13, some 14, some 15, none, some 16, some 17, some 18, some 19, none, some 20, some 21, some 22, none, none]) := rfl
theorem lX12 : 12 < 71 := by decide
theorem sX13 : shX 13 = .inr (.inl (0, 6)) := rfl
theorem lX13 : 13 < 71 := by decide
theorem sX14 : shX 14 = .inr (.inl (0, 6)) := rfl
theorem lX14 : 14 < 71 := by decide
theorem sX15 : shX 15 = .inr (.inl (0, 6)) := rfl
theorem lX15 : 15 < 71 := by decide
theorem sX16 : shX 16 = .inr (.inl (0, 6)) := rfl
theorem lX16 : 16 < 71 := by decide
theorem sX17 : shX 17 = .inr (.inl (0, 6)) := rfl
theorem lX17 : 17 < 71 := by decide
theorem sX18 : shX 18 = .inr (.inl (2, 6)) := rfl
theorem lX18 : 18 < 71 := by decide
theorem sX19 : shX 19 = .inr (.inl (0, 6)) := rfl
theorem lX19 : 19 < 71 := by decide
theorem sX20 : shX 20 = .inr (.inl (0, 10)) := rfl
theorem lX20 : 20 < 71 := by decide
theorem sX21 : shX 21 = .inr (.inl (0, 10)) := rfl
theorem lX21 : 21 < 71 := by decide
theorem sX22 : shX 22 = .inr (.inl (0, 10)) := rfl
theorem lX22 : 22 < 71 := by decide
theorem sX23 : shX 23 = .inl (6, [none, some 24, some 25, some 26, none, some 27, some 28, some 29, some 30, none, some 31, some 32, some 33, none, none]) := rfl
theorem lX23 : 23 < 71 := by decide
theorem sX24 : shX 24 = .inr (.inl (0, 6)) := rfl
theorem lX24 : 24 < 71 := by decide
theorem sX25 : shX 25 = .inr (.inl (0, 6)) := rfl
theorem lX25 : 25 < 71 := by decide
theorem sX26 : shX 26 = .inr (.inl (0, 6)) := rfl
theorem lX26 : 26 < 71 := by decide
theorem sX27 : shX 27 = .inr (.inl (0, 6)) := rfl
theorem lX27 : 27 < 71 := by decide
theorem sX28 : shX 28 = .inr (.inl (0, 6)) := rfl
theorem lX28 : 28 < 71 := by decide
theorem sX29 : shX 29 = .inr (.inl (2, 6)) := rfl
theorem lX29 : 29 < 71 := by decide
theorem sX30 : shX 30 = .inr (.inl (0, 6)) := rfl
theorem lX30 : 30 < 71 := by decide
theorem sX31 : shX 31 = .inr (.inl (0, 10)) := rfl
theorem lX31 : 31 < 71 := by decide
theorem sX32 : shX 32 = .inr (.inl (0, 10)) := rfl
theorem lX32 : 32 < 71 := by decide
theorem sX33 : shX 33 = .inr (.inl (0, 10)) := rfl
theorem lX33 : 33 < 71 := by decide
theorem sX34 : shX 34 = .inl (6, [none, some 35, some 36, some 37, none, some 38, some 39, some 40, some 41, none, some 42, some 43, some 44, none, none]) := rfl
theorem lX34 : 34 < 71 := by decide
theorem sX35 : shX 35 = .inr (.inl (0, 6)) := rfl
theorem lX35 : 35 < 71 := by decide
theorem sX36 : shX 36 = .inr (.inl (0, 6)) := rfl
theorem lX36 : 36 < 71 := by decide
theorem sX37 : shX 37 = .inr (.inl (0, 6)) := rfl
theorem lX37 : 37 < 71 := by decide
theorem sX38 : shX 38 = .inr (.inl (0, 6)) := rfl
theorem lX38 : 38 < 71 := by decide
theorem sX39 : shX 39 = .inr (.inl (0, 6)) := rfl
theorem lX39 : 39 < 71 := by decide
theorem sX40 : shX 40 = .inr (.inl (2, 6)) := rfl
theorem lX40 : 40 < 71 := by decide
theorem sX41 : shX 41 = .inr (.inl (0, 6)) := rfl
theorem lX41 : 41 < 71 := by decide
theorem sX42 : shX 42 = .inr (.inl (0, 10)) := rfl
theorem lX42 : 42 < 71 := by decide
theorem sX43 : shX 43 = .inr (.inl (0, 10)) := rfl
theorem lX43 : 43 < 71 := by decide
theorem sX44 : shX 44 = .inr (.inl (0, 10)) := rfl
theorem lX44 : 44 < 71 := by decide
theorem sX45 : shX 45 = .inl (3, [some 46, none, none]) := rfl
theorem lX45 : 45 < 71 := by decide
theorem sX46 : shX 46 = .inr (.inl (0, 40)) := rfl
theorem lX46 : 46 < 71 := by decide
theorem sX47 : shX 47 = .inl (3, [some 48, none, none]) := rfl
theorem lX47 : 47 < 71 := by decide
theorem sX48 : shX 48 = .inr (.inl (0, 40)) := rfl
theorem lX48 : 48 < 71 := by decide
theorem sX49 : shX 49 = .inl (3, [some 50, none, none]) := rfl
theorem lX49 : 49 < 71 := by decide
theorem sX50 : shX 50 = .inr (.inl (0, 40)) := rfl
theorem lX50 : 50 < 71 := by decide
theorem sX51 : shX 51 = .inl (3, [some 52, none, none]) := rfl
theorem lX51 : 51 < 71 := by decide
theorem sX52 : shX 52 = .inr (.inl (0, 40)) := rfl
theorem lX52 : 52 < 71 := by decide
theorem sX53 : shX 53 = .inl (4, [some 54, none]) := rfl
theorem lX53 : 53 < 71 := by decide
theorem sX54 : shX 54 = .inr (.inl (1, 320)) := rfl
theorem lX54 : 54 < 71 := by decide
theorem sX55 : shX 55 = .inl (5, [some 12, none, none, none, some 53, none, none, none, none, none, none]) := rfl
theorem lX55 : 55 < 71 := by decide
theorem sX56 : shX 56 = .inl (2, [none, some 57, some 58, some 1, some 59]) := rfl
theorem lX56 : 56 < 71 := by decide
theorem sX57 : shX 57 = .inr (.inl (0, 6)) := rfl
theorem lX57 : 57 < 71 := by decide
theorem sX58 : shX 58 = .inr (.inl (2, 6)) := rfl
theorem lX58 : 58 < 71 := by decide
theorem sX59 : shX 59 = .inr (.inl (0, 12)) := rfl
theorem lX59 : 59 < 71 := by decide
theorem sX60 : shX 60 = .inl (0, [none, some 61, some 1, some 62, some 63]) := rfl
theorem lX60 : 60 < 71 := by decide
theorem sX61 : shX 61 = .inr (.inl (0, 6)) := rfl
theorem lX61 : 61 < 71 := by decide
theorem sX62 : shX 62 = .inr (.inl (0, 6)) := rfl
theorem lX62 : 62 < 71 := by decide
theorem sX63 : shX 63 = .inr (.inl (0, 6)) := rfl
theorem lX63 : 63 < 71 := by decide
theorem sX64 : shX 64 = .inl (1, [none, none, some 65, some 66, some 67]) := rfl
theorem lX64 : 64 < 71 := by decide
theorem sX65 : shX 65 = .inr (.inl (0, 64)) := rfl
theorem lX65 : 65 < 71 := by decide
theorem sX66 : shX 66 = .inr (.inl (0, 8)) := rfl
theorem lX66 : 66 < 71 := by decide
theorem sX67 : shX 67 = .inr (.inl (2, 8)) := rfl
theorem lX67 : 67 < 71 := by decide
theorem sX68 : shX 68 = .inr (.inr (3, [23, 34])) := rfl
theorem lX68 : 68 < 71 := by decide
theorem sX69 : shX 69 = .inr (.inl (2, 2)) := rfl
theorem lX69 : 69 < 71 := by decide
theorem sX70 : shX 70 = .inr (.inr (4, [45, 47, 49, 51])) := rfl
theorem lX70 : 70 < 71 := by decide
theorem sM0 : shM 0 = .inl (8, [some 1, some 2, none, none, some 3, some 4, none, none, none, none, none, none, some 5, some 6, none, none, none, none, none, none, none, none, some 7, some 8, some 9, some 10, none, some 11, some 12, some 13, some 14, none, none, some 15, some 16, some 17, some 18, none]) := rfl
theorem lM0 : 0 < 19 := by decide
theorem sM1 : shM 1 = .inr (.inl (0, 228)) := rfl
theorem lM1 : 1 < 19 := by decide
theorem sM2 : shM 2 = .inr (.inl (0, 18)) := rfl
theorem lM2 : 2 < 19 := by decide
theorem sM3 : shM 3 = .inr (.inl (0, 57)) := rfl
theorem lM3 : 3 < 19 := by decide
theorem sM4 : shM 4 = .inr (.inl (0, 18)) := rfl
theorem lM4 : 4 < 19 := by decide
theorem sM5 : shM 5 = .inr (.inl (0, 6)) := rfl
theorem lM5 : 5 < 19 := by decide
theorem sM6 : shM 6 = .inr (.inl (0, 320)) := rfl
theorem lM6 : 6 < 19 := by decide
theorem sM7 : shM 7 = .inr (.inl (0, 13)) := rfl
theorem lM7 : 7 < 19 := by decide
theorem sM8 : shM 8 = .inr (.inl (0, 56)) := rfl
theorem lM8 : 8 < 19 := by decide
theorem sM9 : shM 9 = .inr (.inl (0, 12)) := rfl
theorem lM9 : 9 < 19 := by decide
theorem sM10 : shM 10 = .inr (.inl (0, 12)) := rfl
theorem lM10 : 10 < 19 := by decide
theorem sM11 : shM 11 = .inr (.inl (0, 6)) := rfl
theorem lM11 : 11 < 19 := by decide
theorem sM12 : shM 12 = .inr (.inl (0, 6)) := rfl
theorem lM12 : 12 < 19 := by decide
theorem sM13 : shM 13 = .inr (.inl (0, 100)) := rfl
theorem lM13 : 13 < 19 := by decide
theorem sM14 : shM 14 = .inr (.inl (0, 16)) := rfl
theorem lM14 : 14 < 19 := by decide
theorem sM15 : shM 15 = .inr (.inl (2, 2)) := rfl
theorem lM15 : 15 < 19 := by decide
theorem sM16 : shM 16 = .inr (.inl (0, 4)) := rfl
theorem lM16 : 16 < 19 := by decide
theorem sM17 : shM 17 = .inr (.inl (0, 4)) := rfl
theorem lM17 : 17 < 19 := by decide
theorem sM18 : shM 18 = .inr (.inl (0, 160)) := rfl
theorem lM18 : 18 < 19 := by decide
def isTown (b : Nat) : Prop := b = 1 ∨ b = 12 ∨ b = 23 ∨ b = 34
def isSheetB (b : Nat) : Prop := b = 45 ∨ b = 47 ∨ b = 49 ∨ b = 51
theorem isT_1 : isTown 1 := Or.inl rfl
theorem isT_12 : isTown 12 := Or.inr (Or.inl rfl)
theorem isT_23 : isTown 23 := Or.inr (Or.inr (Or.inl rfl))
theorem isT_34 : isTown 34 := Or.inr (Or.inr (Or.inr rfl))
theorem isS_45 : isSheetB 45 := Or.inl rfl
theorem isS_47 : isSheetB 47 := Or.inr (Or.inl rfl)
theorem isS_49 : isSheetB 49 := Or.inr (Or.inr (Or.inl rfl))
theorem isS_51 : isSheetB 51 := Or.inr (Or.inr (Or.inr rfl))
theorem isT_sh {b : Nat} (h : isTown b) : shX b = .inl (6, [none, some (b + 1), some (b + 2), some (b + 3), none, some (b + 4), some (b + 5), some (b + 6), some (b + 7), none, some (b + 8), some (b + 9), some (b + 10), none, none]) := by rcases h with rfl | rfl | rfl | rfl <;> rfl
theorem isT_lt {b : Nat} (h : isTown b) : b < 71 := by rcases h with rfl | rfl | rfl | rfl <;> decide
theorem isT_s1 {b : Nat} (h : isTown b) : shX (b + 1) = .inr (.inl (0, 6)) := by rcases h with rfl | rfl | rfl | rfl <;> rfl
theorem isT_l1 {b : Nat} (h : isTown b) : b + 1 < 71 := by rcases h with rfl | rfl | rfl | rfl <;> decide
theorem isT_s2 {b : Nat} (h : isTown b) : shX (b + 2) = .inr (.inl (0, 6)) := by rcases h with rfl | rfl | rfl | rfl <;> rfl
theorem isT_l2 {b : Nat} (h : isTown b) : b + 2 < 71 := by rcases h with rfl | rfl | rfl | rfl <;> decide
theorem isT_s3 {b : Nat} (h : isTown b) : shX (b + 3) = .inr (.inl (0, 6)) := by rcases h with rfl | rfl | rfl | rfl <;> rfl
theorem isT_l3 {b : Nat} (h : isTown b) : b + 3 < 71 := by rcases h with rfl | rfl | rfl | rfl <;> decide
theorem isT_s4 {b : Nat} (h : isTown b) : shX (b + 4) = .inr (.inl (0, 6)) := by rcases h with rfl | rfl | rfl | rfl <;> rfl
theorem isT_l4 {b : Nat} (h : isTown b) : b + 4 < 71 := by rcases h with rfl | rfl | rfl | rfl <;> decide
theorem isT_s5 {b : Nat} (h : isTown b) : shX (b + 5) = .inr (.inl (0, 6)) := by rcases h with rfl | rfl | rfl | rfl <;> rfl
theorem isT_l5 {b : Nat} (h : isTown b) : b + 5 < 71 := by rcases h with rfl | rfl | rfl | rfl <;> decide
theorem isT_s6 {b : Nat} (h : isTown b) : shX (b + 6) = .inr (.inl (2, 6)) := by rcases h with rfl | rfl | rfl | rfl <;> rfl
theorem isT_l6 {b : Nat} (h : isTown b) : b + 6 < 71 := by rcases h with rfl | rfl | rfl | rfl <;> decide
theorem isT_s7 {b : Nat} (h : isTown b) : shX (b + 7) = .inr (.inl (0, 6)) := by rcases h with rfl | rfl | rfl | rfl <;> rfl
theorem isT_l7 {b : Nat} (h : isTown b) : b + 7 < 71 := by rcases h with rfl | rfl | rfl | rfl <;> decide
theorem isT_s8 {b : Nat} (h : isTown b) : shX (b + 8) = .inr (.inl (0, 10)) := by rcases h with rfl | rfl | rfl | rfl <;> rfl
theorem isT_l8 {b : Nat} (h : isTown b) : b + 8 < 71 := by rcases h with rfl | rfl | rfl | rfl <;> decide
theorem isT_s9 {b : Nat} (h : isTown b) : shX (b + 9) = .inr (.inl (0, 10)) := by rcases h with rfl | rfl | rfl | rfl <;> rfl
theorem isT_l9 {b : Nat} (h : isTown b) : b + 9 < 71 := by rcases h with rfl | rfl | rfl | rfl <;> decide
theorem isT_s10 {b : Nat} (h : isTown b) : shX (b + 10) = .inr (.inl (0, 10)) := by rcases h with rfl | rfl | rfl | rfl <;> rfl
theorem isT_l10 {b : Nat} (h : isTown b) : b + 10 < 71 := by rcases h with rfl | rfl | rfl | rfl <;> decide
theorem isS_sh {b : Nat} (h : isSheetB b) : shX b = .inl (3, [some (b + 1), none, none]) := by rcases h with rfl | rfl | rfl | rfl <;> rfl
theorem isS_lt {b : Nat} (h : isSheetB b) : b < 71 := by rcases h with rfl | rfl | rfl | rfl <;> decide
theorem isS_s1 {b : Nat} (h : isSheetB b) : shX (b + 1) = .inr (.inl (0, 40)) := by rcases h with rfl | rfl | rfl | rfl <;> rfl
theorem isS_l1 {b : Nat} (h : isSheetB b) : b + 1 < 71 := by rcases h with rfl | rfl | rfl | rfl <;> decide
theorem isT_img {i : Int32} (h : ib i [23, 34].length = true) : isTown ([23, 34].getD i.toNatClampNeg 0) := by
  have hl : i.toNatClampNeg < 2 := Nat.not_le.mp fun q => (ib_in h) (Or.inr q)
  rcases (show i.toNatClampNeg = 0 ∨ i.toNatClampNeg = 1 by omega) with e | e <;> rw [e]
  · exact isT_23
  · exact isT_34
theorem isS_arr {i : Int32} (h : ib i [45, 47, 49, 51].length = true) : isSheetB ([45, 47, 49, 51].getD i.toNatClampNeg 0) := by
  have hl : i.toNatClampNeg < 4 := Nat.not_le.mp fun q => (ib_in h) (Or.inr q)
  rcases (show i.toNatClampNeg = 0 ∨ i.toNatClampNeg = 1 ∨ i.toNatClampNeg = 2 ∨ i.toNatClampNeg = 3 by omega) with e | e | e | e <;> rw [e]
  · exact isS_45
  · exact isS_47
  · exact isS_49
  · exact isS_51
def Nst : List (String × Nat × MethodName × String) := [(RX7, 9, yX4_init, "SilenceCoin"), (RX7, 50, yX1_init, "SilenceCoin"), (RX7, 69, yX3_init, "SilenceCoin"), (RX6, 99, yX7_hasBit, "SilenceCoin"), (RX6, 68, yX7_isHour, "SilenceCoin"), (RX2, 44, yX7_hasBit, "SilenceCoin"), (RX0, 25, yX7_hasBit, "SilenceCoin"), (RX0, 72, yX7_oneIf, "SilenceCoin"), (RX1, 29, yX7_allOf, "SilenceCoin"), (RX1, 42, yX7_oneIf, "SilenceCoin"), (RX6, 110, yX7_oneIf, "SilenceCoin")]
def NstOK (U : State) : Prop := ∀ q ∈ Nst, va_Nw (.methodLinkNest q.1 q.2.1 q.2.2.1 q.2.2.2) U
theorem nstAt {U : State} (h : NstOK U) (i : Nat) {a : String} {b : Nat} {c : MethodName} {d : String} (hi : Nst[i]? = some (a, b, c, d)) : va_Nw (.methodLinkNest a b c d) U := h (a, b, c, d) (List.mem_of_getElem? hi)
theorem in_r1 : ∀ q ∈ wsL_law_r1, q ∈ wsL_law := fun _ h => (List.mem_append_left _ (List.mem_append_left _ (List.mem_append_left _ (List.mem_append_left _ (List.mem_append_left _ (List.mem_append_left _ (List.mem_append_left _ (List.mem_append_left _ (List.mem_append_left _ (List.mem_append_left _ (List.mem_append_left _ h)))))))))))
theorem in_r2 : ∀ q ∈ wsL_law_r2, q ∈ wsL_law := fun _ h => (List.mem_append_left _ (List.mem_append_left _ (List.mem_append_left _ (List.mem_append_left _ (List.mem_append_left _ (List.mem_append_left _ (List.mem_append_left _ (List.mem_append_left _ (List.mem_append_left _ (List.mem_append_left _ (List.mem_append_right _ (List.mem_append_left _ h))))))))))))
theorem in_r3 : ∀ q ∈ wsL_law_r3, q ∈ wsL_law := fun _ h => (List.mem_append_left _ (List.mem_append_left _ (List.mem_append_left _ (List.mem_append_left _ (List.mem_append_left _ (List.mem_append_left _ (List.mem_append_left _ (List.mem_append_left _ (List.mem_append_left _ (List.mem_append_left _ (List.mem_append_right _ (List.mem_append_right _ (List.mem_append_left _ h)))))))))))))
theorem in_r4 : ∀ q ∈ wsL_law_r4, q ∈ wsL_law := fun _ h => (List.mem_append_left _ (List.mem_append_left _ (List.mem_append_left _ (List.mem_append_left _ (List.mem_append_left _ (List.mem_append_left _ (List.mem_append_left _ (List.mem_append_left _ (List.mem_append_left _ (List.mem_append_left _ (List.mem_append_right _ (List.mem_append_right _ (List.mem_append_right _ (List.mem_append_left _ h))))))))))))))
theorem in_r5 : ∀ q ∈ wsL_law_r5, q ∈ wsL_law := fun _ h => (List.mem_append_left _ (List.mem_append_left _ (List.mem_append_left _ (List.mem_append_left _ (List.mem_append_left _ (List.mem_append_left _ (List.mem_append_left _ (List.mem_append_left _ (List.mem_append_left _ (List.mem_append_left _ (List.mem_append_right _ (List.mem_append_right _ (List.mem_append_right _ (List.mem_append_right _ (List.mem_append_left _ h)))))))))))))))
theorem in_r6 : ∀ q ∈ wsL_law_r6, q ∈ wsL_law := fun _ h => (List.mem_append_left _ (List.mem_append_left _ (List.mem_append_left _ (List.mem_append_left _ (List.mem_append_left _ (List.mem_append_left _ (List.mem_append_left _ (List.mem_append_left _ (List.mem_append_left _ (List.mem_append_left _ (List.mem_append_right _ (List.mem_append_right _ (List.mem_append_right _ (List.mem_append_right _ (List.mem_append_right _ (List.mem_append_left _ h))))))))))))))))
theorem in_r7 : ∀ q ∈ wsL_law_r7, q ∈ wsL_law := fun _ h => (List.mem_append_left _ (List.mem_append_left _ (List.mem_append_left _ (List.mem_append_left _ (List.mem_append_left _ (List.mem_append_left _ (List.mem_append_left _ (List.mem_append_left _ (List.mem_append_left _ (List.mem_append_left _ (List.mem_append_right _ (List.mem_append_right _ (List.mem_append_right _ (List.mem_append_right _ (List.mem_append_right _ (List.mem_append_right _ (List.mem_append_left _ h)))))))))))))))))
theorem in_r8 : ∀ q ∈ wsL_law_r8, q ∈ wsL_law := fun _ h => (List.mem_append_left _ (List.mem_append_left _ (List.mem_append_left _ (List.mem_append_left _ (List.mem_append_left _ (List.mem_append_left _ (List.mem_append_left _ (List.mem_append_left _ (List.mem_append_left _ (List.mem_append_left _ (List.mem_append_right _ (List.mem_append_right _ (List.mem_append_right _ (List.mem_append_right _ (List.mem_append_right _ (List.mem_append_right _ (List.mem_append_right _ (List.mem_append_left _ h))))))))))))))))))
theorem in_r9 : ∀ q ∈ wsL_law_r9, q ∈ wsL_law := fun _ h => (List.mem_append_left _ (List.mem_append_left _ (List.mem_append_left _ (List.mem_append_left _ (List.mem_append_left _ (List.mem_append_left _ (List.mem_append_left _ (List.mem_append_left _ (List.mem_append_left _ (List.mem_append_left _ (List.mem_append_right _ (List.mem_append_right _ (List.mem_append_right _ (List.mem_append_right _ (List.mem_append_right _ (List.mem_append_right _ (List.mem_append_right _ (List.mem_append_right _ (List.mem_append_left _ h)))))))))))))))))))
theorem in_r10 : ∀ q ∈ wsL_law_r10, q ∈ wsL_law := fun _ h => (List.mem_append_left _ (List.mem_append_left _ (List.mem_append_left _ (List.mem_append_left _ (List.mem_append_left _ (List.mem_append_left _ (List.mem_append_left _ (List.mem_append_left _ (List.mem_append_left _ (List.mem_append_left _ (List.mem_append_right _ (List.mem_append_right _ (List.mem_append_right _ (List.mem_append_right _ (List.mem_append_right _ (List.mem_append_right _ (List.mem_append_right _ (List.mem_append_right _ (List.mem_append_right _ (List.mem_append_left _ h))))))))))))))))))))
theorem in_r11 : ∀ q ∈ wsL_law_r11, q ∈ wsL_law := fun _ h => (List.mem_append_left _ (List.mem_append_left _ (List.mem_append_left _ (List.mem_append_left _ (List.mem_append_left _ (List.mem_append_left _ (List.mem_append_left _ (List.mem_append_left _ (List.mem_append_left _ (List.mem_append_left _ (List.mem_append_right _ (List.mem_append_right _ (List.mem_append_right _ (List.mem_append_right _ (List.mem_append_right _ (List.mem_append_right _ (List.mem_append_right _ (List.mem_append_right _ (List.mem_append_right _ (List.mem_append_right _ (List.mem_append_left _ h)))))))))))))))))))))
theorem in_r12 : ∀ q ∈ wsL_law_r12, q ∈ wsL_law := fun _ h => (List.mem_append_left _ (List.mem_append_left _ (List.mem_append_left _ (List.mem_append_left _ (List.mem_append_left _ (List.mem_append_left _ (List.mem_append_left _ (List.mem_append_left _ (List.mem_append_left _ (List.mem_append_left _ (List.mem_append_right _ (List.mem_append_right _ (List.mem_append_right _ (List.mem_append_right _ (List.mem_append_right _ (List.mem_append_right _ (List.mem_append_right _ (List.mem_append_right _ (List.mem_append_right _ (List.mem_append_right _ (List.mem_append_right _ (List.mem_append_left _ h))))))))))))))))))))))
theorem in_r13 : ∀ q ∈ wsL_law_r13, q ∈ wsL_law := fun _ h => (List.mem_append_left _ (List.mem_append_left _ (List.mem_append_left _ (List.mem_append_left _ (List.mem_append_left _ (List.mem_append_left _ (List.mem_append_left _ (List.mem_append_left _ (List.mem_append_left _ (List.mem_append_left _ (List.mem_append_right _ (List.mem_append_right _ (List.mem_append_right _ (List.mem_append_right _ (List.mem_append_right _ (List.mem_append_right _ (List.mem_append_right _ (List.mem_append_right _ (List.mem_append_right _ (List.mem_append_right _ (List.mem_append_right _ (List.mem_append_right _ (List.mem_append_left _ h)))))))))))))))))))))))
theorem in_r14 : ∀ q ∈ wsL_law_r14, q ∈ wsL_law := fun _ h => (List.mem_append_left _ (List.mem_append_left _ (List.mem_append_left _ (List.mem_append_left _ (List.mem_append_left _ (List.mem_append_left _ (List.mem_append_left _ (List.mem_append_left _ (List.mem_append_left _ (List.mem_append_left _ (List.mem_append_right _ (List.mem_append_right _ (List.mem_append_right _ (List.mem_append_right _ (List.mem_append_right _ (List.mem_append_right _ (List.mem_append_right _ (List.mem_append_right _ (List.mem_append_right _ (List.mem_append_right _ (List.mem_append_right _ (List.mem_append_right _ (List.mem_append_right _ (List.mem_append_left _ h))))))))))))))))))))))))
theorem in_r15 : ∀ q ∈ wsL_law_r15, q ∈ wsL_law := fun _ h => (List.mem_append_left _ (List.mem_append_left _ (List.mem_append_left _ (List.mem_append_left _ (List.mem_append_left _ (List.mem_append_left _ (List.mem_append_left _ (List.mem_append_left _ (List.mem_append_left _ (List.mem_append_left _ (List.mem_append_right _ (List.mem_append_right _ (List.mem_append_right _ (List.mem_append_right _ (List.mem_append_right _ (List.mem_append_right _ (List.mem_append_right _ (List.mem_append_right _ (List.mem_append_right _ (List.mem_append_right _ (List.mem_append_right _ (List.mem_append_right _ (List.mem_append_right _ (List.mem_append_right _ (List.mem_append_left _ h)))))))))))))))))))))))))
theorem in_r16 : ∀ q ∈ wsL_law_r16, q ∈ wsL_law := fun _ h => (List.mem_append_left _ (List.mem_append_left _ (List.mem_append_left _ (List.mem_append_left _ (List.mem_append_left _ (List.mem_append_left _ (List.mem_append_left _ (List.mem_append_left _ (List.mem_append_left _ (List.mem_append_left _ (List.mem_append_right _ (List.mem_append_right _ (List.mem_append_right _ (List.mem_append_right _ (List.mem_append_right _ (List.mem_append_right _ (List.mem_append_right _ (List.mem_append_right _ (List.mem_append_right _ (List.mem_append_right _ (List.mem_append_right _ (List.mem_append_right _ (List.mem_append_right _ (List.mem_append_right _ (List.mem_append_right _ (List.mem_append_left _ h))))))))))))))))))))))))))
theorem in_r17 : ∀ q ∈ wsL_law_r17, q ∈ wsL_law := fun _ h => (List.mem_append_left _ (List.mem_append_left _ (List.mem_append_left _ (List.mem_append_left _ (List.mem_append_left _ (List.mem_append_left _ (List.mem_append_left _ (List.mem_append_left _ (List.mem_append_left _ (List.mem_append_left _ (List.mem_append_right _ (List.mem_append_right _ (List.mem_append_right _ (List.mem_append_right _ (List.mem_append_right _ (List.mem_append_right _ (List.mem_append_right _ (List.mem_append_right _ (List.mem_append_right _ (List.mem_append_right _ (List.mem_append_right _ (List.mem_append_right _ (List.mem_append_right _ (List.mem_append_right _ (List.mem_append_right _ (List.mem_append_right _ (List.mem_append_left _ h)))))))))))))))))))))))))))
theorem in_r18 : ∀ q ∈ wsL_law_r18, q ∈ wsL_law := fun _ h => (List.mem_append_left _ (List.mem_append_left _ (List.mem_append_left _ (List.mem_append_left _ (List.mem_append_left _ (List.mem_append_left _ (List.mem_append_left _ (List.mem_append_left _ (List.mem_append_left _ (List.mem_append_left _ (List.mem_append_right _ (List.mem_append_right _ (List.mem_append_right _ (List.mem_append_right _ (List.mem_append_right _ (List.mem_append_right _ (List.mem_append_right _ (List.mem_append_right _ (List.mem_append_right _ (List.mem_append_right _ (List.mem_append_right _ (List.mem_append_right _ (List.mem_append_right _ (List.mem_append_right _ (List.mem_append_right _ (List.mem_append_right _ (List.mem_append_right _ (List.mem_append_left _ h))))))))))))))))))))))))))))
theorem in_r19 : ∀ q ∈ wsL_law_r19, q ∈ wsL_law := fun _ h => (List.mem_append_left _ (List.mem_append_left _ (List.mem_append_left _ (List.mem_append_left _ (List.mem_append_left _ (List.mem_append_left _ (List.mem_append_left _ (List.mem_append_left _ (List.mem_append_left _ (List.mem_append_left _ (List.mem_append_right _ (List.mem_append_right _ (List.mem_append_right _ (List.mem_append_right _ (List.mem_append_right _ (List.mem_append_right _ (List.mem_append_right _ (List.mem_append_right _ (List.mem_append_right _ (List.mem_append_right _ (List.mem_append_right _ (List.mem_append_right _ (List.mem_append_right _ (List.mem_append_right _ (List.mem_append_right _ (List.mem_append_right _ (List.mem_append_right _ (List.mem_append_right _ (List.mem_append_left _ h)))))))))))))))))))))))))))))
theorem in_r20 : ∀ q ∈ wsL_law_r20, q ∈ wsL_law := fun _ h => (List.mem_append_left _ (List.mem_append_left _ (List.mem_append_left _ (List.mem_append_left _ (List.mem_append_left _ (List.mem_append_left _ (List.mem_append_left _ (List.mem_append_left _ (List.mem_append_left _ (List.mem_append_left _ (List.mem_append_right _ (List.mem_append_right _ (List.mem_append_right _ (List.mem_append_right _ (List.mem_append_right _ (List.mem_append_right _ (List.mem_append_right _ (List.mem_append_right _ (List.mem_append_right _ (List.mem_append_right _ (List.mem_append_right _ (List.mem_append_right _ (List.mem_append_right _ (List.mem_append_right _ (List.mem_append_right _ (List.mem_append_right _ (List.mem_append_right _ (List.mem_append_right _ (List.mem_append_right _ (List.mem_append_left _ h))))))))))))))))))))))))))))))
theorem in_r21 : ∀ q ∈ wsL_law_r21, q ∈ wsL_law := fun _ h => (List.mem_append_left _ (List.mem_append_left _ (List.mem_append_left _ (List.mem_append_left _ (List.mem_append_left _ (List.mem_append_left _ (List.mem_append_left _ (List.mem_append_left _ (List.mem_append_left _ (List.mem_append_left _ (List.mem_append_right _ (List.mem_append_right _ (List.mem_append_right _ (List.mem_append_right _ (List.mem_append_right _ (List.mem_append_right _ (List.mem_append_right _ (List.mem_append_right _ (List.mem_append_right _ (List.mem_append_right _ (List.mem_append_right _ (List.mem_append_right _ (List.mem_append_right _ (List.mem_append_right _ (List.mem_append_right _ (List.mem_append_right _ (List.mem_append_right _ (List.mem_append_right _ (List.mem_append_right _ (List.mem_append_right _ (List.mem_append_left _ h)))))))))))))))))))))))))))))))
theorem in_r22 : ∀ q ∈ wsL_law_r22, q ∈ wsL_law := fun _ h => (List.mem_append_left _ (List.mem_append_left _ (List.mem_append_left _ (List.mem_append_left _ (List.mem_append_left _ (List.mem_append_left _ (List.mem_append_left _ (List.mem_append_left _ (List.mem_append_left _ (List.mem_append_left _ (List.mem_append_right _ (List.mem_append_right _ (List.mem_append_right _ (List.mem_append_right _ (List.mem_append_right _ (List.mem_append_right _ (List.mem_append_right _ (List.mem_append_right _ (List.mem_append_right _ (List.mem_append_right _ (List.mem_append_right _ (List.mem_append_right _ (List.mem_append_right _ (List.mem_append_right _ (List.mem_append_right _ (List.mem_append_right _ (List.mem_append_right _ (List.mem_append_right _ (List.mem_append_right _ (List.mem_append_right _ (List.mem_append_right _ (List.mem_append_left _ h))))))))))))))))))))))))))))))))
theorem in_r23 : ∀ q ∈ wsL_law_r23, q ∈ wsL_law := fun _ h => (List.mem_append_left _ (List.mem_append_left _ (List.mem_append_left _ (List.mem_append_left _ (List.mem_append_left _ (List.mem_append_left _ (List.mem_append_left _ (List.mem_append_left _ (List.mem_append_left _ (List.mem_append_left _ (List.mem_append_right _ (List.mem_append_right _ (List.mem_append_right _ (List.mem_append_right _ (List.mem_append_right _ (List.mem_append_right _ (List.mem_append_right _ (List.mem_append_right _ (List.mem_append_right _ (List.mem_append_right _ (List.mem_append_right _ (List.mem_append_right _ (List.mem_append_right _ (List.mem_append_right _ (List.mem_append_right _ (List.mem_append_right _ (List.mem_append_right _ (List.mem_append_right _ (List.mem_append_right _ (List.mem_append_right _ (List.mem_append_right _ (List.mem_append_right _ (List.mem_append_left _ h)))))))))))))))))))))))))))))))))
theorem in_r24 : ∀ q ∈ wsL_law_r24, q ∈ wsL_law := fun _ h => (List.mem_append_left _ (List.mem_append_left _ (List.mem_append_left _ (List.mem_append_left _ (List.mem_append_left _ (List.mem_append_left _ (List.mem_append_left _ (List.mem_append_left _ (List.mem_append_left _ (List.mem_append_left _ (List.mem_append_right _ (List.mem_append_right _ (List.mem_append_right _ (List.mem_append_right _ (List.mem_append_right _ (List.mem_append_right _ (List.mem_append_right _ (List.mem_append_right _ (List.mem_append_right _ (List.mem_append_right _ (List.mem_append_right _ (List.mem_append_right _ (List.mem_append_right _ (List.mem_append_right _ (List.mem_append_right _ (List.mem_append_right _ (List.mem_append_right _ (List.mem_append_right _ (List.mem_append_right _ (List.mem_append_right _ (List.mem_append_right _ (List.mem_append_right _ (List.mem_append_right _ (List.mem_append_left _ h))))))))))))))))))))))))))))))))))
theorem in_r25 : ∀ q ∈ wsL_law_r25, q ∈ wsL_law := fun _ h => (List.mem_append_left _ (List.mem_append_left _ (List.mem_append_left _ (List.mem_append_left _ (List.mem_append_left _ (List.mem_append_left _ (List.mem_append_left _ (List.mem_append_left _ (List.mem_append_left _ (List.mem_append_left _ (List.mem_append_right _ (List.mem_append_right _ (List.mem_append_right _ (List.mem_append_right _ (List.mem_append_right _ (List.mem_append_right _ (List.mem_append_right _ (List.mem_append_right _ (List.mem_append_right _ (List.mem_append_right _ (List.mem_append_right _ (List.mem_append_right _ (List.mem_append_right _ (List.mem_append_right _ (List.mem_append_right _ (List.mem_append_right _ (List.mem_append_right _ (List.mem_append_right _ (List.mem_append_right _ (List.mem_append_right _ (List.mem_append_right _ (List.mem_append_right _ (List.mem_append_right _ (List.mem_append_right _ (List.mem_append_left _ h)))))))))))))))))))))))))))))))))))
theorem in_r26 : ∀ q ∈ wsL_law_r26, q ∈ wsL_law := fun _ h => (List.mem_append_left _ (List.mem_append_left _ (List.mem_append_left _ (List.mem_append_left _ (List.mem_append_left _ (List.mem_append_left _ (List.mem_append_left _ (List.mem_append_left _ (List.mem_append_left _ (List.mem_append_left _ (List.mem_append_right _ (List.mem_append_right _ (List.mem_append_right _ (List.mem_append_right _ (List.mem_append_right _ (List.mem_append_right _ (List.mem_append_right _ (List.mem_append_right _ (List.mem_append_right _ (List.mem_append_right _ (List.mem_append_right _ (List.mem_append_right _ (List.mem_append_right _ (List.mem_append_right _ (List.mem_append_right _ (List.mem_append_right _ (List.mem_append_right _ (List.mem_append_right _ (List.mem_append_right _ (List.mem_append_right _ (List.mem_append_right _ (List.mem_append_right _ (List.mem_append_right _ (List.mem_append_right _ (List.mem_append_right _ (List.mem_append_left _ h))))))))))))))))))))))))))))))))))))
theorem in_r27 : ∀ q ∈ wsL_law_r27, q ∈ wsL_law := fun _ h => (List.mem_append_left _ (List.mem_append_left _ (List.mem_append_left _ (List.mem_append_left _ (List.mem_append_left _ (List.mem_append_left _ (List.mem_append_left _ (List.mem_append_left _ (List.mem_append_left _ (List.mem_append_left _ (List.mem_append_right _ (List.mem_append_right _ (List.mem_append_right _ (List.mem_append_right _ (List.mem_append_right _ (List.mem_append_right _ (List.mem_append_right _ (List.mem_append_right _ (List.mem_append_right _ (List.mem_append_right _ (List.mem_append_right _ (List.mem_append_right _ (List.mem_append_right _ (List.mem_append_right _ (List.mem_append_right _ (List.mem_append_right _ (List.mem_append_right _ (List.mem_append_right _ (List.mem_append_right _ (List.mem_append_right _ (List.mem_append_right _ (List.mem_append_right _ (List.mem_append_right _ (List.mem_append_right _ (List.mem_append_right _ (List.mem_append_right _ (List.mem_append_left _ h)))))))))))))))))))))))))))))))))))))
theorem in_r28 : ∀ q ∈ wsL_law_r28, q ∈ wsL_law := fun _ h => (List.mem_append_left _ (List.mem_append_left _ (List.mem_append_left _ (List.mem_append_left _ (List.mem_append_left _ (List.mem_append_left _ (List.mem_append_left _ (List.mem_append_left _ (List.mem_append_left _ (List.mem_append_left _ (List.mem_append_right _ (List.mem_append_right _ (List.mem_append_right _ (List.mem_append_right _ (List.mem_append_right _ (List.mem_append_right _ (List.mem_append_right _ (List.mem_append_right _ (List.mem_append_right _ (List.mem_append_right _ (List.mem_append_right _ (List.mem_append_right _ (List.mem_append_right _ (List.mem_append_right _ (List.mem_append_right _ (List.mem_append_right _ (List.mem_append_right _ (List.mem_append_right _ (List.mem_append_right _ (List.mem_append_right _ (List.mem_append_right _ (List.mem_append_right _ (List.mem_append_right _ (List.mem_append_right _ (List.mem_append_right _ (List.mem_append_right _ (List.mem_append_right _ (List.mem_append_left _ h))))))))))))))))))))))))))))))))))))))
theorem in_r29 : ∀ q ∈ wsL_law_r29, q ∈ wsL_law := fun _ h => (List.mem_append_left _ (List.mem_append_left _ (List.mem_append_left _ (List.mem_append_left _ (List.mem_append_left _ (List.mem_append_left _ (List.mem_append_left _ (List.mem_append_left _ (List.mem_append_left _ (List.mem_append_left _ (List.mem_append_right _ (List.mem_append_right _ (List.mem_append_right _ (List.mem_append_right _ (List.mem_append_right _ (List.mem_append_right _ (List.mem_append_right _ (List.mem_append_right _ (List.mem_append_right _ (List.mem_append_right _ (List.mem_append_right _ (List.mem_append_right _ (List.mem_append_right _ (List.mem_append_right _ (List.mem_append_right _ (List.mem_append_right _ (List.mem_append_right _ (List.mem_append_right _ (List.mem_append_right _ (List.mem_append_right _ (List.mem_append_right _ (List.mem_append_right _ (List.mem_append_right _ (List.mem_append_right _ (List.mem_append_right _ (List.mem_append_right _ (List.mem_append_right _ (List.mem_append_right _ (List.mem_append_left _ h)))))))))))))))))))))))))))))))))))))))
theorem in_r30 : ∀ q ∈ wsL_law_r30, q ∈ wsL_law := fun _ h => (List.mem_append_left _ (List.mem_append_left _ (List.mem_append_left _ (List.mem_append_left _ (List.mem_append_left _ (List.mem_append_left _ (List.mem_append_left _ (List.mem_append_left _ (List.mem_append_left _ (List.mem_append_left _ (List.mem_append_right _ (List.mem_append_right _ (List.mem_append_right _ (List.mem_append_right _ (List.mem_append_right _ (List.mem_append_right _ (List.mem_append_right _ (List.mem_append_right _ (List.mem_append_right _ (List.mem_append_right _ (List.mem_append_right _ (List.mem_append_right _ (List.mem_append_right _ (List.mem_append_right _ (List.mem_append_right _ (List.mem_append_right _ (List.mem_append_right _ (List.mem_append_right _ (List.mem_append_right _ (List.mem_append_right _ (List.mem_append_right _ (List.mem_append_right _ (List.mem_append_right _ (List.mem_append_right _ (List.mem_append_right _ (List.mem_append_right _ (List.mem_append_right _ (List.mem_append_right _ (List.mem_append_right _ (List.mem_append_left _ h))))))))))))))))))))))))))))))))))))))))
theorem in_r31 : ∀ q ∈ wsL_law_r31, q ∈ wsL_law := fun _ h => (List.mem_append_left _ (List.mem_append_left _ (List.mem_append_left _ (List.mem_append_left _ (List.mem_append_left _ (List.mem_append_left _ (List.mem_append_left _ (List.mem_append_left _ (List.mem_append_left _ (List.mem_append_left _ (List.mem_append_right _ (List.mem_append_right _ (List.mem_append_right _ (List.mem_append_right _ (List.mem_append_right _ (List.mem_append_right _ (List.mem_append_right _ (List.mem_append_right _ (List.mem_append_right _ (List.mem_append_right _ (List.mem_append_right _ (List.mem_append_right _ (List.mem_append_right _ (List.mem_append_right _ (List.mem_append_right _ (List.mem_append_right _ (List.mem_append_right _ (List.mem_append_right _ (List.mem_append_right _ (List.mem_append_right _ (List.mem_append_right _ (List.mem_append_right _ (List.mem_append_right _ (List.mem_append_right _ (List.mem_append_right _ (List.mem_append_right _ (List.mem_append_right _ (List.mem_append_right _ (List.mem_append_right _ (List.mem_append_right _ (List.mem_append_left _ h)))))))))))))))))))))))))))))))))))))))))
theorem in_r32 : ∀ q ∈ wsL_law_r32, q ∈ wsL_law := fun _ h => (List.mem_append_left _ (List.mem_append_left _ (List.mem_append_left _ (List.mem_append_left _ (List.mem_append_left _ (List.mem_append_left _ (List.mem_append_left _ (List.mem_append_left _ (List.mem_append_left _ (List.mem_append_left _ (List.mem_append_right _ (List.mem_append_right _ (List.mem_append_right _ (List.mem_append_right _ (List.mem_append_right _ (List.mem_append_right _ (List.mem_append_right _ (List.mem_append_right _ (List.mem_append_right _ (List.mem_append_right _ (List.mem_append_right _ (List.mem_append_right _ (List.mem_append_right _ (List.mem_append_right _ (List.mem_append_right _ (List.mem_append_right _ (List.mem_append_right _ (List.mem_append_right _ (List.mem_append_right _ (List.mem_append_right _ (List.mem_append_right _ (List.mem_append_right _ (List.mem_append_right _ (List.mem_append_right _ (List.mem_append_right _ (List.mem_append_right _ (List.mem_append_right _ (List.mem_append_right _ (List.mem_append_right _ (List.mem_append_right _ (List.mem_append_right _ (List.mem_append_left _ h))))))))))))))))))))))))))))))))))))))))))
theorem in_r33 : ∀ q ∈ wsL_law_r33, q ∈ wsL_law := fun _ h => (List.mem_append_left _ (List.mem_append_left _ (List.mem_append_left _ (List.mem_append_left _ (List.mem_append_left _ (List.mem_append_left _ (List.mem_append_left _ (List.mem_append_left _ (List.mem_append_left _ (List.mem_append_left _ (List.mem_append_right _ (List.mem_append_right _ (List.mem_append_right _ (List.mem_append_right _ (List.mem_append_right _ (List.mem_append_right _ (List.mem_append_right _ (List.mem_append_right _ (List.mem_append_right _ (List.mem_append_right _ (List.mem_append_right _ (List.mem_append_right _ (List.mem_append_right _ (List.mem_append_right _ (List.mem_append_right _ (List.mem_append_right _ (List.mem_append_right _ (List.mem_append_right _ (List.mem_append_right _ (List.mem_append_right _ (List.mem_append_right _ (List.mem_append_right _ (List.mem_append_right _ (List.mem_append_right _ (List.mem_append_right _ (List.mem_append_right _ (List.mem_append_right _ (List.mem_append_right _ (List.mem_append_right _ (List.mem_append_right _ (List.mem_append_right _ (List.mem_append_right _ (List.mem_append_left _ h)))))))))))))))))))))))))))))))))))))))))))
theorem in_r34 : ∀ q ∈ wsL_law_r34, q ∈ wsL_law := fun _ h => (List.mem_append_left _ (List.mem_append_left _ (List.mem_append_left _ (List.mem_append_left _ (List.mem_append_left _ (List.mem_append_left _ (List.mem_append_left _ (List.mem_append_left _ (List.mem_append_left _ (List.mem_append_left _ (List.mem_append_right _ (List.mem_append_right _ (List.mem_append_right _ (List.mem_append_right _ (List.mem_append_right _ (List.mem_append_right _ (List.mem_append_right _ (List.mem_append_right _ (List.mem_append_right _ (List.mem_append_right _ (List.mem_append_right _ (List.mem_append_right _ (List.mem_append_right _ (List.mem_append_right _ (List.mem_append_right _ (List.mem_append_right _ (List.mem_append_right _ (List.mem_append_right _ (List.mem_append_right _ (List.mem_append_right _ (List.mem_append_right _ (List.mem_append_right _ (List.mem_append_right _ (List.mem_append_right _ (List.mem_append_right _ (List.mem_append_right _ (List.mem_append_right _ (List.mem_append_right _ (List.mem_append_right _ (List.mem_append_right _ (List.mem_append_right _ (List.mem_append_right _ (List.mem_append_right _ (List.mem_append_left _ h))))))))))))))))))))))))))))))))))))))))))))
theorem in_r35 : ∀ q ∈ wsL_law_r35, q ∈ wsL_law := fun _ h => (List.mem_append_left _ (List.mem_append_left _ (List.mem_append_left _ (List.mem_append_left _ (List.mem_append_left _ (List.mem_append_left _ (List.mem_append_left _ (List.mem_append_left _ (List.mem_append_left _ (List.mem_append_left _ (List.mem_append_right _ (List.mem_append_right _ (List.mem_append_right _ (List.mem_append_right _ (List.mem_append_right _ (List.mem_append_right _ (List.mem_append_right _ (List.mem_append_right _ (List.mem_append_right _ (List.mem_append_right _ (List.mem_append_right _ (List.mem_append_right _ (List.mem_append_right _ (List.mem_append_right _ (List.mem_append_right _ (List.mem_append_right _ (List.mem_append_right _ (List.mem_append_right _ (List.mem_append_right _ (List.mem_append_right _ (List.mem_append_right _ (List.mem_append_right _ (List.mem_append_right _ (List.mem_append_right _ (List.mem_append_right _ (List.mem_append_right _ (List.mem_append_right _ (List.mem_append_right _ (List.mem_append_right _ (List.mem_append_right _ (List.mem_append_right _ (List.mem_append_right _ (List.mem_append_right _ (List.mem_append_right _ (List.mem_append_left _ h)))))))))))))))))))))))))))))))))))))))))))))
theorem in_r36 : ∀ q ∈ wsL_law_r36, q ∈ wsL_law := fun _ h => (List.mem_append_left _ (List.mem_append_left _ (List.mem_append_left _ (List.mem_append_left _ (List.mem_append_left _ (List.mem_append_left _ (List.mem_append_left _ (List.mem_append_left _ (List.mem_append_left _ (List.mem_append_left _ (List.mem_append_right _ (List.mem_append_right _ (List.mem_append_right _ (List.mem_append_right _ (List.mem_append_right _ (List.mem_append_right _ (List.mem_append_right _ (List.mem_append_right _ (List.mem_append_right _ (List.mem_append_right _ (List.mem_append_right _ (List.mem_append_right _ (List.mem_append_right _ (List.mem_append_right _ (List.mem_append_right _ (List.mem_append_right _ (List.mem_append_right _ (List.mem_append_right _ (List.mem_append_right _ (List.mem_append_right _ (List.mem_append_right _ (List.mem_append_right _ (List.mem_append_right _ (List.mem_append_right _ (List.mem_append_right _ (List.mem_append_right _ (List.mem_append_right _ (List.mem_append_right _ (List.mem_append_right _ (List.mem_append_right _ (List.mem_append_right _ (List.mem_append_right _ (List.mem_append_right _ (List.mem_append_right _ (List.mem_append_right _ (List.mem_append_left _ h))))))))))))))))))))))))))))))))))))))))))))))
theorem in_r37 : ∀ q ∈ wsL_law_r37, q ∈ wsL_law := fun _ h => (List.mem_append_left _ (List.mem_append_left _ (List.mem_append_left _ (List.mem_append_left _ (List.mem_append_left _ (List.mem_append_left _ (List.mem_append_left _ (List.mem_append_left _ (List.mem_append_left _ (List.mem_append_left _ (List.mem_append_right _ (List.mem_append_right _ (List.mem_append_right _ (List.mem_append_right _ (List.mem_append_right _ (List.mem_append_right _ (List.mem_append_right _ (List.mem_append_right _ (List.mem_append_right _ (List.mem_append_right _ (List.mem_append_right _ (List.mem_append_right _ (List.mem_append_right _ (List.mem_append_right _ (List.mem_append_right _ (List.mem_append_right _ (List.mem_append_right _ (List.mem_append_right _ (List.mem_append_right _ (List.mem_append_right _ (List.mem_append_right _ (List.mem_append_right _ (List.mem_append_right _ (List.mem_append_right _ (List.mem_append_right _ (List.mem_append_right _ (List.mem_append_right _ (List.mem_append_right _ (List.mem_append_right _ (List.mem_append_right _ (List.mem_append_right _ (List.mem_append_right _ (List.mem_append_right _ (List.mem_append_right _ (List.mem_append_right _ (List.mem_append_right _ (List.mem_append_left _ h)))))))))))))))))))))))))))))))))))))))))))))))
theorem in_r38 : ∀ q ∈ wsL_law_r38, q ∈ wsL_law := fun _ h => (List.mem_append_left _ (List.mem_append_left _ (List.mem_append_left _ (List.mem_append_left _ (List.mem_append_left _ (List.mem_append_left _ (List.mem_append_left _ (List.mem_append_left _ (List.mem_append_left _ (List.mem_append_left _ (List.mem_append_right _ (List.mem_append_right _ (List.mem_append_right _ (List.mem_append_right _ (List.mem_append_right _ (List.mem_append_right _ (List.mem_append_right _ (List.mem_append_right _ (List.mem_append_right _ (List.mem_append_right _ (List.mem_append_right _ (List.mem_append_right _ (List.mem_append_right _ (List.mem_append_right _ (List.mem_append_right _ (List.mem_append_right _ (List.mem_append_right _ (List.mem_append_right _ (List.mem_append_right _ (List.mem_append_right _ (List.mem_append_right _ (List.mem_append_right _ (List.mem_append_right _ (List.mem_append_right _ (List.mem_append_right _ (List.mem_append_right _ (List.mem_append_right _ (List.mem_append_right _ (List.mem_append_right _ (List.mem_append_right _ (List.mem_append_right _ (List.mem_append_right _ (List.mem_append_right _ (List.mem_append_right _ (List.mem_append_right _ (List.mem_append_right _ (List.mem_append_right _ (List.mem_append_left _ h))))))))))))))))))))))))))))))))))))))))))))))))
theorem in_r39 : ∀ q ∈ wsL_law_r39, q ∈ wsL_law := fun _ h => (List.mem_append_left _ (List.mem_append_left _ (List.mem_append_left _ (List.mem_append_left _ (List.mem_append_left _ (List.mem_append_left _ (List.mem_append_left _ (List.mem_append_left _ (List.mem_append_left _ (List.mem_append_left _ (List.mem_append_right _ (List.mem_append_right _ (List.mem_append_right _ (List.mem_append_right _ (List.mem_append_right _ (List.mem_append_right _ (List.mem_append_right _ (List.mem_append_right _ (List.mem_append_right _ (List.mem_append_right _ (List.mem_append_right _ (List.mem_append_right _ (List.mem_append_right _ (List.mem_append_right _ (List.mem_append_right _ (List.mem_append_right _ (List.mem_append_right _ (List.mem_append_right _ (List.mem_append_right _ (List.mem_append_right _ (List.mem_append_right _ (List.mem_append_right _ (List.mem_append_right _ (List.mem_append_right _ (List.mem_append_right _ (List.mem_append_right _ (List.mem_append_right _ (List.mem_append_right _ (List.mem_append_right _ (List.mem_append_right _ (List.mem_append_right _ (List.mem_append_right _ (List.mem_append_right _ (List.mem_append_right _ (List.mem_append_right _ (List.mem_append_right _ (List.mem_append_right _ (List.mem_append_right _ (List.mem_append_left _ h)))))))))))))))))))))))))))))))))))))))))))))))))
theorem in_r40 : ∀ q ∈ wsL_law_r40, q ∈ wsL_law := fun _ h => (List.mem_append_left _ (List.mem_append_left _ (List.mem_append_left _ (List.mem_append_left _ (List.mem_append_left _ (List.mem_append_left _ (List.mem_append_left _ (List.mem_append_left _ (List.mem_append_left _ (List.mem_append_left _ (List.mem_append_right _ (List.mem_append_right _ (List.mem_append_right _ (List.mem_append_right _ (List.mem_append_right _ (List.mem_append_right _ (List.mem_append_right _ (List.mem_append_right _ (List.mem_append_right _ (List.mem_append_right _ (List.mem_append_right _ (List.mem_append_right _ (List.mem_append_right _ (List.mem_append_right _ (List.mem_append_right _ (List.mem_append_right _ (List.mem_append_right _ (List.mem_append_right _ (List.mem_append_right _ (List.mem_append_right _ (List.mem_append_right _ (List.mem_append_right _ (List.mem_append_right _ (List.mem_append_right _ (List.mem_append_right _ (List.mem_append_right _ (List.mem_append_right _ (List.mem_append_right _ (List.mem_append_right _ (List.mem_append_right _ (List.mem_append_right _ (List.mem_append_right _ (List.mem_append_right _ (List.mem_append_right _ (List.mem_append_right _ (List.mem_append_right _ (List.mem_append_right _ (List.mem_append_right _ (List.mem_append_right _ (List.mem_append_left _ h))))))))))))))))))))))))))))))))))))))))))))))))))
theorem in_r41 : ∀ q ∈ wsL_law_r41, q ∈ wsL_law := fun _ h => (List.mem_append_left _ (List.mem_append_left _ (List.mem_append_left _ (List.mem_append_left _ (List.mem_append_left _ (List.mem_append_left _ (List.mem_append_left _ (List.mem_append_left _ (List.mem_append_left _ (List.mem_append_left _ (List.mem_append_right _ (List.mem_append_right _ (List.mem_append_right _ (List.mem_append_right _ (List.mem_append_right _ (List.mem_append_right _ (List.mem_append_right _ (List.mem_append_right _ (List.mem_append_right _ (List.mem_append_right _ (List.mem_append_right _ (List.mem_append_right _ (List.mem_append_right _ (List.mem_append_right _ (List.mem_append_right _ (List.mem_append_right _ (List.mem_append_right _ (List.mem_append_right _ (List.mem_append_right _ (List.mem_append_right _ (List.mem_append_right _ (List.mem_append_right _ (List.mem_append_right _ (List.mem_append_right _ (List.mem_append_right _ (List.mem_append_right _ (List.mem_append_right _ (List.mem_append_right _ (List.mem_append_right _ (List.mem_append_right _ (List.mem_append_right _ (List.mem_append_right _ (List.mem_append_right _ (List.mem_append_right _ (List.mem_append_right _ (List.mem_append_right _ (List.mem_append_right _ (List.mem_append_right _ (List.mem_append_right _ (List.mem_append_right _ (List.mem_append_left _ h)))))))))))))))))))))))))))))))))))))))))))))))))))
theorem in_r42 : ∀ q ∈ wsL_law_r42, q ∈ wsL_law := fun _ h => (List.mem_append_left _ (List.mem_append_left _ (List.mem_append_left _ (List.mem_append_left _ (List.mem_append_left _ (List.mem_append_left _ (List.mem_append_left _ (List.mem_append_left _ (List.mem_append_left _ (List.mem_append_left _ (List.mem_append_right _ (List.mem_append_right _ (List.mem_append_right _ (List.mem_append_right _ (List.mem_append_right _ (List.mem_append_right _ (List.mem_append_right _ (List.mem_append_right _ (List.mem_append_right _ (List.mem_append_right _ (List.mem_append_right _ (List.mem_append_right _ (List.mem_append_right _ (List.mem_append_right _ (List.mem_append_right _ (List.mem_append_right _ (List.mem_append_right _ (List.mem_append_right _ (List.mem_append_right _ (List.mem_append_right _ (List.mem_append_right _ (List.mem_append_right _ (List.mem_append_right _ (List.mem_append_right _ (List.mem_append_right _ (List.mem_append_right _ (List.mem_append_right _ (List.mem_append_right _ (List.mem_append_right _ (List.mem_append_right _ (List.mem_append_right _ (List.mem_append_right _ (List.mem_append_right _ (List.mem_append_right _ (List.mem_append_right _ (List.mem_append_right _ (List.mem_append_right _ (List.mem_append_right _ (List.mem_append_right _ (List.mem_append_right _ (List.mem_append_right _ (List.mem_append_left _ h))))))))))))))))))))))))))))))))))))))))))))))))))))
theorem in_r43 : ∀ q ∈ wsL_law_r43, q ∈ wsL_law := fun _ h => (List.mem_append_left _ (List.mem_append_left _ (List.mem_append_left _ (List.mem_append_left _ (List.mem_append_left _ (List.mem_append_left _ (List.mem_append_left _ (List.mem_append_left _ (List.mem_append_left _ (List.mem_append_left _ (List.mem_append_right _ (List.mem_append_right _ (List.mem_append_right _ (List.mem_append_right _ (List.mem_append_right _ (List.mem_append_right _ (List.mem_append_right _ (List.mem_append_right _ (List.mem_append_right _ (List.mem_append_right _ (List.mem_append_right _ (List.mem_append_right _ (List.mem_append_right _ (List.mem_append_right _ (List.mem_append_right _ (List.mem_append_right _ (List.mem_append_right _ (List.mem_append_right _ (List.mem_append_right _ (List.mem_append_right _ (List.mem_append_right _ (List.mem_append_right _ (List.mem_append_right _ (List.mem_append_right _ (List.mem_append_right _ (List.mem_append_right _ (List.mem_append_right _ (List.mem_append_right _ (List.mem_append_right _ (List.mem_append_right _ (List.mem_append_right _ (List.mem_append_right _ (List.mem_append_right _ (List.mem_append_right _ (List.mem_append_right _ (List.mem_append_right _ (List.mem_append_right _ (List.mem_append_right _ (List.mem_append_right _ (List.mem_append_right _ (List.mem_append_right _ (List.mem_append_right _ (List.mem_append_left _ h)))))))))))))))))))))))))))))))))))))))))))))))))))))
theorem in_r44 : ∀ q ∈ wsL_law_r44, q ∈ wsL_law := fun _ h => (List.mem_append_left _ (List.mem_append_left _ (List.mem_append_left _ (List.mem_append_left _ (List.mem_append_left _ (List.mem_append_left _ (List.mem_append_left _ (List.mem_append_left _ (List.mem_append_left _ (List.mem_append_left _ (List.mem_append_right _ (List.mem_append_right _ (List.mem_append_right _ (List.mem_append_right _ (List.mem_append_right _ (List.mem_append_right _ (List.mem_append_right _ (List.mem_append_right _ (List.mem_append_right _ (List.mem_append_right _ (List.mem_append_right _ (List.mem_append_right _ (List.mem_append_right _ (List.mem_append_right _ (List.mem_append_right _ (List.mem_append_right _ (List.mem_append_right _ (List.mem_append_right _ (List.mem_append_right _ (List.mem_append_right _ (List.mem_append_right _ (List.mem_append_right _ (List.mem_append_right _ (List.mem_append_right _ (List.mem_append_right _ (List.mem_append_right _ (List.mem_append_right _ (List.mem_append_right _ (List.mem_append_right _ (List.mem_append_right _ (List.mem_append_right _ (List.mem_append_right _ (List.mem_append_right _ (List.mem_append_right _ (List.mem_append_right _ (List.mem_append_right _ (List.mem_append_right _ (List.mem_append_right _ (List.mem_append_right _ (List.mem_append_right _ (List.mem_append_right _ (List.mem_append_right _ (List.mem_append_right _ (List.mem_append_left _ h))))))))))))))))))))))))))))))))))))))))))))))))))))))
theorem in_r45 : ∀ q ∈ wsL_law_r45, q ∈ wsL_law := fun _ h => (List.mem_append_left _ (List.mem_append_left _ (List.mem_append_left _ (List.mem_append_left _ (List.mem_append_left _ (List.mem_append_left _ (List.mem_append_left _ (List.mem_append_left _ (List.mem_append_left _ (List.mem_append_left _ (List.mem_append_right _ (List.mem_append_right _ (List.mem_append_right _ (List.mem_append_right _ (List.mem_append_right _ (List.mem_append_right _ (List.mem_append_right _ (List.mem_append_right _ (List.mem_append_right _ (List.mem_append_right _ (List.mem_append_right _ (List.mem_append_right _ (List.mem_append_right _ (List.mem_append_right _ (List.mem_append_right _ (List.mem_append_right _ (List.mem_append_right _ (List.mem_append_right _ (List.mem_append_right _ (List.mem_append_right _ (List.mem_append_right _ (List.mem_append_right _ (List.mem_append_right _ (List.mem_append_right _ (List.mem_append_right _ (List.mem_append_right _ (List.mem_append_right _ (List.mem_append_right _ (List.mem_append_right _ (List.mem_append_right _ (List.mem_append_right _ (List.mem_append_right _ (List.mem_append_right _ (List.mem_append_right _ (List.mem_append_right _ (List.mem_append_right _ (List.mem_append_right _ (List.mem_append_right _ (List.mem_append_right _ (List.mem_append_right _ (List.mem_append_right _ (List.mem_append_right _ (List.mem_append_right _ (List.mem_append_right _ h))))))))))))))))))))))))))))))))))))))))))))))))))))))
theorem flX7_10 : Cond.fieldLink RX7 10 (TX7 0).1 (TX7 0).2.1 (TX7 0).2.2.1 ∈ wsL_law := in_r1 _ (List.mem_of_getElem? (i := 16) rfl)
theorem flX7_21 : Cond.fieldLink RX7 21 (TX7 1).1 (TX7 1).2.1 (TX7 1).2.2.1 ∈ wsL_law := in_r1 _ (List.mem_of_getElem? (i := 20) rfl)
theorem flX7_28 : Cond.fieldLink RX7 28 (TX7 2).1 (TX7 2).2.1 (TX7 2).2.2.1 ∈ wsL_law := in_r2 _ (List.mem_of_getElem? (i := 0) rfl)
theorem flX7_37 : Cond.fieldLink RX7 37 (TX7 3).1 (TX7 3).2.1 (TX7 3).2.2.1 ∈ wsL_law := in_r2 _ (List.mem_of_getElem? (i := 4) rfl)
theorem flX7_44 : Cond.fieldLink RX7 44 (TX7 4).1 (TX7 4).2.1 (TX7 4).2.2.1 ∈ wsL_law := in_r2 _ (List.mem_of_getElem? (i := 8) rfl)
theorem flX7_51 : Cond.fieldLink RX7 51 (TX7 5).1 (TX7 5).2.1 (TX7 5).2.2.1 ∈ wsL_law := in_r2 _ (List.mem_of_getElem? (i := 12) rfl)
theorem flX7_55 : Cond.fieldLink RX7 55 (TX7 6).1 (TX7 6).2.1 (TX7 6).2.2.1 ∈ wsL_law := in_r2 _ (List.mem_of_getElem? (i := 13) rfl)
theorem flX7_59 : Cond.fieldLink RX7 59 (TX7 7).1 (TX7 7).2.1 (TX7 7).2.2.1 ∈ wsL_law := in_r2 _ (List.mem_of_getElem? (i := 15) rfl)
theorem flX7_65 : Cond.fieldLink RX7 65 (TX7 8).1 (TX7 8).2.1 (TX7 8).2.2.1 ∈ wsL_law := in_r2 _ (List.mem_of_getElem? (i := 17) rfl)
theorem flX4_11 : Cond.fieldLink RX4 11 (TX4 0).1 (TX4 0).2.1 (TX4 0).2.2.1 ∈ wsL_law := in_r3 _ (List.mem_of_getElem? (i := 0) rfl)
theorem flX5_12 : Cond.fieldLink RX5 12 (TX5 0).1 (TX5 0).2.1 (TX5 0).2.2.1 ∈ wsL_law := in_r3 _ (List.mem_of_getElem? (i := 6) rfl)
theorem flX5_18 : Cond.fieldLink RX5 18 (TX5 4).1 (TX5 4).2.1 (TX5 4).2.2.1 ∈ wsL_law := in_r3 _ (List.mem_of_getElem? (i := 7) rfl)
theorem flX6_9 : Cond.fieldLink RX6 9 (TX6 1).1 (TX6 1).2.1 (TX6 1).2.2.1 ∈ wsL_law := in_r3 _ (List.mem_of_getElem? (i := 13) rfl)
theorem flX6_15 : Cond.fieldLink RX6 15 (TX6 2).1 (TX6 2).2.1 (TX6 2).2.2.1 ∈ wsL_law := in_r3 _ (List.mem_of_getElem? (i := 14) rfl)
theorem flX6_18 : Cond.fieldLink RX6 18 (TX6 3).1 (TX6 3).2.1 (TX6 3).2.2.1 ∈ wsL_law := in_r3 _ (List.mem_of_getElem? (i := 15) rfl)
theorem flX6_21 : Cond.fieldLink RX6 21 (TX6 5).1 (TX6 5).2.1 (TX6 5).2.2.1 ∈ wsL_law := in_r3 _ (List.mem_of_getElem? (i := 16) rfl)
theorem flX6_24 : Cond.fieldLink RX6 24 (TX6 6).1 (TX6 6).2.1 (TX6 6).2.2.1 ∈ wsL_law := in_r3 _ (List.mem_of_getElem? (i := 17) rfl)
theorem flX6_27 : Cond.fieldLink RX6 27 (TX6 7).1 (TX6 7).2.1 (TX6 7).2.2.1 ∈ wsL_law := in_r3 _ (List.mem_of_getElem? (i := 18) rfl)
theorem flX6_31 : Cond.fieldLink RX6 31 (TX6 8).1 (TX6 8).2.1 (TX6 8).2.2.1 ∈ wsL_law := in_r3 _ (List.mem_of_getElem? (i := 19) rfl)
theorem flX6_34 : Cond.fieldLink RX6 34 (TX6 10).1 (TX6 10).2.1 (TX6 10).2.2.1 ∈ wsL_law := in_r3 _ (List.mem_of_getElem? (i := 20) rfl)
theorem flX6_37 : Cond.fieldLink RX6 37 (TX6 11).1 (TX6 11).2.1 (TX6 11).2.2.1 ∈ wsL_law := in_r3 _ (List.mem_of_getElem? (i := 21) rfl)
theorem flX6_40 : Cond.fieldLink RX6 40 (TX6 12).1 (TX6 12).2.1 (TX6 12).2.2.1 ∈ wsL_law := in_r3 _ (List.mem_of_getElem? (i := 22) rfl)
theorem flX6_46 : Cond.fieldLink RX6 46 (TX6 0).1 (TX6 0).2.1 (TX6 0).2.2.1 ∈ wsL_law := in_r4 _ (List.mem_of_getElem? (i := 3) rfl)
theorem flX6_50 : Cond.fieldLink RX6 50 (TX6 4).1 (TX6 4).2.1 (TX6 4).2.2.1 ∈ wsL_law := in_r4 _ (List.mem_of_getElem? (i := 4) rfl)
theorem flX6_53 : Cond.fieldLink RX6 53 (TX6 9).1 (TX6 9).2.1 (TX6 9).2.2.1 ∈ wsL_law := in_r4 _ (List.mem_of_getElem? (i := 5) rfl)
theorem flX6_56 : Cond.fieldLink RX6 56 (TX6 13).1 (TX6 13).2.1 (TX6 13).2.2.1 ∈ wsL_law := in_r4 _ (List.mem_of_getElem? (i := 6) rfl)
theorem flX6_59 : Cond.fieldLink RX6 59 (TX6 14).1 (TX6 14).2.1 (TX6 14).2.2.1 ∈ wsL_law := in_r4 _ (List.mem_of_getElem? (i := 7) rfl)
theorem flX2_11 : Cond.fieldLink RX2 11 (TX2 1).1 (TX2 1).2.1 (TX2 1).2.2.1 ∈ wsL_law := in_r4 _ (List.mem_of_getElem? (i := 13) rfl)
theorem flX2_15 : Cond.fieldLink RX2 15 (TX2 2).1 (TX2 2).2.1 (TX2 2).2.2.1 ∈ wsL_law := in_r4 _ (List.mem_of_getElem? (i := 14) rfl)
theorem flX2_19 : Cond.fieldLink RX2 19 (TX2 4).1 (TX2 4).2.1 (TX2 4).2.2.1 ∈ wsL_law := in_r4 _ (List.mem_of_getElem? (i := 15) rfl)
theorem flX2_22 : Cond.fieldLink RX2 22 (TX2 3).1 (TX2 3).2.1 (TX2 3).2.2.1 ∈ wsL_law := in_r4 _ (List.mem_of_getElem? (i := 16) rfl)
theorem flX0_9 : Cond.fieldLink RX0 9 (TX0 1).1 (TX0 1).2.1 (TX0 1).2.2.1 ∈ wsL_law := in_r4 _ (List.mem_of_getElem? (i := 21) rfl)
theorem flX0_15 : Cond.fieldLink RX0 15 (TX0 3).1 (TX0 3).2.1 (TX0 3).2.2.1 ∈ wsL_law := in_r4 _ (List.mem_of_getElem? (i := 22) rfl)
theorem flX0_18 : Cond.fieldLink RX0 18 (TX0 4).1 (TX0 4).2.1 (TX0 4).2.2.1 ∈ wsL_law := in_r4 _ (List.mem_of_getElem? (i := 23) rfl)
theorem flX0_21 : Cond.fieldLink RX0 21 (TX0 2).1 (TX0 2).2.1 (TX0 2).2.2.1 ∈ wsL_law := in_r5 _ (List.mem_of_getElem? (i := 0) rfl)
theorem flX1_11 : Cond.fieldLink RX1 11 (TX1 2).1 (TX1 2).2.1 (TX1 2).2.2.1 ∈ wsL_law := in_r5 _ (List.mem_of_getElem? (i := 4) rfl)
theorem flX1_15 : Cond.fieldLink RX1 15 (TX1 3).1 (TX1 3).2.1 (TX1 3).2.2.1 ∈ wsL_law := in_r5 _ (List.mem_of_getElem? (i := 5) rfl)
theorem flX1_18 : Cond.fieldLink RX1 18 (TX1 4).1 (TX1 4).2.1 (TX1 4).2.2.1 ∈ wsL_law := in_r5 _ (List.mem_of_getElem? (i := 6) rfl)
theorem flX3_11 : Cond.fieldLink RX3 11 (TX3 0).1 (TX3 0).2.1 (TX3 0).2.2.1 ∈ wsL_law := in_r5 _ (List.mem_of_getElem? (i := 10) rfl)
theorem flX3_15 : Cond.fieldLink RX3 15 (TX3 2).1 (TX3 2).2.1 (TX3 2).2.2.1 ∈ wsL_law := in_r5 _ (List.mem_of_getElem? (i := 11) rfl)
theorem flX8_7 : Cond.fieldLink RX8 7 (TX8 0).1 (TX8 0).2.1 (TX8 0).2.2.1 ∈ wsL_law := in_r5 _ (List.mem_of_getElem? (i := 16) rfl)
theorem flX8_13 : Cond.fieldLink RX8 13 (TX8 1).1 (TX8 1).2.1 (TX8 1).2.2.1 ∈ wsL_law := in_r5 _ (List.mem_of_getElem? (i := 17) rfl)
theorem flX8_16 : Cond.fieldLink RX8 16 (TX8 4).1 (TX8 4).2.1 (TX8 4).2.2.1 ∈ wsL_law := in_r5 _ (List.mem_of_getElem? (i := 18) rfl)
theorem flX8_19 : Cond.fieldLink RX8 19 (TX8 5).1 (TX8 5).2.1 (TX8 5).2.2.1 ∈ wsL_law := in_r5 _ (List.mem_of_getElem? (i := 19) rfl)
theorem flX8_22 : Cond.fieldLink RX8 22 (TX8 12).1 (TX8 12).2.1 (TX8 12).2.2.1 ∈ wsL_law := in_r5 _ (List.mem_of_getElem? (i := 20) rfl)
theorem flX8_25 : Cond.fieldLink RX8 25 (TX8 13).1 (TX8 13).2.1 (TX8 13).2.2.1 ∈ wsL_law := in_r5 _ (List.mem_of_getElem? (i := 21) rfl)
theorem flX8_28 : Cond.fieldLink RX8 28 (TX8 22).1 (TX8 22).2.1 (TX8 22).2.2.1 ∈ wsL_law := in_r5 _ (List.mem_of_getElem? (i := 22) rfl)
theorem flX8_31 : Cond.fieldLink RX8 31 (TX8 23).1 (TX8 23).2.1 (TX8 23).2.2.1 ∈ wsL_law := in_r5 _ (List.mem_of_getElem? (i := 23) rfl)
theorem flX8_34 : Cond.fieldLink RX8 34 (TX8 24).1 (TX8 24).2.1 (TX8 24).2.2.1 ∈ wsL_law := in_r6 _ (List.mem_of_getElem? (i := 0) rfl)
theorem flX8_37 : Cond.fieldLink RX8 37 (TX8 25).1 (TX8 25).2.1 (TX8 25).2.2.1 ∈ wsL_law := in_r6 _ (List.mem_of_getElem? (i := 1) rfl)
theorem flX8_40 : Cond.fieldLink RX8 40 (TX8 27).1 (TX8 27).2.1 (TX8 27).2.2.1 ∈ wsL_law := in_r6 _ (List.mem_of_getElem? (i := 2) rfl)
theorem flX8_43 : Cond.fieldLink RX8 43 (TX8 28).1 (TX8 28).2.1 (TX8 28).2.2.1 ∈ wsL_law := in_r6 _ (List.mem_of_getElem? (i := 3) rfl)
theorem flX8_46 : Cond.fieldLink RX8 46 (TX8 29).1 (TX8 29).2.1 (TX8 29).2.2.1 ∈ wsL_law := in_r6 _ (List.mem_of_getElem? (i := 4) rfl)
theorem flX8_49 : Cond.fieldLink RX8 49 (TX8 30).1 (TX8 30).2.1 (TX8 30).2.2.1 ∈ wsL_law := in_r6 _ (List.mem_of_getElem? (i := 5) rfl)
theorem flX8_52 : Cond.fieldLink RX8 52 (TX8 33).1 (TX8 33).2.1 (TX8 33).2.2.1 ∈ wsL_law := in_r6 _ (List.mem_of_getElem? (i := 6) rfl)
theorem flX8_56 : Cond.fieldLink RX8 56 (TX8 34).1 (TX8 34).2.1 (TX8 34).2.2.1 ∈ wsL_law := in_r6 _ (List.mem_of_getElem? (i := 7) rfl)
theorem flX8_59 : Cond.fieldLink RX8 59 (TX8 35).1 (TX8 35).2.1 (TX8 35).2.2.1 ∈ wsL_law := in_r6 _ (List.mem_of_getElem? (i := 8) rfl)
theorem flX8_62 : Cond.fieldLink RX8 62 (TX8 36).1 (TX8 36).2.1 (TX8 36).2.2.1 ∈ wsL_law := in_r6 _ (List.mem_of_getElem? (i := 9) rfl)
theorem flX4_15 : Cond.fieldLink RX4 15 (TX4 1).1 (TX4 1).2.1 (TX4 1).2.2.1 ∈ wsL_law := in_r6 _ (List.mem_of_getElem? (i := 18) rfl)
theorem flX8_65 : Cond.fieldLink RX8 65 (TX8 14).1 (TX8 14).2.1 (TX8 14).2.2.1 ∈ wsL_law := in_r6 _ (List.mem_of_getElem? (i := 23) rfl)
theorem flX7_82 : Cond.fieldLink RX7 82 (TX4 1).1 (TX4 1).2.1 (TX4 1).2.2.1 ∈ wsL_law := in_r7 _ (List.mem_of_getElem? (i := 19) rfl)
theorem flX7_86 : Cond.fieldLink RX7 86 (TX5 3).1 (TX5 3).2.1 (TX5 3).2.2.1 ∈ wsL_law := in_r7 _ (List.mem_of_getElem? (i := 20) rfl)
theorem flX7_89 : Cond.fieldLink RX7 89 (TX5 0).1 (TX5 0).2.1 (TX5 0).2.2.1 ∈ wsL_law := in_r7 _ (List.mem_of_getElem? (i := 21) rfl)
theorem flX7_95 : Cond.fieldLink RX7 95 (TX2 0).1 (TX2 0).2.1 (TX2 0).2.2.1 ∈ wsL_law := in_r7 _ (List.mem_of_getElem? (i := 22) rfl)
theorem flX7_98 : Cond.fieldLink RX7 98 (TX1 0).1 (TX1 0).2.1 (TX1 0).2.2.1 ∈ wsL_law := in_r7 _ (List.mem_of_getElem? (i := 23) rfl)
theorem flX7_101 : Cond.fieldLink RX7 101 (TX5 1).1 (TX5 1).2.1 (TX5 1).2.2.1 ∈ wsL_law := in_r8 _ (List.mem_of_getElem? (i := 0) rfl)
theorem flX5_25 : Cond.fieldLink RX5 25 (TX5 1).1 (TX5 1).2.1 (TX5 1).2.2.1 ∈ wsL_law := in_r8 _ (List.mem_of_getElem? (i := 5) rfl)
theorem flX5_29 : Cond.fieldLink RX5 29 (TX5 2).1 (TX5 2).2.1 (TX5 2).2.2.1 ∈ wsL_law := in_r8 _ (List.mem_of_getElem? (i := 6) rfl)
theorem flX5_32 : Cond.fieldLink RX5 32 (TX5 3).1 (TX5 3).2.1 (TX5 3).2.2.1 ∈ wsL_law := in_r8 _ (List.mem_of_getElem? (i := 7) rfl)
theorem flX5_35 : Cond.fieldLink RX5 35 (TX5 5).1 (TX5 5).2.1 (TX5 5).2.2.1 ∈ wsL_law := in_r8 _ (List.mem_of_getElem? (i := 8) rfl)
theorem flX5_39 : Cond.fieldLink RX5 39 (TX5 6).1 (TX5 6).2.1 (TX5 6).2.2.1 ∈ wsL_law := in_r8 _ (List.mem_of_getElem? (i := 9) rfl)
theorem flX5_42 : Cond.fieldLink RX5 42 (TX5 9).1 (TX5 9).2.1 (TX5 9).2.2.1 ∈ wsL_law := in_r8 _ (List.mem_of_getElem? (i := 10) rfl)
theorem flX5_45 : Cond.fieldLink RX5 45 (TX4 1).1 (TX4 1).2.1 (TX4 1).2.2.1 ∈ wsL_law := in_r8 _ (List.mem_of_getElem? (i := 11) rfl)
theorem flX5_54 : Cond.fieldLink RX5 54 (TX5 7).1 (TX5 7).2.1 (TX5 7).2.2.1 ∈ wsL_law := in_r8 _ (List.mem_of_getElem? (i := 12) rfl)
theorem flX5_63 : Cond.fieldLink RX5 63 (TX5 8).1 (TX5 8).2.1 (TX5 8).2.2.1 ∈ wsL_law := in_r8 _ (List.mem_of_getElem? (i := 18) rfl)
theorem flX5_66 : Cond.fieldLink RX5 66 (TX4 0).1 (TX4 0).2.1 (TX4 0).2.2.1 ∈ wsL_law := in_r8 _ (List.mem_of_getElem? (i := 19) rfl)
theorem flX5_171 : Cond.fieldLink RX5 171 (TX6 6).1 (TX6 6).2.1 (TX6 6).2.2.1 ∈ wsL_law := in_r9 _ (List.mem_of_getElem? (i := 7) rfl)
theorem flX5_187 : Cond.fieldLink RX5 187 (TX6 9).1 (TX6 9).2.1 (TX6 9).2.2.1 ∈ wsL_law := in_r9 _ (List.mem_of_getElem? (i := 8) rfl)
theorem flX5_200 : Cond.fieldLink RX5 200 (TX6 11).1 (TX6 11).2.1 (TX6 11).2.2.1 ∈ wsL_law := in_r9 _ (List.mem_of_getElem? (i := 9) rfl)
theorem flX5_203 : Cond.fieldLink RX5 203 (TX6 12).1 (TX6 12).2.1 (TX6 12).2.2.1 ∈ wsL_law := in_r9 _ (List.mem_of_getElem? (i := 10) rfl)
theorem flX5_87 : Cond.fieldLink RX5 87 (TX5 10).1 (TX5 10).2.1 (TX5 10).2.2.1 ∈ wsL_law := in_r12 _ (List.mem_of_getElem? (i := 12) rfl)
theorem flX5_130 : Cond.fieldLink RX5 130 (TX6 13).1 (TX6 13).2.1 (TX6 13).2.2.1 ∈ wsL_law := in_r12 _ (List.mem_of_getElem? (i := 13) rfl)
theorem flX5_136 : Cond.fieldLink RX5 136 (TX6 14).1 (TX6 14).2.1 (TX6 14).2.2.1 ∈ wsL_law := in_r13 _ (List.mem_of_getElem? (i := 6) rfl)
theorem flX5_139 : Cond.fieldLink RX5 139 (TX6 0).1 (TX6 0).2.1 (TX6 0).2.2.1 ∈ wsL_law := in_r13 _ (List.mem_of_getElem? (i := 11) rfl)
theorem flX5_142 : Cond.fieldLink RX5 142 (TX6 1).1 (TX6 1).2.1 (TX6 1).2.2.1 ∈ wsL_law := in_r13 _ (List.mem_of_getElem? (i := 12) rfl)
theorem flX5_149 : Cond.fieldLink RX5 149 (TX6 2).1 (TX6 2).2.1 (TX6 2).2.2.1 ∈ wsL_law := in_r13 _ (List.mem_of_getElem? (i := 13) rfl)
theorem flX5_152 : Cond.fieldLink RX5 152 (TX6 3).1 (TX6 3).2.1 (TX6 3).2.2.1 ∈ wsL_law := in_r13 _ (List.mem_of_getElem? (i := 14) rfl)
theorem flX5_165 : Cond.fieldLink RX5 165 (TX6 4).1 (TX6 4).2.1 (TX6 4).2.2.1 ∈ wsL_law := in_r13 _ (List.mem_of_getElem? (i := 23) rfl)
theorem flX5_168 : Cond.fieldLink RX5 168 (TX6 5).1 (TX6 5).2.1 (TX6 5).2.2.1 ∈ wsL_law := in_r14 _ (List.mem_of_getElem? (i := 0) rfl)
theorem flX5_176 : Cond.fieldLink RX5 176 (TX6 7).1 (TX6 7).2.1 (TX6 7).2.2.1 ∈ wsL_law := in_r14 _ (List.mem_of_getElem? (i := 1) rfl)
theorem flX5_184 : Cond.fieldLink RX5 184 (TX6 8).1 (TX6 8).2.1 (TX6 8).2.2.1 ∈ wsL_law := in_r14 _ (List.mem_of_getElem? (i := 6) rfl)
theorem flX8_73 : Cond.fieldLink RX8 73 (TX8 16).1 (TX8 16).2.1 (TX8 16).2.2.1 ∈ wsL_law := in_r15 _ (List.mem_of_getElem? (i := 3) rfl)
theorem flX8_82 : Cond.fieldLink RX8 82 (TX8 20).1 (TX8 20).2.1 (TX8 20).2.2.1 ∈ wsL_law := in_r15 _ (List.mem_of_getElem? (i := 4) rfl)
theorem flX8_114 : Cond.fieldLink RX8 114 (TX8 10).1 (TX8 10).2.1 (TX8 10).2.2.1 ∈ wsL_law := in_r15 _ (List.mem_of_getElem? (i := 5) rfl)
theorem flX8_121 : Cond.fieldLink RX8 121 (TX8 6).1 (TX8 6).2.1 (TX8 6).2.2.1 ∈ wsL_law := in_r15 _ (List.mem_of_getElem? (i := 6) rfl)
theorem flX8_136 : Cond.fieldLink RX8 136 (TX8 11).1 (TX8 11).2.1 (TX8 11).2.2.1 ∈ wsL_law := in_r15 _ (List.mem_of_getElem? (i := 7) rfl)
theorem flX8_124 : Cond.fieldLink RX8 124 (TX8 7).1 (TX8 7).2.1 (TX8 7).2.2.1 ∈ wsL_law := in_r15 _ (List.mem_of_getElem? (i := 8) rfl)
theorem flX8_163 : Cond.fieldLink RX8 163 (TX8 15).1 (TX8 15).2.1 (TX8 15).2.2.1 ∈ wsL_law := in_r15 _ (List.mem_of_getElem? (i := 9) rfl)
theorem flX8_79 : Cond.fieldLink RX8 79 (TX8 17).1 (TX8 17).2.1 (TX8 17).2.2.1 ∈ wsL_law := in_r15 _ (List.mem_of_getElem? (i := 10) rfl)
theorem flX8_166 : Cond.fieldLink RX8 166 (TX8 2).1 (TX8 2).2.1 (TX8 2).2.2.1 ∈ wsL_law := in_r15 _ (List.mem_of_getElem? (i := 11) rfl)
theorem flX8_169 : Cond.fieldLink RX8 169 (TX8 3).1 (TX8 3).2.1 (TX8 3).2.2.1 ∈ wsL_law := in_r15 _ (List.mem_of_getElem? (i := 12) rfl)
theorem flX8_172 : Cond.fieldLink RX8 172 (TX8 26).1 (TX8 26).2.1 (TX8 26).2.2.1 ∈ wsL_law := in_r15 _ (List.mem_of_getElem? (i := 13) rfl)
theorem flX8_175 : Cond.fieldLink RX8 175 (TX8 31).1 (TX8 31).2.1 (TX8 31).2.2.1 ∈ wsL_law := in_r15 _ (List.mem_of_getElem? (i := 14) rfl)
theorem flX8_85 : Cond.fieldLink RX8 85 (TX8 18).1 (TX8 18).2.1 (TX8 18).2.2.1 ∈ wsL_law := in_r15 _ (List.mem_of_getElem? (i := 19) rfl)
theorem flX8_130 : Cond.fieldLink RX8 130 (TX8 8).1 (TX8 8).2.1 (TX8 8).2.2.1 ∈ wsL_law := in_r15 _ (List.mem_of_getElem? (i := 20) rfl)
theorem flX8_133 : Cond.fieldLink RX8 133 (TX8 9).1 (TX8 9).2.1 (TX8 9).2.2.1 ∈ wsL_law := in_r15 _ (List.mem_of_getElem? (i := 21) rfl)
theorem flX8_76 : Cond.fieldLink RX8 76 (TX8 19).1 (TX8 19).2.1 (TX8 19).2.2.1 ∈ wsL_law := in_r16 _ (List.mem_of_getElem? (i := 2) rfl)
theorem flX8_92 : Cond.fieldLink RX8 92 (TX8 21).1 (TX8 21).2.1 (TX8 21).2.2.1 ∈ wsL_law := in_r16 _ (List.mem_of_getElem? (i := 3) rfl)
theorem flX7_104 : Cond.fieldLink RX7 104 (TX5 2).1 (TX5 2).2.1 (TX5 2).2.2.1 ∈ wsL_law := in_r18 _ (List.mem_of_getElem? (i := 9) rfl)
theorem flX7_107 : Cond.fieldLink RX7 107 (TX6 0).1 (TX6 0).2.1 (TX6 0).2.2.1 ∈ wsL_law := in_r18 _ (List.mem_of_getElem? (i := 18) rfl)
theorem flX7_110 : Cond.fieldLink RX7 110 (TX6 4).1 (TX6 4).2.1 (TX6 4).2.2.1 ∈ wsL_law := in_r18 _ (List.mem_of_getElem? (i := 19) rfl)
theorem flX7_113 : Cond.fieldLink RX7 113 (TX6 9).1 (TX6 9).2.1 (TX6 9).2.2.1 ∈ wsL_law := in_r18 _ (List.mem_of_getElem? (i := 20) rfl)
theorem flX7_116 : Cond.fieldLink RX7 116 (TX6 13).1 (TX6 13).2.1 (TX6 13).2.2.1 ∈ wsL_law := in_r18 _ (List.mem_of_getElem? (i := 21) rfl)
theorem flX7_119 : Cond.fieldLink RX7 119 (TX6 14).1 (TX6 14).2.1 (TX6 14).2.2.1 ∈ wsL_law := in_r18 _ (List.mem_of_getElem? (i := 22) rfl)
theorem flX7_126 : Cond.fieldLink RX7 126 (TX6 1).1 (TX6 1).2.1 (TX6 1).2.2.1 ∈ wsL_law := in_r19 _ (List.mem_of_getElem? (i := 11) rfl)
theorem flX7_130 : Cond.fieldLink RX7 130 (TX6 2).1 (TX6 2).2.1 (TX6 2).2.2.1 ∈ wsL_law := in_r19 _ (List.mem_of_getElem? (i := 12) rfl)
theorem flX7_133 : Cond.fieldLink RX7 133 (TX6 3).1 (TX6 3).2.1 (TX6 3).2.2.1 ∈ wsL_law := in_r19 _ (List.mem_of_getElem? (i := 13) rfl)
theorem flX7_139 : Cond.fieldLink RX7 139 (TX6 5).1 (TX6 5).2.1 (TX6 5).2.2.1 ∈ wsL_law := in_r20 _ (List.mem_of_getElem? (i := 4) rfl)
theorem flX7_142 : Cond.fieldLink RX7 142 (TX6 6).1 (TX6 6).2.1 (TX6 6).2.2.1 ∈ wsL_law := in_r20 _ (List.mem_of_getElem? (i := 5) rfl)
theorem flX7_145 : Cond.fieldLink RX7 145 (TX6 7).1 (TX6 7).2.1 (TX6 7).2.2.1 ∈ wsL_law := in_r20 _ (List.mem_of_getElem? (i := 6) rfl)
theorem flX7_152 : Cond.fieldLink RX7 152 (TX6 8).1 (TX6 8).2.1 (TX6 8).2.2.1 ∈ wsL_law := in_r20 _ (List.mem_of_getElem? (i := 7) rfl)
theorem flX7_159 : Cond.fieldLink RX7 159 (TX6 10).1 (TX6 10).2.1 (TX6 10).2.2.1 ∈ wsL_law := in_r22 _ (List.mem_of_getElem? (i := 1) rfl)
theorem flX7_162 : Cond.fieldLink RX7 162 (TX6 11).1 (TX6 11).2.1 (TX6 11).2.2.1 ∈ wsL_law := in_r22 _ (List.mem_of_getElem? (i := 2) rfl)
theorem flX7_165 : Cond.fieldLink RX7 165 (TX6 12).1 (TX6 12).2.1 (TX6 12).2.2.1 ∈ wsL_law := in_r22 _ (List.mem_of_getElem? (i := 3) rfl)
theorem flX2_48 : Cond.fieldLink RX2 48 (TX6 9).1 (TX6 9).2.1 (TX6 9).2.2.1 ∈ wsL_law := in_r29 _ (List.mem_of_getElem? (i := 13) rfl)
theorem flX2_51 : Cond.fieldLink RX2 51 (TX6 11).1 (TX6 11).2.1 (TX6 11).2.2.1 ∈ wsL_law := in_r29 _ (List.mem_of_getElem? (i := 14) rfl)
theorem flX2_54 : Cond.fieldLink RX2 54 (TX6 12).1 (TX6 12).2.1 (TX6 12).2.2.1 ∈ wsL_law := in_r29 _ (List.mem_of_getElem? (i := 15) rfl)
theorem flX2_57 : Cond.fieldLink RX2 57 (TX6 10).1 (TX6 10).2.1 (TX6 10).2.2.1 ∈ wsL_law := in_r29 _ (List.mem_of_getElem? (i := 16) rfl)
theorem flX2_67 : Cond.fieldLink RX2 67 (TX6 1).1 (TX6 1).2.1 (TX6 1).2.2.1 ∈ wsL_law := in_r29 _ (List.mem_of_getElem? (i := 17) rfl)
theorem flX2_26 : Cond.fieldLink RX2 26 (TX2 0).1 (TX2 0).2.1 (TX2 0).2.2.1 ∈ wsL_law := in_r32 _ (List.mem_of_getElem? (i := 2) rfl)
theorem flX7_220 : Cond.fieldLink RX7 220 (TX0 1).1 (TX0 1).2.1 (TX0 1).2.2.1 ∈ wsL_law := in_r33 _ (List.mem_of_getElem? (i := 8) rfl)
theorem flX7_223 : Cond.fieldLink RX7 223 (TX0 0).1 (TX0 0).2.1 (TX0 0).2.2.1 ∈ wsL_law := in_r33 _ (List.mem_of_getElem? (i := 9) rfl)
theorem flX0_29 : Cond.fieldLink RX0 29 (TX0 0).1 (TX0 0).2.1 (TX0 0).2.2.1 ∈ wsL_law := in_r33 _ (List.mem_of_getElem? (i := 20) rfl)
theorem flX0_44 : Cond.fieldLink RX0 44 (TX6 4).1 (TX6 4).2.1 (TX6 4).2.2.1 ∈ wsL_law := in_r34 _ (List.mem_of_getElem? (i := 1) rfl)
theorem flX0_49 : Cond.fieldLink RX0 49 (TX6 0).1 (TX6 0).2.1 (TX6 0).2.2.1 ∈ wsL_law := in_r34 _ (List.mem_of_getElem? (i := 2) rfl)
theorem flX0_63 : Cond.fieldLink RX0 63 (TX6 6).1 (TX6 6).2.1 (TX6 6).2.2.1 ∈ wsL_law := in_r34 _ (List.mem_of_getElem? (i := 17) rfl)
theorem flX0_66 : Cond.fieldLink RX0 66 (TX6 5).1 (TX6 5).2.1 (TX6 5).2.2.1 ∈ wsL_law := in_r34 _ (List.mem_of_getElem? (i := 18) rfl)
theorem flX0_69 : Cond.fieldLink RX0 69 (TX6 14).1 (TX6 14).2.1 (TX6 14).2.2.1 ∈ wsL_law := in_r34 _ (List.mem_of_getElem? (i := 19) rfl)
theorem flX1_22 : Cond.fieldLink RX1 22 (TX1 0).1 (TX1 0).2.1 (TX1 0).2.2.1 ∈ wsL_law := in_r37 _ (List.mem_of_getElem? (i := 15) rfl)
theorem flX7_237 : Cond.fieldLink RX7 237 (TX1 1).1 (TX1 1).2.1 (TX1 1).2.2.1 ∈ wsL_law := in_r38 _ (List.mem_of_getElem? (i := 8) rfl)
theorem flX7_240 : Cond.fieldLink RX7 240 (TX1 2).1 (TX1 2).2.1 (TX1 2).2.2.1 ∈ wsL_law := in_r38 _ (List.mem_of_getElem? (i := 9) rfl)
theorem flX1_26 : Cond.fieldLink RX1 26 (TX1 1).1 (TX1 1).2.1 (TX1 1).2.2.1 ∈ wsL_law := in_r38 _ (List.mem_of_getElem? (i := 14) rfl)
theorem flX8_265 : Cond.fieldLink RX8 265 (TX8 32).1 (TX8 32).2.1 (TX8 32).2.2.1 ∈ wsL_law := in_r41 _ (List.mem_of_getElem? (i := 0) rfl)
theorem flX3_19 : Cond.fieldLink RX3 19 (TX3 1).1 (TX3 1).2.1 (TX3 1).2.2.1 ∈ wsL_law := in_r42 _ (List.mem_of_getElem? (i := 16) rfl)
theorem flX7_274 : Cond.fieldLink RX7 274 (TX3 1).1 (TX3 1).2.1 (TX3 1).2.2.1 ∈ wsL_law := in_r43 _ (List.mem_of_getElem? (i := 1) rfl)
theorem flX7_283 : Cond.fieldLink RX7 283 (TX3 0).1 (TX3 0).2.1 (TX3 0).2.2.1 ∈ wsL_law := in_r43 _ (List.mem_of_getElem? (i := 18) rfl)
theorem flX7_286 : Cond.fieldLink RX7 286 (TX7 9).1 (TX7 9).2.1 (TX7 9).2.2.1 ∈ wsL_law := in_r43 _ (List.mem_of_getElem? (i := 19) rfl)
theorem flX8_280 : Cond.fieldLink RX8 280 (TX8 37).1 (TX8 37).2.1 (TX8 37).2.2.1 ∈ wsL_law := in_r44 _ (List.mem_of_getElem? (i := 6) rfl)
theorem fsJ0_9 : Cond.fieldLink RJ0 9 "java/lang/String" "value" "[B" ∈ wsL_law := in_r10 _ (List.mem_of_getElem? (i := 12) rfl)
theorem fsJ0_38 : Cond.fieldLink RJ0 38 "java/lang/String" "COMPACT_STRINGS" "Z" ∈ wsL_law := in_r10 _ (List.mem_of_getElem? (i := 17) rfl)
theorem fsJ0_15 : Cond.fieldLink RJ0 15 "java/lang/String" "coder" "B" ∈ wsL_law := in_r10 _ (List.mem_of_getElem? (i := 18) rfl)
theorem fsJ0_1053 : Cond.fieldLink RJ0 1053 "jdk/internal/util/Preconditions" "SIOOBE_FORMATTER" "Ljava/util/function/BiFunction;" ∈ wsL_law := in_r11 _ (List.mem_of_getElem? (i := 10) rfl)
theorem fsJ2_44 : Cond.fieldLink RJ2 44 "java/lang/StringUTF16" "$assertionsDisabled" "Z" ∈ wsL_law := in_r12 _ (List.mem_of_getElem? (i := 5) rfl)
theorem fsJ2_59 : Cond.fieldLink RJ2 59 "java/lang/StringUTF16" "HI_BYTE_SHIFT" "I" ∈ wsL_law := in_r12 _ (List.mem_of_getElem? (i := 6) rfl)
theorem fsJ2_63 : Cond.fieldLink RJ2 63 "java/lang/StringUTF16" "LO_BYTE_SHIFT" "I" ∈ wsL_law := in_r12 _ (List.mem_of_getElem? (i := 7) rfl)
theorem mlL_9 : Cond.methodLink RL 9 yX7_init ∈ wsL_law := in_r1 _ (List.mem_of_getElem? (i := 7) rfl)
theorem mlX7_1 : Cond.methodLink RX7 1 objectInit ∈ wsL_law := in_r1 _ (List.mem_of_getElem? (i := 10) rfl)
theorem mlX4_3 : Cond.methodLink RX4 3 objectInit ∈ wsL_law := in_r2 _ (List.mem_of_getElem? (i := 22) rfl)
theorem mlX7_18 : Cond.methodLink RX7 18 yX5_init ∈ wsL_law := in_r3 _ (List.mem_of_getElem? (i := 1) rfl)
theorem mlX5_3 : Cond.methodLink RX5 3 objectInit ∈ wsL_law := in_r3 _ (List.mem_of_getElem? (i := 4) rfl)
theorem mlX5_11 : Cond.methodLink RX5 11 yX6_init ∈ wsL_law := in_r3 _ (List.mem_of_getElem? (i := 8) rfl)
theorem mlX6_3 : Cond.methodLink RX6 3 objectInit ∈ wsL_law := in_r3 _ (List.mem_of_getElem? (i := 11) rfl)
theorem mlX6_43 : Cond.methodLink RX6 43 yX6_clear ∈ wsL_law := in_r3 _ (List.mem_of_getElem? (i := 23) rfl)
theorem mlX7_27 : Cond.methodLink RX7 27 yX6_init ∈ wsL_law := in_r4 _ (List.mem_of_getElem? (i := 8) rfl)
theorem mlX7_34 : Cond.methodLink RX7 34 yX2_init ∈ wsL_law := in_r4 _ (List.mem_of_getElem? (i := 9) rfl)
theorem mlX2_3 : Cond.methodLink RX2 3 objectInit ∈ wsL_law := in_r4 _ (List.mem_of_getElem? (i := 12) rfl)
theorem mlX7_43 : Cond.methodLink RX7 43 yX0_init ∈ wsL_law := in_r4 _ (List.mem_of_getElem? (i := 17) rfl)
theorem mlX0_3 : Cond.methodLink RX0 3 objectInit ∈ wsL_law := in_r4 _ (List.mem_of_getElem? (i := 20) rfl)
theorem mlX1_3 : Cond.methodLink RX1 3 objectInit ∈ wsL_law := in_r5 _ (List.mem_of_getElem? (i := 3) rfl)
theorem mlX3_3 : Cond.methodLink RX3 3 objectInit ∈ wsL_law := in_r5 _ (List.mem_of_getElem? (i := 9) rfl)
theorem mlL_12 : Cond.methodLink RL 12 yX8_init ∈ wsL_law := in_r5 _ (List.mem_of_getElem? (i := 12) rfl)
theorem mlX8_1 : Cond.methodLink RX8 1 objectInit ∈ wsL_law := in_r5 _ (List.mem_of_getElem? (i := 15) rfl)
theorem mlL_15 : Cond.methodLink RL 15 yX7_feed ∈ wsL_law := in_r6 _ (List.mem_of_getElem? (i := 10) rfl)
theorem mlX7_70 : Cond.methodLink RX7 70 yX4_append ∈ wsL_law := in_r6 _ (List.mem_of_getElem? (i := 14) rfl)
theorem mlL_19 : Cond.methodLink RL 19 yX8_feed ∈ wsL_law := in_r6 _ (List.mem_of_getElem? (i := 19) rfl)
theorem mlL_20 : Cond.methodLink RL 20 yX7_end ∈ wsL_law := in_r7 _ (List.mem_of_getElem? (i := 0) rfl)
theorem mlX7_74 : Cond.methodLink RX7 74 yX4_cutTo ∈ wsL_law := in_r7 _ (List.mem_of_getElem? (i := 4) rfl)
theorem mlL_24 : Cond.methodLink RL 24 yX8_end ∈ wsL_law := in_r7 _ (List.mem_of_getElem? (i := 8) rfl)
theorem mlX8_69 : Cond.methodLink RX8 69 yX8_in ∈ wsL_law := in_r7 _ (List.mem_of_getElem? (i := 12) rfl)
theorem mlL_25 : Cond.methodLink RL 25 yX7_text ∈ wsL_law := in_r7 _ (List.mem_of_getElem? (i := 15) rfl)
theorem mlX7_78 : Cond.methodLink RX7 78 yX5_readTape ∈ wsL_law := in_r8 _ (List.mem_of_getElem? (i := 1) rfl)
theorem mlX5_22 : Cond.methodLink RX5 22 yX6_clear ∈ wsL_law := in_r8 _ (List.mem_of_getElem? (i := 13) rfl)
theorem mlX5_50 : Cond.methodLink RX5 50 yX5_readToken ∈ wsL_law := in_r8 _ (List.mem_of_getElem? (i := 14) rfl)
theorem mlX5_70 : Cond.methodLink RX5 70 yX5_tokenBegunBy ∈ wsL_law := in_r8 _ (List.mem_of_getElem? (i := 20) rfl)
theorem mlX5_74 : Cond.methodLink RX5 74 yX5_fail ∈ wsL_law := in_r8 _ (List.mem_of_getElem? (i := 23) rfl)
theorem mlX5_57 : Cond.methodLink RX5 57 yX5_checkNamed ∈ wsL_law := in_r9 _ (List.mem_of_getElem? (i := 3) rfl)
theorem mlX5_194 : Cond.methodLink RX5 194 yX6_hasCoin ∈ wsL_law := in_r9 _ (List.mem_of_getElem? (i := 11) rfl)
theorem mlX5_197 : Cond.methodLink RX5 197 yX6_hasOne ∈ wsL_law := in_r9 _ (List.mem_of_getElem? (i := 15) rfl)
theorem mlX5_180 : Cond.methodLink RX5 180 yX6_isSpent ∈ wsL_law := in_r9 _ (List.mem_of_getElem? (i := 19) rfl)
theorem mlX5_60 : Cond.methodLink RX5 60 yX5_readLine ∈ wsL_law := in_r9 _ (List.mem_of_getElem? (i := 23) rfl)
theorem mlX5_95 : Cond.methodLink RX5 95 yX5_isName ∈ wsL_law := in_r10 _ (List.mem_of_getElem? (i := 3) rfl)
theorem mlX5_78 : Cond.methodLink RX5 78 yJ0_length_8abf5 ∈ wsL_law := in_r10 _ (List.mem_of_getElem? (i := 7) rfl)
theorem mlJ0_335 : Cond.methodLink RJ0 335 yJ0_coder_7d493 ∈ wsL_law := in_r10 _ (List.mem_of_getElem? (i := 13) rfl)
theorem mlX5_83 : Cond.methodLink RX5 83 yJ0_charAt_5068e ∈ wsL_law := in_r10 _ (List.mem_of_getElem? (i := 19) rfl)
theorem mlJ0_492 : Cond.methodLink RJ0 492 yJ0_isLatin1_aae02 ∈ wsL_law := in_r10 _ (List.mem_of_getElem? (i := 23) rfl)
theorem mlJ0_495 : Cond.methodLink RJ0 495 yJ1_charAt_3b067 ∈ wsL_law := in_r11 _ (List.mem_of_getElem? (i := 3) rfl)
theorem mlJ1_9 : Cond.methodLink RJ1 9 yJ0_checkIndex_df160 ∈ wsL_law := in_r11 _ (List.mem_of_getElem? (i := 7) rfl)
theorem mlJ0_1059 : Cond.methodLink RJ0 1059 yJ3_checkIndex_8e157 ∈ wsL_law := in_r11 _ (List.mem_of_getElem? (i := 11) rfl)
theorem mlJ0_498 : Cond.methodLink RJ0 498 yJ2_charAt_3b067 ∈ wsL_law := in_r11 _ (List.mem_of_getElem? (i := 15) rfl)
theorem mlJ2_67 : Cond.methodLink RJ2 67 yJ2_checkIndex_2214a ∈ wsL_law := in_r11 _ (List.mem_of_getElem? (i := 19) rfl)
theorem mlJ2_48 : Cond.methodLink RJ2 48 yJ2_length_9d52b ∈ wsL_law := in_r11 _ (List.mem_of_getElem? (i := 22) rfl)
theorem mlJ2_414 : Cond.methodLink RJ2 414 yJ0_checkIndex_df160 ∈ wsL_law := in_r12 _ (List.mem_of_getElem? (i := 1) rfl)
theorem mlJ2_71 : Cond.methodLink RJ2 71 yJ2_getChar_3b067 ∈ wsL_law := in_r12 _ (List.mem_of_getElem? (i := 2) rfl)
theorem mlX5_99 : Cond.methodLink RX5 99 yX5_readLaw ∈ wsL_law := in_r12 _ (List.mem_of_getElem? (i := 8) rfl)
theorem mlX5_127 : Cond.methodLink RX5 127 yX5_readNumber ∈ wsL_law := in_r12 _ (List.mem_of_getElem? (i := 14) rfl)
theorem mlX5_133 : Cond.methodLink RX5 133 yX5_readStop ∈ wsL_law := in_r12 _ (List.mem_of_getElem? (i := 18) rfl)
theorem mlX5_90 : Cond.methodLink RX5 90 yX5_checkStop ∈ wsL_law := in_r12 _ (List.mem_of_getElem? (i := 22) rfl)
theorem mlX5_104 : Cond.methodLink RX5 104 yX5_readFee ∈ wsL_law := in_r13 _ (List.mem_of_getElem? (i := 2) rfl)
theorem mlX5_109 : Cond.methodLink RX5 109 yX5_readOne ∈ wsL_law := in_r13 _ (List.mem_of_getElem? (i := 7) rfl)
theorem mlX5_146 : Cond.methodLink RX5 146 yX5_kindNamed ∈ wsL_law := in_r13 _ (List.mem_of_getElem? (i := 15) rfl)
theorem mlX5_114 : Cond.methodLink RX5 114 yX5_readCoin ∈ wsL_law := in_r13 _ (List.mem_of_getElem? (i := 19) rfl)
theorem mlX5_119 : Cond.methodLink RX5 119 yX5_readSpend ∈ wsL_law := in_r14 _ (List.mem_of_getElem? (i := 2) rfl)
theorem mlX5_124 : Cond.methodLink RX5 124 yX5_readTalk ∈ wsL_law := in_r14 _ (List.mem_of_getElem? (i := 7) rfl)
theorem mlX5_190 : Cond.methodLink RX5 190 yX6_putTalk ∈ wsL_law := in_r14 _ (List.mem_of_getElem? (i := 11) rfl)
theorem mlX7_92 : Cond.methodLink RX7 92 yX6_copyFrom ∈ wsL_law := in_r14 _ (List.mem_of_getElem? (i := 15) rfl)
theorem mlX6_62 : Cond.methodLink RX6 62 arraycopyName ∈ wsL_law := in_r14 _ (List.mem_of_getElem? (i := 19) rfl)
theorem mlL_29 : Cond.methodLink RL 29 yX8_text ∈ wsL_law := in_r14 _ (List.mem_of_getElem? (i := 23) rfl)
theorem mlX8_157 : Cond.methodLink RX8 157 yX8_beginsText ∈ wsL_law := in_r15 _ (List.mem_of_getElem? (i := 15) rfl)
theorem mlX8_107 : Cond.methodLink RX8 107 yX8_step ∈ wsL_law := in_r15 _ (List.mem_of_getElem? (i := 22) rfl)
theorem mlX8_88 : Cond.methodLink RX8 88 yX8_byteAt ∈ wsL_law := in_r16 _ (List.mem_of_getElem? (i := 8) rfl)
theorem mlX8_103 : Cond.methodLink RX8 103 yX8_fails ∈ wsL_law := in_r16 _ (List.mem_of_getElem? (i := 12) rfl)
theorem mlX8_160 : Cond.methodLink RX8 160 yX8_readLine ∈ wsL_law := in_r16 _ (List.mem_of_getElem? (i := 16) rfl)
theorem mlX8_117 : Cond.methodLink RX8 117 yX8_nameHere ∈ wsL_law := in_r16 _ (List.mem_of_getElem? (i := 21) rfl)
theorem mlX8_141 : Cond.methodLink RX8 141 yX8_hasRoom ∈ wsL_law := in_r17 _ (List.mem_of_getElem? (i := 1) rfl)
theorem mlX8_145 : Cond.methodLink RX8 145 yX8_readOne ∈ wsL_law := in_r17 _ (List.mem_of_getElem? (i := 5) rfl)
theorem mlX8_110 : Cond.methodLink RX8 110 yX8_other ∈ wsL_law := in_r17 _ (List.mem_of_getElem? (i := 9) rfl)
theorem mlX8_148 : Cond.methodLink RX8 148 yX8_readCoin ∈ wsL_law := in_r17 _ (List.mem_of_getElem? (i := 13) rfl)
theorem mlX8_127 : Cond.methodLink RX8 127 yX8_oneOf ∈ wsL_law := in_r17 _ (List.mem_of_getElem? (i := 17) rfl)
theorem mlX8_151 : Cond.methodLink RX8 151 yX8_readTalk ∈ wsL_law := in_r17 _ (List.mem_of_getElem? (i := 21) rfl)
theorem mlX8_154 : Cond.methodLink RX8 154 yX8_readMore ∈ wsL_law := in_r18 _ (List.mem_of_getElem? (i := 1) rfl)
theorem mlL_30 : Cond.methodLink RL 30 yX7_fault ∈ wsL_law := in_r18 _ (List.mem_of_getElem? (i := 5) rfl)
theorem mlL_33 : Cond.methodLink RL 33 yX8_fault ∈ wsL_law := in_r18 _ (List.mem_of_getElem? (i := 10) rfl)
theorem mlL_34 : Cond.methodLink RL 34 yX7_rule ∈ wsL_law := in_r18 _ (List.mem_of_getElem? (i := 14) rfl)
theorem mlL_37 : Cond.methodLink RL 37 yX8_rule ∈ wsL_law := in_r18 _ (List.mem_of_getElem? (i := 23) rfl)
theorem mlX8_183 : Cond.methodLink RX8 183 yX8_feeNow ∈ wsL_law := in_r19 _ (List.mem_of_getElem? (i := 3) rfl)
theorem mlL_38 : Cond.methodLink RL 38 yX7_one ∈ wsL_law := in_r19 _ (List.mem_of_getElem? (i := 7) rfl)
theorem mlX7_122 : Cond.methodLink RX7 122 yX6_hasOne ∈ wsL_law := in_r19 _ (List.mem_of_getElem? (i := 14) rfl)
theorem mlL_42 : Cond.methodLink RL 42 yX8_one ∈ wsL_law := in_r19 _ (List.mem_of_getElem? (i := 15) rfl)
theorem mlX8_180 : Cond.methodLink RX8 180 yX8_isOne ∈ wsL_law := in_r19 _ (List.mem_of_getElem? (i := 20) rfl)
theorem mlL_43 : Cond.methodLink RL 43 yX7_coin ∈ wsL_law := in_r20 _ (List.mem_of_getElem? (i := 0) rfl)
theorem mlX7_136 : Cond.methodLink RX7 136 yX6_hasCoin ∈ wsL_law := in_r20 _ (List.mem_of_getElem? (i := 8) rfl)
theorem mlX7_148 : Cond.methodLink RX7 148 yX7_oneIf ∈ wsL_law := in_r20 _ (List.mem_of_getElem? (i := 9) rfl)
theorem mlX7_155 : Cond.methodLink RX7 155 yX6_lengthBy ∈ wsL_law := in_r20 _ (List.mem_of_getElem? (i := 12) rfl)
theorem mlX6_83 : Cond.methodLink RX6 83 Lib.Math.max.name ∈ wsL_law := in_r20 _ (List.mem_of_getElem? (i := 16) rfl)
theorem mlL_46 : Cond.methodLink RL 46 yX8_coin ∈ wsL_law := in_r20 _ (List.mem_of_getElem? (i := 20) rfl)
theorem mlX8_191 : Cond.methodLink RX8 191 yX8_isCoin ∈ wsL_law := in_r21 _ (List.mem_of_getElem? (i := 1) rfl)
theorem mlX8_196 : Cond.methodLink RX8 196 yX8_ownerOf ∈ wsL_law := in_r21 _ (List.mem_of_getElem? (i := 5) rfl)
theorem mlX8_199 : Cond.methodLink RX8 199 yX8_lengthBy ∈ wsL_law := in_r21 _ (List.mem_of_getElem? (i := 9) rfl)
theorem mlX8_188 : Cond.methodLink RX8 188 yX8_kindOf ∈ wsL_law := in_r21 _ (List.mem_of_getElem? (i := 13) rfl)
theorem mlX8_203 : Cond.methodLink RX8 203 yX8_isSpent ∈ wsL_law := in_r21 _ (List.mem_of_getElem? (i := 17) rfl)
theorem mlL_47 : Cond.methodLink RL 47 yX7_talk ∈ wsL_law := in_r21 _ (List.mem_of_getElem? (i := 21) rfl)
theorem mlX7_168 : Cond.methodLink RX7 168 yX6_isTalkSaid ∈ wsL_law := in_r22 _ (List.mem_of_getElem? (i := 4) rfl)
theorem mlX6_103 : Cond.methodLink RX6 103 yX6_silentOnes ∈ wsL_law := in_r22 _ (List.mem_of_getElem? (i := 8) rfl)
theorem mlX6_92 : Cond.methodLink RX6 92 yX6_isSpent ∈ wsL_law := in_r22 _ (List.mem_of_getElem? (i := 12) rfl)
theorem mlX6_95 : Cond.methodLink RX6 95 yX6_silencedBy ∈ wsL_law := in_r22 _ (List.mem_of_getElem? (i := 13) rfl)
theorem mlX6_89 : Cond.methodLink RX6 89 yX6_lengthBy ∈ wsL_law := in_r22 _ (List.mem_of_getElem? (i := 17) rfl)
theorem mlX6_107 : Cond.methodLink RX6 107 yX6_isSaid ∈ wsL_law := in_r22 _ (List.mem_of_getElem? (i := 18) rfl)
theorem mlL_50 : Cond.methodLink RL 50 yX8_talk ∈ wsL_law := in_r23 _ (List.mem_of_getElem? (i := 0) rfl)
theorem mlX8_219 : Cond.methodLink RX8 219 yX8_isTalkSaid ∈ wsL_law := in_r23 _ (List.mem_of_getElem? (i := 5) rfl)
theorem mlX8_213 : Cond.methodLink RX8 213 yX8_isSaid ∈ wsL_law := in_r23 _ (List.mem_of_getElem? (i := 9) rfl)
theorem mlX8_209 : Cond.methodLink RX8 209 yX8_isSilent ∈ wsL_law := in_r23 _ (List.mem_of_getElem? (i := 13) rfl)
theorem mlX8_206 : Cond.methodLink RX8 206 yX8_quietOf ∈ wsL_law := in_r23 _ (List.mem_of_getElem? (i := 17) rfl)
theorem mlL_51 : Cond.methodLink RL 51 yX7_law ∈ wsL_law := in_r23 _ (List.mem_of_getElem? (i := 21) rfl)
theorem mlL_54 : Cond.methodLink RL 54 yX8_law ∈ wsL_law := in_r24 _ (List.mem_of_getElem? (i := 1) rfl)
theorem mlL_55 : Cond.methodLink RL 55 yX7_fee ∈ wsL_law := in_r24 _ (List.mem_of_getElem? (i := 5) rfl)
theorem mlL_58 : Cond.methodLink RL 58 yX8_fee ∈ wsL_law := in_r24 _ (List.mem_of_getElem? (i := 9) rfl)
theorem mlL_59 : Cond.methodLink RL 59 yX7_give ∈ wsL_law := in_r24 _ (List.mem_of_getElem? (i := 14) rfl)
theorem mlX7_171 : Cond.methodLink RX7 171 yX6_isSpent ∈ wsL_law := in_r24 _ (List.mem_of_getElem? (i := 18) rfl)
theorem mlL_62 : Cond.methodLink RL 62 yX8_give ∈ wsL_law := in_r24 _ (List.mem_of_getElem? (i := 19) rfl)
theorem mlL_63 : Cond.methodLink RL 63 yX7_clip ∈ wsL_law := in_r24 _ (List.mem_of_getElem? (i := 23) rfl)
theorem mlL_66 : Cond.methodLink RL 66 yX8_clip ∈ wsL_law := in_r25 _ (List.mem_of_getElem? (i := 3) rfl)
theorem mlL_67 : Cond.methodLink RL 67 yX7_spend ∈ wsL_law := in_r25 _ (List.mem_of_getElem? (i := 7) rfl)
theorem mlX7_174 : Cond.methodLink RX7 174 yX7_isHour ∈ wsL_law := in_r25 _ (List.mem_of_getElem? (i := 11) rfl)
theorem mlL_70 : Cond.methodLink RL 70 yX8_spend ∈ wsL_law := in_r25 _ (List.mem_of_getElem? (i := 14) rfl)
theorem mlX8_222 : Cond.methodLink RX8 222 yX8_isHour ∈ wsL_law := in_r25 _ (List.mem_of_getElem? (i := 18) rfl)
theorem mlL_71 : Cond.methodLink RL 71 yX7_undo ∈ wsL_law := in_r25 _ (List.mem_of_getElem? (i := 22) rfl)
theorem mlL_74 : Cond.methodLink RL 74 yX8_undo ∈ wsL_law := in_r26 _ (List.mem_of_getElem? (i := 2) rfl)
theorem mlL_75 : Cond.methodLink RL 75 yX7_speak ∈ wsL_law := in_r26 _ (List.mem_of_getElem? (i := 6) rfl)
theorem mlX7_177 : Cond.methodLink RX7 177 yX6_addTalk ∈ wsL_law := in_r26 _ (List.mem_of_getElem? (i := 10) rfl)
theorem mlX6_75 : Cond.methodLink RX6 75 yX6_canTalk ∈ wsL_law := in_r26 _ (List.mem_of_getElem? (i := 14) rfl)
theorem mlX6_72 : Cond.methodLink RX6 72 yX6_hasOne ∈ wsL_law := in_r26 _ (List.mem_of_getElem? (i := 18) rfl)
theorem mlX6_79 : Cond.methodLink RX6 79 yX6_putTalk ∈ wsL_law := in_r26 _ (List.mem_of_getElem? (i := 19) rfl)
theorem mlL_79 : Cond.methodLink RL 79 yX8_speak ∈ wsL_law := in_r26 _ (List.mem_of_getElem? (i := 20) rfl)
theorem mlX8_230 : Cond.methodLink RX8 230 yX8_speaks ∈ wsL_law := in_r27 _ (List.mem_of_getElem? (i := 0) rfl)
theorem mlX8_225 : Cond.methodLink RX8 225 yX8_areTwo ∈ wsL_law := in_r27 _ (List.mem_of_getElem? (i := 4) rfl)
theorem mlL_80 : Cond.methodLink RL 80 yX7_silent ∈ wsL_law := in_r27 _ (List.mem_of_getElem? (i := 8) rfl)
theorem mlX7_181 : Cond.methodLink RX7 181 yX6_silentOnes ∈ wsL_law := in_r27 _ (List.mem_of_getElem? (i := 12) rfl)
theorem mlL_83 : Cond.methodLink RL 83 yX8_silent ∈ wsL_law := in_r27 _ (List.mem_of_getElem? (i := 13) rfl)
theorem mlL_84 : Cond.methodLink RL 84 yX7_quiet ∈ wsL_law := in_r27 _ (List.mem_of_getElem? (i := 17) rfl)
theorem mlX7_184 : Cond.methodLink RX7 184 yX7_hasBit ∈ wsL_law := in_r27 _ (List.mem_of_getElem? (i := 21) rfl)
theorem mlL_87 : Cond.methodLink RL 87 yX8_quiet ∈ wsL_law := in_r27 _ (List.mem_of_getElem? (i := 22) rfl)
theorem mlL_88 : Cond.methodLink RL 88 yX7_may ∈ wsL_law := in_r28 _ (List.mem_of_getElem? (i := 2) rfl)
theorem mlX7_188 : Cond.methodLink RX7 188 yX6_canTalk ∈ wsL_law := in_r28 _ (List.mem_of_getElem? (i := 6) rfl)
theorem mlX7_192 : Cond.methodLink RX7 192 yX6_isSaid ∈ wsL_law := in_r28 _ (List.mem_of_getElem? (i := 7) rfl)
theorem mlL_91 : Cond.methodLink RL 91 yX8_may ∈ wsL_law := in_r28 _ (List.mem_of_getElem? (i := 8) rfl)
theorem mlL_92 : Cond.methodLink RL 92 yX7_said ∈ wsL_law := in_r28 _ (List.mem_of_getElem? (i := 12) rfl)
theorem mlL_95 : Cond.methodLink RL 95 yX8_said ∈ wsL_law := in_r28 _ (List.mem_of_getElem? (i := 16) rfl)
theorem mlL_96 : Cond.methodLink RL 96 yX7_knows ∈ wsL_law := in_r28 _ (List.mem_of_getElem? (i := 20) rfl)
theorem mlX7_195 : Cond.methodLink RX7 195 yX2_takeSilence ∈ wsL_law := in_r29 _ (List.mem_of_getElem? (i := 0) rfl)
theorem mlX2_30 : Cond.methodLink RX2 30 yX6_silentOnes ∈ wsL_law := in_r29 _ (List.mem_of_getElem? (i := 4) rfl)
theorem mlX7_198 : Cond.methodLink RX7 198 yX2_knowersBehind ∈ wsL_law := in_r29 _ (List.mem_of_getElem? (i := 5) rfl)
theorem mlX2_40 : Cond.methodLink RX2 40 yX2_knowersAfter ∈ wsL_law := in_r29 _ (List.mem_of_getElem? (i := 9) rfl)
theorem mlX2_60 : Cond.methodLink RX2 60 yX6_isSaid ∈ wsL_law := in_r29 _ (List.mem_of_getElem? (i := 18) rfl)
theorem mlX2_64 : Cond.methodLink RX2 64 yX2_comingTo ∈ wsL_law := in_r29 _ (List.mem_of_getElem? (i := 19) rfl)
theorem mlL_99 : Cond.methodLink RL 99 yX8_knows ∈ wsL_law := in_r29 _ (List.mem_of_getElem? (i := 23) rfl)
theorem mlX8_233 : Cond.methodLink RX8 233 yX8_layRumour ∈ wsL_law := in_r30 _ (List.mem_of_getElem? (i := 3) rfl)
theorem mlL_100 : Cond.methodLink RL 100 yX7_learns ∈ wsL_law := in_r30 _ (List.mem_of_getElem? (i := 7) rfl)
theorem mlX7_201 : Cond.methodLink RX7 201 yX2_hourItComes ∈ wsL_law := in_r30 _ (List.mem_of_getElem? (i := 11) rfl)
theorem mlL_103 : Cond.methodLink RL 103 yX8_learns ∈ wsL_law := in_r30 _ (List.mem_of_getElem? (i := 15) rfl)
theorem mlX8_236 : Cond.methodLink RX8 236 yX8_learnsIn ∈ wsL_law := in_r30 _ (List.mem_of_getElem? (i := 19) rfl)
theorem mlL_104 : Cond.methodLink RL 104 yX7_hush ∈ wsL_law := in_r30 _ (List.mem_of_getElem? (i := 23) rfl)
theorem mlX7_204 : Cond.methodLink RX7 204 yX2_hushingHour ∈ wsL_law := in_r31 _ (List.mem_of_getElem? (i := 3) rfl)
theorem mlX2_70 : Cond.methodLink RX2 70 yX2_takeSilence ∈ wsL_law := in_r31 _ (List.mem_of_getElem? (i := 7) rfl)
theorem mlX2_73 : Cond.methodLink RX2 73 yX2_addSilence ∈ wsL_law := in_r31 _ (List.mem_of_getElem? (i := 8) rfl)
theorem mlX2_36 : Cond.methodLink RX2 36 yX6_silencedBy ∈ wsL_law := in_r31 _ (List.mem_of_getElem? (i := 12) rfl)
theorem mlX2_77 : Cond.methodLink RX2 77 yX2_hourItComes ∈ wsL_law := in_r31 _ (List.mem_of_getElem? (i := 13) rfl)
theorem mlL_107 : Cond.methodLink RL 107 yX8_hush ∈ wsL_law := in_r31 _ (List.mem_of_getElem? (i := 14) rfl)
theorem mlL_108 : Cond.methodLink RL 108 yX7_hear ∈ wsL_law := in_r31 _ (List.mem_of_getElem? (i := 18) rfl)
theorem mlX7_207 : Cond.methodLink RX7 207 yX2_note ∈ wsL_law := in_r31 _ (List.mem_of_getElem? (i := 22) rfl)
theorem mlL_112 : Cond.methodLink RL 112 yX8_hear ∈ wsL_law := in_r32 _ (List.mem_of_getElem? (i := 3) rfl)
theorem mlL_113 : Cond.methodLink RL 113 yX7_forget ∈ wsL_law := in_r32 _ (List.mem_of_getElem? (i := 7) rfl)
theorem mlL_116 : Cond.methodLink RL 116 yX8_forget ∈ wsL_law := in_r32 _ (List.mem_of_getElem? (i := 11) rfl)
theorem mlL_117 : Cond.methodLink RL 117 yX7_first ∈ wsL_law := in_r32 _ (List.mem_of_getElem? (i := 15) rfl)
theorem mlX7_211 : Cond.methodLink RX7 211 yX2_canBeginWith ∈ wsL_law := in_r32 _ (List.mem_of_getElem? (i := 19) rfl)
theorem mlX2_80 : Cond.methodLink RX2 80 yX2_knowersBehind ∈ wsL_law := in_r32 _ (List.mem_of_getElem? (i := 23) rfl)
theorem mlL_120 : Cond.methodLink RL 120 yX8_first ∈ wsL_law := in_r33 _ (List.mem_of_getElem? (i := 0) rfl)
theorem mlL_121 : Cond.methodLink RL 121 yX7_funeral ∈ wsL_law := in_r33 _ (List.mem_of_getElem? (i := 4) rfl)
theorem mlX7_214 : Cond.methodLink RX7 214 yX7_isSubset ∈ wsL_law := in_r33 _ (List.mem_of_getElem? (i := 10) rfl)
theorem mlX7_247 : Cond.methodLink RX7 247 yX7_allOf ∈ wsL_law := in_r33 _ (List.mem_of_getElem? (i := 13) rfl)
theorem mlX7_217 : Cond.methodLink RX7 217 yX0_plan ∈ wsL_law := in_r33 _ (List.mem_of_getElem? (i := 16) rfl)
theorem mlX0_33 : Cond.methodLink RX0 33 yX0_giveFrom ∈ wsL_law := in_r33 _ (List.mem_of_getElem? (i := 21) rfl)
theorem mlX0_37 : Cond.methodLink RX0 37 yX0_needyOnes ∈ wsL_law := in_r34 _ (List.mem_of_getElem? (i := 3) rfl)
theorem mlX0_41 : Cond.methodLink RX0 41 yX0_takeAsBest ∈ wsL_law := in_r34 _ (List.mem_of_getElem? (i := 7) rfl)
theorem mlX0_52 : Cond.methodLink RX0 52 yX6_isSpent ∈ wsL_law := in_r34 _ (List.mem_of_getElem? (i := 11) rfl)
theorem mlX0_56 : Cond.methodLink RX0 56 yX6_lengthBy ∈ wsL_law := in_r34 _ (List.mem_of_getElem? (i := 12) rfl)
theorem mlX0_60 : Cond.methodLink RX0 60 yX0_costTo ∈ wsL_law := in_r34 _ (List.mem_of_getElem? (i := 13) rfl)
theorem mlL_124 : Cond.methodLink RL 124 yX8_funeral ∈ wsL_law := in_r34 _ (List.mem_of_getElem? (i := 20) rfl)
theorem mlX8_243 : Cond.methodLink RX8 243 yX8_funeralCost ∈ wsL_law := in_r35 _ (List.mem_of_getElem? (i := 2) rfl)
theorem mlL_125 : Cond.methodLink RL 125 yX7_raid ∈ wsL_law := in_r35 _ (List.mem_of_getElem? (i := 6) rfl)
theorem mlX7_226 : Cond.methodLink RX7 226 yX6_raidedIn ∈ wsL_law := in_r35 _ (List.mem_of_getElem? (i := 10) rfl)
theorem mlX6_114 : Cond.methodLink RX6 114 yX6_greatestUnspent ∈ wsL_law := in_r35 _ (List.mem_of_getElem? (i := 14) rfl)
theorem mlL_128 : Cond.methodLink RL 128 yX8_raid ∈ wsL_law := in_r35 _ (List.mem_of_getElem? (i := 18) rfl)
theorem mlX8_248 : Cond.methodLink RX8 248 yX8_raided ∈ wsL_law := in_r35 _ (List.mem_of_getElem? (i := 23) rfl)
theorem mlL_129 : Cond.methodLink RL 129 yX7_settle ∈ wsL_law := in_r36 _ (List.mem_of_getElem? (i := 3) rfl)
theorem mlX7_229 : Cond.methodLink RX7 229 yX6_priceAfter ∈ wsL_law := in_r36 _ (List.mem_of_getElem? (i := 7) rfl)
theorem mlX6_117 : Cond.methodLink RX6 117 Lib.Math.min.name ∈ wsL_law := in_r36 _ (List.mem_of_getElem? (i := 11) rfl)
theorem mlX6_120 : Cond.methodLink RX6 120 yX6_unspentWorths ∈ wsL_law := in_r36 _ (List.mem_of_getElem? (i := 14) rfl)
theorem mlL_132 : Cond.methodLink RL 132 yX8_settle ∈ wsL_law := in_r36 _ (List.mem_of_getElem? (i := 18) rfl)
theorem mlX8_256 : Cond.methodLink RX8 256 yX8_pricedThen ∈ wsL_law := in_r36 _ (List.mem_of_getElem? (i := 23) rfl)
theorem mlX8_251 : Cond.methodLink RX8 251 yX8_unspent ∈ wsL_law := in_r37 _ (List.mem_of_getElem? (i := 3) rfl)
theorem mlL_133 : Cond.methodLink RL 133 yX7_test ∈ wsL_law := in_r37 _ (List.mem_of_getElem? (i := 7) rfl)
theorem mlX7_232 : Cond.methodLink RX7 232 yX1_note ∈ wsL_law := in_r37 _ (List.mem_of_getElem? (i := 11) rfl)
theorem mlL_136 : Cond.methodLink RL 136 yX8_test ∈ wsL_law := in_r37 _ (List.mem_of_getElem? (i := 16) rfl)
theorem mlL_137 : Cond.methodLink RL 137 yX7_untest ∈ wsL_law := in_r37 _ (List.mem_of_getElem? (i := 20) rfl)
theorem mlL_140 : Cond.methodLink RL 140 yX8_untest ∈ wsL_law := in_r38 _ (List.mem_of_getElem? (i := 0) rfl)
theorem mlL_141 : Cond.methodLink RL 141 yX7_fakes ∈ wsL_law := in_r38 _ (List.mem_of_getElem? (i := 4) rfl)
theorem mlX7_233 : Cond.methodLink RX7 233 yX1_findSets ∈ wsL_law := in_r38 _ (List.mem_of_getElem? (i := 10) rfl)
theorem mlX1_33 : Cond.methodLink RX1 33 yJ6_bitCount_0f7a4 ∈ wsL_law := in_r38 _ (List.mem_of_getElem? (i := 15) rfl)
theorem mlX1_38 : Cond.methodLink RX1 38 yX1_isAsTested ∈ wsL_law := in_r38 _ (List.mem_of_getElem? (i := 22) rfl)
theorem mlX7_243 : Cond.methodLink RX7 243 yX1_inAll ∈ wsL_law := in_r39 _ (List.mem_of_getElem? (i := 2) rfl)
theorem mlX7_250 : Cond.methodLink RX7 250 yX1_inAny ∈ wsL_law := in_r39 _ (List.mem_of_getElem? (i := 6) rfl)
theorem mlL_144 : Cond.methodLink RL 144 yX8_fakes ∈ wsL_law := in_r39 _ (List.mem_of_getElem? (i := 10) rfl)
theorem mlX8_259 : Cond.methodLink RX8 259 yX8_canBeFalse ∈ wsL_law := in_r39 _ (List.mem_of_getElem? (i := 14) rfl)
theorem mlL_145 : Cond.methodLink RL 145 yX7_next ∈ wsL_law := in_r39 _ (List.mem_of_getElem? (i := 18) rfl)
theorem mlX7_253 : Cond.methodLink RX7 253 yX1_leftAtWorst ∈ wsL_law := in_r39 _ (List.mem_of_getElem? (i := 22) rfl)
theorem mlX1_46 : Cond.methodLink RX1 46 Lib.Math.max.name ∈ wsL_law := in_r40 _ (List.mem_of_getElem? (i := 2) rfl)
theorem mlL_148 : Cond.methodLink RL 148 yX8_next ∈ wsL_law := in_r40 _ (List.mem_of_getElem? (i := 3) rfl)
theorem mlX8_262 : Cond.methodLink RX8 262 yX8_fakes ∈ wsL_law := in_r40 _ (List.mem_of_getElem? (i := 7) rfl)
theorem mlL_149 : Cond.methodLink RL 149 yX7_chatter ∈ wsL_law := in_r40 _ (List.mem_of_getElem? (i := 8) rfl)
theorem mlX7_256 : Cond.methodLink RX7 256 yX7_stepSeed ∈ wsL_law := in_r40 _ (List.mem_of_getElem? (i := 12) rfl)
theorem mlX7_259 : Cond.methodLink RX7 259 yX7_drawn ∈ wsL_law := in_r40 _ (List.mem_of_getElem? (i := 16) rfl)
theorem mlL_152 : Cond.methodLink RL 152 yX8_chatter ∈ wsL_law := in_r40 _ (List.mem_of_getElem? (i := 19) rfl)
theorem mlX8_271 : Cond.methodLink RX8 271 yX8_draws ∈ wsL_law := in_r41 _ (List.mem_of_getElem? (i := 1) rfl)
theorem mlL_153 : Cond.methodLink RL 153 yX7_keep ∈ wsL_law := in_r41 _ (List.mem_of_getElem? (i := 6) rfl)
theorem mlL_156 : Cond.methodLink RL 156 yX8_keep ∈ wsL_law := in_r41 _ (List.mem_of_getElem? (i := 10) rfl)
theorem mlX8_274 : Cond.methodLink RX8 274 yX8_copies ∈ wsL_law := in_r41 _ (List.mem_of_getElem? (i := 14) rfl)
theorem mlL_157 : Cond.methodLink RL 157 yX7_back ∈ wsL_law := in_r41 _ (List.mem_of_getElem? (i := 18) rfl)
theorem mlL_160 : Cond.methodLink RL 160 yX8_back ∈ wsL_law := in_r41 _ (List.mem_of_getElem? (i := 22) rfl)
theorem mlL_161 : Cond.methodLink RL 161 yX7_sheet ∈ wsL_law := in_r42 _ (List.mem_of_getElem? (i := 2) rfl)
theorem mlX7_262 : Cond.methodLink RX7 262 yX7_isSheet ∈ wsL_law := in_r42 _ (List.mem_of_getElem? (i := 6) rfl)
theorem mlX7_265 : Cond.methodLink RX7 265 yX7_isLane ∈ wsL_law := in_r42 _ (List.mem_of_getElem? (i := 9) rfl)
theorem mlX7_268 : Cond.methodLink RX7 268 yX3_renew ∈ wsL_law := in_r42 _ (List.mem_of_getElem? (i := 12) rfl)
theorem mlL_164 : Cond.methodLink RL 164 yX8_sheet ∈ wsL_law := in_r42 _ (List.mem_of_getElem? (i := 17) rfl)
theorem mlL_165 : Cond.methodLink RL 165 yX7_lay ∈ wsL_law := in_r42 _ (List.mem_of_getElem? (i := 21) rfl)
theorem mlX7_271 : Cond.methodLink RX7 271 yX3_isNothing ∈ wsL_law := in_r43 _ (List.mem_of_getElem? (i := 2) rfl)
theorem mlX7_277 : Cond.methodLink RX7 277 yX3_put ∈ wsL_law := in_r43 _ (List.mem_of_getElem? (i := 6) rfl)
theorem mlL_168 : Cond.methodLink RL 168 yX8_lay ∈ wsL_law := in_r43 _ (List.mem_of_getElem? (i := 10) rfl)
theorem mlL_169 : Cond.methodLink RL 169 yX7_read ∈ wsL_law := in_r43 _ (List.mem_of_getElem? (i := 14) rfl)
theorem mlX7_280 : Cond.methodLink RX7 280 yX3_faultInThree ∈ wsL_law := in_r43 _ (List.mem_of_getElem? (i := 20) rfl)
theorem mlX3_22 : Cond.methodLink RX3 22 yX3_isNothing ∈ wsL_law := in_r44 _ (List.mem_of_getElem? (i := 0) rfl)
theorem mlL_173 : Cond.methodLink RL 173 yX8_read ∈ wsL_law := in_r44 _ (List.mem_of_getElem? (i := 1) rfl)
theorem mlL_174 : Cond.methodLink RL 174 yX7_torn ∈ wsL_law := in_r44 _ (List.mem_of_getElem? (i := 7) rfl)
theorem mlL_177 : Cond.methodLink RL 177 yX8_torn ∈ wsL_law := in_r44 _ (List.mem_of_getElem? (i := 11) rfl)
theorem mlL_178 : Cond.methodLink RL 178 yX7_count ∈ wsL_law := in_r44 _ (List.mem_of_getElem? (i := 15) rfl)
theorem mlX7_289 : Cond.methodLink RX7 289 yX6_spentCoins ∈ wsL_law := in_r44 _ (List.mem_of_getElem? (i := 19) rfl)
theorem mlX7_292 : Cond.methodLink RX7 292 yX6_unspentWorths ∈ wsL_law := in_r44 _ (List.mem_of_getElem? (i := 23) rfl)
theorem mlL_181 : Cond.methodLink RL 181 yX8_count ∈ wsL_law := in_r45 _ (List.mem_of_getElem? (i := 0) rfl)
theorem ctJ6_265 : Cond.constant RJ6 265 (1431655765) ∈ wsL_law := in_r38 _ (List.mem_of_getElem? (i := 19) rfl)
theorem ctJ6_266 : Cond.constant RJ6 266 (858993459) ∈ wsL_law := in_r38 _ (List.mem_of_getElem? (i := 20) rfl)
theorem ctJ6_267 : Cond.constant RJ6 267 (252645135) ∈ wsL_law := in_r38 _ (List.mem_of_getElem? (i := 21) rfl)
theorem ctX7_295 : Cond.constant RX7 295 (1103515245) ∈ wsL_law := in_r40 _ (List.mem_of_getElem? (i := 15) rfl)
theorem ctX8_268 : Cond.constant RX8 268 (1103515245) ∈ wsL_law := in_r41 _ (List.mem_of_getElem? (i := 5) rfl)
theorem clL_13 : Cond.constantLong RL 13 (4294967295) ∈ wsL_law := in_r1 _ (List.mem_of_getElem? (i := 6) rfl)
theorem clX8_95 : Cond.constantLong RX8 95 (97) ∈ wsL_law := in_r16 _ (List.mem_of_getElem? (i := 4) rfl)
theorem clX8_97 : Cond.constantLong RX8 97 (122) ∈ wsL_law := in_r16 _ (List.mem_of_getElem? (i := 5) rfl)
theorem clX8_99 : Cond.constantLong RX8 99 (48) ∈ wsL_law := in_r16 _ (List.mem_of_getElem? (i := 6) rfl)
theorem clX8_101 : Cond.constantLong RX8 101 (57) ∈ wsL_law := in_r16 _ (List.mem_of_getElem? (i := 7) rfl)
theorem clX8_139 : Cond.constantLong RX8 139 (5) ∈ wsL_law := in_r16 _ (List.mem_of_getElem? (i := 20) rfl)
theorem clX8_186 : Cond.constantLong RX8 186 (2) ∈ wsL_law := in_r19 _ (List.mem_of_getElem? (i := 19) rfl)
theorem clX8_194 : Cond.constantLong RX8 194 (4) ∈ wsL_law := in_r21 _ (List.mem_of_getElem? (i := 0) rfl)
theorem clX8_217 : Cond.constantLong RX8 217 (3) ∈ wsL_law := in_r23 _ (List.mem_of_getElem? (i := 4) rfl)
theorem clX8_228 : Cond.constantLong RX8 228 (9) ∈ wsL_law := in_r24 _ (List.mem_of_getElem? (i := 13) rfl)
theorem clX8_178 : Cond.constantLong RX8 178 (11) ∈ wsL_law := in_r25 _ (List.mem_of_getElem? (i := 21) rfl)
theorem clX8_239 : Cond.constantLong RX8 239 (12) ∈ wsL_law := in_r35 _ (List.mem_of_getElem? (i := 0) rfl)
theorem clX8_241 : Cond.constantLong RX8 241 (10) ∈ wsL_law := in_r35 _ (List.mem_of_getElem? (i := 1) rfl)
theorem clX8_246 : Cond.constantLong RX8 246 (21) ∈ wsL_law := in_r35 _ (List.mem_of_getElem? (i := 22) rfl)
theorem clX8_254 : Cond.constantLong RX8 254 (99) ∈ wsL_law := in_r36 _ (List.mem_of_getElem? (i := 22) rfl)
theorem clX8_269 : Cond.constantLong RX8 269 (60) ∈ wsL_law := in_r40 _ (List.mem_of_getElem? (i := 23) rfl)
theorem clX8_278 : Cond.constantLong RX8 278 (13) ∈ wsL_law := in_r44 _ (List.mem_of_getElem? (i := 5) rfl)
theorem mth_max_s : Cond.static Lib.Math.max.name ∈ wsL_law := in_r20 _ (List.mem_of_getElem? (i := 17) rfl)
theorem mth_max_c : Cond.code Lib.Math.max.name Lib.Math.max.code 2 (some .int) ∈ wsL_law := in_r20 _ (List.mem_of_getElem? (i := 19) rfl)
theorem mth_min_s : Cond.static Lib.Math.min.name ∈ wsL_law := in_r36 _ (List.mem_of_getElem? (i := 12) rfl)
theorem mth_min_c : Cond.code Lib.Math.min.name Lib.Math.min.code 2 (some .int) ∈ wsL_law := in_r36 _ (List.mem_of_getElem? (i := 13) rfl)
theorem mth_i : Cond.initialized "java/lang/Math" ∈ wsL_law := in_r20 _ (List.mem_of_getElem? (i := 18) rfl)
theorem acp_n : Cond.native arraycopyName ∈ wsL_law := in_r14 _ (List.mem_of_getElem? (i := 20) rfl)
theorem acp_s : Cond.static arraycopyName ∈ wsL_law := in_r14 _ (List.mem_of_getElem? (i := 21) rfl)
theorem acp_i : Cond.initialized "java/lang/System" ∈ wsL_law := in_r14 _ (List.mem_of_getElem? (i := 22) rfl)
theorem miX7_init : MI yX7_init cX7_init 2 none 0 := ⟨in_r1 _ (List.mem_of_getElem? (i := 9) rfl), in_r1 _ (List.mem_of_getElem? (i := 2) rfl), by decide +kernel⟩
theorem imX7_init : Cond.instanceMethod yX7_init ∈ wsL_law := in_r1 _ (List.mem_of_getElem? (i := 8) rfl)
theorem miX4_init : MI yX4_init cX4_init 1 none 0 := ⟨in_r2 _ (List.mem_of_getElem? (i := 21) rfl), in_r1 _ (List.mem_of_getElem? (i := 15) rfl), by decide +kernel⟩
theorem imX4_init : Cond.instanceMethod yX4_init ∈ wsL_law := in_r2 _ (List.mem_of_getElem? (i := 20) rfl)
theorem miX5_init : MI yX5_init cX5_init 2 none 1 := ⟨in_r3 _ (List.mem_of_getElem? (i := 3) rfl), in_r1 _ (List.mem_of_getElem? (i := 19) rfl), by decide +kernel⟩
theorem imX5_init : Cond.instanceMethod yX5_init ∈ wsL_law := in_r3 _ (List.mem_of_getElem? (i := 2) rfl)
theorem miX6_init : MI yX6_init cX6_init 1 none 0 := ⟨in_r3 _ (List.mem_of_getElem? (i := 10) rfl), in_r1 _ (List.mem_of_getElem? (i := 23) rfl), by decide +kernel⟩
theorem imX6_init : Cond.instanceMethod yX6_init ∈ wsL_law := in_r3 _ (List.mem_of_getElem? (i := 9) rfl)
theorem miX6_clear : MI yX6_clear cX6_clear 2 none 0 := ⟨in_r4 _ (List.mem_of_getElem? (i := 2) rfl), in_r1 _ (List.mem_of_getElem? (i := 23) rfl), by decide +kernel⟩
theorem imX6_clear : Cond.instanceMethod yX6_clear ∈ wsL_law := in_r4 _ (List.mem_of_getElem? (i := 0) rfl)
theorem seX6_clear : Cond.selects yX6_clear.cls yX6_clear yX6_clear ∈ wsL_law := in_r4 _ (List.mem_of_getElem? (i := 1) rfl)
theorem miX2_init : MI yX2_init cX2_init 2 none 1 := ⟨in_r4 _ (List.mem_of_getElem? (i := 11) rfl), in_r2 _ (List.mem_of_getElem? (i := 3) rfl), by decide +kernel⟩
theorem imX2_init : Cond.instanceMethod yX2_init ∈ wsL_law := in_r4 _ (List.mem_of_getElem? (i := 10) rfl)
theorem miX0_init : MI yX0_init cX0_init 2 none 1 := ⟨in_r4 _ (List.mem_of_getElem? (i := 19) rfl), in_r2 _ (List.mem_of_getElem? (i := 7) rfl), by decide +kernel⟩
theorem imX0_init : Cond.instanceMethod yX0_init ∈ wsL_law := in_r4 _ (List.mem_of_getElem? (i := 18) rfl)
theorem miX1_init : MI yX1_init cX1_init 1 none 0 := ⟨in_r5 _ (List.mem_of_getElem? (i := 2) rfl), in_r2 _ (List.mem_of_getElem? (i := 11) rfl), by decide +kernel⟩
theorem imX1_init : Cond.instanceMethod yX1_init ∈ wsL_law := in_r5 _ (List.mem_of_getElem? (i := 1) rfl)
theorem miX3_init : MI yX3_init cX3_init 1 none 0 := ⟨in_r5 _ (List.mem_of_getElem? (i := 8) rfl), in_r2 _ (List.mem_of_getElem? (i := 19) rfl), by decide +kernel⟩
theorem imX3_init : Cond.instanceMethod yX3_init ∈ wsL_law := in_r5 _ (List.mem_of_getElem? (i := 7) rfl)
theorem miX8_init : MI yX8_init cX8_init 1 none 0 := ⟨in_r5 _ (List.mem_of_getElem? (i := 14) rfl), in_r1 _ (List.mem_of_getElem? (i := 5) rfl), by decide +kernel⟩
theorem imX8_init : Cond.instanceMethod yX8_init ∈ wsL_law := in_r5 _ (List.mem_of_getElem? (i := 13) rfl)
theorem miX7_feed : MI yX7_feed cX7_feed 3 (some .int) 1 := ⟨in_r6 _ (List.mem_of_getElem? (i := 13) rfl), in_r1 _ (List.mem_of_getElem? (i := 2) rfl), by decide +kernel⟩
theorem imX7_feed : Cond.instanceMethod yX7_feed ∈ wsL_law := in_r6 _ (List.mem_of_getElem? (i := 11) rfl)
theorem seX7_feed : Cond.selects yX7_feed.cls yX7_feed yX7_feed ∈ wsL_law := in_r6 _ (List.mem_of_getElem? (i := 12) rfl)
theorem miX4_append : MI yX4_append cX4_append 4 (some .int) 1 := ⟨in_r6 _ (List.mem_of_getElem? (i := 17) rfl), in_r1 _ (List.mem_of_getElem? (i := 15) rfl), by decide +kernel⟩
theorem imX4_append : Cond.instanceMethod yX4_append ∈ wsL_law := in_r6 _ (List.mem_of_getElem? (i := 15) rfl)
theorem seX4_append : Cond.selects yX4_append.cls yX4_append yX4_append ∈ wsL_law := in_r6 _ (List.mem_of_getElem? (i := 16) rfl)
theorem miX8_feed : MI yX8_feed cX8_feed 4 (some .int) 1 := ⟨in_r6 _ (List.mem_of_getElem? (i := 22) rfl), in_r1 _ (List.mem_of_getElem? (i := 5) rfl), by decide +kernel⟩
theorem imX8_feed : Cond.instanceMethod yX8_feed ∈ wsL_law := in_r6 _ (List.mem_of_getElem? (i := 20) rfl)
theorem seX8_feed : Cond.selects yX8_feed.cls yX8_feed yX8_feed ∈ wsL_law := in_r6 _ (List.mem_of_getElem? (i := 21) rfl)
theorem miX7_end : MI yX7_end cX7_end 2 (some .int) 1 := ⟨in_r7 _ (List.mem_of_getElem? (i := 3) rfl), in_r1 _ (List.mem_of_getElem? (i := 2) rfl), by decide +kernel⟩
theorem imX7_end : Cond.instanceMethod yX7_end ∈ wsL_law := in_r7 _ (List.mem_of_getElem? (i := 1) rfl)
theorem seX7_end : Cond.selects yX7_end.cls yX7_end yX7_end ∈ wsL_law := in_r7 _ (List.mem_of_getElem? (i := 2) rfl)
theorem miX4_cutTo : MI yX4_cutTo cX4_cutTo 3 (some .int) 1 := ⟨in_r7 _ (List.mem_of_getElem? (i := 7) rfl), in_r1 _ (List.mem_of_getElem? (i := 15) rfl), by decide +kernel⟩
theorem imX4_cutTo : Cond.instanceMethod yX4_cutTo ∈ wsL_law := in_r7 _ (List.mem_of_getElem? (i := 5) rfl)
theorem seX4_cutTo : Cond.selects yX4_cutTo.cls yX4_cutTo yX4_cutTo ∈ wsL_law := in_r7 _ (List.mem_of_getElem? (i := 6) rfl)
theorem miX8_end : MI yX8_end cX8_end 3 (some .int) 1 := ⟨in_r7 _ (List.mem_of_getElem? (i := 11) rfl), in_r1 _ (List.mem_of_getElem? (i := 5) rfl), by decide +kernel⟩
theorem imX8_end : Cond.instanceMethod yX8_end ∈ wsL_law := in_r7 _ (List.mem_of_getElem? (i := 9) rfl)
theorem seX8_end : Cond.selects yX8_end.cls yX8_end yX8_end ∈ wsL_law := in_r7 _ (List.mem_of_getElem? (i := 10) rfl)
theorem miX8_in : MI yX8_in cX8_in 6 (some .boolean) 3 := ⟨in_r7 _ (List.mem_of_getElem? (i := 14) rfl), in_r1 _ (List.mem_of_getElem? (i := 5) rfl), by decide +kernel⟩
theorem smX8_in : Cond.static yX8_in ∈ wsL_law := in_r7 _ (List.mem_of_getElem? (i := 13) rfl)
theorem miX7_text : MI yX7_text cX7_text 3 (some .int) 0 := ⟨in_r7 _ (List.mem_of_getElem? (i := 18) rfl), in_r1 _ (List.mem_of_getElem? (i := 2) rfl), by decide +kernel⟩
theorem imX7_text : Cond.instanceMethod yX7_text ∈ wsL_law := in_r7 _ (List.mem_of_getElem? (i := 16) rfl)
theorem seX7_text : Cond.selects yX7_text.cls yX7_text yX7_text ∈ wsL_law := in_r7 _ (List.mem_of_getElem? (i := 17) rfl)
theorem miX5_readTape : MI yX5_readTape cX5_readTape 2 (some .boolean) 0 := ⟨in_r8 _ (List.mem_of_getElem? (i := 4) rfl), in_r1 _ (List.mem_of_getElem? (i := 19) rfl), by decide +kernel⟩
theorem imX5_readTape : Cond.instanceMethod yX5_readTape ∈ wsL_law := in_r8 _ (List.mem_of_getElem? (i := 2) rfl)
theorem seX5_readTape : Cond.selects yX5_readTape.cls yX5_readTape yX5_readTape ∈ wsL_law := in_r8 _ (List.mem_of_getElem? (i := 3) rfl)
theorem miX5_readToken : MI yX5_readToken cX5_readToken 3 (some .boolean) 0 := ⟨in_r8 _ (List.mem_of_getElem? (i := 17) rfl), in_r1 _ (List.mem_of_getElem? (i := 19) rfl), by decide +kernel⟩
theorem imX5_readToken : Cond.instanceMethod yX5_readToken ∈ wsL_law := in_r8 _ (List.mem_of_getElem? (i := 15) rfl)
theorem seX5_readToken : Cond.selects yX5_readToken.cls yX5_readToken yX5_readToken ∈ wsL_law := in_r8 _ (List.mem_of_getElem? (i := 16) rfl)
theorem miX5_tokenBegunBy : MI yX5_tokenBegunBy cX5_tokenBegunBy 1 (some .int) 1 := ⟨in_r8 _ (List.mem_of_getElem? (i := 22) rfl), in_r1 _ (List.mem_of_getElem? (i := 19) rfl), by decide +kernel⟩
theorem smX5_tokenBegunBy : Cond.static yX5_tokenBegunBy ∈ wsL_law := in_r8 _ (List.mem_of_getElem? (i := 21) rfl)
theorem miX5_fail : MI yX5_fail cX5_fail 3 (some .boolean) 2 := ⟨in_r9 _ (List.mem_of_getElem? (i := 2) rfl), in_r1 _ (List.mem_of_getElem? (i := 19) rfl), by decide +kernel⟩
theorem imX5_fail : Cond.instanceMethod yX5_fail ∈ wsL_law := in_r9 _ (List.mem_of_getElem? (i := 0) rfl)
theorem seX5_fail : Cond.selects yX5_fail.cls yX5_fail yX5_fail ∈ wsL_law := in_r9 _ (List.mem_of_getElem? (i := 1) rfl)
theorem miX5_checkNamed : MI yX5_checkNamed cX5_checkNamed 3 (some .boolean) 0 := ⟨in_r9 _ (List.mem_of_getElem? (i := 6) rfl), in_r1 _ (List.mem_of_getElem? (i := 19) rfl), by decide +kernel⟩
theorem imX5_checkNamed : Cond.instanceMethod yX5_checkNamed ∈ wsL_law := in_r9 _ (List.mem_of_getElem? (i := 4) rfl)
theorem seX5_checkNamed : Cond.selects yX5_checkNamed.cls yX5_checkNamed yX5_checkNamed ∈ wsL_law := in_r9 _ (List.mem_of_getElem? (i := 5) rfl)
theorem miX6_hasCoin : MI yX6_hasCoin cX6_hasCoin 2 (some .boolean) 1 := ⟨in_r9 _ (List.mem_of_getElem? (i := 14) rfl), in_r1 _ (List.mem_of_getElem? (i := 23) rfl), by decide +kernel⟩
theorem imX6_hasCoin : Cond.instanceMethod yX6_hasCoin ∈ wsL_law := in_r9 _ (List.mem_of_getElem? (i := 12) rfl)
theorem seX6_hasCoin : Cond.selects yX6_hasCoin.cls yX6_hasCoin yX6_hasCoin ∈ wsL_law := in_r9 _ (List.mem_of_getElem? (i := 13) rfl)
theorem miX6_hasOne : MI yX6_hasOne cX6_hasOne 2 (some .boolean) 1 := ⟨in_r9 _ (List.mem_of_getElem? (i := 18) rfl), in_r1 _ (List.mem_of_getElem? (i := 23) rfl), by decide +kernel⟩
theorem imX6_hasOne : Cond.instanceMethod yX6_hasOne ∈ wsL_law := in_r9 _ (List.mem_of_getElem? (i := 16) rfl)
theorem seX6_hasOne : Cond.selects yX6_hasOne.cls yX6_hasOne yX6_hasOne ∈ wsL_law := in_r9 _ (List.mem_of_getElem? (i := 17) rfl)
theorem miX6_isSpent : MI yX6_isSpent cX6_isSpent 2 (some .boolean) 1 := ⟨in_r9 _ (List.mem_of_getElem? (i := 22) rfl), in_r1 _ (List.mem_of_getElem? (i := 23) rfl), by decide +kernel⟩
theorem imX6_isSpent : Cond.instanceMethod yX6_isSpent ∈ wsL_law := in_r9 _ (List.mem_of_getElem? (i := 20) rfl)
theorem seX6_isSpent : Cond.selects yX6_isSpent.cls yX6_isSpent yX6_isSpent ∈ wsL_law := in_r9 _ (List.mem_of_getElem? (i := 21) rfl)
theorem miX5_readLine : MI yX5_readLine cX5_readLine 1 (some .boolean) 0 := ⟨in_r10 _ (List.mem_of_getElem? (i := 2) rfl), in_r1 _ (List.mem_of_getElem? (i := 19) rfl), by decide +kernel⟩
theorem imX5_readLine : Cond.instanceMethod yX5_readLine ∈ wsL_law := in_r10 _ (List.mem_of_getElem? (i := 0) rfl)
theorem seX5_readLine : Cond.selects yX5_readLine.cls yX5_readLine yX5_readLine ∈ wsL_law := in_r10 _ (List.mem_of_getElem? (i := 1) rfl)
theorem miX5_isName : MI yX5_isName cX5_isName 3 (some .boolean) 1 := ⟨in_r10 _ (List.mem_of_getElem? (i := 6) rfl), in_r1 _ (List.mem_of_getElem? (i := 19) rfl), by decide +kernel⟩
theorem imX5_isName : Cond.instanceMethod yX5_isName ∈ wsL_law := in_r10 _ (List.mem_of_getElem? (i := 4) rfl)
theorem seX5_isName : Cond.selects yX5_isName.cls yX5_isName yX5_isName ∈ wsL_law := in_r10 _ (List.mem_of_getElem? (i := 5) rfl)
theorem miJ0_length_8abf5 : MI yJ0_length_8abf5 cJ0_length_8abf5 1 (some .int) 0 := ⟨in_r10 _ (List.mem_of_getElem? (i := 11) rfl), in_r10 _ (List.mem_of_getElem? (i := 10) rfl), by decide +kernel⟩
theorem imJ0_length_8abf5 : Cond.instanceMethod yJ0_length_8abf5 ∈ wsL_law := in_r10 _ (List.mem_of_getElem? (i := 8) rfl)
theorem seJ0_length_8abf5 : Cond.selects yJ0_length_8abf5.cls yJ0_length_8abf5 yJ0_length_8abf5 ∈ wsL_law := in_r10 _ (List.mem_of_getElem? (i := 9) rfl)
theorem miJ0_coder_7d493 : MI yJ0_coder_7d493 cJ0_coder_7d493 1 (some .byte) 0 := ⟨in_r10 _ (List.mem_of_getElem? (i := 16) rfl), in_r10 _ (List.mem_of_getElem? (i := 10) rfl), by decide +kernel⟩
theorem imJ0_coder_7d493 : Cond.instanceMethod yJ0_coder_7d493 ∈ wsL_law := in_r10 _ (List.mem_of_getElem? (i := 14) rfl)
theorem seJ0_coder_7d493 : Cond.selects yJ0_coder_7d493.cls yJ0_coder_7d493 yJ0_coder_7d493 ∈ wsL_law := in_r10 _ (List.mem_of_getElem? (i := 15) rfl)
theorem miJ0_charAt_5068e : MI yJ0_charAt_5068e cJ0_charAt_5068e 2 (some .char) 1 := ⟨in_r10 _ (List.mem_of_getElem? (i := 22) rfl), in_r10 _ (List.mem_of_getElem? (i := 10) rfl), by decide +kernel⟩
theorem imJ0_charAt_5068e : Cond.instanceMethod yJ0_charAt_5068e ∈ wsL_law := in_r10 _ (List.mem_of_getElem? (i := 20) rfl)
theorem seJ0_charAt_5068e : Cond.selects yJ0_charAt_5068e.cls yJ0_charAt_5068e yJ0_charAt_5068e ∈ wsL_law := in_r10 _ (List.mem_of_getElem? (i := 21) rfl)
theorem miJ0_isLatin1_aae02 : MI yJ0_isLatin1_aae02 cJ0_isLatin1_aae02 1 (some .boolean) 0 := ⟨in_r11 _ (List.mem_of_getElem? (i := 2) rfl), in_r10 _ (List.mem_of_getElem? (i := 10) rfl), by decide +kernel⟩
theorem imJ0_isLatin1_aae02 : Cond.instanceMethod yJ0_isLatin1_aae02 ∈ wsL_law := in_r11 _ (List.mem_of_getElem? (i := 0) rfl)
theorem seJ0_isLatin1_aae02 : Cond.selects yJ0_isLatin1_aae02.cls yJ0_isLatin1_aae02 yJ0_isLatin1_aae02 ∈ wsL_law := in_r11 _ (List.mem_of_getElem? (i := 1) rfl)
theorem miJ1_charAt_3b067 : MI yJ1_charAt_3b067 cJ1_charAt_3b067 2 (some .char) 2 := ⟨in_r11 _ (List.mem_of_getElem? (i := 6) rfl), in_r11 _ (List.mem_of_getElem? (i := 5) rfl), by decide +kernel⟩
theorem smJ1_charAt_3b067 : Cond.static yJ1_charAt_3b067 ∈ wsL_law := in_r11 _ (List.mem_of_getElem? (i := 4) rfl)
theorem miJ0_checkIndex_df160 : MI yJ0_checkIndex_df160 cJ0_checkIndex_df160 2 none 2 := ⟨in_r11 _ (List.mem_of_getElem? (i := 9) rfl), in_r10 _ (List.mem_of_getElem? (i := 10) rfl), by decide +kernel⟩
theorem smJ0_checkIndex_df160 : Cond.static yJ0_checkIndex_df160 ∈ wsL_law := in_r11 _ (List.mem_of_getElem? (i := 8) rfl)
theorem miJ3_checkIndex_8e157 : MI yJ3_checkIndex_8e157 cJ3_checkIndex_8e157 3 (some .int) 3 := ⟨in_r11 _ (List.mem_of_getElem? (i := 14) rfl), in_r11 _ (List.mem_of_getElem? (i := 13) rfl), by decide +kernel⟩
theorem smJ3_checkIndex_8e157 : Cond.static yJ3_checkIndex_8e157 ∈ wsL_law := in_r11 _ (List.mem_of_getElem? (i := 12) rfl)
theorem miJ2_charAt_3b067 : MI yJ2_charAt_3b067 cJ2_charAt_3b067 2 (some .char) 2 := ⟨in_r11 _ (List.mem_of_getElem? (i := 18) rfl), in_r11 _ (List.mem_of_getElem? (i := 17) rfl), by decide +kernel⟩
theorem smJ2_charAt_3b067 : Cond.static yJ2_charAt_3b067 ∈ wsL_law := in_r11 _ (List.mem_of_getElem? (i := 16) rfl)
theorem miJ2_checkIndex_2214a : MI yJ2_checkIndex_2214a cJ2_checkIndex_2214a 2 none 2 := ⟨in_r11 _ (List.mem_of_getElem? (i := 21) rfl), in_r11 _ (List.mem_of_getElem? (i := 17) rfl), by decide +kernel⟩
theorem smJ2_checkIndex_2214a : Cond.static yJ2_checkIndex_2214a ∈ wsL_law := in_r11 _ (List.mem_of_getElem? (i := 20) rfl)
theorem miJ2_length_9d52b : MI yJ2_length_9d52b cJ2_length_9d52b 1 (some .int) 1 := ⟨in_r12 _ (List.mem_of_getElem? (i := 0) rfl), in_r11 _ (List.mem_of_getElem? (i := 17) rfl), by decide +kernel⟩
theorem smJ2_length_9d52b : Cond.static yJ2_length_9d52b ∈ wsL_law := in_r11 _ (List.mem_of_getElem? (i := 23) rfl)
theorem miJ2_getChar_3b067 : MI yJ2_getChar_3b067 cJ2_getChar_3b067 2 (some .char) 2 := ⟨in_r12 _ (List.mem_of_getElem? (i := 4) rfl), in_r11 _ (List.mem_of_getElem? (i := 17) rfl), by decide +kernel⟩
theorem smJ2_getChar_3b067 : Cond.static yJ2_getChar_3b067 ∈ wsL_law := in_r12 _ (List.mem_of_getElem? (i := 3) rfl)
theorem miX5_readLaw : MI yX5_readLaw cX5_readLaw 1 (some .boolean) 0 := ⟨in_r12 _ (List.mem_of_getElem? (i := 11) rfl), in_r1 _ (List.mem_of_getElem? (i := 19) rfl), by decide +kernel⟩
theorem imX5_readLaw : Cond.instanceMethod yX5_readLaw ∈ wsL_law := in_r12 _ (List.mem_of_getElem? (i := 9) rfl)
theorem seX5_readLaw : Cond.selects yX5_readLaw.cls yX5_readLaw yX5_readLaw ∈ wsL_law := in_r12 _ (List.mem_of_getElem? (i := 10) rfl)
theorem miX5_readNumber : MI yX5_readNumber cX5_readNumber 4 (some .boolean) 2 := ⟨in_r12 _ (List.mem_of_getElem? (i := 17) rfl), in_r1 _ (List.mem_of_getElem? (i := 19) rfl), by decide +kernel⟩
theorem imX5_readNumber : Cond.instanceMethod yX5_readNumber ∈ wsL_law := in_r12 _ (List.mem_of_getElem? (i := 15) rfl)
theorem seX5_readNumber : Cond.selects yX5_readNumber.cls yX5_readNumber yX5_readNumber ∈ wsL_law := in_r12 _ (List.mem_of_getElem? (i := 16) rfl)
theorem miX5_readStop : MI yX5_readStop cX5_readStop 1 (some .boolean) 0 := ⟨in_r12 _ (List.mem_of_getElem? (i := 21) rfl), in_r1 _ (List.mem_of_getElem? (i := 19) rfl), by decide +kernel⟩
theorem imX5_readStop : Cond.instanceMethod yX5_readStop ∈ wsL_law := in_r12 _ (List.mem_of_getElem? (i := 19) rfl)
theorem seX5_readStop : Cond.selects yX5_readStop.cls yX5_readStop yX5_readStop ∈ wsL_law := in_r12 _ (List.mem_of_getElem? (i := 20) rfl)
theorem miX5_checkStop : MI yX5_checkStop cX5_checkStop 1 (some .boolean) 0 := ⟨in_r13 _ (List.mem_of_getElem? (i := 1) rfl), in_r1 _ (List.mem_of_getElem? (i := 19) rfl), by decide +kernel⟩
theorem imX5_checkStop : Cond.instanceMethod yX5_checkStop ∈ wsL_law := in_r12 _ (List.mem_of_getElem? (i := 23) rfl)
theorem seX5_checkStop : Cond.selects yX5_checkStop.cls yX5_checkStop yX5_checkStop ∈ wsL_law := in_r13 _ (List.mem_of_getElem? (i := 0) rfl)
theorem miX5_readFee : MI yX5_readFee cX5_readFee 1 (some .boolean) 0 := ⟨in_r13 _ (List.mem_of_getElem? (i := 5) rfl), in_r1 _ (List.mem_of_getElem? (i := 19) rfl), by decide +kernel⟩
theorem imX5_readFee : Cond.instanceMethod yX5_readFee ∈ wsL_law := in_r13 _ (List.mem_of_getElem? (i := 3) rfl)
theorem seX5_readFee : Cond.selects yX5_readFee.cls yX5_readFee yX5_readFee ∈ wsL_law := in_r13 _ (List.mem_of_getElem? (i := 4) rfl)
theorem miX5_readOne : MI yX5_readOne cX5_readOne 2 (some .boolean) 0 := ⟨in_r13 _ (List.mem_of_getElem? (i := 10) rfl), in_r1 _ (List.mem_of_getElem? (i := 19) rfl), by decide +kernel⟩
theorem imX5_readOne : Cond.instanceMethod yX5_readOne ∈ wsL_law := in_r13 _ (List.mem_of_getElem? (i := 8) rfl)
theorem seX5_readOne : Cond.selects yX5_readOne.cls yX5_readOne yX5_readOne ∈ wsL_law := in_r13 _ (List.mem_of_getElem? (i := 9) rfl)
theorem miX5_kindNamed : MI yX5_kindNamed cX5_kindNamed 1 (some .int) 0 := ⟨in_r13 _ (List.mem_of_getElem? (i := 18) rfl), in_r1 _ (List.mem_of_getElem? (i := 19) rfl), by decide +kernel⟩
theorem imX5_kindNamed : Cond.instanceMethod yX5_kindNamed ∈ wsL_law := in_r13 _ (List.mem_of_getElem? (i := 16) rfl)
theorem seX5_kindNamed : Cond.selects yX5_kindNamed.cls yX5_kindNamed yX5_kindNamed ∈ wsL_law := in_r13 _ (List.mem_of_getElem? (i := 17) rfl)
theorem miX5_readCoin : MI yX5_readCoin cX5_readCoin 2 (some .boolean) 0 := ⟨in_r13 _ (List.mem_of_getElem? (i := 22) rfl), in_r1 _ (List.mem_of_getElem? (i := 19) rfl), by decide +kernel⟩
theorem imX5_readCoin : Cond.instanceMethod yX5_readCoin ∈ wsL_law := in_r13 _ (List.mem_of_getElem? (i := 20) rfl)
theorem seX5_readCoin : Cond.selects yX5_readCoin.cls yX5_readCoin yX5_readCoin ∈ wsL_law := in_r13 _ (List.mem_of_getElem? (i := 21) rfl)
theorem miX5_readSpend : MI yX5_readSpend cX5_readSpend 2 (some .boolean) 0 := ⟨in_r14 _ (List.mem_of_getElem? (i := 5) rfl), in_r1 _ (List.mem_of_getElem? (i := 19) rfl), by decide +kernel⟩
theorem imX5_readSpend : Cond.instanceMethod yX5_readSpend ∈ wsL_law := in_r14 _ (List.mem_of_getElem? (i := 3) rfl)
theorem seX5_readSpend : Cond.selects yX5_readSpend.cls yX5_readSpend yX5_readSpend ∈ wsL_law := in_r14 _ (List.mem_of_getElem? (i := 4) rfl)
theorem miX5_readTalk : MI yX5_readTalk cX5_readTalk 3 (some .boolean) 0 := ⟨in_r14 _ (List.mem_of_getElem? (i := 10) rfl), in_r1 _ (List.mem_of_getElem? (i := 19) rfl), by decide +kernel⟩
theorem imX5_readTalk : Cond.instanceMethod yX5_readTalk ∈ wsL_law := in_r14 _ (List.mem_of_getElem? (i := 8) rfl)
theorem seX5_readTalk : Cond.selects yX5_readTalk.cls yX5_readTalk yX5_readTalk ∈ wsL_law := in_r14 _ (List.mem_of_getElem? (i := 9) rfl)
theorem miX6_putTalk : MI yX6_putTalk cX6_putTalk 4 none 3 := ⟨in_r14 _ (List.mem_of_getElem? (i := 14) rfl), in_r1 _ (List.mem_of_getElem? (i := 23) rfl), by decide +kernel⟩
theorem imX6_putTalk : Cond.instanceMethod yX6_putTalk ∈ wsL_law := in_r14 _ (List.mem_of_getElem? (i := 12) rfl)
theorem seX6_putTalk : Cond.selects yX6_putTalk.cls yX6_putTalk yX6_putTalk ∈ wsL_law := in_r14 _ (List.mem_of_getElem? (i := 13) rfl)
theorem miX6_copyFrom : MI yX6_copyFrom cX6_copyFrom 3 none 1 := ⟨in_r14 _ (List.mem_of_getElem? (i := 18) rfl), in_r1 _ (List.mem_of_getElem? (i := 23) rfl), by decide +kernel⟩
theorem imX6_copyFrom : Cond.instanceMethod yX6_copyFrom ∈ wsL_law := in_r14 _ (List.mem_of_getElem? (i := 16) rfl)
theorem seX6_copyFrom : Cond.selects yX6_copyFrom.cls yX6_copyFrom yX6_copyFrom ∈ wsL_law := in_r14 _ (List.mem_of_getElem? (i := 17) rfl)
theorem miX8_text : MI yX8_text cX8_text 3 (some .int) 0 := ⟨in_r15 _ (List.mem_of_getElem? (i := 2) rfl), in_r1 _ (List.mem_of_getElem? (i := 5) rfl), by decide +kernel⟩
theorem imX8_text : Cond.instanceMethod yX8_text ∈ wsL_law := in_r15 _ (List.mem_of_getElem? (i := 0) rfl)
theorem seX8_text : Cond.selects yX8_text.cls yX8_text yX8_text ∈ wsL_law := in_r15 _ (List.mem_of_getElem? (i := 1) rfl)
theorem miX8_beginsText : MI yX8_beginsText cX8_beginsText 2 none 0 := ⟨in_r15 _ (List.mem_of_getElem? (i := 18) rfl), in_r1 _ (List.mem_of_getElem? (i := 5) rfl), by decide +kernel⟩
theorem imX8_beginsText : Cond.instanceMethod yX8_beginsText ∈ wsL_law := in_r15 _ (List.mem_of_getElem? (i := 16) rfl)
theorem seX8_beginsText : Cond.selects yX8_beginsText.cls yX8_beginsText yX8_beginsText ∈ wsL_law := in_r15 _ (List.mem_of_getElem? (i := 17) rfl)
theorem miX8_step : MI yX8_step cX8_step 2 none 0 := ⟨in_r16 _ (List.mem_of_getElem? (i := 1) rfl), in_r1 _ (List.mem_of_getElem? (i := 5) rfl), by decide +kernel⟩
theorem imX8_step : Cond.instanceMethod yX8_step ∈ wsL_law := in_r15 _ (List.mem_of_getElem? (i := 23) rfl)
theorem seX8_step : Cond.selects yX8_step.cls yX8_step yX8_step ∈ wsL_law := in_r16 _ (List.mem_of_getElem? (i := 0) rfl)
theorem miX8_byteAt : MI yX8_byteAt cX8_byteAt 2 (some .int) 1 := ⟨in_r16 _ (List.mem_of_getElem? (i := 11) rfl), in_r1 _ (List.mem_of_getElem? (i := 5) rfl), by decide +kernel⟩
theorem imX8_byteAt : Cond.instanceMethod yX8_byteAt ∈ wsL_law := in_r16 _ (List.mem_of_getElem? (i := 9) rfl)
theorem seX8_byteAt : Cond.selects yX8_byteAt.cls yX8_byteAt yX8_byteAt ∈ wsL_law := in_r16 _ (List.mem_of_getElem? (i := 10) rfl)
theorem miX8_fails : MI yX8_fails cX8_fails 2 none 1 := ⟨in_r16 _ (List.mem_of_getElem? (i := 15) rfl), in_r1 _ (List.mem_of_getElem? (i := 5) rfl), by decide +kernel⟩
theorem imX8_fails : Cond.instanceMethod yX8_fails ∈ wsL_law := in_r16 _ (List.mem_of_getElem? (i := 13) rfl)
theorem seX8_fails : Cond.selects yX8_fails.cls yX8_fails yX8_fails ∈ wsL_law := in_r16 _ (List.mem_of_getElem? (i := 14) rfl)
theorem miX8_readLine : MI yX8_readLine cX8_readLine 2 none 0 := ⟨in_r16 _ (List.mem_of_getElem? (i := 19) rfl), in_r1 _ (List.mem_of_getElem? (i := 5) rfl), by decide +kernel⟩
theorem imX8_readLine : Cond.instanceMethod yX8_readLine ∈ wsL_law := in_r16 _ (List.mem_of_getElem? (i := 17) rfl)
theorem seX8_readLine : Cond.selects yX8_readLine.cls yX8_readLine yX8_readLine ∈ wsL_law := in_r16 _ (List.mem_of_getElem? (i := 18) rfl)
theorem miX8_nameHere : MI yX8_nameHere cX8_nameHere 4 (some .int) 0 := ⟨in_r17 _ (List.mem_of_getElem? (i := 0) rfl), in_r1 _ (List.mem_of_getElem? (i := 5) rfl), by decide +kernel⟩
theorem imX8_nameHere : Cond.instanceMethod yX8_nameHere ∈ wsL_law := in_r16 _ (List.mem_of_getElem? (i := 22) rfl)
theorem seX8_nameHere : Cond.selects yX8_nameHere.cls yX8_nameHere yX8_nameHere ∈ wsL_law := in_r16 _ (List.mem_of_getElem? (i := 23) rfl)
theorem miX8_hasRoom : MI yX8_hasRoom cX8_hasRoom 3 (some .boolean) 1 := ⟨in_r17 _ (List.mem_of_getElem? (i := 4) rfl), in_r1 _ (List.mem_of_getElem? (i := 5) rfl), by decide +kernel⟩
theorem imX8_hasRoom : Cond.instanceMethod yX8_hasRoom ∈ wsL_law := in_r17 _ (List.mem_of_getElem? (i := 2) rfl)
theorem seX8_hasRoom : Cond.selects yX8_hasRoom.cls yX8_hasRoom yX8_hasRoom ∈ wsL_law := in_r17 _ (List.mem_of_getElem? (i := 3) rfl)
theorem miX8_readOne : MI yX8_readOne cX8_readOne 3 none 0 := ⟨in_r17 _ (List.mem_of_getElem? (i := 8) rfl), in_r1 _ (List.mem_of_getElem? (i := 5) rfl), by decide +kernel⟩
theorem imX8_readOne : Cond.instanceMethod yX8_readOne ∈ wsL_law := in_r17 _ (List.mem_of_getElem? (i := 6) rfl)
theorem seX8_readOne : Cond.selects yX8_readOne.cls yX8_readOne yX8_readOne ∈ wsL_law := in_r17 _ (List.mem_of_getElem? (i := 7) rfl)
theorem miX8_other : MI yX8_other cX8_other 5 (some .int) 3 := ⟨in_r17 _ (List.mem_of_getElem? (i := 12) rfl), in_r1 _ (List.mem_of_getElem? (i := 5) rfl), by decide +kernel⟩
theorem imX8_other : Cond.instanceMethod yX8_other ∈ wsL_law := in_r17 _ (List.mem_of_getElem? (i := 10) rfl)
theorem seX8_other : Cond.selects yX8_other.cls yX8_other yX8_other ∈ wsL_law := in_r17 _ (List.mem_of_getElem? (i := 11) rfl)
theorem miX8_readCoin : MI yX8_readCoin cX8_readCoin 2 none 0 := ⟨in_r17 _ (List.mem_of_getElem? (i := 16) rfl), in_r1 _ (List.mem_of_getElem? (i := 5) rfl), by decide +kernel⟩
theorem imX8_readCoin : Cond.instanceMethod yX8_readCoin ∈ wsL_law := in_r17 _ (List.mem_of_getElem? (i := 14) rfl)
theorem seX8_readCoin : Cond.selects yX8_readCoin.cls yX8_readCoin yX8_readCoin ∈ wsL_law := in_r17 _ (List.mem_of_getElem? (i := 15) rfl)
theorem miX8_oneOf : MI yX8_oneOf cX8_oneOf 3 (some .int) 1 := ⟨in_r17 _ (List.mem_of_getElem? (i := 20) rfl), in_r1 _ (List.mem_of_getElem? (i := 5) rfl), by decide +kernel⟩
theorem imX8_oneOf : Cond.instanceMethod yX8_oneOf ∈ wsL_law := in_r17 _ (List.mem_of_getElem? (i := 18) rfl)
theorem seX8_oneOf : Cond.selects yX8_oneOf.cls yX8_oneOf yX8_oneOf ∈ wsL_law := in_r17 _ (List.mem_of_getElem? (i := 19) rfl)
theorem miX8_readTalk : MI yX8_readTalk cX8_readTalk 2 none 0 := ⟨in_r18 _ (List.mem_of_getElem? (i := 0) rfl), in_r1 _ (List.mem_of_getElem? (i := 5) rfl), by decide +kernel⟩
theorem imX8_readTalk : Cond.instanceMethod yX8_readTalk ∈ wsL_law := in_r17 _ (List.mem_of_getElem? (i := 22) rfl)
theorem seX8_readTalk : Cond.selects yX8_readTalk.cls yX8_readTalk yX8_readTalk ∈ wsL_law := in_r17 _ (List.mem_of_getElem? (i := 23) rfl)
theorem miX8_readMore : MI yX8_readMore cX8_readMore 3 none 1 := ⟨in_r18 _ (List.mem_of_getElem? (i := 4) rfl), in_r1 _ (List.mem_of_getElem? (i := 5) rfl), by decide +kernel⟩
theorem imX8_readMore : Cond.instanceMethod yX8_readMore ∈ wsL_law := in_r18 _ (List.mem_of_getElem? (i := 2) rfl)
theorem seX8_readMore : Cond.selects yX8_readMore.cls yX8_readMore yX8_readMore ∈ wsL_law := in_r18 _ (List.mem_of_getElem? (i := 3) rfl)
theorem miX7_fault : MI yX7_fault cX7_fault 1 (some .int) 0 := ⟨in_r18 _ (List.mem_of_getElem? (i := 8) rfl), in_r1 _ (List.mem_of_getElem? (i := 2) rfl), by decide +kernel⟩
theorem imX7_fault : Cond.instanceMethod yX7_fault ∈ wsL_law := in_r18 _ (List.mem_of_getElem? (i := 6) rfl)
theorem seX7_fault : Cond.selects yX7_fault.cls yX7_fault yX7_fault ∈ wsL_law := in_r18 _ (List.mem_of_getElem? (i := 7) rfl)
theorem miX8_fault : MI yX8_fault cX8_fault 1 (some .int) 0 := ⟨in_r18 _ (List.mem_of_getElem? (i := 13) rfl), in_r1 _ (List.mem_of_getElem? (i := 5) rfl), by decide +kernel⟩
theorem imX8_fault : Cond.instanceMethod yX8_fault ∈ wsL_law := in_r18 _ (List.mem_of_getElem? (i := 11) rfl)
theorem seX8_fault : Cond.selects yX8_fault.cls yX8_fault yX8_fault ∈ wsL_law := in_r18 _ (List.mem_of_getElem? (i := 12) rfl)
theorem miX7_rule : MI yX7_rule cX7_rule 2 (some .int) 1 := ⟨in_r18 _ (List.mem_of_getElem? (i := 17) rfl), in_r1 _ (List.mem_of_getElem? (i := 2) rfl), by decide +kernel⟩
theorem imX7_rule : Cond.instanceMethod yX7_rule ∈ wsL_law := in_r18 _ (List.mem_of_getElem? (i := 15) rfl)
theorem seX7_rule : Cond.selects yX7_rule.cls yX7_rule yX7_rule ∈ wsL_law := in_r18 _ (List.mem_of_getElem? (i := 16) rfl)
theorem miX8_rule : MI yX8_rule cX8_rule 2 (some .int) 1 := ⟨in_r19 _ (List.mem_of_getElem? (i := 2) rfl), in_r1 _ (List.mem_of_getElem? (i := 5) rfl), by decide +kernel⟩
theorem imX8_rule : Cond.instanceMethod yX8_rule ∈ wsL_law := in_r19 _ (List.mem_of_getElem? (i := 0) rfl)
theorem seX8_rule : Cond.selects yX8_rule.cls yX8_rule yX8_rule ∈ wsL_law := in_r19 _ (List.mem_of_getElem? (i := 1) rfl)
theorem miX8_feeNow : MI yX8_feeNow cX8_feeNow 1 (some .int) 0 := ⟨in_r19 _ (List.mem_of_getElem? (i := 6) rfl), in_r1 _ (List.mem_of_getElem? (i := 5) rfl), by decide +kernel⟩
theorem imX8_feeNow : Cond.instanceMethod yX8_feeNow ∈ wsL_law := in_r19 _ (List.mem_of_getElem? (i := 4) rfl)
theorem seX8_feeNow : Cond.selects yX8_feeNow.cls yX8_feeNow yX8_feeNow ∈ wsL_law := in_r19 _ (List.mem_of_getElem? (i := 5) rfl)
theorem miX7_one : MI yX7_one cX7_one 3 (some .int) 2 := ⟨in_r19 _ (List.mem_of_getElem? (i := 10) rfl), in_r1 _ (List.mem_of_getElem? (i := 2) rfl), by decide +kernel⟩
theorem imX7_one : Cond.instanceMethod yX7_one ∈ wsL_law := in_r19 _ (List.mem_of_getElem? (i := 8) rfl)
theorem seX7_one : Cond.selects yX7_one.cls yX7_one yX7_one ∈ wsL_law := in_r19 _ (List.mem_of_getElem? (i := 9) rfl)
theorem miX8_one : MI yX8_one cX8_one 3 (some .int) 2 := ⟨in_r19 _ (List.mem_of_getElem? (i := 18) rfl), in_r1 _ (List.mem_of_getElem? (i := 5) rfl), by decide +kernel⟩
theorem imX8_one : Cond.instanceMethod yX8_one ∈ wsL_law := in_r19 _ (List.mem_of_getElem? (i := 16) rfl)
theorem seX8_one : Cond.selects yX8_one.cls yX8_one yX8_one ∈ wsL_law := in_r19 _ (List.mem_of_getElem? (i := 17) rfl)
theorem miX8_isOne : MI yX8_isOne cX8_isOne 2 (some .boolean) 1 := ⟨in_r19 _ (List.mem_of_getElem? (i := 23) rfl), in_r1 _ (List.mem_of_getElem? (i := 5) rfl), by decide +kernel⟩
theorem imX8_isOne : Cond.instanceMethod yX8_isOne ∈ wsL_law := in_r19 _ (List.mem_of_getElem? (i := 21) rfl)
theorem seX8_isOne : Cond.selects yX8_isOne.cls yX8_isOne yX8_isOne ∈ wsL_law := in_r19 _ (List.mem_of_getElem? (i := 22) rfl)
theorem miX7_coin : MI yX7_coin cX7_coin 3 (some .int) 2 := ⟨in_r20 _ (List.mem_of_getElem? (i := 3) rfl), in_r1 _ (List.mem_of_getElem? (i := 2) rfl), by decide +kernel⟩
theorem imX7_coin : Cond.instanceMethod yX7_coin ∈ wsL_law := in_r20 _ (List.mem_of_getElem? (i := 1) rfl)
theorem seX7_coin : Cond.selects yX7_coin.cls yX7_coin yX7_coin ∈ wsL_law := in_r20 _ (List.mem_of_getElem? (i := 2) rfl)
theorem miX7_oneIf : MI yX7_oneIf cX7_oneIf 1 (some .int) 1 := ⟨in_r20 _ (List.mem_of_getElem? (i := 11) rfl), in_r1 _ (List.mem_of_getElem? (i := 2) rfl), by decide +kernel⟩
theorem smX7_oneIf : Cond.static yX7_oneIf ∈ wsL_law := in_r20 _ (List.mem_of_getElem? (i := 10) rfl)
theorem miX6_lengthBy : MI yX6_lengthBy cX6_lengthBy 4 (some .int) 2 := ⟨in_r20 _ (List.mem_of_getElem? (i := 15) rfl), in_r1 _ (List.mem_of_getElem? (i := 23) rfl), by decide +kernel⟩
theorem imX6_lengthBy : Cond.instanceMethod yX6_lengthBy ∈ wsL_law := in_r20 _ (List.mem_of_getElem? (i := 13) rfl)
theorem seX6_lengthBy : Cond.selects yX6_lengthBy.cls yX6_lengthBy yX6_lengthBy ∈ wsL_law := in_r20 _ (List.mem_of_getElem? (i := 14) rfl)
theorem miX8_coin : MI yX8_coin cX8_coin 3 (some .int) 2 := ⟨in_r20 _ (List.mem_of_getElem? (i := 23) rfl), in_r1 _ (List.mem_of_getElem? (i := 5) rfl), by decide +kernel⟩
theorem imX8_coin : Cond.instanceMethod yX8_coin ∈ wsL_law := in_r20 _ (List.mem_of_getElem? (i := 21) rfl)
theorem seX8_coin : Cond.selects yX8_coin.cls yX8_coin yX8_coin ∈ wsL_law := in_r20 _ (List.mem_of_getElem? (i := 22) rfl)
theorem miX8_isCoin : MI yX8_isCoin cX8_isCoin 2 (some .boolean) 1 := ⟨in_r21 _ (List.mem_of_getElem? (i := 4) rfl), in_r1 _ (List.mem_of_getElem? (i := 5) rfl), by decide +kernel⟩
theorem imX8_isCoin : Cond.instanceMethod yX8_isCoin ∈ wsL_law := in_r21 _ (List.mem_of_getElem? (i := 2) rfl)
theorem seX8_isCoin : Cond.selects yX8_isCoin.cls yX8_isCoin yX8_isCoin ∈ wsL_law := in_r21 _ (List.mem_of_getElem? (i := 3) rfl)
theorem miX8_ownerOf : MI yX8_ownerOf cX8_ownerOf 2 (some .int) 1 := ⟨in_r21 _ (List.mem_of_getElem? (i := 8) rfl), in_r1 _ (List.mem_of_getElem? (i := 5) rfl), by decide +kernel⟩
theorem imX8_ownerOf : Cond.instanceMethod yX8_ownerOf ∈ wsL_law := in_r21 _ (List.mem_of_getElem? (i := 6) rfl)
theorem seX8_ownerOf : Cond.selects yX8_ownerOf.cls yX8_ownerOf yX8_ownerOf ∈ wsL_law := in_r21 _ (List.mem_of_getElem? (i := 7) rfl)
theorem miX8_lengthBy : MI yX8_lengthBy cX8_lengthBy 4 (some .int) 2 := ⟨in_r21 _ (List.mem_of_getElem? (i := 12) rfl), in_r1 _ (List.mem_of_getElem? (i := 5) rfl), by decide +kernel⟩
theorem imX8_lengthBy : Cond.instanceMethod yX8_lengthBy ∈ wsL_law := in_r21 _ (List.mem_of_getElem? (i := 10) rfl)
theorem seX8_lengthBy : Cond.selects yX8_lengthBy.cls yX8_lengthBy yX8_lengthBy ∈ wsL_law := in_r21 _ (List.mem_of_getElem? (i := 11) rfl)
theorem miX8_kindOf : MI yX8_kindOf cX8_kindOf 2 (some .int) 1 := ⟨in_r21 _ (List.mem_of_getElem? (i := 16) rfl), in_r1 _ (List.mem_of_getElem? (i := 5) rfl), by decide +kernel⟩
theorem imX8_kindOf : Cond.instanceMethod yX8_kindOf ∈ wsL_law := in_r21 _ (List.mem_of_getElem? (i := 14) rfl)
theorem seX8_kindOf : Cond.selects yX8_kindOf.cls yX8_kindOf yX8_kindOf ∈ wsL_law := in_r21 _ (List.mem_of_getElem? (i := 15) rfl)
theorem miX8_isSpent : MI yX8_isSpent cX8_isSpent 2 (some .boolean) 1 := ⟨in_r21 _ (List.mem_of_getElem? (i := 20) rfl), in_r1 _ (List.mem_of_getElem? (i := 5) rfl), by decide +kernel⟩
theorem imX8_isSpent : Cond.instanceMethod yX8_isSpent ∈ wsL_law := in_r21 _ (List.mem_of_getElem? (i := 18) rfl)
theorem seX8_isSpent : Cond.selects yX8_isSpent.cls yX8_isSpent yX8_isSpent ∈ wsL_law := in_r21 _ (List.mem_of_getElem? (i := 19) rfl)
theorem miX7_talk : MI yX7_talk cX7_talk 3 (some .int) 2 := ⟨in_r22 _ (List.mem_of_getElem? (i := 0) rfl), in_r1 _ (List.mem_of_getElem? (i := 2) rfl), by decide +kernel⟩
theorem imX7_talk : Cond.instanceMethod yX7_talk ∈ wsL_law := in_r21 _ (List.mem_of_getElem? (i := 22) rfl)
theorem seX7_talk : Cond.selects yX7_talk.cls yX7_talk yX7_talk ∈ wsL_law := in_r21 _ (List.mem_of_getElem? (i := 23) rfl)
theorem miX6_isTalkSaid : MI yX6_isTalkSaid cX6_isTalkSaid 2 (some .boolean) 1 := ⟨in_r22 _ (List.mem_of_getElem? (i := 7) rfl), in_r1 _ (List.mem_of_getElem? (i := 23) rfl), by decide +kernel⟩
theorem imX6_isTalkSaid : Cond.instanceMethod yX6_isTalkSaid ∈ wsL_law := in_r22 _ (List.mem_of_getElem? (i := 5) rfl)
theorem seX6_isTalkSaid : Cond.selects yX6_isTalkSaid.cls yX6_isTalkSaid yX6_isTalkSaid ∈ wsL_law := in_r22 _ (List.mem_of_getElem? (i := 6) rfl)
theorem miX6_silentOnes : MI yX6_silentOnes cX6_silentOnes 4 (some .int) 1 := ⟨in_r22 _ (List.mem_of_getElem? (i := 11) rfl), in_r1 _ (List.mem_of_getElem? (i := 23) rfl), by decide +kernel⟩
theorem imX6_silentOnes : Cond.instanceMethod yX6_silentOnes ∈ wsL_law := in_r22 _ (List.mem_of_getElem? (i := 9) rfl)
theorem seX6_silentOnes : Cond.selects yX6_silentOnes.cls yX6_silentOnes yX6_silentOnes ∈ wsL_law := in_r22 _ (List.mem_of_getElem? (i := 10) rfl)
theorem miX6_silencedBy : MI yX6_silencedBy cX6_silencedBy 5 (some .int) 3 := ⟨in_r22 _ (List.mem_of_getElem? (i := 16) rfl), in_r1 _ (List.mem_of_getElem? (i := 23) rfl), by decide +kernel⟩
theorem imX6_silencedBy : Cond.instanceMethod yX6_silencedBy ∈ wsL_law := in_r22 _ (List.mem_of_getElem? (i := 14) rfl)
theorem seX6_silencedBy : Cond.selects yX6_silencedBy.cls yX6_silencedBy yX6_silencedBy ∈ wsL_law := in_r22 _ (List.mem_of_getElem? (i := 15) rfl)
theorem miX6_isSaid : MI yX6_isSaid cX6_isSaid 6 (some .boolean) 3 := ⟨in_r22 _ (List.mem_of_getElem? (i := 21) rfl), in_r1 _ (List.mem_of_getElem? (i := 23) rfl), by decide +kernel⟩
theorem imX6_isSaid : Cond.instanceMethod yX6_isSaid ∈ wsL_law := in_r22 _ (List.mem_of_getElem? (i := 19) rfl)
theorem seX6_isSaid : Cond.selects yX6_isSaid.cls yX6_isSaid yX6_isSaid ∈ wsL_law := in_r22 _ (List.mem_of_getElem? (i := 20) rfl)
theorem miX7_hasBit : MI yX7_hasBit cX7_hasBit 2 (some .boolean) 2 := ⟨in_r22 _ (List.mem_of_getElem? (i := 23) rfl), in_r1 _ (List.mem_of_getElem? (i := 2) rfl), by decide +kernel⟩
theorem smX7_hasBit : Cond.static yX7_hasBit ∈ wsL_law := in_r22 _ (List.mem_of_getElem? (i := 22) rfl)
theorem miX8_talk : MI yX8_talk cX8_talk 3 (some .int) 2 := ⟨in_r23 _ (List.mem_of_getElem? (i := 3) rfl), in_r1 _ (List.mem_of_getElem? (i := 5) rfl), by decide +kernel⟩
theorem imX8_talk : Cond.instanceMethod yX8_talk ∈ wsL_law := in_r23 _ (List.mem_of_getElem? (i := 1) rfl)
theorem seX8_talk : Cond.selects yX8_talk.cls yX8_talk yX8_talk ∈ wsL_law := in_r23 _ (List.mem_of_getElem? (i := 2) rfl)
theorem miX8_isTalkSaid : MI yX8_isTalkSaid cX8_isTalkSaid 3 (some .boolean) 1 := ⟨in_r23 _ (List.mem_of_getElem? (i := 8) rfl), in_r1 _ (List.mem_of_getElem? (i := 5) rfl), by decide +kernel⟩
theorem imX8_isTalkSaid : Cond.instanceMethod yX8_isTalkSaid ∈ wsL_law := in_r23 _ (List.mem_of_getElem? (i := 6) rfl)
theorem seX8_isTalkSaid : Cond.selects yX8_isTalkSaid.cls yX8_isTalkSaid yX8_isTalkSaid ∈ wsL_law := in_r23 _ (List.mem_of_getElem? (i := 7) rfl)
theorem miX8_isSaid : MI yX8_isSaid cX8_isSaid 6 (some .boolean) 3 := ⟨in_r23 _ (List.mem_of_getElem? (i := 12) rfl), in_r1 _ (List.mem_of_getElem? (i := 5) rfl), by decide +kernel⟩
theorem imX8_isSaid : Cond.instanceMethod yX8_isSaid ∈ wsL_law := in_r23 _ (List.mem_of_getElem? (i := 10) rfl)
theorem seX8_isSaid : Cond.selects yX8_isSaid.cls yX8_isSaid yX8_isSaid ∈ wsL_law := in_r23 _ (List.mem_of_getElem? (i := 11) rfl)
theorem miX8_isSilent : MI yX8_isSilent cX8_isSilent 3 (some .boolean) 2 := ⟨in_r23 _ (List.mem_of_getElem? (i := 16) rfl), in_r1 _ (List.mem_of_getElem? (i := 5) rfl), by decide +kernel⟩
theorem imX8_isSilent : Cond.instanceMethod yX8_isSilent ∈ wsL_law := in_r23 _ (List.mem_of_getElem? (i := 14) rfl)
theorem seX8_isSilent : Cond.selects yX8_isSilent.cls yX8_isSilent yX8_isSilent ∈ wsL_law := in_r23 _ (List.mem_of_getElem? (i := 15) rfl)
theorem miX8_quietOf : MI yX8_quietOf cX8_quietOf 4 (some .int) 1 := ⟨in_r23 _ (List.mem_of_getElem? (i := 20) rfl), in_r1 _ (List.mem_of_getElem? (i := 5) rfl), by decide +kernel⟩
theorem imX8_quietOf : Cond.instanceMethod yX8_quietOf ∈ wsL_law := in_r23 _ (List.mem_of_getElem? (i := 18) rfl)
theorem seX8_quietOf : Cond.selects yX8_quietOf.cls yX8_quietOf yX8_quietOf ∈ wsL_law := in_r23 _ (List.mem_of_getElem? (i := 19) rfl)
theorem miX7_law : MI yX7_law cX7_law 3 (some .int) 1 := ⟨in_r24 _ (List.mem_of_getElem? (i := 0) rfl), in_r1 _ (List.mem_of_getElem? (i := 2) rfl), by decide +kernel⟩
theorem imX7_law : Cond.instanceMethod yX7_law ∈ wsL_law := in_r23 _ (List.mem_of_getElem? (i := 22) rfl)
theorem seX7_law : Cond.selects yX7_law.cls yX7_law yX7_law ∈ wsL_law := in_r23 _ (List.mem_of_getElem? (i := 23) rfl)
theorem miX8_law : MI yX8_law cX8_law 3 (some .int) 1 := ⟨in_r24 _ (List.mem_of_getElem? (i := 4) rfl), in_r1 _ (List.mem_of_getElem? (i := 5) rfl), by decide +kernel⟩
theorem imX8_law : Cond.instanceMethod yX8_law ∈ wsL_law := in_r24 _ (List.mem_of_getElem? (i := 2) rfl)
theorem seX8_law : Cond.selects yX8_law.cls yX8_law yX8_law ∈ wsL_law := in_r24 _ (List.mem_of_getElem? (i := 3) rfl)
theorem miX7_fee : MI yX7_fee cX7_fee 3 (some .int) 1 := ⟨in_r24 _ (List.mem_of_getElem? (i := 8) rfl), in_r1 _ (List.mem_of_getElem? (i := 2) rfl), by decide +kernel⟩
theorem imX7_fee : Cond.instanceMethod yX7_fee ∈ wsL_law := in_r24 _ (List.mem_of_getElem? (i := 6) rfl)
theorem seX7_fee : Cond.selects yX7_fee.cls yX7_fee yX7_fee ∈ wsL_law := in_r24 _ (List.mem_of_getElem? (i := 7) rfl)
theorem miX8_fee : MI yX8_fee cX8_fee 3 (some .int) 1 := ⟨in_r24 _ (List.mem_of_getElem? (i := 12) rfl), in_r1 _ (List.mem_of_getElem? (i := 5) rfl), by decide +kernel⟩
theorem imX8_fee : Cond.instanceMethod yX8_fee ∈ wsL_law := in_r24 _ (List.mem_of_getElem? (i := 10) rfl)
theorem seX8_fee : Cond.selects yX8_fee.cls yX8_fee yX8_fee ∈ wsL_law := in_r24 _ (List.mem_of_getElem? (i := 11) rfl)
theorem miX7_give : MI yX7_give cX7_give 4 (some .int) 2 := ⟨in_r24 _ (List.mem_of_getElem? (i := 17) rfl), in_r1 _ (List.mem_of_getElem? (i := 2) rfl), by decide +kernel⟩
theorem imX7_give : Cond.instanceMethod yX7_give ∈ wsL_law := in_r24 _ (List.mem_of_getElem? (i := 15) rfl)
theorem seX7_give : Cond.selects yX7_give.cls yX7_give yX7_give ∈ wsL_law := in_r24 _ (List.mem_of_getElem? (i := 16) rfl)
theorem miX8_give : MI yX8_give cX8_give 4 (some .int) 2 := ⟨in_r24 _ (List.mem_of_getElem? (i := 22) rfl), in_r1 _ (List.mem_of_getElem? (i := 5) rfl), by decide +kernel⟩
theorem imX8_give : Cond.instanceMethod yX8_give ∈ wsL_law := in_r24 _ (List.mem_of_getElem? (i := 20) rfl)
theorem seX8_give : Cond.selects yX8_give.cls yX8_give yX8_give ∈ wsL_law := in_r24 _ (List.mem_of_getElem? (i := 21) rfl)
theorem miX7_clip : MI yX7_clip cX7_clip 3 (some .int) 1 := ⟨in_r25 _ (List.mem_of_getElem? (i := 2) rfl), in_r1 _ (List.mem_of_getElem? (i := 2) rfl), by decide +kernel⟩
theorem imX7_clip : Cond.instanceMethod yX7_clip ∈ wsL_law := in_r25 _ (List.mem_of_getElem? (i := 0) rfl)
theorem seX7_clip : Cond.selects yX7_clip.cls yX7_clip yX7_clip ∈ wsL_law := in_r25 _ (List.mem_of_getElem? (i := 1) rfl)
theorem miX8_clip : MI yX8_clip cX8_clip 3 (some .int) 1 := ⟨in_r25 _ (List.mem_of_getElem? (i := 6) rfl), in_r1 _ (List.mem_of_getElem? (i := 5) rfl), by decide +kernel⟩
theorem imX8_clip : Cond.instanceMethod yX8_clip ∈ wsL_law := in_r25 _ (List.mem_of_getElem? (i := 4) rfl)
theorem seX8_clip : Cond.selects yX8_clip.cls yX8_clip yX8_clip ∈ wsL_law := in_r25 _ (List.mem_of_getElem? (i := 5) rfl)
theorem miX7_spend : MI yX7_spend cX7_spend 3 (some .int) 2 := ⟨in_r25 _ (List.mem_of_getElem? (i := 10) rfl), in_r1 _ (List.mem_of_getElem? (i := 2) rfl), by decide +kernel⟩
theorem imX7_spend : Cond.instanceMethod yX7_spend ∈ wsL_law := in_r25 _ (List.mem_of_getElem? (i := 8) rfl)
theorem seX7_spend : Cond.selects yX7_spend.cls yX7_spend yX7_spend ∈ wsL_law := in_r25 _ (List.mem_of_getElem? (i := 9) rfl)
theorem miX7_isHour : MI yX7_isHour cX7_isHour 1 (some .boolean) 1 := ⟨in_r25 _ (List.mem_of_getElem? (i := 13) rfl), in_r1 _ (List.mem_of_getElem? (i := 2) rfl), by decide +kernel⟩
theorem smX7_isHour : Cond.static yX7_isHour ∈ wsL_law := in_r25 _ (List.mem_of_getElem? (i := 12) rfl)
theorem miX8_spend : MI yX8_spend cX8_spend 3 (some .int) 2 := ⟨in_r25 _ (List.mem_of_getElem? (i := 17) rfl), in_r1 _ (List.mem_of_getElem? (i := 5) rfl), by decide +kernel⟩
theorem imX8_spend : Cond.instanceMethod yX8_spend ∈ wsL_law := in_r25 _ (List.mem_of_getElem? (i := 15) rfl)
theorem seX8_spend : Cond.selects yX8_spend.cls yX8_spend yX8_spend ∈ wsL_law := in_r25 _ (List.mem_of_getElem? (i := 16) rfl)
theorem miX8_isHour : MI yX8_isHour cX8_isHour 1 (some .boolean) 1 := ⟨in_r25 _ (List.mem_of_getElem? (i := 20) rfl), in_r1 _ (List.mem_of_getElem? (i := 5) rfl), by decide +kernel⟩
theorem smX8_isHour : Cond.static yX8_isHour ∈ wsL_law := in_r25 _ (List.mem_of_getElem? (i := 19) rfl)
theorem miX7_undo : MI yX7_undo cX7_undo 3 (some .int) 1 := ⟨in_r26 _ (List.mem_of_getElem? (i := 1) rfl), in_r1 _ (List.mem_of_getElem? (i := 2) rfl), by decide +kernel⟩
theorem imX7_undo : Cond.instanceMethod yX7_undo ∈ wsL_law := in_r25 _ (List.mem_of_getElem? (i := 23) rfl)
theorem seX7_undo : Cond.selects yX7_undo.cls yX7_undo yX7_undo ∈ wsL_law := in_r26 _ (List.mem_of_getElem? (i := 0) rfl)
theorem miX8_undo : MI yX8_undo cX8_undo 3 (some .int) 1 := ⟨in_r26 _ (List.mem_of_getElem? (i := 5) rfl), in_r1 _ (List.mem_of_getElem? (i := 5) rfl), by decide +kernel⟩
theorem imX8_undo : Cond.instanceMethod yX8_undo ∈ wsL_law := in_r26 _ (List.mem_of_getElem? (i := 3) rfl)
theorem seX8_undo : Cond.selects yX8_undo.cls yX8_undo yX8_undo ∈ wsL_law := in_r26 _ (List.mem_of_getElem? (i := 4) rfl)
theorem miX7_speak : MI yX7_speak cX7_speak 4 (some .int) 3 := ⟨in_r26 _ (List.mem_of_getElem? (i := 9) rfl), in_r1 _ (List.mem_of_getElem? (i := 2) rfl), by decide +kernel⟩
theorem imX7_speak : Cond.instanceMethod yX7_speak ∈ wsL_law := in_r26 _ (List.mem_of_getElem? (i := 7) rfl)
theorem seX7_speak : Cond.selects yX7_speak.cls yX7_speak yX7_speak ∈ wsL_law := in_r26 _ (List.mem_of_getElem? (i := 8) rfl)
theorem miX6_addTalk : MI yX6_addTalk cX6_addTalk 4 (some .int) 3 := ⟨in_r26 _ (List.mem_of_getElem? (i := 13) rfl), in_r1 _ (List.mem_of_getElem? (i := 23) rfl), by decide +kernel⟩
theorem imX6_addTalk : Cond.instanceMethod yX6_addTalk ∈ wsL_law := in_r26 _ (List.mem_of_getElem? (i := 11) rfl)
theorem seX6_addTalk : Cond.selects yX6_addTalk.cls yX6_addTalk yX6_addTalk ∈ wsL_law := in_r26 _ (List.mem_of_getElem? (i := 12) rfl)
theorem miX6_canTalk : MI yX6_canTalk cX6_canTalk 4 (some .boolean) 3 := ⟨in_r26 _ (List.mem_of_getElem? (i := 17) rfl), in_r1 _ (List.mem_of_getElem? (i := 23) rfl), by decide +kernel⟩
theorem imX6_canTalk : Cond.instanceMethod yX6_canTalk ∈ wsL_law := in_r26 _ (List.mem_of_getElem? (i := 15) rfl)
theorem seX6_canTalk : Cond.selects yX6_canTalk.cls yX6_canTalk yX6_canTalk ∈ wsL_law := in_r26 _ (List.mem_of_getElem? (i := 16) rfl)
theorem miX8_speak : MI yX8_speak cX8_speak 4 (some .int) 3 := ⟨in_r26 _ (List.mem_of_getElem? (i := 23) rfl), in_r1 _ (List.mem_of_getElem? (i := 5) rfl), by decide +kernel⟩
theorem imX8_speak : Cond.instanceMethod yX8_speak ∈ wsL_law := in_r26 _ (List.mem_of_getElem? (i := 21) rfl)
theorem seX8_speak : Cond.selects yX8_speak.cls yX8_speak yX8_speak ∈ wsL_law := in_r26 _ (List.mem_of_getElem? (i := 22) rfl)
theorem miX8_speaks : MI yX8_speaks cX8_speaks 5 (some .int) 3 := ⟨in_r27 _ (List.mem_of_getElem? (i := 3) rfl), in_r1 _ (List.mem_of_getElem? (i := 5) rfl), by decide +kernel⟩
theorem imX8_speaks : Cond.instanceMethod yX8_speaks ∈ wsL_law := in_r27 _ (List.mem_of_getElem? (i := 1) rfl)
theorem seX8_speaks : Cond.selects yX8_speaks.cls yX8_speaks yX8_speaks ∈ wsL_law := in_r27 _ (List.mem_of_getElem? (i := 2) rfl)
theorem miX8_areTwo : MI yX8_areTwo cX8_areTwo 3 (some .boolean) 2 := ⟨in_r27 _ (List.mem_of_getElem? (i := 7) rfl), in_r1 _ (List.mem_of_getElem? (i := 5) rfl), by decide +kernel⟩
theorem imX8_areTwo : Cond.instanceMethod yX8_areTwo ∈ wsL_law := in_r27 _ (List.mem_of_getElem? (i := 5) rfl)
theorem seX8_areTwo : Cond.selects yX8_areTwo.cls yX8_areTwo yX8_areTwo ∈ wsL_law := in_r27 _ (List.mem_of_getElem? (i := 6) rfl)
theorem miX7_silent : MI yX7_silent cX7_silent 2 (some .int) 1 := ⟨in_r27 _ (List.mem_of_getElem? (i := 11) rfl), in_r1 _ (List.mem_of_getElem? (i := 2) rfl), by decide +kernel⟩
theorem imX7_silent : Cond.instanceMethod yX7_silent ∈ wsL_law := in_r27 _ (List.mem_of_getElem? (i := 9) rfl)
theorem seX7_silent : Cond.selects yX7_silent.cls yX7_silent yX7_silent ∈ wsL_law := in_r27 _ (List.mem_of_getElem? (i := 10) rfl)
theorem miX8_silent : MI yX8_silent cX8_silent 4 (some .int) 1 := ⟨in_r27 _ (List.mem_of_getElem? (i := 16) rfl), in_r1 _ (List.mem_of_getElem? (i := 5) rfl), by decide +kernel⟩
theorem imX8_silent : Cond.instanceMethod yX8_silent ∈ wsL_law := in_r27 _ (List.mem_of_getElem? (i := 14) rfl)
theorem seX8_silent : Cond.selects yX8_silent.cls yX8_silent yX8_silent ∈ wsL_law := in_r27 _ (List.mem_of_getElem? (i := 15) rfl)
theorem miX7_quiet : MI yX7_quiet cX7_quiet 4 (some .int) 1 := ⟨in_r27 _ (List.mem_of_getElem? (i := 20) rfl), in_r1 _ (List.mem_of_getElem? (i := 2) rfl), by decide +kernel⟩
theorem imX7_quiet : Cond.instanceMethod yX7_quiet ∈ wsL_law := in_r27 _ (List.mem_of_getElem? (i := 18) rfl)
theorem seX7_quiet : Cond.selects yX7_quiet.cls yX7_quiet yX7_quiet ∈ wsL_law := in_r27 _ (List.mem_of_getElem? (i := 19) rfl)
theorem miX8_quiet : MI yX8_quiet cX8_quiet 2 (some .int) 1 := ⟨in_r28 _ (List.mem_of_getElem? (i := 1) rfl), in_r1 _ (List.mem_of_getElem? (i := 5) rfl), by decide +kernel⟩
theorem imX8_quiet : Cond.instanceMethod yX8_quiet ∈ wsL_law := in_r27 _ (List.mem_of_getElem? (i := 23) rfl)
theorem seX8_quiet : Cond.selects yX8_quiet.cls yX8_quiet yX8_quiet ∈ wsL_law := in_r28 _ (List.mem_of_getElem? (i := 0) rfl)
theorem miX7_may : MI yX7_may cX7_may 4 (some .int) 3 := ⟨in_r28 _ (List.mem_of_getElem? (i := 5) rfl), in_r1 _ (List.mem_of_getElem? (i := 2) rfl), by decide +kernel⟩
theorem imX7_may : Cond.instanceMethod yX7_may ∈ wsL_law := in_r28 _ (List.mem_of_getElem? (i := 3) rfl)
theorem seX7_may : Cond.selects yX7_may.cls yX7_may yX7_may ∈ wsL_law := in_r28 _ (List.mem_of_getElem? (i := 4) rfl)
theorem miX8_may : MI yX8_may cX8_may 4 (some .int) 3 := ⟨in_r28 _ (List.mem_of_getElem? (i := 11) rfl), in_r1 _ (List.mem_of_getElem? (i := 5) rfl), by decide +kernel⟩
theorem imX8_may : Cond.instanceMethod yX8_may ∈ wsL_law := in_r28 _ (List.mem_of_getElem? (i := 9) rfl)
theorem seX8_may : Cond.selects yX8_may.cls yX8_may yX8_may ∈ wsL_law := in_r28 _ (List.mem_of_getElem? (i := 10) rfl)
theorem miX7_said : MI yX7_said cX7_said 3 (some .int) 0 := ⟨in_r28 _ (List.mem_of_getElem? (i := 15) rfl), in_r1 _ (List.mem_of_getElem? (i := 2) rfl), by decide +kernel⟩
theorem imX7_said : Cond.instanceMethod yX7_said ∈ wsL_law := in_r28 _ (List.mem_of_getElem? (i := 13) rfl)
theorem seX7_said : Cond.selects yX7_said.cls yX7_said yX7_said ∈ wsL_law := in_r28 _ (List.mem_of_getElem? (i := 14) rfl)
theorem miX8_said : MI yX8_said cX8_said 3 (some .int) 0 := ⟨in_r28 _ (List.mem_of_getElem? (i := 19) rfl), in_r1 _ (List.mem_of_getElem? (i := 5) rfl), by decide +kernel⟩
theorem imX8_said : Cond.instanceMethod yX8_said ∈ wsL_law := in_r28 _ (List.mem_of_getElem? (i := 17) rfl)
theorem seX8_said : Cond.selects yX8_said.cls yX8_said yX8_said ∈ wsL_law := in_r28 _ (List.mem_of_getElem? (i := 18) rfl)
theorem miX7_knows : MI yX7_knows cX7_knows 3 (some .int) 2 := ⟨in_r28 _ (List.mem_of_getElem? (i := 23) rfl), in_r1 _ (List.mem_of_getElem? (i := 2) rfl), by decide +kernel⟩
theorem imX7_knows : Cond.instanceMethod yX7_knows ∈ wsL_law := in_r28 _ (List.mem_of_getElem? (i := 21) rfl)
theorem seX7_knows : Cond.selects yX7_knows.cls yX7_knows yX7_knows ∈ wsL_law := in_r28 _ (List.mem_of_getElem? (i := 22) rfl)
theorem miX2_takeSilence : MI yX2_takeSilence cX2_takeSilence 2 none 0 := ⟨in_r29 _ (List.mem_of_getElem? (i := 3) rfl), in_r2 _ (List.mem_of_getElem? (i := 3) rfl), by decide +kernel⟩
theorem imX2_takeSilence : Cond.instanceMethod yX2_takeSilence ∈ wsL_law := in_r29 _ (List.mem_of_getElem? (i := 1) rfl)
theorem seX2_takeSilence : Cond.selects yX2_takeSilence.cls yX2_takeSilence yX2_takeSilence ∈ wsL_law := in_r29 _ (List.mem_of_getElem? (i := 2) rfl)
theorem miX2_knowersBehind : MI yX2_knowersBehind cX2_knowersBehind 5 (some .int) 2 := ⟨in_r29 _ (List.mem_of_getElem? (i := 8) rfl), in_r2 _ (List.mem_of_getElem? (i := 3) rfl), by decide +kernel⟩
theorem imX2_knowersBehind : Cond.instanceMethod yX2_knowersBehind ∈ wsL_law := in_r29 _ (List.mem_of_getElem? (i := 6) rfl)
theorem seX2_knowersBehind : Cond.selects yX2_knowersBehind.cls yX2_knowersBehind yX2_knowersBehind ∈ wsL_law := in_r29 _ (List.mem_of_getElem? (i := 7) rfl)
theorem miX2_knowersAfter : MI yX2_knowersAfter cX2_knowersAfter 8 (some .int) 2 := ⟨in_r29 _ (List.mem_of_getElem? (i := 12) rfl), in_r2 _ (List.mem_of_getElem? (i := 3) rfl), by decide +kernel⟩
theorem imX2_knowersAfter : Cond.instanceMethod yX2_knowersAfter ∈ wsL_law := in_r29 _ (List.mem_of_getElem? (i := 10) rfl)
theorem seX2_knowersAfter : Cond.selects yX2_knowersAfter.cls yX2_knowersAfter yX2_knowersAfter ∈ wsL_law := in_r29 _ (List.mem_of_getElem? (i := 11) rfl)
theorem miX2_comingTo : MI yX2_comingTo cX2_comingTo 2 (some .int) 1 := ⟨in_r29 _ (List.mem_of_getElem? (i := 22) rfl), in_r2 _ (List.mem_of_getElem? (i := 3) rfl), by decide +kernel⟩
theorem imX2_comingTo : Cond.instanceMethod yX2_comingTo ∈ wsL_law := in_r29 _ (List.mem_of_getElem? (i := 20) rfl)
theorem seX2_comingTo : Cond.selects yX2_comingTo.cls yX2_comingTo yX2_comingTo ∈ wsL_law := in_r29 _ (List.mem_of_getElem? (i := 21) rfl)
theorem miX8_knows : MI yX8_knows cX8_knows 3 (some .int) 2 := ⟨in_r30 _ (List.mem_of_getElem? (i := 2) rfl), in_r1 _ (List.mem_of_getElem? (i := 5) rfl), by decide +kernel⟩
theorem imX8_knows : Cond.instanceMethod yX8_knows ∈ wsL_law := in_r30 _ (List.mem_of_getElem? (i := 0) rfl)
theorem seX8_knows : Cond.selects yX8_knows.cls yX8_knows yX8_knows ∈ wsL_law := in_r30 _ (List.mem_of_getElem? (i := 1) rfl)
theorem miX8_layRumour : MI yX8_layRumour cX8_layRumour 9 none 1 := ⟨in_r30 _ (List.mem_of_getElem? (i := 6) rfl), in_r1 _ (List.mem_of_getElem? (i := 5) rfl), by decide +kernel⟩
theorem imX8_layRumour : Cond.instanceMethod yX8_layRumour ∈ wsL_law := in_r30 _ (List.mem_of_getElem? (i := 4) rfl)
theorem seX8_layRumour : Cond.selects yX8_layRumour.cls yX8_layRumour yX8_layRumour ∈ wsL_law := in_r30 _ (List.mem_of_getElem? (i := 5) rfl)
theorem miX7_learns : MI yX7_learns cX7_learns 3 (some .int) 2 := ⟨in_r30 _ (List.mem_of_getElem? (i := 10) rfl), in_r1 _ (List.mem_of_getElem? (i := 2) rfl), by decide +kernel⟩
theorem imX7_learns : Cond.instanceMethod yX7_learns ∈ wsL_law := in_r30 _ (List.mem_of_getElem? (i := 8) rfl)
theorem seX7_learns : Cond.selects yX7_learns.cls yX7_learns yX7_learns ∈ wsL_law := in_r30 _ (List.mem_of_getElem? (i := 9) rfl)
theorem miX2_hourItComes : MI yX2_hourItComes cX2_hourItComes 5 (some .int) 2 := ⟨in_r30 _ (List.mem_of_getElem? (i := 14) rfl), in_r2 _ (List.mem_of_getElem? (i := 3) rfl), by decide +kernel⟩
theorem imX2_hourItComes : Cond.instanceMethod yX2_hourItComes ∈ wsL_law := in_r30 _ (List.mem_of_getElem? (i := 12) rfl)
theorem seX2_hourItComes : Cond.selects yX2_hourItComes.cls yX2_hourItComes yX2_hourItComes ∈ wsL_law := in_r30 _ (List.mem_of_getElem? (i := 13) rfl)
theorem miX8_learns : MI yX8_learns cX8_learns 3 (some .int) 2 := ⟨in_r30 _ (List.mem_of_getElem? (i := 18) rfl), in_r1 _ (List.mem_of_getElem? (i := 5) rfl), by decide +kernel⟩
theorem imX8_learns : Cond.instanceMethod yX8_learns ∈ wsL_law := in_r30 _ (List.mem_of_getElem? (i := 16) rfl)
theorem seX8_learns : Cond.selects yX8_learns.cls yX8_learns yX8_learns ∈ wsL_law := in_r30 _ (List.mem_of_getElem? (i := 17) rfl)
theorem miX8_learnsIn : MI yX8_learnsIn cX8_learnsIn 4 (some .int) 2 := ⟨in_r30 _ (List.mem_of_getElem? (i := 22) rfl), in_r1 _ (List.mem_of_getElem? (i := 5) rfl), by decide +kernel⟩
theorem imX8_learnsIn : Cond.instanceMethod yX8_learnsIn ∈ wsL_law := in_r30 _ (List.mem_of_getElem? (i := 20) rfl)
theorem seX8_learnsIn : Cond.selects yX8_learnsIn.cls yX8_learnsIn yX8_learnsIn ∈ wsL_law := in_r30 _ (List.mem_of_getElem? (i := 21) rfl)
theorem miX7_hush : MI yX7_hush cX7_hush 6 (some .int) 3 := ⟨in_r31 _ (List.mem_of_getElem? (i := 2) rfl), in_r1 _ (List.mem_of_getElem? (i := 2) rfl), by decide +kernel⟩
theorem imX7_hush : Cond.instanceMethod yX7_hush ∈ wsL_law := in_r31 _ (List.mem_of_getElem? (i := 0) rfl)
theorem seX7_hush : Cond.selects yX7_hush.cls yX7_hush yX7_hush ∈ wsL_law := in_r31 _ (List.mem_of_getElem? (i := 1) rfl)
theorem miX2_hushingHour : MI yX2_hushingHour cX2_hushingHour 5 (some .int) 3 := ⟨in_r31 _ (List.mem_of_getElem? (i := 6) rfl), in_r2 _ (List.mem_of_getElem? (i := 3) rfl), by decide +kernel⟩
theorem imX2_hushingHour : Cond.instanceMethod yX2_hushingHour ∈ wsL_law := in_r31 _ (List.mem_of_getElem? (i := 4) rfl)
theorem seX2_hushingHour : Cond.selects yX2_hushingHour.cls yX2_hushingHour yX2_hushingHour ∈ wsL_law := in_r31 _ (List.mem_of_getElem? (i := 5) rfl)
theorem miX2_addSilence : MI yX2_addSilence cX2_addSilence 4 none 2 := ⟨in_r31 _ (List.mem_of_getElem? (i := 11) rfl), in_r2 _ (List.mem_of_getElem? (i := 3) rfl), by decide +kernel⟩
theorem imX2_addSilence : Cond.instanceMethod yX2_addSilence ∈ wsL_law := in_r31 _ (List.mem_of_getElem? (i := 9) rfl)
theorem seX2_addSilence : Cond.selects yX2_addSilence.cls yX2_addSilence yX2_addSilence ∈ wsL_law := in_r31 _ (List.mem_of_getElem? (i := 10) rfl)
theorem miX8_hush : MI yX8_hush cX8_hush 7 (some .int) 3 := ⟨in_r31 _ (List.mem_of_getElem? (i := 17) rfl), in_r1 _ (List.mem_of_getElem? (i := 5) rfl), by decide +kernel⟩
theorem imX8_hush : Cond.instanceMethod yX8_hush ∈ wsL_law := in_r31 _ (List.mem_of_getElem? (i := 15) rfl)
theorem seX8_hush : Cond.selects yX8_hush.cls yX8_hush yX8_hush ∈ wsL_law := in_r31 _ (List.mem_of_getElem? (i := 16) rfl)
theorem miX7_hear : MI yX7_hear cX7_hear 3 (some .int) 2 := ⟨in_r31 _ (List.mem_of_getElem? (i := 21) rfl), in_r1 _ (List.mem_of_getElem? (i := 2) rfl), by decide +kernel⟩
theorem imX7_hear : Cond.instanceMethod yX7_hear ∈ wsL_law := in_r31 _ (List.mem_of_getElem? (i := 19) rfl)
theorem seX7_hear : Cond.selects yX7_hear.cls yX7_hear yX7_hear ∈ wsL_law := in_r31 _ (List.mem_of_getElem? (i := 20) rfl)
theorem miX2_note : MI yX2_note cX2_note 3 (some .int) 2 := ⟨in_r32 _ (List.mem_of_getElem? (i := 1) rfl), in_r2 _ (List.mem_of_getElem? (i := 3) rfl), by decide +kernel⟩
theorem imX2_note : Cond.instanceMethod yX2_note ∈ wsL_law := in_r31 _ (List.mem_of_getElem? (i := 23) rfl)
theorem seX2_note : Cond.selects yX2_note.cls yX2_note yX2_note ∈ wsL_law := in_r32 _ (List.mem_of_getElem? (i := 0) rfl)
theorem miX8_hear : MI yX8_hear cX8_hear 3 (some .int) 2 := ⟨in_r32 _ (List.mem_of_getElem? (i := 6) rfl), in_r1 _ (List.mem_of_getElem? (i := 5) rfl), by decide +kernel⟩
theorem imX8_hear : Cond.instanceMethod yX8_hear ∈ wsL_law := in_r32 _ (List.mem_of_getElem? (i := 4) rfl)
theorem seX8_hear : Cond.selects yX8_hear.cls yX8_hear yX8_hear ∈ wsL_law := in_r32 _ (List.mem_of_getElem? (i := 5) rfl)
theorem miX7_forget : MI yX7_forget cX7_forget 3 (some .int) 1 := ⟨in_r32 _ (List.mem_of_getElem? (i := 10) rfl), in_r1 _ (List.mem_of_getElem? (i := 2) rfl), by decide +kernel⟩
theorem imX7_forget : Cond.instanceMethod yX7_forget ∈ wsL_law := in_r32 _ (List.mem_of_getElem? (i := 8) rfl)
theorem seX7_forget : Cond.selects yX7_forget.cls yX7_forget yX7_forget ∈ wsL_law := in_r32 _ (List.mem_of_getElem? (i := 9) rfl)
theorem miX8_forget : MI yX8_forget cX8_forget 3 (some .int) 1 := ⟨in_r32 _ (List.mem_of_getElem? (i := 14) rfl), in_r1 _ (List.mem_of_getElem? (i := 5) rfl), by decide +kernel⟩
theorem imX8_forget : Cond.instanceMethod yX8_forget ∈ wsL_law := in_r32 _ (List.mem_of_getElem? (i := 12) rfl)
theorem seX8_forget : Cond.selects yX8_forget.cls yX8_forget yX8_forget ∈ wsL_law := in_r32 _ (List.mem_of_getElem? (i := 13) rfl)
theorem miX7_first : MI yX7_first cX7_first 3 (some .int) 0 := ⟨in_r32 _ (List.mem_of_getElem? (i := 18) rfl), in_r1 _ (List.mem_of_getElem? (i := 2) rfl), by decide +kernel⟩
theorem imX7_first : Cond.instanceMethod yX7_first ∈ wsL_law := in_r32 _ (List.mem_of_getElem? (i := 16) rfl)
theorem seX7_first : Cond.selects yX7_first.cls yX7_first yX7_first ∈ wsL_law := in_r32 _ (List.mem_of_getElem? (i := 17) rfl)
theorem miX2_canBeginWith : MI yX2_canBeginWith cX2_canBeginWith 4 (some .boolean) 1 := ⟨in_r32 _ (List.mem_of_getElem? (i := 22) rfl), in_r2 _ (List.mem_of_getElem? (i := 3) rfl), by decide +kernel⟩
theorem imX2_canBeginWith : Cond.instanceMethod yX2_canBeginWith ∈ wsL_law := in_r32 _ (List.mem_of_getElem? (i := 20) rfl)
theorem seX2_canBeginWith : Cond.selects yX2_canBeginWith.cls yX2_canBeginWith yX2_canBeginWith ∈ wsL_law := in_r32 _ (List.mem_of_getElem? (i := 21) rfl)
theorem miX8_first : MI yX8_first cX8_first 5 (some .int) 0 := ⟨in_r33 _ (List.mem_of_getElem? (i := 3) rfl), in_r1 _ (List.mem_of_getElem? (i := 5) rfl), by decide +kernel⟩
theorem imX8_first : Cond.instanceMethod yX8_first ∈ wsL_law := in_r33 _ (List.mem_of_getElem? (i := 1) rfl)
theorem seX8_first : Cond.selects yX8_first.cls yX8_first yX8_first ∈ wsL_law := in_r33 _ (List.mem_of_getElem? (i := 2) rfl)
theorem miX7_funeral : MI yX7_funeral cX7_funeral 6 (some .int) 3 := ⟨in_r33 _ (List.mem_of_getElem? (i := 7) rfl), in_r1 _ (List.mem_of_getElem? (i := 2) rfl), by decide +kernel⟩
theorem imX7_funeral : Cond.instanceMethod yX7_funeral ∈ wsL_law := in_r33 _ (List.mem_of_getElem? (i := 5) rfl)
theorem seX7_funeral : Cond.selects yX7_funeral.cls yX7_funeral yX7_funeral ∈ wsL_law := in_r33 _ (List.mem_of_getElem? (i := 6) rfl)
theorem miX7_isSubset : MI yX7_isSubset cX7_isSubset 2 (some .boolean) 2 := ⟨in_r33 _ (List.mem_of_getElem? (i := 12) rfl), in_r1 _ (List.mem_of_getElem? (i := 2) rfl), by decide +kernel⟩
theorem smX7_isSubset : Cond.static yX7_isSubset ∈ wsL_law := in_r33 _ (List.mem_of_getElem? (i := 11) rfl)
theorem miX7_allOf : MI yX7_allOf cX7_allOf 1 (some .int) 1 := ⟨in_r33 _ (List.mem_of_getElem? (i := 15) rfl), in_r1 _ (List.mem_of_getElem? (i := 2) rfl), by decide +kernel⟩
theorem smX7_allOf : Cond.static yX7_allOf ∈ wsL_law := in_r33 _ (List.mem_of_getElem? (i := 14) rfl)
theorem miX0_plan : MI yX0_plan cX0_plan 4 (some .boolean) 2 := ⟨in_r33 _ (List.mem_of_getElem? (i := 19) rfl), in_r2 _ (List.mem_of_getElem? (i := 7) rfl), by decide +kernel⟩
theorem imX0_plan : Cond.instanceMethod yX0_plan ∈ wsL_law := in_r33 _ (List.mem_of_getElem? (i := 17) rfl)
theorem seX0_plan : Cond.selects yX0_plan.cls yX0_plan yX0_plan ∈ wsL_law := in_r33 _ (List.mem_of_getElem? (i := 18) rfl)
theorem miX0_giveFrom : MI yX0_giveFrom cX0_giveFrom 6 none 2 := ⟨in_r34 _ (List.mem_of_getElem? (i := 0) rfl), in_r2 _ (List.mem_of_getElem? (i := 7) rfl), by decide +kernel⟩
theorem imX0_giveFrom : Cond.instanceMethod yX0_giveFrom ∈ wsL_law := in_r33 _ (List.mem_of_getElem? (i := 22) rfl)
theorem seX0_giveFrom : Cond.selects yX0_giveFrom.cls yX0_giveFrom yX0_giveFrom ∈ wsL_law := in_r33 _ (List.mem_of_getElem? (i := 23) rfl)
theorem miX0_needyOnes : MI yX0_needyOnes cX0_needyOnes 3 (some .int) 0 := ⟨in_r34 _ (List.mem_of_getElem? (i := 6) rfl), in_r2 _ (List.mem_of_getElem? (i := 7) rfl), by decide +kernel⟩
theorem imX0_needyOnes : Cond.instanceMethod yX0_needyOnes ∈ wsL_law := in_r34 _ (List.mem_of_getElem? (i := 4) rfl)
theorem seX0_needyOnes : Cond.selects yX0_needyOnes.cls yX0_needyOnes yX0_needyOnes ∈ wsL_law := in_r34 _ (List.mem_of_getElem? (i := 5) rfl)
theorem miX0_takeAsBest : MI yX0_takeAsBest cX0_takeAsBest 4 none 2 := ⟨in_r34 _ (List.mem_of_getElem? (i := 10) rfl), in_r2 _ (List.mem_of_getElem? (i := 7) rfl), by decide +kernel⟩
theorem imX0_takeAsBest : Cond.instanceMethod yX0_takeAsBest ∈ wsL_law := in_r34 _ (List.mem_of_getElem? (i := 8) rfl)
theorem seX0_takeAsBest : Cond.selects yX0_takeAsBest.cls yX0_takeAsBest yX0_takeAsBest ∈ wsL_law := in_r34 _ (List.mem_of_getElem? (i := 9) rfl)
theorem miX0_costTo : MI yX0_costTo cX0_costTo 3 (some .int) 2 := ⟨in_r34 _ (List.mem_of_getElem? (i := 16) rfl), in_r2 _ (List.mem_of_getElem? (i := 7) rfl), by decide +kernel⟩
theorem imX0_costTo : Cond.instanceMethod yX0_costTo ∈ wsL_law := in_r34 _ (List.mem_of_getElem? (i := 14) rfl)
theorem seX0_costTo : Cond.selects yX0_costTo.cls yX0_costTo yX0_costTo ∈ wsL_law := in_r34 _ (List.mem_of_getElem? (i := 15) rfl)
theorem miX8_funeral : MI yX8_funeral cX8_funeral 9 (some .int) 3 := ⟨in_r34 _ (List.mem_of_getElem? (i := 23) rfl), in_r1 _ (List.mem_of_getElem? (i := 5) rfl), by decide +kernel⟩
theorem imX8_funeral : Cond.instanceMethod yX8_funeral ∈ wsL_law := in_r34 _ (List.mem_of_getElem? (i := 21) rfl)
theorem seX8_funeral : Cond.selects yX8_funeral.cls yX8_funeral yX8_funeral ∈ wsL_law := in_r34 _ (List.mem_of_getElem? (i := 22) rfl)
theorem miX8_funeralCost : MI yX8_funeralCost cX8_funeralCost 9 (some .int) 3 := ⟨in_r35 _ (List.mem_of_getElem? (i := 5) rfl), in_r1 _ (List.mem_of_getElem? (i := 5) rfl), by decide +kernel⟩
theorem imX8_funeralCost : Cond.instanceMethod yX8_funeralCost ∈ wsL_law := in_r35 _ (List.mem_of_getElem? (i := 3) rfl)
theorem seX8_funeralCost : Cond.selects yX8_funeralCost.cls yX8_funeralCost yX8_funeralCost ∈ wsL_law := in_r35 _ (List.mem_of_getElem? (i := 4) rfl)
theorem miX7_raid : MI yX7_raid cX7_raid 6 (some .int) 1 := ⟨in_r35 _ (List.mem_of_getElem? (i := 9) rfl), in_r1 _ (List.mem_of_getElem? (i := 2) rfl), by decide +kernel⟩
theorem imX7_raid : Cond.instanceMethod yX7_raid ∈ wsL_law := in_r35 _ (List.mem_of_getElem? (i := 7) rfl)
theorem seX7_raid : Cond.selects yX7_raid.cls yX7_raid yX7_raid ∈ wsL_law := in_r35 _ (List.mem_of_getElem? (i := 8) rfl)
theorem miX6_raidedIn : MI yX6_raidedIn cX6_raidedIn 5 (some .int) 1 := ⟨in_r35 _ (List.mem_of_getElem? (i := 13) rfl), in_r1 _ (List.mem_of_getElem? (i := 23) rfl), by decide +kernel⟩
theorem imX6_raidedIn : Cond.instanceMethod yX6_raidedIn ∈ wsL_law := in_r35 _ (List.mem_of_getElem? (i := 11) rfl)
theorem seX6_raidedIn : Cond.selects yX6_raidedIn.cls yX6_raidedIn yX6_raidedIn ∈ wsL_law := in_r35 _ (List.mem_of_getElem? (i := 12) rfl)
theorem miX6_greatestUnspent : MI yX6_greatestUnspent cX6_greatestUnspent 4 (some .int) 1 := ⟨in_r35 _ (List.mem_of_getElem? (i := 17) rfl), in_r1 _ (List.mem_of_getElem? (i := 23) rfl), by decide +kernel⟩
theorem imX6_greatestUnspent : Cond.instanceMethod yX6_greatestUnspent ∈ wsL_law := in_r35 _ (List.mem_of_getElem? (i := 15) rfl)
theorem seX6_greatestUnspent : Cond.selects yX6_greatestUnspent.cls yX6_greatestUnspent yX6_greatestUnspent ∈ wsL_law := in_r35 _ (List.mem_of_getElem? (i := 16) rfl)
theorem miX8_raid : MI yX8_raid cX8_raid 6 (some .int) 1 := ⟨in_r35 _ (List.mem_of_getElem? (i := 21) rfl), in_r1 _ (List.mem_of_getElem? (i := 5) rfl), by decide +kernel⟩
theorem imX8_raid : Cond.instanceMethod yX8_raid ∈ wsL_law := in_r35 _ (List.mem_of_getElem? (i := 19) rfl)
theorem seX8_raid : Cond.selects yX8_raid.cls yX8_raid yX8_raid ∈ wsL_law := in_r35 _ (List.mem_of_getElem? (i := 20) rfl)
theorem miX8_raided : MI yX8_raided cX8_raided 6 (some .int) 1 := ⟨in_r36 _ (List.mem_of_getElem? (i := 2) rfl), in_r1 _ (List.mem_of_getElem? (i := 5) rfl), by decide +kernel⟩
theorem imX8_raided : Cond.instanceMethod yX8_raided ∈ wsL_law := in_r36 _ (List.mem_of_getElem? (i := 0) rfl)
theorem seX8_raided : Cond.selects yX8_raided.cls yX8_raided yX8_raided ∈ wsL_law := in_r36 _ (List.mem_of_getElem? (i := 1) rfl)
theorem miX7_settle : MI yX7_settle cX7_settle 6 (some .int) 2 := ⟨in_r36 _ (List.mem_of_getElem? (i := 6) rfl), in_r1 _ (List.mem_of_getElem? (i := 2) rfl), by decide +kernel⟩
theorem imX7_settle : Cond.instanceMethod yX7_settle ∈ wsL_law := in_r36 _ (List.mem_of_getElem? (i := 4) rfl)
theorem seX7_settle : Cond.selects yX7_settle.cls yX7_settle yX7_settle ∈ wsL_law := in_r36 _ (List.mem_of_getElem? (i := 5) rfl)
theorem miX6_priceAfter : MI yX6_priceAfter cX6_priceAfter 5 (some .int) 1 := ⟨in_r36 _ (List.mem_of_getElem? (i := 10) rfl), in_r1 _ (List.mem_of_getElem? (i := 23) rfl), by decide +kernel⟩
theorem imX6_priceAfter : Cond.instanceMethod yX6_priceAfter ∈ wsL_law := in_r36 _ (List.mem_of_getElem? (i := 8) rfl)
theorem seX6_priceAfter : Cond.selects yX6_priceAfter.cls yX6_priceAfter yX6_priceAfter ∈ wsL_law := in_r36 _ (List.mem_of_getElem? (i := 9) rfl)
theorem miX6_unspentWorths : MI yX6_unspentWorths cX6_unspentWorths 3 (some .int) 0 := ⟨in_r36 _ (List.mem_of_getElem? (i := 17) rfl), in_r1 _ (List.mem_of_getElem? (i := 23) rfl), by decide +kernel⟩
theorem imX6_unspentWorths : Cond.instanceMethod yX6_unspentWorths ∈ wsL_law := in_r36 _ (List.mem_of_getElem? (i := 15) rfl)
theorem seX6_unspentWorths : Cond.selects yX6_unspentWorths.cls yX6_unspentWorths yX6_unspentWorths ∈ wsL_law := in_r36 _ (List.mem_of_getElem? (i := 16) rfl)
theorem miX8_settle : MI yX8_settle cX8_settle 5 (some .int) 2 := ⟨in_r36 _ (List.mem_of_getElem? (i := 21) rfl), in_r1 _ (List.mem_of_getElem? (i := 5) rfl), by decide +kernel⟩
theorem imX8_settle : Cond.instanceMethod yX8_settle ∈ wsL_law := in_r36 _ (List.mem_of_getElem? (i := 19) rfl)
theorem seX8_settle : Cond.selects yX8_settle.cls yX8_settle yX8_settle ∈ wsL_law := in_r36 _ (List.mem_of_getElem? (i := 20) rfl)
theorem miX8_pricedThen : MI yX8_pricedThen cX8_pricedThen 5 (some .int) 1 := ⟨in_r37 _ (List.mem_of_getElem? (i := 2) rfl), in_r1 _ (List.mem_of_getElem? (i := 5) rfl), by decide +kernel⟩
theorem imX8_pricedThen : Cond.instanceMethod yX8_pricedThen ∈ wsL_law := in_r37 _ (List.mem_of_getElem? (i := 0) rfl)
theorem seX8_pricedThen : Cond.selects yX8_pricedThen.cls yX8_pricedThen yX8_pricedThen ∈ wsL_law := in_r37 _ (List.mem_of_getElem? (i := 1) rfl)
theorem miX8_unspent : MI yX8_unspent cX8_unspent 3 (some .int) 0 := ⟨in_r37 _ (List.mem_of_getElem? (i := 6) rfl), in_r1 _ (List.mem_of_getElem? (i := 5) rfl), by decide +kernel⟩
theorem imX8_unspent : Cond.instanceMethod yX8_unspent ∈ wsL_law := in_r37 _ (List.mem_of_getElem? (i := 4) rfl)
theorem seX8_unspent : Cond.selects yX8_unspent.cls yX8_unspent yX8_unspent ∈ wsL_law := in_r37 _ (List.mem_of_getElem? (i := 5) rfl)
theorem miX7_test : MI yX7_test cX7_test 3 (some .int) 2 := ⟨in_r37 _ (List.mem_of_getElem? (i := 10) rfl), in_r1 _ (List.mem_of_getElem? (i := 2) rfl), by decide +kernel⟩
theorem imX7_test : Cond.instanceMethod yX7_test ∈ wsL_law := in_r37 _ (List.mem_of_getElem? (i := 8) rfl)
theorem seX7_test : Cond.selects yX7_test.cls yX7_test yX7_test ∈ wsL_law := in_r37 _ (List.mem_of_getElem? (i := 9) rfl)
theorem miX1_note : MI yX1_note cX1_note 3 (some .int) 2 := ⟨in_r37 _ (List.mem_of_getElem? (i := 14) rfl), in_r2 _ (List.mem_of_getElem? (i := 11) rfl), by decide +kernel⟩
theorem imX1_note : Cond.instanceMethod yX1_note ∈ wsL_law := in_r37 _ (List.mem_of_getElem? (i := 12) rfl)
theorem seX1_note : Cond.selects yX1_note.cls yX1_note yX1_note ∈ wsL_law := in_r37 _ (List.mem_of_getElem? (i := 13) rfl)
theorem miX8_test : MI yX8_test cX8_test 3 (some .int) 2 := ⟨in_r37 _ (List.mem_of_getElem? (i := 19) rfl), in_r1 _ (List.mem_of_getElem? (i := 5) rfl), by decide +kernel⟩
theorem imX8_test : Cond.instanceMethod yX8_test ∈ wsL_law := in_r37 _ (List.mem_of_getElem? (i := 17) rfl)
theorem seX8_test : Cond.selects yX8_test.cls yX8_test yX8_test ∈ wsL_law := in_r37 _ (List.mem_of_getElem? (i := 18) rfl)
theorem miX7_untest : MI yX7_untest cX7_untest 3 (some .int) 1 := ⟨in_r37 _ (List.mem_of_getElem? (i := 23) rfl), in_r1 _ (List.mem_of_getElem? (i := 2) rfl), by decide +kernel⟩
theorem imX7_untest : Cond.instanceMethod yX7_untest ∈ wsL_law := in_r37 _ (List.mem_of_getElem? (i := 21) rfl)
theorem seX7_untest : Cond.selects yX7_untest.cls yX7_untest yX7_untest ∈ wsL_law := in_r37 _ (List.mem_of_getElem? (i := 22) rfl)
theorem miX8_untest : MI yX8_untest cX8_untest 3 (some .int) 1 := ⟨in_r38 _ (List.mem_of_getElem? (i := 3) rfl), in_r1 _ (List.mem_of_getElem? (i := 5) rfl), by decide +kernel⟩
theorem imX8_untest : Cond.instanceMethod yX8_untest ∈ wsL_law := in_r38 _ (List.mem_of_getElem? (i := 1) rfl)
theorem seX8_untest : Cond.selects yX8_untest.cls yX8_untest yX8_untest ∈ wsL_law := in_r38 _ (List.mem_of_getElem? (i := 2) rfl)
theorem miX7_fakes : MI yX7_fakes cX7_fakes 3 (some .int) 2 := ⟨in_r38 _ (List.mem_of_getElem? (i := 7) rfl), in_r1 _ (List.mem_of_getElem? (i := 2) rfl), by decide +kernel⟩
theorem imX7_fakes : Cond.instanceMethod yX7_fakes ∈ wsL_law := in_r38 _ (List.mem_of_getElem? (i := 5) rfl)
theorem seX7_fakes : Cond.selects yX7_fakes.cls yX7_fakes yX7_fakes ∈ wsL_law := in_r38 _ (List.mem_of_getElem? (i := 6) rfl)
theorem miX1_findSets : MI yX1_findSets cX1_findSets 4 none 2 := ⟨in_r38 _ (List.mem_of_getElem? (i := 13) rfl), in_r2 _ (List.mem_of_getElem? (i := 11) rfl), by decide +kernel⟩
theorem imX1_findSets : Cond.instanceMethod yX1_findSets ∈ wsL_law := in_r38 _ (List.mem_of_getElem? (i := 11) rfl)
theorem seX1_findSets : Cond.selects yX1_findSets.cls yX1_findSets yX1_findSets ∈ wsL_law := in_r38 _ (List.mem_of_getElem? (i := 12) rfl)
theorem miJ6_bitCount_0f7a4 : MI yJ6_bitCount_0f7a4 cJ6_bitCount_0f7a4 1 (some .int) 1 := ⟨in_r38 _ (List.mem_of_getElem? (i := 18) rfl), in_r38 _ (List.mem_of_getElem? (i := 17) rfl), by decide +kernel⟩
theorem smJ6_bitCount_0f7a4 : Cond.static yJ6_bitCount_0f7a4 ∈ wsL_law := in_r38 _ (List.mem_of_getElem? (i := 16) rfl)
theorem miX1_isAsTested : MI yX1_isAsTested cX1_isAsTested 3 (some .boolean) 1 := ⟨in_r39 _ (List.mem_of_getElem? (i := 1) rfl), in_r2 _ (List.mem_of_getElem? (i := 11) rfl), by decide +kernel⟩
theorem imX1_isAsTested : Cond.instanceMethod yX1_isAsTested ∈ wsL_law := in_r38 _ (List.mem_of_getElem? (i := 23) rfl)
theorem seX1_isAsTested : Cond.selects yX1_isAsTested.cls yX1_isAsTested yX1_isAsTested ∈ wsL_law := in_r39 _ (List.mem_of_getElem? (i := 0) rfl)
theorem miX1_inAll : MI yX1_inAll cX1_inAll 3 (some .int) 0 := ⟨in_r39 _ (List.mem_of_getElem? (i := 5) rfl), in_r2 _ (List.mem_of_getElem? (i := 11) rfl), by decide +kernel⟩
theorem imX1_inAll : Cond.instanceMethod yX1_inAll ∈ wsL_law := in_r39 _ (List.mem_of_getElem? (i := 3) rfl)
theorem seX1_inAll : Cond.selects yX1_inAll.cls yX1_inAll yX1_inAll ∈ wsL_law := in_r39 _ (List.mem_of_getElem? (i := 4) rfl)
theorem miX1_inAny : MI yX1_inAny cX1_inAny 3 (some .int) 0 := ⟨in_r39 _ (List.mem_of_getElem? (i := 9) rfl), in_r2 _ (List.mem_of_getElem? (i := 11) rfl), by decide +kernel⟩
theorem imX1_inAny : Cond.instanceMethod yX1_inAny ∈ wsL_law := in_r39 _ (List.mem_of_getElem? (i := 7) rfl)
theorem seX1_inAny : Cond.selects yX1_inAny.cls yX1_inAny yX1_inAny ∈ wsL_law := in_r39 _ (List.mem_of_getElem? (i := 8) rfl)
theorem miX8_fakes : MI yX8_fakes cX8_fakes 8 (some .int) 2 := ⟨in_r39 _ (List.mem_of_getElem? (i := 13) rfl), in_r1 _ (List.mem_of_getElem? (i := 5) rfl), by decide +kernel⟩
theorem imX8_fakes : Cond.instanceMethod yX8_fakes ∈ wsL_law := in_r39 _ (List.mem_of_getElem? (i := 11) rfl)
theorem seX8_fakes : Cond.selects yX8_fakes.cls yX8_fakes yX8_fakes ∈ wsL_law := in_r39 _ (List.mem_of_getElem? (i := 12) rfl)
theorem miX8_canBeFalse : MI yX8_canBeFalse cX8_canBeFalse 6 (some .boolean) 2 := ⟨in_r39 _ (List.mem_of_getElem? (i := 17) rfl), in_r1 _ (List.mem_of_getElem? (i := 5) rfl), by decide +kernel⟩
theorem imX8_canBeFalse : Cond.instanceMethod yX8_canBeFalse ∈ wsL_law := in_r39 _ (List.mem_of_getElem? (i := 15) rfl)
theorem seX8_canBeFalse : Cond.selects yX8_canBeFalse.cls yX8_canBeFalse yX8_canBeFalse ∈ wsL_law := in_r39 _ (List.mem_of_getElem? (i := 16) rfl)
theorem miX7_next : MI yX7_next cX7_next 7 (some .int) 2 := ⟨in_r39 _ (List.mem_of_getElem? (i := 21) rfl), in_r1 _ (List.mem_of_getElem? (i := 2) rfl), by decide +kernel⟩
theorem imX7_next : Cond.instanceMethod yX7_next ∈ wsL_law := in_r39 _ (List.mem_of_getElem? (i := 19) rfl)
theorem seX7_next : Cond.selects yX7_next.cls yX7_next yX7_next ∈ wsL_law := in_r39 _ (List.mem_of_getElem? (i := 20) rfl)
theorem miX1_leftAtWorst : MI yX1_leftAtWorst cX1_leftAtWorst 4 (some .int) 1 := ⟨in_r40 _ (List.mem_of_getElem? (i := 1) rfl), in_r2 _ (List.mem_of_getElem? (i := 11) rfl), by decide +kernel⟩
theorem imX1_leftAtWorst : Cond.instanceMethod yX1_leftAtWorst ∈ wsL_law := in_r39 _ (List.mem_of_getElem? (i := 23) rfl)
theorem seX1_leftAtWorst : Cond.selects yX1_leftAtWorst.cls yX1_leftAtWorst yX1_leftAtWorst ∈ wsL_law := in_r40 _ (List.mem_of_getElem? (i := 0) rfl)
theorem miX8_next : MI yX8_next cX8_next 9 (some .int) 2 := ⟨in_r40 _ (List.mem_of_getElem? (i := 6) rfl), in_r1 _ (List.mem_of_getElem? (i := 5) rfl), by decide +kernel⟩
theorem imX8_next : Cond.instanceMethod yX8_next ∈ wsL_law := in_r40 _ (List.mem_of_getElem? (i := 4) rfl)
theorem seX8_next : Cond.selects yX8_next.cls yX8_next yX8_next ∈ wsL_law := in_r40 _ (List.mem_of_getElem? (i := 5) rfl)
theorem miX7_chatter : MI yX7_chatter cX7_chatter 9 (some .int) 2 := ⟨in_r40 _ (List.mem_of_getElem? (i := 11) rfl), in_r1 _ (List.mem_of_getElem? (i := 2) rfl), by decide +kernel⟩
theorem imX7_chatter : Cond.instanceMethod yX7_chatter ∈ wsL_law := in_r40 _ (List.mem_of_getElem? (i := 9) rfl)
theorem seX7_chatter : Cond.selects yX7_chatter.cls yX7_chatter yX7_chatter ∈ wsL_law := in_r40 _ (List.mem_of_getElem? (i := 10) rfl)
theorem miX7_stepSeed : MI yX7_stepSeed cX7_stepSeed 1 (some .int) 1 := ⟨in_r40 _ (List.mem_of_getElem? (i := 14) rfl), in_r1 _ (List.mem_of_getElem? (i := 2) rfl), by decide +kernel⟩
theorem smX7_stepSeed : Cond.static yX7_stepSeed ∈ wsL_law := in_r40 _ (List.mem_of_getElem? (i := 13) rfl)
theorem miX7_drawn : MI yX7_drawn cX7_drawn 1 (some .int) 1 := ⟨in_r40 _ (List.mem_of_getElem? (i := 18) rfl), in_r1 _ (List.mem_of_getElem? (i := 2) rfl), by decide +kernel⟩
theorem smX7_drawn : Cond.static yX7_drawn ∈ wsL_law := in_r40 _ (List.mem_of_getElem? (i := 17) rfl)
theorem miX8_chatter : MI yX8_chatter cX8_chatter 8 (some .int) 2 := ⟨in_r40 _ (List.mem_of_getElem? (i := 22) rfl), in_r1 _ (List.mem_of_getElem? (i := 5) rfl), by decide +kernel⟩
theorem imX8_chatter : Cond.instanceMethod yX8_chatter ∈ wsL_law := in_r40 _ (List.mem_of_getElem? (i := 20) rfl)
theorem seX8_chatter : Cond.selects yX8_chatter.cls yX8_chatter yX8_chatter ∈ wsL_law := in_r40 _ (List.mem_of_getElem? (i := 21) rfl)
theorem miX8_draws : MI yX8_draws cX8_draws 2 (some .int) 1 := ⟨in_r41 _ (List.mem_of_getElem? (i := 4) rfl), in_r1 _ (List.mem_of_getElem? (i := 5) rfl), by decide +kernel⟩
theorem imX8_draws : Cond.instanceMethod yX8_draws ∈ wsL_law := in_r41 _ (List.mem_of_getElem? (i := 2) rfl)
theorem seX8_draws : Cond.selects yX8_draws.cls yX8_draws yX8_draws ∈ wsL_law := in_r41 _ (List.mem_of_getElem? (i := 3) rfl)
theorem miX7_keep : MI yX7_keep cX7_keep 3 (some .int) 1 := ⟨in_r41 _ (List.mem_of_getElem? (i := 9) rfl), in_r1 _ (List.mem_of_getElem? (i := 2) rfl), by decide +kernel⟩
theorem imX7_keep : Cond.instanceMethod yX7_keep ∈ wsL_law := in_r41 _ (List.mem_of_getElem? (i := 7) rfl)
theorem seX7_keep : Cond.selects yX7_keep.cls yX7_keep yX7_keep ∈ wsL_law := in_r41 _ (List.mem_of_getElem? (i := 8) rfl)
theorem miX8_keep : MI yX8_keep cX8_keep 3 (some .int) 1 := ⟨in_r41 _ (List.mem_of_getElem? (i := 13) rfl), in_r1 _ (List.mem_of_getElem? (i := 5) rfl), by decide +kernel⟩
theorem imX8_keep : Cond.instanceMethod yX8_keep ∈ wsL_law := in_r41 _ (List.mem_of_getElem? (i := 11) rfl)
theorem seX8_keep : Cond.selects yX8_keep.cls yX8_keep yX8_keep ∈ wsL_law := in_r41 _ (List.mem_of_getElem? (i := 12) rfl)
theorem miX8_copies : MI yX8_copies cX8_copies 4 none 2 := ⟨in_r41 _ (List.mem_of_getElem? (i := 17) rfl), in_r1 _ (List.mem_of_getElem? (i := 5) rfl), by decide +kernel⟩
theorem imX8_copies : Cond.instanceMethod yX8_copies ∈ wsL_law := in_r41 _ (List.mem_of_getElem? (i := 15) rfl)
theorem seX8_copies : Cond.selects yX8_copies.cls yX8_copies yX8_copies ∈ wsL_law := in_r41 _ (List.mem_of_getElem? (i := 16) rfl)
theorem miX7_back : MI yX7_back cX7_back 2 (some .int) 1 := ⟨in_r41 _ (List.mem_of_getElem? (i := 21) rfl), in_r1 _ (List.mem_of_getElem? (i := 2) rfl), by decide +kernel⟩
theorem imX7_back : Cond.instanceMethod yX7_back ∈ wsL_law := in_r41 _ (List.mem_of_getElem? (i := 19) rfl)
theorem seX7_back : Cond.selects yX7_back.cls yX7_back yX7_back ∈ wsL_law := in_r41 _ (List.mem_of_getElem? (i := 20) rfl)
theorem miX8_back : MI yX8_back cX8_back 2 (some .int) 1 := ⟨in_r42 _ (List.mem_of_getElem? (i := 1) rfl), in_r1 _ (List.mem_of_getElem? (i := 5) rfl), by decide +kernel⟩
theorem imX8_back : Cond.instanceMethod yX8_back ∈ wsL_law := in_r41 _ (List.mem_of_getElem? (i := 23) rfl)
theorem seX8_back : Cond.selects yX8_back.cls yX8_back yX8_back ∈ wsL_law := in_r42 _ (List.mem_of_getElem? (i := 0) rfl)
theorem miX7_sheet : MI yX7_sheet cX7_sheet 4 (some .int) 3 := ⟨in_r42 _ (List.mem_of_getElem? (i := 5) rfl), in_r1 _ (List.mem_of_getElem? (i := 2) rfl), by decide +kernel⟩
theorem imX7_sheet : Cond.instanceMethod yX7_sheet ∈ wsL_law := in_r42 _ (List.mem_of_getElem? (i := 3) rfl)
theorem seX7_sheet : Cond.selects yX7_sheet.cls yX7_sheet yX7_sheet ∈ wsL_law := in_r42 _ (List.mem_of_getElem? (i := 4) rfl)
theorem miX7_isSheet : MI yX7_isSheet cX7_isSheet 1 (some .boolean) 1 := ⟨in_r42 _ (List.mem_of_getElem? (i := 8) rfl), in_r1 _ (List.mem_of_getElem? (i := 2) rfl), by decide +kernel⟩
theorem smX7_isSheet : Cond.static yX7_isSheet ∈ wsL_law := in_r42 _ (List.mem_of_getElem? (i := 7) rfl)
theorem miX7_isLane : MI yX7_isLane cX7_isLane 1 (some .boolean) 1 := ⟨in_r42 _ (List.mem_of_getElem? (i := 11) rfl), in_r1 _ (List.mem_of_getElem? (i := 2) rfl), by decide +kernel⟩
theorem smX7_isLane : Cond.static yX7_isLane ∈ wsL_law := in_r42 _ (List.mem_of_getElem? (i := 10) rfl)
theorem miX3_renew : MI yX3_renew cX3_renew 4 none 2 := ⟨in_r42 _ (List.mem_of_getElem? (i := 15) rfl), in_r2 _ (List.mem_of_getElem? (i := 19) rfl), by decide +kernel⟩
theorem imX3_renew : Cond.instanceMethod yX3_renew ∈ wsL_law := in_r42 _ (List.mem_of_getElem? (i := 13) rfl)
theorem seX3_renew : Cond.selects yX3_renew.cls yX3_renew yX3_renew ∈ wsL_law := in_r42 _ (List.mem_of_getElem? (i := 14) rfl)
theorem miX8_sheet : MI yX8_sheet cX8_sheet 5 (some .int) 3 := ⟨in_r42 _ (List.mem_of_getElem? (i := 20) rfl), in_r1 _ (List.mem_of_getElem? (i := 5) rfl), by decide +kernel⟩
theorem imX8_sheet : Cond.instanceMethod yX8_sheet ∈ wsL_law := in_r42 _ (List.mem_of_getElem? (i := 18) rfl)
theorem seX8_sheet : Cond.selects yX8_sheet.cls yX8_sheet yX8_sheet ∈ wsL_law := in_r42 _ (List.mem_of_getElem? (i := 19) rfl)
theorem miX7_lay : MI yX7_lay cX7_lay 5 (some .int) 3 := ⟨in_r43 _ (List.mem_of_getElem? (i := 0) rfl), in_r1 _ (List.mem_of_getElem? (i := 2) rfl), by decide +kernel⟩
theorem imX7_lay : Cond.instanceMethod yX7_lay ∈ wsL_law := in_r42 _ (List.mem_of_getElem? (i := 22) rfl)
theorem seX7_lay : Cond.selects yX7_lay.cls yX7_lay yX7_lay ∈ wsL_law := in_r42 _ (List.mem_of_getElem? (i := 23) rfl)
theorem miX3_isNothing : MI yX3_isNothing cX3_isNothing 1 (some .boolean) 0 := ⟨in_r43 _ (List.mem_of_getElem? (i := 5) rfl), in_r2 _ (List.mem_of_getElem? (i := 19) rfl), by decide +kernel⟩
theorem imX3_isNothing : Cond.instanceMethod yX3_isNothing ∈ wsL_law := in_r43 _ (List.mem_of_getElem? (i := 3) rfl)
theorem seX3_isNothing : Cond.selects yX3_isNothing.cls yX3_isNothing yX3_isNothing ∈ wsL_law := in_r43 _ (List.mem_of_getElem? (i := 4) rfl)
theorem miX3_put : MI yX3_put cX3_put 3 none 2 := ⟨in_r43 _ (List.mem_of_getElem? (i := 9) rfl), in_r2 _ (List.mem_of_getElem? (i := 19) rfl), by decide +kernel⟩
theorem imX3_put : Cond.instanceMethod yX3_put ∈ wsL_law := in_r43 _ (List.mem_of_getElem? (i := 7) rfl)
theorem seX3_put : Cond.selects yX3_put.cls yX3_put yX3_put ∈ wsL_law := in_r43 _ (List.mem_of_getElem? (i := 8) rfl)
theorem miX8_lay : MI yX8_lay cX8_lay 4 (some .int) 3 := ⟨in_r43 _ (List.mem_of_getElem? (i := 13) rfl), in_r1 _ (List.mem_of_getElem? (i := 5) rfl), by decide +kernel⟩
theorem imX8_lay : Cond.instanceMethod yX8_lay ∈ wsL_law := in_r43 _ (List.mem_of_getElem? (i := 11) rfl)
theorem seX8_lay : Cond.selects yX8_lay.cls yX8_lay yX8_lay ∈ wsL_law := in_r43 _ (List.mem_of_getElem? (i := 12) rfl)
theorem miX7_read : MI yX7_read cX7_read 10 (some .int) 4 := ⟨in_r43 _ (List.mem_of_getElem? (i := 17) rfl), in_r1 _ (List.mem_of_getElem? (i := 2) rfl), by decide +kernel⟩
theorem imX7_read : Cond.instanceMethod yX7_read ∈ wsL_law := in_r43 _ (List.mem_of_getElem? (i := 15) rfl)
theorem seX7_read : Cond.selects yX7_read.cls yX7_read yX7_read ∈ wsL_law := in_r43 _ (List.mem_of_getElem? (i := 16) rfl)
theorem miX3_faultInThree : MI yX3_faultInThree cX3_faultInThree 3 (some .int) 2 := ⟨in_r43 _ (List.mem_of_getElem? (i := 23) rfl), in_r2 _ (List.mem_of_getElem? (i := 19) rfl), by decide +kernel⟩
theorem imX3_faultInThree : Cond.instanceMethod yX3_faultInThree ∈ wsL_law := in_r43 _ (List.mem_of_getElem? (i := 21) rfl)
theorem seX3_faultInThree : Cond.selects yX3_faultInThree.cls yX3_faultInThree yX3_faultInThree ∈ wsL_law := in_r43 _ (List.mem_of_getElem? (i := 22) rfl)
theorem miX8_read : MI yX8_read cX8_read 9 (some .int) 4 := ⟨in_r44 _ (List.mem_of_getElem? (i := 4) rfl), in_r1 _ (List.mem_of_getElem? (i := 5) rfl), by decide +kernel⟩
theorem imX8_read : Cond.instanceMethod yX8_read ∈ wsL_law := in_r44 _ (List.mem_of_getElem? (i := 2) rfl)
theorem seX8_read : Cond.selects yX8_read.cls yX8_read yX8_read ∈ wsL_law := in_r44 _ (List.mem_of_getElem? (i := 3) rfl)
theorem miX7_torn : MI yX7_torn cX7_torn 1 (some .int) 0 := ⟨in_r44 _ (List.mem_of_getElem? (i := 10) rfl), in_r1 _ (List.mem_of_getElem? (i := 2) rfl), by decide +kernel⟩
theorem imX7_torn : Cond.instanceMethod yX7_torn ∈ wsL_law := in_r44 _ (List.mem_of_getElem? (i := 8) rfl)
theorem seX7_torn : Cond.selects yX7_torn.cls yX7_torn yX7_torn ∈ wsL_law := in_r44 _ (List.mem_of_getElem? (i := 9) rfl)
theorem miX8_torn : MI yX8_torn cX8_torn 1 (some .int) 0 := ⟨in_r44 _ (List.mem_of_getElem? (i := 14) rfl), in_r1 _ (List.mem_of_getElem? (i := 5) rfl), by decide +kernel⟩
theorem imX8_torn : Cond.instanceMethod yX8_torn ∈ wsL_law := in_r44 _ (List.mem_of_getElem? (i := 12) rfl)
theorem seX8_torn : Cond.selects yX8_torn.cls yX8_torn yX8_torn ∈ wsL_law := in_r44 _ (List.mem_of_getElem? (i := 13) rfl)
theorem miX7_count : MI yX7_count cX7_count 2 (some .int) 1 := ⟨in_r44 _ (List.mem_of_getElem? (i := 18) rfl), in_r1 _ (List.mem_of_getElem? (i := 2) rfl), by decide +kernel⟩
theorem imX7_count : Cond.instanceMethod yX7_count ∈ wsL_law := in_r44 _ (List.mem_of_getElem? (i := 16) rfl)
theorem seX7_count : Cond.selects yX7_count.cls yX7_count yX7_count ∈ wsL_law := in_r44 _ (List.mem_of_getElem? (i := 17) rfl)
theorem miX6_spentCoins : MI yX6_spentCoins cX6_spentCoins 3 (some .int) 0 := ⟨in_r44 _ (List.mem_of_getElem? (i := 22) rfl), in_r1 _ (List.mem_of_getElem? (i := 23) rfl), by decide +kernel⟩
theorem imX6_spentCoins : Cond.instanceMethod yX6_spentCoins ∈ wsL_law := in_r44 _ (List.mem_of_getElem? (i := 20) rfl)
theorem seX6_spentCoins : Cond.selects yX6_spentCoins.cls yX6_spentCoins yX6_spentCoins ∈ wsL_law := in_r44 _ (List.mem_of_getElem? (i := 21) rfl)
theorem miX8_count : MI yX8_count cX8_count 4 (some .int) 1 := ⟨in_r45 _ (List.mem_of_getElem? (i := 3) rfl), in_r1 _ (List.mem_of_getElem? (i := 5) rfl), by decide +kernel⟩
theorem imX8_count : Cond.instanceMethod yX8_count ∈ wsL_law := in_r45 _ (List.mem_of_getElem? (i := 1) rfl)
theorem seX8_count : Cond.selects yX8_count.cls yX8_count yX8_count ∈ wsL_law := in_r45 _ (List.mem_of_getElem? (i := 2) rfl)
