/-! Counts against written numbers (made by gen80.py). -/
theorem nle_0 {i : Nat} (h : i < 2147483648) : ((0 : Int32) ≤ pI i) ↔ 0 ≤ i := pI_le (by decide) h
theorem nle'_0 {i : Nat} (h : i < 2147483648) : (pI i ≤ (0 : Int32)) ↔ i ≤ 0 := pI_le h (by decide)
theorem nlt_0 {i : Nat} (h : i < 2147483648) : ((0 : Int32) < pI i) ↔ 0 < i := pI_lt (by decide) h
theorem nlt'_0 {i : Nat} (h : i < 2147483648) : (pI i < (0 : Int32)) ↔ i < 0 := pI_lt h (by decide)
theorem neq_0 {i : Nat} (h : i < 2147483648) : (pI i = (0 : Int32)) ↔ i = 0 := pI_eq h (by decide)
theorem nadd_0 (i : Nat) : pI i + (0 : Int32) = pI (i + 0) := pI_add i 0
theorem nmul_0 (i : Nat) : (0 : Int32) * pI i = pI (0 * i) := pI_mul 0 i
theorem nle_1 {i : Nat} (h : i < 2147483648) : ((1 : Int32) ≤ pI i) ↔ 1 ≤ i := pI_le (by decide) h
theorem nle'_1 {i : Nat} (h : i < 2147483648) : (pI i ≤ (1 : Int32)) ↔ i ≤ 1 := pI_le h (by decide)
theorem nlt_1 {i : Nat} (h : i < 2147483648) : ((1 : Int32) < pI i) ↔ 1 < i := pI_lt (by decide) h
theorem nlt'_1 {i : Nat} (h : i < 2147483648) : (pI i < (1 : Int32)) ↔ i < 1 := pI_lt h (by decide)
theorem neq_1 {i : Nat} (h : i < 2147483648) : (pI i = (1 : Int32)) ↔ i = 1 := pI_eq h (by decide)
theorem nadd_1 (i : Nat) : pI i + (1 : Int32) = pI (i + 1) := pI_add i 1
theorem nmul_1 (i : Nat) : (1 : Int32) * pI i = pI (1 * i) := pI_mul 1 i
theorem nle_2 {i : Nat} (h : i < 2147483648) : ((2 : Int32) ≤ pI i) ↔ 2 ≤ i := pI_le (by decide) h
theorem nle'_2 {i : Nat} (h : i < 2147483648) : (pI i ≤ (2 : Int32)) ↔ i ≤ 2 := pI_le h (by decide)
theorem nlt_2 {i : Nat} (h : i < 2147483648) : ((2 : Int32) < pI i) ↔ 2 < i := pI_lt (by decide) h
theorem nlt'_2 {i : Nat} (h : i < 2147483648) : (pI i < (2 : Int32)) ↔ i < 2 := pI_lt h (by decide)
theorem neq_2 {i : Nat} (h : i < 2147483648) : (pI i = (2 : Int32)) ↔ i = 2 := pI_eq h (by decide)
theorem nadd_2 (i : Nat) : pI i + (2 : Int32) = pI (i + 2) := pI_add i 2
theorem nmul_2 (i : Nat) : (2 : Int32) * pI i = pI (2 * i) := pI_mul 2 i
theorem nle_3 {i : Nat} (h : i < 2147483648) : ((3 : Int32) ≤ pI i) ↔ 3 ≤ i := pI_le (by decide) h
theorem nle'_3 {i : Nat} (h : i < 2147483648) : (pI i ≤ (3 : Int32)) ↔ i ≤ 3 := pI_le h (by decide)
theorem nlt_3 {i : Nat} (h : i < 2147483648) : ((3 : Int32) < pI i) ↔ 3 < i := pI_lt (by decide) h
theorem nlt'_3 {i : Nat} (h : i < 2147483648) : (pI i < (3 : Int32)) ↔ i < 3 := pI_lt h (by decide)
theorem neq_3 {i : Nat} (h : i < 2147483648) : (pI i = (3 : Int32)) ↔ i = 3 := pI_eq h (by decide)
theorem nadd_3 (i : Nat) : pI i + (3 : Int32) = pI (i + 3) := pI_add i 3
theorem nmul_3 (i : Nat) : (3 : Int32) * pI i = pI (3 * i) := pI_mul 3 i
theorem nle_4 {i : Nat} (h : i < 2147483648) : ((4 : Int32) ≤ pI i) ↔ 4 ≤ i := pI_le (by decide) h
theorem nle'_4 {i : Nat} (h : i < 2147483648) : (pI i ≤ (4 : Int32)) ↔ i ≤ 4 := pI_le h (by decide)
theorem nlt_4 {i : Nat} (h : i < 2147483648) : ((4 : Int32) < pI i) ↔ 4 < i := pI_lt (by decide) h
theorem nlt'_4 {i : Nat} (h : i < 2147483648) : (pI i < (4 : Int32)) ↔ i < 4 := pI_lt h (by decide)
theorem neq_4 {i : Nat} (h : i < 2147483648) : (pI i = (4 : Int32)) ↔ i = 4 := pI_eq h (by decide)
theorem nadd_4 (i : Nat) : pI i + (4 : Int32) = pI (i + 4) := pI_add i 4
theorem nmul_4 (i : Nat) : (4 : Int32) * pI i = pI (4 * i) := pI_mul 4 i
theorem nle_5 {i : Nat} (h : i < 2147483648) : ((5 : Int32) ≤ pI i) ↔ 5 ≤ i := pI_le (by decide) h
theorem nle'_5 {i : Nat} (h : i < 2147483648) : (pI i ≤ (5 : Int32)) ↔ i ≤ 5 := pI_le h (by decide)
theorem nlt_5 {i : Nat} (h : i < 2147483648) : ((5 : Int32) < pI i) ↔ 5 < i := pI_lt (by decide) h
theorem nlt'_5 {i : Nat} (h : i < 2147483648) : (pI i < (5 : Int32)) ↔ i < 5 := pI_lt h (by decide)
theorem neq_5 {i : Nat} (h : i < 2147483648) : (pI i = (5 : Int32)) ↔ i = 5 := pI_eq h (by decide)
theorem nadd_5 (i : Nat) : pI i + (5 : Int32) = pI (i + 5) := pI_add i 5
theorem nmul_5 (i : Nat) : (5 : Int32) * pI i = pI (5 * i) := pI_mul 5 i
theorem nle_7 {i : Nat} (h : i < 2147483648) : ((7 : Int32) ≤ pI i) ↔ 7 ≤ i := pI_le (by decide) h
theorem nle'_7 {i : Nat} (h : i < 2147483648) : (pI i ≤ (7 : Int32)) ↔ i ≤ 7 := pI_le h (by decide)
theorem nlt_7 {i : Nat} (h : i < 2147483648) : ((7 : Int32) < pI i) ↔ 7 < i := pI_lt (by decide) h
theorem nlt'_7 {i : Nat} (h : i < 2147483648) : (pI i < (7 : Int32)) ↔ i < 7 := pI_lt h (by decide)
theorem neq_7 {i : Nat} (h : i < 2147483648) : (pI i = (7 : Int32)) ↔ i = 7 := pI_eq h (by decide)
theorem nadd_7 (i : Nat) : pI i + (7 : Int32) = pI (i + 7) := pI_add i 7
theorem nmul_7 (i : Nat) : (7 : Int32) * pI i = pI (7 * i) := pI_mul 7 i
theorem nle_8 {i : Nat} (h : i < 2147483648) : ((8 : Int32) ≤ pI i) ↔ 8 ≤ i := pI_le (by decide) h
theorem nle'_8 {i : Nat} (h : i < 2147483648) : (pI i ≤ (8 : Int32)) ↔ i ≤ 8 := pI_le h (by decide)
theorem nlt_8 {i : Nat} (h : i < 2147483648) : ((8 : Int32) < pI i) ↔ 8 < i := pI_lt (by decide) h
theorem nlt'_8 {i : Nat} (h : i < 2147483648) : (pI i < (8 : Int32)) ↔ i < 8 := pI_lt h (by decide)
theorem neq_8 {i : Nat} (h : i < 2147483648) : (pI i = (8 : Int32)) ↔ i = 8 := pI_eq h (by decide)
theorem nadd_8 (i : Nat) : pI i + (8 : Int32) = pI (i + 8) := pI_add i 8
theorem nmul_8 (i : Nat) : (8 : Int32) * pI i = pI (8 * i) := pI_mul 8 i
theorem nle_10 {i : Nat} (h : i < 2147483648) : ((10 : Int32) ≤ pI i) ↔ 10 ≤ i := pI_le (by decide) h
theorem nle'_10 {i : Nat} (h : i < 2147483648) : (pI i ≤ (10 : Int32)) ↔ i ≤ 10 := pI_le h (by decide)
theorem nlt_10 {i : Nat} (h : i < 2147483648) : ((10 : Int32) < pI i) ↔ 10 < i := pI_lt (by decide) h
theorem nlt'_10 {i : Nat} (h : i < 2147483648) : (pI i < (10 : Int32)) ↔ i < 10 := pI_lt h (by decide)
theorem neq_10 {i : Nat} (h : i < 2147483648) : (pI i = (10 : Int32)) ↔ i = 10 := pI_eq h (by decide)
theorem nadd_10 (i : Nat) : pI i + (10 : Int32) = pI (i + 10) := pI_add i 10
theorem nmul_10 (i : Nat) : (10 : Int32) * pI i = pI (10 * i) := pI_mul 10 i
theorem nle_11 {i : Nat} (h : i < 2147483648) : ((11 : Int32) ≤ pI i) ↔ 11 ≤ i := pI_le (by decide) h
theorem nle'_11 {i : Nat} (h : i < 2147483648) : (pI i ≤ (11 : Int32)) ↔ i ≤ 11 := pI_le h (by decide)
theorem nlt_11 {i : Nat} (h : i < 2147483648) : ((11 : Int32) < pI i) ↔ 11 < i := pI_lt (by decide) h
theorem nlt'_11 {i : Nat} (h : i < 2147483648) : (pI i < (11 : Int32)) ↔ i < 11 := pI_lt h (by decide)
theorem neq_11 {i : Nat} (h : i < 2147483648) : (pI i = (11 : Int32)) ↔ i = 11 := pI_eq h (by decide)
theorem nadd_11 (i : Nat) : pI i + (11 : Int32) = pI (i + 11) := pI_add i 11
theorem nmul_11 (i : Nat) : (11 : Int32) * pI i = pI (11 * i) := pI_mul 11 i
theorem nle_13 {i : Nat} (h : i < 2147483648) : ((13 : Int32) ≤ pI i) ↔ 13 ≤ i := pI_le (by decide) h
theorem nle'_13 {i : Nat} (h : i < 2147483648) : (pI i ≤ (13 : Int32)) ↔ i ≤ 13 := pI_le h (by decide)
theorem nlt_13 {i : Nat} (h : i < 2147483648) : ((13 : Int32) < pI i) ↔ 13 < i := pI_lt (by decide) h
theorem nlt'_13 {i : Nat} (h : i < 2147483648) : (pI i < (13 : Int32)) ↔ i < 13 := pI_lt h (by decide)
theorem neq_13 {i : Nat} (h : i < 2147483648) : (pI i = (13 : Int32)) ↔ i = 13 := pI_eq h (by decide)
theorem nadd_13 (i : Nat) : pI i + (13 : Int32) = pI (i + 13) := pI_add i 13
theorem nmul_13 (i : Nat) : (13 : Int32) * pI i = pI (13 * i) := pI_mul 13 i
theorem nle_15 {i : Nat} (h : i < 2147483648) : ((15 : Int32) ≤ pI i) ↔ 15 ≤ i := pI_le (by decide) h
theorem nle'_15 {i : Nat} (h : i < 2147483648) : (pI i ≤ (15 : Int32)) ↔ i ≤ 15 := pI_le h (by decide)
theorem nlt_15 {i : Nat} (h : i < 2147483648) : ((15 : Int32) < pI i) ↔ 15 < i := pI_lt (by decide) h
theorem nlt'_15 {i : Nat} (h : i < 2147483648) : (pI i < (15 : Int32)) ↔ i < 15 := pI_lt h (by decide)
theorem neq_15 {i : Nat} (h : i < 2147483648) : (pI i = (15 : Int32)) ↔ i = 15 := pI_eq h (by decide)
theorem nadd_15 (i : Nat) : pI i + (15 : Int32) = pI (i + 15) := pI_add i 15
theorem nmul_15 (i : Nat) : (15 : Int32) * pI i = pI (15 * i) := pI_mul 15 i
theorem nle_16 {i : Nat} (h : i < 2147483648) : ((16 : Int32) ≤ pI i) ↔ 16 ≤ i := pI_le (by decide) h
theorem nle'_16 {i : Nat} (h : i < 2147483648) : (pI i ≤ (16 : Int32)) ↔ i ≤ 16 := pI_le h (by decide)
theorem nlt_16 {i : Nat} (h : i < 2147483648) : ((16 : Int32) < pI i) ↔ 16 < i := pI_lt (by decide) h
theorem nlt'_16 {i : Nat} (h : i < 2147483648) : (pI i < (16 : Int32)) ↔ i < 16 := pI_lt h (by decide)
theorem neq_16 {i : Nat} (h : i < 2147483648) : (pI i = (16 : Int32)) ↔ i = 16 := pI_eq h (by decide)
theorem nadd_16 (i : Nat) : pI i + (16 : Int32) = pI (i + 16) := pI_add i 16
theorem nmul_16 (i : Nat) : (16 : Int32) * pI i = pI (16 * i) := pI_mul 16 i
theorem nle_18 {i : Nat} (h : i < 2147483648) : ((18 : Int32) ≤ pI i) ↔ 18 ≤ i := pI_le (by decide) h
theorem nle'_18 {i : Nat} (h : i < 2147483648) : (pI i ≤ (18 : Int32)) ↔ i ≤ 18 := pI_le h (by decide)
theorem nlt_18 {i : Nat} (h : i < 2147483648) : ((18 : Int32) < pI i) ↔ 18 < i := pI_lt (by decide) h
theorem nlt'_18 {i : Nat} (h : i < 2147483648) : (pI i < (18 : Int32)) ↔ i < 18 := pI_lt h (by decide)
theorem neq_18 {i : Nat} (h : i < 2147483648) : (pI i = (18 : Int32)) ↔ i = 18 := pI_eq h (by decide)
theorem nadd_18 (i : Nat) : pI i + (18 : Int32) = pI (i + 18) := pI_add i 18
theorem nmul_18 (i : Nat) : (18 : Int32) * pI i = pI (18 * i) := pI_mul 18 i
theorem nle_20 {i : Nat} (h : i < 2147483648) : ((20 : Int32) ≤ pI i) ↔ 20 ≤ i := pI_le (by decide) h
theorem nle'_20 {i : Nat} (h : i < 2147483648) : (pI i ≤ (20 : Int32)) ↔ i ≤ 20 := pI_le h (by decide)
theorem nlt_20 {i : Nat} (h : i < 2147483648) : ((20 : Int32) < pI i) ↔ 20 < i := pI_lt (by decide) h
theorem nlt'_20 {i : Nat} (h : i < 2147483648) : (pI i < (20 : Int32)) ↔ i < 20 := pI_lt h (by decide)
theorem neq_20 {i : Nat} (h : i < 2147483648) : (pI i = (20 : Int32)) ↔ i = 20 := pI_eq h (by decide)
theorem nadd_20 (i : Nat) : pI i + (20 : Int32) = pI (i + 20) := pI_add i 20
theorem nmul_20 (i : Nat) : (20 : Int32) * pI i = pI (20 * i) := pI_mul 20 i
theorem nle_24 {i : Nat} (h : i < 2147483648) : ((24 : Int32) ≤ pI i) ↔ 24 ≤ i := pI_le (by decide) h
theorem nle'_24 {i : Nat} (h : i < 2147483648) : (pI i ≤ (24 : Int32)) ↔ i ≤ 24 := pI_le h (by decide)
theorem nlt_24 {i : Nat} (h : i < 2147483648) : ((24 : Int32) < pI i) ↔ 24 < i := pI_lt (by decide) h
theorem nlt'_24 {i : Nat} (h : i < 2147483648) : (pI i < (24 : Int32)) ↔ i < 24 := pI_lt h (by decide)
theorem neq_24 {i : Nat} (h : i < 2147483648) : (pI i = (24 : Int32)) ↔ i = 24 := pI_eq h (by decide)
theorem nadd_24 (i : Nat) : pI i + (24 : Int32) = pI (i + 24) := pI_add i 24
theorem nmul_24 (i : Nat) : (24 : Int32) * pI i = pI (24 * i) := pI_mul 24 i
theorem nle_38 {i : Nat} (h : i < 2147483648) : ((38 : Int32) ≤ pI i) ↔ 38 ≤ i := pI_le (by decide) h
theorem nle'_38 {i : Nat} (h : i < 2147483648) : (pI i ≤ (38 : Int32)) ↔ i ≤ 38 := pI_le h (by decide)
theorem nlt_38 {i : Nat} (h : i < 2147483648) : ((38 : Int32) < pI i) ↔ 38 < i := pI_lt (by decide) h
theorem nlt'_38 {i : Nat} (h : i < 2147483648) : (pI i < (38 : Int32)) ↔ i < 38 := pI_lt h (by decide)
theorem neq_38 {i : Nat} (h : i < 2147483648) : (pI i = (38 : Int32)) ↔ i = 38 := pI_eq h (by decide)
theorem nadd_38 (i : Nat) : pI i + (38 : Int32) = pI (i + 38) := pI_add i 38
theorem nmul_38 (i : Nat) : (38 : Int32) * pI i = pI (38 * i) := pI_mul 38 i
theorem nle_48 {i : Nat} (h : i < 2147483648) : ((48 : Int32) ≤ pI i) ↔ 48 ≤ i := pI_le (by decide) h
theorem nle'_48 {i : Nat} (h : i < 2147483648) : (pI i ≤ (48 : Int32)) ↔ i ≤ 48 := pI_le h (by decide)
theorem nlt_48 {i : Nat} (h : i < 2147483648) : ((48 : Int32) < pI i) ↔ 48 < i := pI_lt (by decide) h
theorem nlt'_48 {i : Nat} (h : i < 2147483648) : (pI i < (48 : Int32)) ↔ i < 48 := pI_lt h (by decide)
theorem neq_48 {i : Nat} (h : i < 2147483648) : (pI i = (48 : Int32)) ↔ i = 48 := pI_eq h (by decide)
theorem nadd_48 (i : Nat) : pI i + (48 : Int32) = pI (i + 48) := pI_add i 48
theorem nmul_48 (i : Nat) : (48 : Int32) * pI i = pI (48 * i) := pI_mul 48 i
theorem nle_64 {i : Nat} (h : i < 2147483648) : ((64 : Int32) ≤ pI i) ↔ 64 ≤ i := pI_le (by decide) h
theorem nle'_64 {i : Nat} (h : i < 2147483648) : (pI i ≤ (64 : Int32)) ↔ i ≤ 64 := pI_le h (by decide)
theorem nlt_64 {i : Nat} (h : i < 2147483648) : ((64 : Int32) < pI i) ↔ 64 < i := pI_lt (by decide) h
theorem nlt'_64 {i : Nat} (h : i < 2147483648) : (pI i < (64 : Int32)) ↔ i < 64 := pI_lt h (by decide)
theorem neq_64 {i : Nat} (h : i < 2147483648) : (pI i = (64 : Int32)) ↔ i = 64 := pI_eq h (by decide)
theorem nadd_64 (i : Nat) : pI i + (64 : Int32) = pI (i + 64) := pI_add i 64
theorem nmul_64 (i : Nat) : (64 : Int32) * pI i = pI (64 * i) := pI_mul 64 i
theorem nle_96 {i : Nat} (h : i < 2147483648) : ((96 : Int32) ≤ pI i) ↔ 96 ≤ i := pI_le (by decide) h
theorem nle'_96 {i : Nat} (h : i < 2147483648) : (pI i ≤ (96 : Int32)) ↔ i ≤ 96 := pI_le h (by decide)
theorem nlt_96 {i : Nat} (h : i < 2147483648) : ((96 : Int32) < pI i) ↔ 96 < i := pI_lt (by decide) h
theorem nlt'_96 {i : Nat} (h : i < 2147483648) : (pI i < (96 : Int32)) ↔ i < 96 := pI_lt h (by decide)
theorem neq_96 {i : Nat} (h : i < 2147483648) : (pI i = (96 : Int32)) ↔ i = 96 := pI_eq h (by decide)
theorem nadd_96 (i : Nat) : pI i + (96 : Int32) = pI (i + 96) := pI_add i 96
theorem nmul_96 (i : Nat) : (96 : Int32) * pI i = pI (96 * i) := pI_mul 96 i
theorem nle_127 {i : Nat} (h : i < 2147483648) : ((127 : Int32) ≤ pI i) ↔ 127 ≤ i := pI_le (by decide) h
theorem nle'_127 {i : Nat} (h : i < 2147483648) : (pI i ≤ (127 : Int32)) ↔ i ≤ 127 := pI_le h (by decide)
theorem nlt_127 {i : Nat} (h : i < 2147483648) : ((127 : Int32) < pI i) ↔ 127 < i := pI_lt (by decide) h
theorem nlt'_127 {i : Nat} (h : i < 2147483648) : (pI i < (127 : Int32)) ↔ i < 127 := pI_lt h (by decide)
theorem neq_127 {i : Nat} (h : i < 2147483648) : (pI i = (127 : Int32)) ↔ i = 127 := pI_eq h (by decide)
theorem nadd_127 (i : Nat) : pI i + (127 : Int32) = pI (i + 127) := pI_add i 127
theorem nmul_127 (i : Nat) : (127 : Int32) * pI i = pI (127 * i) := pI_mul 127 i
theorem nle_128 {i : Nat} (h : i < 2147483648) : ((128 : Int32) ≤ pI i) ↔ 128 ≤ i := pI_le (by decide) h
theorem nle'_128 {i : Nat} (h : i < 2147483648) : (pI i ≤ (128 : Int32)) ↔ i ≤ 128 := pI_le h (by decide)
theorem nlt_128 {i : Nat} (h : i < 2147483648) : ((128 : Int32) < pI i) ↔ 128 < i := pI_lt (by decide) h
theorem nlt'_128 {i : Nat} (h : i < 2147483648) : (pI i < (128 : Int32)) ↔ i < 128 := pI_lt h (by decide)
theorem neq_128 {i : Nat} (h : i < 2147483648) : (pI i = (128 : Int32)) ↔ i = 128 := pI_eq h (by decide)
theorem nadd_128 (i : Nat) : pI i + (128 : Int32) = pI (i + 128) := pI_add i 128
theorem nmul_128 (i : Nat) : (128 : Int32) * pI i = pI (128 * i) := pI_mul 128 i
theorem nle_152 {i : Nat} (h : i < 2147483648) : ((152 : Int32) ≤ pI i) ↔ 152 ≤ i := pI_le (by decide) h
theorem nle'_152 {i : Nat} (h : i < 2147483648) : (pI i ≤ (152 : Int32)) ↔ i ≤ 152 := pI_le h (by decide)
theorem nlt_152 {i : Nat} (h : i < 2147483648) : ((152 : Int32) < pI i) ↔ 152 < i := pI_lt (by decide) h
theorem nlt'_152 {i : Nat} (h : i < 2147483648) : (pI i < (152 : Int32)) ↔ i < 152 := pI_lt h (by decide)
theorem neq_152 {i : Nat} (h : i < 2147483648) : (pI i = (152 : Int32)) ↔ i = 152 := pI_eq h (by decide)
theorem nadd_152 (i : Nat) : pI i + (152 : Int32) = pI (i + 152) := pI_add i 152
theorem nmul_152 (i : Nat) : (152 : Int32) * pI i = pI (152 * i) := pI_mul 152 i
theorem nm1 {i : Nat} : pI (i + 1) - (1 : Int32) = pI i := by rw [l_1, pI_sub (by omega)]; rfl
theorem up_ind {N : Nat} {P : Nat → Nat → Prop} (h0 : ∀ fu, P (fu + 1) N) (h1 : ∀ fu i, i < N → P fu (i + 1) → P (fu + 1) i) : ∀ (d i fu : Nat), i + d = N → d < fu → P fu i := by
  intro d
  induction d with
  | zero =>
    intro i fu e hf
    obtain ⟨fu, rfl⟩ : ∃ k, fu = k + 1 := ⟨fu - 1, by omega⟩
    have : i = N := by omega
    subst this
    exact h0 fu
  | succ d ih =>
    intro i fu e hf
    obtain ⟨fu, rfl⟩ : ∃ k, fu = k + 1 := ⟨fu - 1, by omega⟩
    exact h1 fu i (by omega) (ih (i + 1) fu (by omega) (by omega))
theorem up_0 {N : Nat} {P : Nat → Nat → Prop} (h0 : ∀ fu, P (fu + 1) N) (h1 : ∀ fu i, i < N → P fu (i + 1) → P (fu + 1) i) {i : Nat} (hi : i ≤ N) (hN : N < 1000) : P pv_fu i := up_ind h0 h1 (N - i) i pv_fu (by omega) (by unfold pv_fu; omega)
def b2i (b : Bool) : Int32 := if b = true then 1 else 0
theorem b2i_z (b : Bool) : pv_z (b2i b) = true := by cases b <;> rfl
theorem b2i_0 (b : Bool) : b2i b = 0 ↔ b = false := by cases b <;> simp [b2i]
theorem b2i_1 (b : Bool) : b2i b = 1 ↔ b = true := by cases b <;> simp [b2i]
def oI : Option Nat → Int32
  | none => -1
  | some k => pI k
def pfst (p : Nat → Bool) : Nat → Option Nat
  | 0 => none
  | n + 1 => match pfst p n with
    | some k => some k
    | none => if p n = true then some n else none
theorem pfst_none {p : Nat → Bool} : ∀ {n : Nat}, pfst p n = none ↔ ∀ i, i < n → p i = false := by
  intro n
  induction n with
  | zero => exact ⟨fun _ i hi => absurd hi (by omega), fun _ => rfl⟩
  | succ n ih =>
    show (match pfst p n with | some k => some k | none => if p n = true then some n else none) = none ↔ _
    cases h : pfst p n with
    | some k =>
      refine ⟨fun z => (by cases z), fun z => ?_⟩
      have := ih.mpr (fun i hi => z i (by omega))
      rw [h] at this
      cases this
    | none =>
      have h2 := ih.mp h
      by_cases hp : p n = true
      · simp only [hp, if_true]
        refine ⟨fun z => (by cases z), fun z => ?_⟩
        have := z n (by omega)
        rw [hp] at this
        cases this
      · simp only [hp]
        refine ⟨fun _ i hi => ?_, fun _ => rfl⟩
        by_cases hi2 : i = n
        · subst hi2
          simpa using hp
        · exact h2 i (by omega)
theorem pfst_some {p : Nat → Bool} : ∀ {n k : Nat}, pfst p n = some k ↔ k < n ∧ p k = true ∧ ∀ i, i < k → p i = false := by
  intro n
  induction n with
  | zero => intro k; exact ⟨fun h => (by cases h), fun h => absurd h.1 (by omega)⟩
  | succ n ih =>
    intro k
    show (match pfst p n with | some k => some k | none => if p n = true then some n else none) = some k ↔ _
    cases h : pfst p n with
    | some j =>
      obtain ⟨j1, j2, j3⟩ := ih.mp h
      simp only [Option.some.injEq]
      refine ⟨fun e => by subst e; exact ⟨by omega, j2, j3⟩, fun ⟨k1, k2, k3⟩ => ?_⟩
      by_cases h1 : j < k
      · have := k3 j h1
        rw [j2] at this
        cases this
      · by_cases h2 : k < j
        · have := j3 k h2
          rw [k2] at this
          cases this
        · omega
    | none =>
      have h2 := pfst_none.mp h
      by_cases hp : p n = true
      · simp only [hp, if_true, Option.some.injEq]
        refine ⟨fun e => by subst e; exact ⟨by omega, hp, h2⟩, fun ⟨k1, k2, k3⟩ => ?_⟩
        by_cases hk : k < n
        · have := h2 k hk
          rw [k2] at this
          cases this
        · omega
      · simp only [hp]
        refine ⟨fun e => (by cases e), fun ⟨k1, k2, k3⟩ => ?_⟩
        by_cases hk : k < n
        · have := h2 k hk
          rw [k2] at this
          cases this
        · have : k = n := by omega
          subst this
          exact absurd k2 hp
theorem pfst_congr {p q : Nat → Bool} {n : Nat} (h : ∀ i, i < n → p i = q i) : pfst p n = pfst q n := by
  cases e : pfst q n with
  | none => exact pfst_none.mpr (fun i hi => by rw [h i hi]; exact pfst_none.mp e i hi)
  | some k =>
    obtain ⟨k1, k2, k3⟩ := pfst_some.mp e
    exact pfst_some.mpr ⟨k1, by rw [h k k1]; exact k2, fun i hi => by rw [h i (by omega)]; exact k3 i hi⟩
def pany (p : Nat → Bool) : Nat → Bool
  | 0 => false
  | n + 1 => pany p n || p n
theorem pany_true {p : Nat → Bool} : ∀ {n : Nat}, pany p n = true ↔ ∃ i, i < n ∧ p i = true := by
  intro n
  induction n with
  | zero => exact ⟨fun h => (by cases h), fun ⟨i, hi, _⟩ => absurd hi (by omega)⟩
  | succ n ih =>
    show (pany p n || p n) = true ↔ _
    rw [Bool.or_eq_true, ih]
    constructor
    · rintro (⟨i, hi, h⟩ | h)
      · exact ⟨i, by omega, h⟩
      · exact ⟨n, by omega, h⟩
    · rintro ⟨i, hi, h⟩
      by_cases hn : i = n
      · subst hn; exact Or.inr h
      · exact Or.inl ⟨i, by omega, h⟩
theorem pany_false {p : Nat → Bool} {n : Nat} : pany p n = false ↔ ∀ i, i < n → p i = false := by
  constructor
  · intro h i hi
    cases e : p i with
    | false => rfl
    | true =>
      have := pany_true.mpr ⟨i, hi, e⟩
      rw [h] at this
      cases this
  · intro h
    cases e : pany p n with
    | false => rfl
    | true =>
      obtain ⟨i, hi, e2⟩ := pany_true.mp e
      rw [h i hi] at e2
      cases e2
theorem pany_congr {p q : Nat → Bool} {n : Nat} (h : ∀ i, i < n → p i = q i) : pany p n = pany q n := by
  cases e : pany q n with
  | false => exact pany_false.mpr (fun i hi => by rw [h i hi]; exact pany_false.mp e i hi)
  | true =>
    obtain ⟨i, hi, e2⟩ := pany_true.mp e
    exact pany_true.mpr ⟨i, hi, by rw [h i hi]; exact e2⟩
theorem oI_neg {o : Option Nat} (h : ∀ k, o = some k → k < 2147483648) : oI o = -1 ↔ o = none := by
  cases o with
  | none => exact ⟨fun _ => rfl, fun _ => rfl⟩
  | some k =>
    refine ⟨fun e => ?_, fun e => by cases e⟩
    exact ((pI_neg (h k rfl)).mp e).elim
theorem oI_lt0 {o : Option Nat} (h : ∀ k, o = some k → k < 2147483648) : oI o < 0 ↔ o = none := by
  cases o with
  | none => exact ⟨fun _ => rfl, fun _ => by decide⟩
  | some k =>
    refine ⟨fun e => ?_, fun e => by cases e⟩
    exact ((pI_lt0 (h k rfl)).mp e).elim
theorem oI_0le {o : Option Nat} (h : ∀ k, o = some k → k < 2147483648) : 0 ≤ oI o ↔ o ≠ none := by
  rw [← Int32.not_lt, oI_lt0 h]
