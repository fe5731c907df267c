/-! ===== where both sides keep what they have ===== -/
theorem iI_s (n : Nat) : iI ((n : Int) + 1) = iI ((n + 1 : Nat) : Int) := rfl
theorem l_0 : (0 : Int32) = iI 0 := rfl
theorem l_1 : (1 : Int32) = iI 1 := rfl
theorem l_2 : (2 : Int32) = iI 2 := rfl
theorem l_3 : (3 : Int32) = iI 3 := rfl
theorem l_4 : (4 : Int32) = iI 4 := rfl
theorem l_5 : (5 : Int32) = iI 5 := rfl
theorem l_6 : (6 : Int32) = iI 6 := rfl
theorem l_7 : (7 : Int32) = iI 7 := rfl
theorem l_8 : (8 : Int32) = iI 8 := rfl
theorem l_9 : (9 : Int32) = iI 9 := rfl
theorem l_10 : (10 : Int32) = iI 10 := rfl
theorem l_11 : (11 : Int32) = iI 11 := rfl
theorem l_12 : (12 : Int32) = iI 12 := rfl
theorem l_13 : (13 : Int32) = iI 13 := rfl
theorem l_14 : (14 : Int32) = iI 14 := rfl
theorem l_15 : (15 : Int32) = iI 15 := rfl
theorem l_16 : (16 : Int32) = iI 16 := rfl
theorem l_17 : (17 : Int32) = iI 17 := rfl
theorem l_18 : (18 : Int32) = iI 18 := rfl
theorem l_19 : (19 : Int32) = iI 19 := rfl
theorem l_20 : (20 : Int32) = iI 20 := rfl
theorem l_21 : (21 : Int32) = iI 21 := rfl
theorem l_22 : (22 : Int32) = iI 22 := rfl
theorem l_23 : (23 : Int32) = iI 23 := rfl
theorem l_24 : (24 : Int32) = iI 24 := rfl
theorem l_25 : (25 : Int32) = iI 25 := rfl
theorem l_26 : (26 : Int32) = iI 26 := rfl
theorem l_27 : (27 : Int32) = iI 27 := rfl
theorem l_28 : (28 : Int32) = iI 28 := rfl
theorem l_29 : (29 : Int32) = iI 29 := rfl
theorem l_30 : (30 : Int32) = iI 30 := rfl
theorem l_31 : (31 : Int32) = iI 31 := rfl
theorem l_32 : (32 : Int32) = iI 32 := rfl
theorem l_37 : (37 : Int32) = iI 37 := rfl
theorem l_42 : (42 : Int32) = iI 42 := rfl
theorem l_43 : (43 : Int32) = iI 43 := rfl
theorem l_45 : (45 : Int32) = iI 45 := rfl
theorem l_48 : (48 : Int32) = iI 48 := rfl
theorem l_56 : (56 : Int32) = iI 56 := rfl
theorem l_58 : (58 : Int32) = iI 58 := rfl
theorem l_59 : (59 : Int32) = iI 59 := rfl
theorem l_60 : (60 : Int32) = iI 60 := rfl
theorem l_61 : (61 : Int32) = iI 61 := rfl
theorem l_62 : (62 : Int32) = iI 62 := rfl
theorem l_63 : (63 : Int32) = iI 63 := rfl
theorem l_64 : (64 : Int32) = iI 64 := rfl
theorem l_96 : (96 : Int32) = iI 96 := rfl
theorem l_97 : (97 : Int32) = iI 97 := rfl
theorem l_99 : (99 : Int32) = iI 99 := rfl
theorem l_100 : (100 : Int32) = iI 100 := rfl
theorem l_122 : (122 : Int32) = iI 122 := rfl
theorem l_126 : (126 : Int32) = iI 126 := rfl
theorem l_127 : (127 : Int32) = iI 127 := rfl
theorem l_255 : (255 : Int32) = iI 255 := rfl
theorem l_257 : (257 : Int32) = iI 257 := rfl
theorem l_999 : (999 : Int32) = iI 999 := rfl
theorem l_1000 : (1000 : Int32) = iI 1000 := rfl
theorem l_1001 : (1001 : Int32) = iI 1001 := rfl
theorem l_1002 : (1002 : Int32) = iI 1002 := rfl
theorem l_1100 : (1100 : Int32) = iI 1100 := rfl
theorem l_4096 : (4096 : Int32) = iI 4096 := rfl
theorem l_8947848 : (8947848 : Int32) = iI 8947848 := rfl
theorem l_16384 : (16384 : Int32) = iI 16384 := rfl
theorem l_32767 : (32767 : Int32) = iI 32767 := rfl
theorem l_32768 : (32768 : Int32) = iI 32768 := rfl
theorem l_40000 : (40000 : Int32) = iI 40000 := rfl
theorem l_40 : (40 : Int32) = iI 40 := rfl
theorem l_41 : (41 : Int32) = iI 41 := rfl
theorem l_57 : (57 : Int32) = iI 57 := rfl
theorem l_65535 : (65535 : Int32) = iI 65535 := rfl
def tMR : List (Nat × Nat) := [(1, 1), (4, 2), (5, 3), (6, 4), (9, 5), (14, 6), (19, 7), (20, 8), (21, 9), (24, 10), (25, 11), (27, 12), (28, 13), (30, 14), (31, 15), (32, 16), (33, 17), (34, 18), (35, 19), (36, 20), (38, 21), (39, 22), (43, 23), (44, 24), (45, 25), (48, 26), (52, 27), (53, 28), (54, 29), (57, 30), (58, 31), (59, 32), (63, 33), (67, 34), (69, 35), (71, 36), (73, 37), (74, 38), (75, 39)]
def tMK : List (Nat × Nat × Nat) := [(0, 12, 76), (1, 101, 1000), (2, 101, 1002), (3, 101, 1002), (4, 102, 1002), (5, 102, 10), (6, 101, 10), (7, 102, 6), (8, 101, 2200), (9, 101, 2200), (10, 101, 7), (11, 101, 1100), (12, 102, 16384), (13, 103, 16384), (14, 102, 16384), (15, 101, 16384), (16, 101, 16384), (17, 101, 32768), (18, 101, 6), (19, 101, 64), (20, 101, 64), (21, 101, 60), (22, 103, 60), (23, 101, 8), (24, 101, 8), (25, 101, 16384), (26, 101, 16384), (27, 101, 64), (28, 101, 64), (29, 101, 60), (30, 101, 12), (31, 101, 64), (32, 101, 4096), (33, 101, 6), (34, 102, 16384), (35, 101, 10), (36, 101, 6), (37, 101, 4), (38, 101, 4), (39, 101, 4)]
def LM (A : Nat → Nat) (σ : AM) : Prop := Inj 40 A ∧ (∀ q ∈ tMR, aR σ (A 0) q.1 = A q.2) ∧ (∀ q ∈ tMK, aK σ (A q.1) = q.2.1 ∧ aN σ (A q.1) = q.2.2) ∧ (∀ k, k < 40 → A k < aZ σ)
theorem mR_1 {A : Nat → Nat} {σ : AM} (H : LM A σ) : aR σ (A 0) 1 = A 1 := H.2.1 (1, 1) (by decide)
theorem mR_4 {A : Nat → Nat} {σ : AM} (H : LM A σ) : aR σ (A 0) 4 = A 2 := H.2.1 (4, 2) (by decide)
theorem mR_5 {A : Nat → Nat} {σ : AM} (H : LM A σ) : aR σ (A 0) 5 = A 3 := H.2.1 (5, 3) (by decide)
theorem mR_6 {A : Nat → Nat} {σ : AM} (H : LM A σ) : aR σ (A 0) 6 = A 4 := H.2.1 (6, 4) (by decide)
theorem mR_9 {A : Nat → Nat} {σ : AM} (H : LM A σ) : aR σ (A 0) 9 = A 5 := H.2.1 (9, 5) (by decide)
theorem mR_14 {A : Nat → Nat} {σ : AM} (H : LM A σ) : aR σ (A 0) 14 = A 6 := H.2.1 (14, 6) (by decide)
theorem mR_19 {A : Nat → Nat} {σ : AM} (H : LM A σ) : aR σ (A 0) 19 = A 7 := H.2.1 (19, 7) (by decide)
theorem mR_20 {A : Nat → Nat} {σ : AM} (H : LM A σ) : aR σ (A 0) 20 = A 8 := H.2.1 (20, 8) (by decide)
theorem mR_21 {A : Nat → Nat} {σ : AM} (H : LM A σ) : aR σ (A 0) 21 = A 9 := H.2.1 (21, 9) (by decide)
theorem mR_24 {A : Nat → Nat} {σ : AM} (H : LM A σ) : aR σ (A 0) 24 = A 10 := H.2.1 (24, 10) (by decide)
theorem mR_25 {A : Nat → Nat} {σ : AM} (H : LM A σ) : aR σ (A 0) 25 = A 11 := H.2.1 (25, 11) (by decide)
theorem mR_27 {A : Nat → Nat} {σ : AM} (H : LM A σ) : aR σ (A 0) 27 = A 12 := H.2.1 (27, 12) (by decide)
theorem mR_28 {A : Nat → Nat} {σ : AM} (H : LM A σ) : aR σ (A 0) 28 = A 13 := H.2.1 (28, 13) (by decide)
theorem mR_30 {A : Nat → Nat} {σ : AM} (H : LM A σ) : aR σ (A 0) 30 = A 14 := H.2.1 (30, 14) (by decide)
theorem mR_31 {A : Nat → Nat} {σ : AM} (H : LM A σ) : aR σ (A 0) 31 = A 15 := H.2.1 (31, 15) (by decide)
theorem mR_32 {A : Nat → Nat} {σ : AM} (H : LM A σ) : aR σ (A 0) 32 = A 16 := H.2.1 (32, 16) (by decide)
theorem mR_33 {A : Nat → Nat} {σ : AM} (H : LM A σ) : aR σ (A 0) 33 = A 17 := H.2.1 (33, 17) (by decide)
theorem mR_34 {A : Nat → Nat} {σ : AM} (H : LM A σ) : aR σ (A 0) 34 = A 18 := H.2.1 (34, 18) (by decide)
theorem mR_35 {A : Nat → Nat} {σ : AM} (H : LM A σ) : aR σ (A 0) 35 = A 19 := H.2.1 (35, 19) (by decide)
theorem mR_36 {A : Nat → Nat} {σ : AM} (H : LM A σ) : aR σ (A 0) 36 = A 20 := H.2.1 (36, 20) (by decide)
theorem mR_38 {A : Nat → Nat} {σ : AM} (H : LM A σ) : aR σ (A 0) 38 = A 21 := H.2.1 (38, 21) (by decide)
theorem mR_39 {A : Nat → Nat} {σ : AM} (H : LM A σ) : aR σ (A 0) 39 = A 22 := H.2.1 (39, 22) (by decide)
theorem mR_43 {A : Nat → Nat} {σ : AM} (H : LM A σ) : aR σ (A 0) 43 = A 23 := H.2.1 (43, 23) (by decide)
theorem mR_44 {A : Nat → Nat} {σ : AM} (H : LM A σ) : aR σ (A 0) 44 = A 24 := H.2.1 (44, 24) (by decide)
theorem mR_45 {A : Nat → Nat} {σ : AM} (H : LM A σ) : aR σ (A 0) 45 = A 25 := H.2.1 (45, 25) (by decide)
theorem mR_48 {A : Nat → Nat} {σ : AM} (H : LM A σ) : aR σ (A 0) 48 = A 26 := H.2.1 (48, 26) (by decide)
theorem mR_52 {A : Nat → Nat} {σ : AM} (H : LM A σ) : aR σ (A 0) 52 = A 27 := H.2.1 (52, 27) (by decide)
theorem mR_53 {A : Nat → Nat} {σ : AM} (H : LM A σ) : aR σ (A 0) 53 = A 28 := H.2.1 (53, 28) (by decide)
theorem mR_54 {A : Nat → Nat} {σ : AM} (H : LM A σ) : aR σ (A 0) 54 = A 29 := H.2.1 (54, 29) (by decide)
theorem mR_57 {A : Nat → Nat} {σ : AM} (H : LM A σ) : aR σ (A 0) 57 = A 30 := H.2.1 (57, 30) (by decide)
theorem mR_58 {A : Nat → Nat} {σ : AM} (H : LM A σ) : aR σ (A 0) 58 = A 31 := H.2.1 (58, 31) (by decide)
theorem mR_59 {A : Nat → Nat} {σ : AM} (H : LM A σ) : aR σ (A 0) 59 = A 32 := H.2.1 (59, 32) (by decide)
theorem mR_63 {A : Nat → Nat} {σ : AM} (H : LM A σ) : aR σ (A 0) 63 = A 33 := H.2.1 (63, 33) (by decide)
theorem mR_67 {A : Nat → Nat} {σ : AM} (H : LM A σ) : aR σ (A 0) 67 = A 34 := H.2.1 (67, 34) (by decide)
theorem mR_69 {A : Nat → Nat} {σ : AM} (H : LM A σ) : aR σ (A 0) 69 = A 35 := H.2.1 (69, 35) (by decide)
theorem mR_71 {A : Nat → Nat} {σ : AM} (H : LM A σ) : aR σ (A 0) 71 = A 36 := H.2.1 (71, 36) (by decide)
theorem mR_73 {A : Nat → Nat} {σ : AM} (H : LM A σ) : aR σ (A 0) 73 = A 37 := H.2.1 (73, 37) (by decide)
theorem mR_74 {A : Nat → Nat} {σ : AM} (H : LM A σ) : aR σ (A 0) 74 = A 38 := H.2.1 (74, 38) (by decide)
theorem mR_75 {A : Nat → Nat} {σ : AM} (H : LM A σ) : aR σ (A 0) 75 = A 39 := H.2.1 (75, 39) (by decide)
theorem mK_0 {A : Nat → Nat} {σ : AM} (H : LM A σ) : okO σ (A 0) 12 = true := okO_of (H.2.2.1 (0, 12, 76) (by decide)).1
theorem mN_0 {A : Nat → Nat} {σ : AM} (H : LM A σ) : aN σ (A 0) = 76 := (H.2.2.1 (0, 12, 76) (by decide)).2
theorem mK_1 {A : Nat → Nat} {σ : AM} (H : LM A σ) : okO σ (A 1) 101 = true := okO_of (H.2.2.1 (1, 101, 1000) (by decide)).1
theorem mN_1 {A : Nat → Nat} {σ : AM} (H : LM A σ) : aN σ (A 1) = 1000 := (H.2.2.1 (1, 101, 1000) (by decide)).2
theorem mK_2 {A : Nat → Nat} {σ : AM} (H : LM A σ) : okO σ (A 2) 101 = true := okO_of (H.2.2.1 (2, 101, 1002) (by decide)).1
theorem mN_2 {A : Nat → Nat} {σ : AM} (H : LM A σ) : aN σ (A 2) = 1002 := (H.2.2.1 (2, 101, 1002) (by decide)).2
theorem mK_3 {A : Nat → Nat} {σ : AM} (H : LM A σ) : okO σ (A 3) 101 = true := okO_of (H.2.2.1 (3, 101, 1002) (by decide)).1
theorem mN_3 {A : Nat → Nat} {σ : AM} (H : LM A σ) : aN σ (A 3) = 1002 := (H.2.2.1 (3, 101, 1002) (by decide)).2
theorem mK_4 {A : Nat → Nat} {σ : AM} (H : LM A σ) : okO σ (A 4) 102 = true := okO_of (H.2.2.1 (4, 102, 1002) (by decide)).1
theorem mN_4 {A : Nat → Nat} {σ : AM} (H : LM A σ) : aN σ (A 4) = 1002 := (H.2.2.1 (4, 102, 1002) (by decide)).2
theorem mK_5 {A : Nat → Nat} {σ : AM} (H : LM A σ) : okO σ (A 5) 102 = true := okO_of (H.2.2.1 (5, 102, 10) (by decide)).1
theorem mN_5 {A : Nat → Nat} {σ : AM} (H : LM A σ) : aN σ (A 5) = 10 := (H.2.2.1 (5, 102, 10) (by decide)).2
theorem mK_6 {A : Nat → Nat} {σ : AM} (H : LM A σ) : okO σ (A 6) 101 = true := okO_of (H.2.2.1 (6, 101, 10) (by decide)).1
theorem mN_6 {A : Nat → Nat} {σ : AM} (H : LM A σ) : aN σ (A 6) = 10 := (H.2.2.1 (6, 101, 10) (by decide)).2
theorem mK_7 {A : Nat → Nat} {σ : AM} (H : LM A σ) : okO σ (A 7) 102 = true := okO_of (H.2.2.1 (7, 102, 6) (by decide)).1
theorem mN_7 {A : Nat → Nat} {σ : AM} (H : LM A σ) : aN σ (A 7) = 6 := (H.2.2.1 (7, 102, 6) (by decide)).2
theorem mK_8 {A : Nat → Nat} {σ : AM} (H : LM A σ) : okO σ (A 8) 101 = true := okO_of (H.2.2.1 (8, 101, 2200) (by decide)).1
theorem mN_8 {A : Nat → Nat} {σ : AM} (H : LM A σ) : aN σ (A 8) = 2200 := (H.2.2.1 (8, 101, 2200) (by decide)).2
theorem mK_9 {A : Nat → Nat} {σ : AM} (H : LM A σ) : okO σ (A 9) 101 = true := okO_of (H.2.2.1 (9, 101, 2200) (by decide)).1
theorem mN_9 {A : Nat → Nat} {σ : AM} (H : LM A σ) : aN σ (A 9) = 2200 := (H.2.2.1 (9, 101, 2200) (by decide)).2
theorem mK_10 {A : Nat → Nat} {σ : AM} (H : LM A σ) : okO σ (A 10) 101 = true := okO_of (H.2.2.1 (10, 101, 7) (by decide)).1
theorem mN_10 {A : Nat → Nat} {σ : AM} (H : LM A σ) : aN σ (A 10) = 7 := (H.2.2.1 (10, 101, 7) (by decide)).2
theorem mK_11 {A : Nat → Nat} {σ : AM} (H : LM A σ) : okO σ (A 11) 101 = true := okO_of (H.2.2.1 (11, 101, 1100) (by decide)).1
theorem mN_11 {A : Nat → Nat} {σ : AM} (H : LM A σ) : aN σ (A 11) = 1100 := (H.2.2.1 (11, 101, 1100) (by decide)).2
theorem mK_12 {A : Nat → Nat} {σ : AM} (H : LM A σ) : okO σ (A 12) 102 = true := okO_of (H.2.2.1 (12, 102, 16384) (by decide)).1
theorem mN_12 {A : Nat → Nat} {σ : AM} (H : LM A σ) : aN σ (A 12) = 16384 := (H.2.2.1 (12, 102, 16384) (by decide)).2
theorem mK_13 {A : Nat → Nat} {σ : AM} (H : LM A σ) : okO σ (A 13) 103 = true := okO_of (H.2.2.1 (13, 103, 16384) (by decide)).1
theorem mN_13 {A : Nat → Nat} {σ : AM} (H : LM A σ) : aN σ (A 13) = 16384 := (H.2.2.1 (13, 103, 16384) (by decide)).2
theorem mK_14 {A : Nat → Nat} {σ : AM} (H : LM A σ) : okO σ (A 14) 102 = true := okO_of (H.2.2.1 (14, 102, 16384) (by decide)).1
theorem mN_14 {A : Nat → Nat} {σ : AM} (H : LM A σ) : aN σ (A 14) = 16384 := (H.2.2.1 (14, 102, 16384) (by decide)).2
theorem mK_15 {A : Nat → Nat} {σ : AM} (H : LM A σ) : okO σ (A 15) 101 = true := okO_of (H.2.2.1 (15, 101, 16384) (by decide)).1
theorem mN_15 {A : Nat → Nat} {σ : AM} (H : LM A σ) : aN σ (A 15) = 16384 := (H.2.2.1 (15, 101, 16384) (by decide)).2
theorem mK_16 {A : Nat → Nat} {σ : AM} (H : LM A σ) : okO σ (A 16) 101 = true := okO_of (H.2.2.1 (16, 101, 16384) (by decide)).1
theorem mN_16 {A : Nat → Nat} {σ : AM} (H : LM A σ) : aN σ (A 16) = 16384 := (H.2.2.1 (16, 101, 16384) (by decide)).2
theorem mK_17 {A : Nat → Nat} {σ : AM} (H : LM A σ) : okO σ (A 17) 101 = true := okO_of (H.2.2.1 (17, 101, 32768) (by decide)).1
theorem mN_17 {A : Nat → Nat} {σ : AM} (H : LM A σ) : aN σ (A 17) = 32768 := (H.2.2.1 (17, 101, 32768) (by decide)).2
theorem mK_18 {A : Nat → Nat} {σ : AM} (H : LM A σ) : okO σ (A 18) 101 = true := okO_of (H.2.2.1 (18, 101, 6) (by decide)).1
theorem mN_18 {A : Nat → Nat} {σ : AM} (H : LM A σ) : aN σ (A 18) = 6 := (H.2.2.1 (18, 101, 6) (by decide)).2
theorem mK_19 {A : Nat → Nat} {σ : AM} (H : LM A σ) : okO σ (A 19) 101 = true := okO_of (H.2.2.1 (19, 101, 64) (by decide)).1
theorem mN_19 {A : Nat → Nat} {σ : AM} (H : LM A σ) : aN σ (A 19) = 64 := (H.2.2.1 (19, 101, 64) (by decide)).2
theorem mK_20 {A : Nat → Nat} {σ : AM} (H : LM A σ) : okO σ (A 20) 101 = true := okO_of (H.2.2.1 (20, 101, 64) (by decide)).1
theorem mN_20 {A : Nat → Nat} {σ : AM} (H : LM A σ) : aN σ (A 20) = 64 := (H.2.2.1 (20, 101, 64) (by decide)).2
theorem mK_21 {A : Nat → Nat} {σ : AM} (H : LM A σ) : okO σ (A 21) 101 = true := okO_of (H.2.2.1 (21, 101, 60) (by decide)).1
theorem mN_21 {A : Nat → Nat} {σ : AM} (H : LM A σ) : aN σ (A 21) = 60 := (H.2.2.1 (21, 101, 60) (by decide)).2
theorem mK_22 {A : Nat → Nat} {σ : AM} (H : LM A σ) : okO σ (A 22) 103 = true := okO_of (H.2.2.1 (22, 103, 60) (by decide)).1
theorem mN_22 {A : Nat → Nat} {σ : AM} (H : LM A σ) : aN σ (A 22) = 60 := (H.2.2.1 (22, 103, 60) (by decide)).2
theorem mK_23 {A : Nat → Nat} {σ : AM} (H : LM A σ) : okO σ (A 23) 101 = true := okO_of (H.2.2.1 (23, 101, 8) (by decide)).1
theorem mN_23 {A : Nat → Nat} {σ : AM} (H : LM A σ) : aN σ (A 23) = 8 := (H.2.2.1 (23, 101, 8) (by decide)).2
theorem mK_24 {A : Nat → Nat} {σ : AM} (H : LM A σ) : okO σ (A 24) 101 = true := okO_of (H.2.2.1 (24, 101, 8) (by decide)).1
theorem mN_24 {A : Nat → Nat} {σ : AM} (H : LM A σ) : aN σ (A 24) = 8 := (H.2.2.1 (24, 101, 8) (by decide)).2
theorem mK_25 {A : Nat → Nat} {σ : AM} (H : LM A σ) : okO σ (A 25) 101 = true := okO_of (H.2.2.1 (25, 101, 16384) (by decide)).1
theorem mN_25 {A : Nat → Nat} {σ : AM} (H : LM A σ) : aN σ (A 25) = 16384 := (H.2.2.1 (25, 101, 16384) (by decide)).2
theorem mK_26 {A : Nat → Nat} {σ : AM} (H : LM A σ) : okO σ (A 26) 101 = true := okO_of (H.2.2.1 (26, 101, 16384) (by decide)).1
theorem mN_26 {A : Nat → Nat} {σ : AM} (H : LM A σ) : aN σ (A 26) = 16384 := (H.2.2.1 (26, 101, 16384) (by decide)).2
theorem mK_27 {A : Nat → Nat} {σ : AM} (H : LM A σ) : okO σ (A 27) 101 = true := okO_of (H.2.2.1 (27, 101, 64) (by decide)).1
theorem mN_27 {A : Nat → Nat} {σ : AM} (H : LM A σ) : aN σ (A 27) = 64 := (H.2.2.1 (27, 101, 64) (by decide)).2
theorem mK_28 {A : Nat → Nat} {σ : AM} (H : LM A σ) : okO σ (A 28) 101 = true := okO_of (H.2.2.1 (28, 101, 64) (by decide)).1
theorem mN_28 {A : Nat → Nat} {σ : AM} (H : LM A σ) : aN σ (A 28) = 64 := (H.2.2.1 (28, 101, 64) (by decide)).2
theorem mK_29 {A : Nat → Nat} {σ : AM} (H : LM A σ) : okO σ (A 29) 101 = true := okO_of (H.2.2.1 (29, 101, 60) (by decide)).1
theorem mN_29 {A : Nat → Nat} {σ : AM} (H : LM A σ) : aN σ (A 29) = 60 := (H.2.2.1 (29, 101, 60) (by decide)).2
theorem mK_30 {A : Nat → Nat} {σ : AM} (H : LM A σ) : okO σ (A 30) 101 = true := okO_of (H.2.2.1 (30, 101, 12) (by decide)).1
theorem mN_30 {A : Nat → Nat} {σ : AM} (H : LM A σ) : aN σ (A 30) = 12 := (H.2.2.1 (30, 101, 12) (by decide)).2
theorem mK_31 {A : Nat → Nat} {σ : AM} (H : LM A σ) : okO σ (A 31) 101 = true := okO_of (H.2.2.1 (31, 101, 64) (by decide)).1
theorem mN_31 {A : Nat → Nat} {σ : AM} (H : LM A σ) : aN σ (A 31) = 64 := (H.2.2.1 (31, 101, 64) (by decide)).2
theorem mK_32 {A : Nat → Nat} {σ : AM} (H : LM A σ) : okO σ (A 32) 101 = true := okO_of (H.2.2.1 (32, 101, 4096) (by decide)).1
theorem mN_32 {A : Nat → Nat} {σ : AM} (H : LM A σ) : aN σ (A 32) = 4096 := (H.2.2.1 (32, 101, 4096) (by decide)).2
theorem mK_33 {A : Nat → Nat} {σ : AM} (H : LM A σ) : okO σ (A 33) 101 = true := okO_of (H.2.2.1 (33, 101, 6) (by decide)).1
theorem mN_33 {A : Nat → Nat} {σ : AM} (H : LM A σ) : aN σ (A 33) = 6 := (H.2.2.1 (33, 101, 6) (by decide)).2
theorem mK_34 {A : Nat → Nat} {σ : AM} (H : LM A σ) : okO σ (A 34) 102 = true := okO_of (H.2.2.1 (34, 102, 16384) (by decide)).1
theorem mN_34 {A : Nat → Nat} {σ : AM} (H : LM A σ) : aN σ (A 34) = 16384 := (H.2.2.1 (34, 102, 16384) (by decide)).2
theorem mK_35 {A : Nat → Nat} {σ : AM} (H : LM A σ) : okO σ (A 35) 101 = true := okO_of (H.2.2.1 (35, 101, 10) (by decide)).1
theorem mN_35 {A : Nat → Nat} {σ : AM} (H : LM A σ) : aN σ (A 35) = 10 := (H.2.2.1 (35, 101, 10) (by decide)).2
theorem mK_36 {A : Nat → Nat} {σ : AM} (H : LM A σ) : okO σ (A 36) 101 = true := okO_of (H.2.2.1 (36, 101, 6) (by decide)).1
theorem mN_36 {A : Nat → Nat} {σ : AM} (H : LM A σ) : aN σ (A 36) = 6 := (H.2.2.1 (36, 101, 6) (by decide)).2
theorem mK_37 {A : Nat → Nat} {σ : AM} (H : LM A σ) : okO σ (A 37) 101 = true := okO_of (H.2.2.1 (37, 101, 4) (by decide)).1
theorem mN_37 {A : Nat → Nat} {σ : AM} (H : LM A σ) : aN σ (A 37) = 4 := (H.2.2.1 (37, 101, 4) (by decide)).2
theorem mK_38 {A : Nat → Nat} {σ : AM} (H : LM A σ) : okO σ (A 38) 101 = true := okO_of (H.2.2.1 (38, 101, 4) (by decide)).1
theorem mN_38 {A : Nat → Nat} {σ : AM} (H : LM A σ) : aN σ (A 38) = 4 := (H.2.2.1 (38, 101, 4) (by decide)).2
theorem mK_39 {A : Nat → Nat} {σ : AM} (H : LM A σ) : okO σ (A 39) 101 = true := okO_of (H.2.2.1 (39, 101, 4) (by decide)).1
theorem mN_39 {A : Nat → Nat} {σ : AM} (H : LM A σ) : aN σ (A 39) = 4 := (H.2.2.1 (39, 101, 4) (by decide)).2
def tCR : List (Nat × Nat × Nat) := [(1, 0, 2), (1, 1, 3), (3, 0, 4), (3, 1, 5), (3, 2, 6), (3, 3, 7), (3, 4, 8), (3, 5, 9), (10, 0, 11), (10, 1, 12), (10, 2, 13), (10, 3, 14), (10, 4, 15), (10, 5, 16), (17, 0, 10), (17, 1, 18), (17, 2, 19), (17, 3, 20), (17, 4, 21), (17, 5, 22), (17, 6, 23), (17, 7, 24), (17, 8, 25), (17, 9, 26), (27, 0, 28), (27, 1, 29), (27, 2, 30), (27, 3, 31), (27, 4, 32), (27, 5, 33), (27, 6, 34), (35, 0, 17), (35, 1, 27), (35, 2, 36), (35, 3, 37), (35, 4, 38), (39, 0, 10), (39, 1, 17), (39, 2, 27), (39, 3, 35), (39, 4, 40), (39, 6, 41), (39, 7, 42), (39, 8, 43), (39, 9, 44), (39, 10, 45), (39, 11, 46), (39, 12, 47), (48, 0, 17), (48, 1, 35), (48, 2, 49), (48, 3, 50), (48, 4, 51), (48, 5, 52), (48, 6, 53), (54, 0, 10), (54, 1, 27), (54, 2, 55), (54, 3, 56), (54, 4, 57), (54, 11, 58), (54, 12, 59), (54, 13, 60), (61, 0, 10), (61, 1, 17), (61, 2, 27), (61, 3, 62), (61, 4, 63), (61, 5, 64), (61, 6, 65), (66, 0, 10), (66, 1, 17), (0, 10, 67), (0, 0, 1), (0, 1, 10), (0, 2, 17), (0, 3, 27), (0, 4, 35), (0, 5, 39), (0, 6, 48), (0, 7, 54), (0, 8, 61), (0, 9, 66)]
def tCK : List (Nat × Nat) := [(0, 11), (1, 2), (2, 104), (3, 1), (4, 102), (5, 101), (6, 101), (7, 101), (8, 101), (9, 101), (10, 1), (11, 102), (12, 101), (13, 101), (14, 101), (15, 101), (16, 101), (17, 3), (18, 101), (19, 101), (20, 101), (21, 102), (22, 101), (23, 101), (24, 101), (25, 101), (26, 101), (27, 4), (28, 101), (29, 103), (30, 101), (31, 101), (32, 101), (33, 101), (34, 101), (35, 5), (36, 101), (37, 103), (38, 101), (39, 6), (40, 102), (41, 101), (42, 101), (43, 101), (44, 101), (45, 101), (46, 101), (47, 101), (48, 7), (49, 101), (50, 101), (51, 101), (52, 101), (53, 105), (54, 8), (55, 101), (56, 101), (57, 101), (58, 102), (59, 101), (60, 101), (61, 9), (62, 102), (63, 102), (64, 101), (65, 101), (66, 10), (67, 101)]
def tCN : List (Nat × Nat) := [(0, 12), (1, 13), (2, 1000), (3, 11), (4, 6), (5, 1000), (6, 5), (7, 5), (8, 64), (9, 32), (10, 11), (11, 6), (12, 1000), (13, 5), (14, 5), (15, 64), (16, 32), (17, 13), (18, 6), (19, 64), (20, 8), (27, 11), (28, 60), (29, 60), (30, 8), (31, 8), (32, 4), (33, 4), (34, 4), (35, 10), (36, 10), (39, 19), (40, 15), (41, 62), (42, 62), (43, 62), (44, 3), (45, 3), (46, 3), (47, 60), (48, 10), (49, 12), (50, 12), (51, 64), (52, 64), (53, 4096), (54, 16), (55, 6), (56, 64), (57, 64), (58, 64), (59, 60), (60, 6), (61, 15), (62, 6), (63, 6), (64, 61), (65, 6), (66, 2), (67, 6)]
/-- the class's: the lists' rows have one length nL, the slots nS, the low blocks nB, what is left nR -/
def LC (A : Nat → Nat) (σ : AM) : Prop := Inj 68 A ∧ (∀ q ∈ tCR, aR σ (A q.1) q.2.1 = A q.2.2) ∧ (∀ q ∈ tCK, aK σ (A q.1) = q.2) ∧ (∀ q ∈ tCN, aN σ (A q.1) = q.2) ∧ aN σ (A 22) = aN σ (A 21) ∧ aN σ (A 23) = aN σ (A 21) ∧ aN σ (A 24) = aN σ (A 21) ∧ aN σ (A 37) = aN σ (A 38) ∧ (∀ k, k < 68 → A k < aZ σ)
theorem cR_1_0 {A : Nat → Nat} {σ : AM} (H : LC A σ) : aR σ (A 1) 0 = A 2 := H.2.1 (1, 0, 2) (by decide)
theorem cR_1_1 {A : Nat → Nat} {σ : AM} (H : LC A σ) : aR σ (A 1) 1 = A 3 := H.2.1 (1, 1, 3) (by decide)
theorem cR_3_0 {A : Nat → Nat} {σ : AM} (H : LC A σ) : aR σ (A 3) 0 = A 4 := H.2.1 (3, 0, 4) (by decide)
theorem cR_3_1 {A : Nat → Nat} {σ : AM} (H : LC A σ) : aR σ (A 3) 1 = A 5 := H.2.1 (3, 1, 5) (by decide)
theorem cR_3_2 {A : Nat → Nat} {σ : AM} (H : LC A σ) : aR σ (A 3) 2 = A 6 := H.2.1 (3, 2, 6) (by decide)
theorem cR_3_3 {A : Nat → Nat} {σ : AM} (H : LC A σ) : aR σ (A 3) 3 = A 7 := H.2.1 (3, 3, 7) (by decide)
theorem cR_3_4 {A : Nat → Nat} {σ : AM} (H : LC A σ) : aR σ (A 3) 4 = A 8 := H.2.1 (3, 4, 8) (by decide)
theorem cR_3_5 {A : Nat → Nat} {σ : AM} (H : LC A σ) : aR σ (A 3) 5 = A 9 := H.2.1 (3, 5, 9) (by decide)
theorem cR_10_0 {A : Nat → Nat} {σ : AM} (H : LC A σ) : aR σ (A 10) 0 = A 11 := H.2.1 (10, 0, 11) (by decide)
theorem cR_10_1 {A : Nat → Nat} {σ : AM} (H : LC A σ) : aR σ (A 10) 1 = A 12 := H.2.1 (10, 1, 12) (by decide)
theorem cR_10_2 {A : Nat → Nat} {σ : AM} (H : LC A σ) : aR σ (A 10) 2 = A 13 := H.2.1 (10, 2, 13) (by decide)
theorem cR_10_3 {A : Nat → Nat} {σ : AM} (H : LC A σ) : aR σ (A 10) 3 = A 14 := H.2.1 (10, 3, 14) (by decide)
theorem cR_10_4 {A : Nat → Nat} {σ : AM} (H : LC A σ) : aR σ (A 10) 4 = A 15 := H.2.1 (10, 4, 15) (by decide)
theorem cR_10_5 {A : Nat → Nat} {σ : AM} (H : LC A σ) : aR σ (A 10) 5 = A 16 := H.2.1 (10, 5, 16) (by decide)
theorem cR_17_0 {A : Nat → Nat} {σ : AM} (H : LC A σ) : aR σ (A 17) 0 = A 10 := H.2.1 (17, 0, 10) (by decide)
theorem cR_17_1 {A : Nat → Nat} {σ : AM} (H : LC A σ) : aR σ (A 17) 1 = A 18 := H.2.1 (17, 1, 18) (by decide)
theorem cR_17_2 {A : Nat → Nat} {σ : AM} (H : LC A σ) : aR σ (A 17) 2 = A 19 := H.2.1 (17, 2, 19) (by decide)
theorem cR_17_3 {A : Nat → Nat} {σ : AM} (H : LC A σ) : aR σ (A 17) 3 = A 20 := H.2.1 (17, 3, 20) (by decide)
theorem cR_17_4 {A : Nat → Nat} {σ : AM} (H : LC A σ) : aR σ (A 17) 4 = A 21 := H.2.1 (17, 4, 21) (by decide)
theorem cR_17_5 {A : Nat → Nat} {σ : AM} (H : LC A σ) : aR σ (A 17) 5 = A 22 := H.2.1 (17, 5, 22) (by decide)
theorem cR_17_6 {A : Nat → Nat} {σ : AM} (H : LC A σ) : aR σ (A 17) 6 = A 23 := H.2.1 (17, 6, 23) (by decide)
theorem cR_17_7 {A : Nat → Nat} {σ : AM} (H : LC A σ) : aR σ (A 17) 7 = A 24 := H.2.1 (17, 7, 24) (by decide)
theorem cR_17_8 {A : Nat → Nat} {σ : AM} (H : LC A σ) : aR σ (A 17) 8 = A 25 := H.2.1 (17, 8, 25) (by decide)
theorem cR_17_9 {A : Nat → Nat} {σ : AM} (H : LC A σ) : aR σ (A 17) 9 = A 26 := H.2.1 (17, 9, 26) (by decide)
theorem cR_27_0 {A : Nat → Nat} {σ : AM} (H : LC A σ) : aR σ (A 27) 0 = A 28 := H.2.1 (27, 0, 28) (by decide)
theorem cR_27_1 {A : Nat → Nat} {σ : AM} (H : LC A σ) : aR σ (A 27) 1 = A 29 := H.2.1 (27, 1, 29) (by decide)
theorem cR_27_2 {A : Nat → Nat} {σ : AM} (H : LC A σ) : aR σ (A 27) 2 = A 30 := H.2.1 (27, 2, 30) (by decide)
theorem cR_27_3 {A : Nat → Nat} {σ : AM} (H : LC A σ) : aR σ (A 27) 3 = A 31 := H.2.1 (27, 3, 31) (by decide)
theorem cR_27_4 {A : Nat → Nat} {σ : AM} (H : LC A σ) : aR σ (A 27) 4 = A 32 := H.2.1 (27, 4, 32) (by decide)
theorem cR_27_5 {A : Nat → Nat} {σ : AM} (H : LC A σ) : aR σ (A 27) 5 = A 33 := H.2.1 (27, 5, 33) (by decide)
theorem cR_27_6 {A : Nat → Nat} {σ : AM} (H : LC A σ) : aR σ (A 27) 6 = A 34 := H.2.1 (27, 6, 34) (by decide)
theorem cR_35_0 {A : Nat → Nat} {σ : AM} (H : LC A σ) : aR σ (A 35) 0 = A 17 := H.2.1 (35, 0, 17) (by decide)
theorem cR_35_1 {A : Nat → Nat} {σ : AM} (H : LC A σ) : aR σ (A 35) 1 = A 27 := H.2.1 (35, 1, 27) (by decide)
theorem cR_35_2 {A : Nat → Nat} {σ : AM} (H : LC A σ) : aR σ (A 35) 2 = A 36 := H.2.1 (35, 2, 36) (by decide)
theorem cR_35_3 {A : Nat → Nat} {σ : AM} (H : LC A σ) : aR σ (A 35) 3 = A 37 := H.2.1 (35, 3, 37) (by decide)
theorem cR_35_4 {A : Nat → Nat} {σ : AM} (H : LC A σ) : aR σ (A 35) 4 = A 38 := H.2.1 (35, 4, 38) (by decide)
theorem cR_39_0 {A : Nat → Nat} {σ : AM} (H : LC A σ) : aR σ (A 39) 0 = A 10 := H.2.1 (39, 0, 10) (by decide)
theorem cR_39_1 {A : Nat → Nat} {σ : AM} (H : LC A σ) : aR σ (A 39) 1 = A 17 := H.2.1 (39, 1, 17) (by decide)
theorem cR_39_2 {A : Nat → Nat} {σ : AM} (H : LC A σ) : aR σ (A 39) 2 = A 27 := H.2.1 (39, 2, 27) (by decide)
theorem cR_39_3 {A : Nat → Nat} {σ : AM} (H : LC A σ) : aR σ (A 39) 3 = A 35 := H.2.1 (39, 3, 35) (by decide)
theorem cR_39_4 {A : Nat → Nat} {σ : AM} (H : LC A σ) : aR σ (A 39) 4 = A 40 := H.2.1 (39, 4, 40) (by decide)
theorem cR_39_6 {A : Nat → Nat} {σ : AM} (H : LC A σ) : aR σ (A 39) 6 = A 41 := H.2.1 (39, 6, 41) (by decide)
theorem cR_39_7 {A : Nat → Nat} {σ : AM} (H : LC A σ) : aR σ (A 39) 7 = A 42 := H.2.1 (39, 7, 42) (by decide)
theorem cR_39_8 {A : Nat → Nat} {σ : AM} (H : LC A σ) : aR σ (A 39) 8 = A 43 := H.2.1 (39, 8, 43) (by decide)
theorem cR_39_9 {A : Nat → Nat} {σ : AM} (H : LC A σ) : aR σ (A 39) 9 = A 44 := H.2.1 (39, 9, 44) (by decide)
theorem cR_39_10 {A : Nat → Nat} {σ : AM} (H : LC A σ) : aR σ (A 39) 10 = A 45 := H.2.1 (39, 10, 45) (by decide)
theorem cR_39_11 {A : Nat → Nat} {σ : AM} (H : LC A σ) : aR σ (A 39) 11 = A 46 := H.2.1 (39, 11, 46) (by decide)
theorem cR_39_12 {A : Nat → Nat} {σ : AM} (H : LC A σ) : aR σ (A 39) 12 = A 47 := H.2.1 (39, 12, 47) (by decide)
theorem cR_48_0 {A : Nat → Nat} {σ : AM} (H : LC A σ) : aR σ (A 48) 0 = A 17 := H.2.1 (48, 0, 17) (by decide)
theorem cR_48_1 {A : Nat → Nat} {σ : AM} (H : LC A σ) : aR σ (A 48) 1 = A 35 := H.2.1 (48, 1, 35) (by decide)
theorem cR_48_2 {A : Nat → Nat} {σ : AM} (H : LC A σ) : aR σ (A 48) 2 = A 49 := H.2.1 (48, 2, 49) (by decide)
theorem cR_48_3 {A : Nat → Nat} {σ : AM} (H : LC A σ) : aR σ (A 48) 3 = A 50 := H.2.1 (48, 3, 50) (by decide)
theorem cR_48_4 {A : Nat → Nat} {σ : AM} (H : LC A σ) : aR σ (A 48) 4 = A 51 := H.2.1 (48, 4, 51) (by decide)
theorem cR_48_5 {A : Nat → Nat} {σ : AM} (H : LC A σ) : aR σ (A 48) 5 = A 52 := H.2.1 (48, 5, 52) (by decide)
theorem cR_48_6 {A : Nat → Nat} {σ : AM} (H : LC A σ) : aR σ (A 48) 6 = A 53 := H.2.1 (48, 6, 53) (by decide)
theorem cR_54_0 {A : Nat → Nat} {σ : AM} (H : LC A σ) : aR σ (A 54) 0 = A 10 := H.2.1 (54, 0, 10) (by decide)
theorem cR_54_1 {A : Nat → Nat} {σ : AM} (H : LC A σ) : aR σ (A 54) 1 = A 27 := H.2.1 (54, 1, 27) (by decide)
theorem cR_54_2 {A : Nat → Nat} {σ : AM} (H : LC A σ) : aR σ (A 54) 2 = A 55 := H.2.1 (54, 2, 55) (by decide)
theorem cR_54_3 {A : Nat → Nat} {σ : AM} (H : LC A σ) : aR σ (A 54) 3 = A 56 := H.2.1 (54, 3, 56) (by decide)
theorem cR_54_4 {A : Nat → Nat} {σ : AM} (H : LC A σ) : aR σ (A 54) 4 = A 57 := H.2.1 (54, 4, 57) (by decide)
theorem cR_54_11 {A : Nat → Nat} {σ : AM} (H : LC A σ) : aR σ (A 54) 11 = A 58 := H.2.1 (54, 11, 58) (by decide)
theorem cR_54_12 {A : Nat → Nat} {σ : AM} (H : LC A σ) : aR σ (A 54) 12 = A 59 := H.2.1 (54, 12, 59) (by decide)
theorem cR_54_13 {A : Nat → Nat} {σ : AM} (H : LC A σ) : aR σ (A 54) 13 = A 60 := H.2.1 (54, 13, 60) (by decide)
theorem cR_61_0 {A : Nat → Nat} {σ : AM} (H : LC A σ) : aR σ (A 61) 0 = A 10 := H.2.1 (61, 0, 10) (by decide)
theorem cR_61_1 {A : Nat → Nat} {σ : AM} (H : LC A σ) : aR σ (A 61) 1 = A 17 := H.2.1 (61, 1, 17) (by decide)
theorem cR_61_2 {A : Nat → Nat} {σ : AM} (H : LC A σ) : aR σ (A 61) 2 = A 27 := H.2.1 (61, 2, 27) (by decide)
theorem cR_61_3 {A : Nat → Nat} {σ : AM} (H : LC A σ) : aR σ (A 61) 3 = A 62 := H.2.1 (61, 3, 62) (by decide)
theorem cR_61_4 {A : Nat → Nat} {σ : AM} (H : LC A σ) : aR σ (A 61) 4 = A 63 := H.2.1 (61, 4, 63) (by decide)
theorem cR_61_5 {A : Nat → Nat} {σ : AM} (H : LC A σ) : aR σ (A 61) 5 = A 64 := H.2.1 (61, 5, 64) (by decide)
theorem cR_61_6 {A : Nat → Nat} {σ : AM} (H : LC A σ) : aR σ (A 61) 6 = A 65 := H.2.1 (61, 6, 65) (by decide)
theorem cR_66_0 {A : Nat → Nat} {σ : AM} (H : LC A σ) : aR σ (A 66) 0 = A 10 := H.2.1 (66, 0, 10) (by decide)
theorem cR_66_1 {A : Nat → Nat} {σ : AM} (H : LC A σ) : aR σ (A 66) 1 = A 17 := H.2.1 (66, 1, 17) (by decide)
theorem cR_0_10 {A : Nat → Nat} {σ : AM} (H : LC A σ) : aR σ (A 0) 10 = A 67 := H.2.1 (0, 10, 67) (by decide)
theorem cR_0_0 {A : Nat → Nat} {σ : AM} (H : LC A σ) : aR σ (A 0) 0 = A 1 := H.2.1 (0, 0, 1) (by decide)
theorem cR_0_1 {A : Nat → Nat} {σ : AM} (H : LC A σ) : aR σ (A 0) 1 = A 10 := H.2.1 (0, 1, 10) (by decide)
theorem cR_0_2 {A : Nat → Nat} {σ : AM} (H : LC A σ) : aR σ (A 0) 2 = A 17 := H.2.1 (0, 2, 17) (by decide)
theorem cR_0_3 {A : Nat → Nat} {σ : AM} (H : LC A σ) : aR σ (A 0) 3 = A 27 := H.2.1 (0, 3, 27) (by decide)
theorem cR_0_4 {A : Nat → Nat} {σ : AM} (H : LC A σ) : aR σ (A 0) 4 = A 35 := H.2.1 (0, 4, 35) (by decide)
theorem cR_0_5 {A : Nat → Nat} {σ : AM} (H : LC A σ) : aR σ (A 0) 5 = A 39 := H.2.1 (0, 5, 39) (by decide)
theorem cR_0_6 {A : Nat → Nat} {σ : AM} (H : LC A σ) : aR σ (A 0) 6 = A 48 := H.2.1 (0, 6, 48) (by decide)
theorem cR_0_7 {A : Nat → Nat} {σ : AM} (H : LC A σ) : aR σ (A 0) 7 = A 54 := H.2.1 (0, 7, 54) (by decide)
theorem cR_0_8 {A : Nat → Nat} {σ : AM} (H : LC A σ) : aR σ (A 0) 8 = A 61 := H.2.1 (0, 8, 61) (by decide)
theorem cR_0_9 {A : Nat → Nat} {σ : AM} (H : LC A σ) : aR σ (A 0) 9 = A 66 := H.2.1 (0, 9, 66) (by decide)
theorem cK_0 {A : Nat → Nat} {σ : AM} (H : LC A σ) : okO σ (A 0) 11 = true := okO_of (H.2.2.1 (0, 11) (by decide))
theorem cN_0 {A : Nat → Nat} {σ : AM} (H : LC A σ) : aN σ (A 0) = 12 := H.2.2.2.1 (0, 12) (by decide)
theorem cK_1 {A : Nat → Nat} {σ : AM} (H : LC A σ) : okO σ (A 1) 2 = true := okO_of (H.2.2.1 (1, 2) (by decide))
theorem cN_1 {A : Nat → Nat} {σ : AM} (H : LC A σ) : aN σ (A 1) = 13 := H.2.2.2.1 (1, 13) (by decide)
theorem cK_2 {A : Nat → Nat} {σ : AM} (H : LC A σ) : okO σ (A 2) 104 = true := okO_of (H.2.2.1 (2, 104) (by decide))
theorem cN_2 {A : Nat → Nat} {σ : AM} (H : LC A σ) : aN σ (A 2) = 1000 := H.2.2.2.1 (2, 1000) (by decide)
theorem cK_3 {A : Nat → Nat} {σ : AM} (H : LC A σ) : okO σ (A 3) 1 = true := okO_of (H.2.2.1 (3, 1) (by decide))
theorem cN_3 {A : Nat → Nat} {σ : AM} (H : LC A σ) : aN σ (A 3) = 11 := H.2.2.2.1 (3, 11) (by decide)
theorem cK_4 {A : Nat → Nat} {σ : AM} (H : LC A σ) : okO σ (A 4) 102 = true := okO_of (H.2.2.1 (4, 102) (by decide))
theorem cN_4 {A : Nat → Nat} {σ : AM} (H : LC A σ) : aN σ (A 4) = 6 := H.2.2.2.1 (4, 6) (by decide)
theorem cK_5 {A : Nat → Nat} {σ : AM} (H : LC A σ) : okO σ (A 5) 101 = true := okO_of (H.2.2.1 (5, 101) (by decide))
theorem cN_5 {A : Nat → Nat} {σ : AM} (H : LC A σ) : aN σ (A 5) = 1000 := H.2.2.2.1 (5, 1000) (by decide)
theorem cK_6 {A : Nat → Nat} {σ : AM} (H : LC A σ) : okO σ (A 6) 101 = true := okO_of (H.2.2.1 (6, 101) (by decide))
theorem cN_6 {A : Nat → Nat} {σ : AM} (H : LC A σ) : aN σ (A 6) = 5 := H.2.2.2.1 (6, 5) (by decide)
theorem cK_7 {A : Nat → Nat} {σ : AM} (H : LC A σ) : okO σ (A 7) 101 = true := okO_of (H.2.2.1 (7, 101) (by decide))
theorem cN_7 {A : Nat → Nat} {σ : AM} (H : LC A σ) : aN σ (A 7) = 5 := H.2.2.2.1 (7, 5) (by decide)
theorem cK_8 {A : Nat → Nat} {σ : AM} (H : LC A σ) : okO σ (A 8) 101 = true := okO_of (H.2.2.1 (8, 101) (by decide))
theorem cN_8 {A : Nat → Nat} {σ : AM} (H : LC A σ) : aN σ (A 8) = 64 := H.2.2.2.1 (8, 64) (by decide)
theorem cK_9 {A : Nat → Nat} {σ : AM} (H : LC A σ) : okO σ (A 9) 101 = true := okO_of (H.2.2.1 (9, 101) (by decide))
theorem cN_9 {A : Nat → Nat} {σ : AM} (H : LC A σ) : aN σ (A 9) = 32 := H.2.2.2.1 (9, 32) (by decide)
theorem cK_10 {A : Nat → Nat} {σ : AM} (H : LC A σ) : okO σ (A 10) 1 = true := okO_of (H.2.2.1 (10, 1) (by decide))
theorem cN_10 {A : Nat → Nat} {σ : AM} (H : LC A σ) : aN σ (A 10) = 11 := H.2.2.2.1 (10, 11) (by decide)
theorem cK_11 {A : Nat → Nat} {σ : AM} (H : LC A σ) : okO σ (A 11) 102 = true := okO_of (H.2.2.1 (11, 102) (by decide))
theorem cN_11 {A : Nat → Nat} {σ : AM} (H : LC A σ) : aN σ (A 11) = 6 := H.2.2.2.1 (11, 6) (by decide)
theorem cK_12 {A : Nat → Nat} {σ : AM} (H : LC A σ) : okO σ (A 12) 101 = true := okO_of (H.2.2.1 (12, 101) (by decide))
theorem cN_12 {A : Nat → Nat} {σ : AM} (H : LC A σ) : aN σ (A 12) = 1000 := H.2.2.2.1 (12, 1000) (by decide)
theorem cK_13 {A : Nat → Nat} {σ : AM} (H : LC A σ) : okO σ (A 13) 101 = true := okO_of (H.2.2.1 (13, 101) (by decide))
theorem cN_13 {A : Nat → Nat} {σ : AM} (H : LC A σ) : aN σ (A 13) = 5 := H.2.2.2.1 (13, 5) (by decide)
theorem cK_14 {A : Nat → Nat} {σ : AM} (H : LC A σ) : okO σ (A 14) 101 = true := okO_of (H.2.2.1 (14, 101) (by decide))
theorem cN_14 {A : Nat → Nat} {σ : AM} (H : LC A σ) : aN σ (A 14) = 5 := H.2.2.2.1 (14, 5) (by decide)
theorem cK_15 {A : Nat → Nat} {σ : AM} (H : LC A σ) : okO σ (A 15) 101 = true := okO_of (H.2.2.1 (15, 101) (by decide))
theorem cN_15 {A : Nat → Nat} {σ : AM} (H : LC A σ) : aN σ (A 15) = 64 := H.2.2.2.1 (15, 64) (by decide)
theorem cK_16 {A : Nat → Nat} {σ : AM} (H : LC A σ) : okO σ (A 16) 101 = true := okO_of (H.2.2.1 (16, 101) (by decide))
theorem cN_16 {A : Nat → Nat} {σ : AM} (H : LC A σ) : aN σ (A 16) = 32 := H.2.2.2.1 (16, 32) (by decide)
theorem cK_17 {A : Nat → Nat} {σ : AM} (H : LC A σ) : okO σ (A 17) 3 = true := okO_of (H.2.2.1 (17, 3) (by decide))
theorem cN_17 {A : Nat → Nat} {σ : AM} (H : LC A σ) : aN σ (A 17) = 13 := H.2.2.2.1 (17, 13) (by decide)
theorem cK_18 {A : Nat → Nat} {σ : AM} (H : LC A σ) : okO σ (A 18) 101 = true := okO_of (H.2.2.1 (18, 101) (by decide))
theorem cN_18 {A : Nat → Nat} {σ : AM} (H : LC A σ) : aN σ (A 18) = 6 := H.2.2.2.1 (18, 6) (by decide)
theorem cK_19 {A : Nat → Nat} {σ : AM} (H : LC A σ) : okO σ (A 19) 101 = true := okO_of (H.2.2.1 (19, 101) (by decide))
theorem cN_19 {A : Nat → Nat} {σ : AM} (H : LC A σ) : aN σ (A 19) = 64 := H.2.2.2.1 (19, 64) (by decide)
theorem cK_20 {A : Nat → Nat} {σ : AM} (H : LC A σ) : okO σ (A 20) 101 = true := okO_of (H.2.2.1 (20, 101) (by decide))
theorem cN_20 {A : Nat → Nat} {σ : AM} (H : LC A σ) : aN σ (A 20) = 8 := H.2.2.2.1 (20, 8) (by decide)
theorem cK_21 {A : Nat → Nat} {σ : AM} (H : LC A σ) : okO σ (A 21) 102 = true := okO_of (H.2.2.1 (21, 102) (by decide))
theorem cK_22 {A : Nat → Nat} {σ : AM} (H : LC A σ) : okO σ (A 22) 101 = true := okO_of (H.2.2.1 (22, 101) (by decide))
theorem cK_23 {A : Nat → Nat} {σ : AM} (H : LC A σ) : okO σ (A 23) 101 = true := okO_of (H.2.2.1 (23, 101) (by decide))
theorem cK_24 {A : Nat → Nat} {σ : AM} (H : LC A σ) : okO σ (A 24) 101 = true := okO_of (H.2.2.1 (24, 101) (by decide))
theorem cK_25 {A : Nat → Nat} {σ : AM} (H : LC A σ) : okO σ (A 25) 101 = true := okO_of (H.2.2.1 (25, 101) (by decide))
theorem cK_26 {A : Nat → Nat} {σ : AM} (H : LC A σ) : okO σ (A 26) 101 = true := okO_of (H.2.2.1 (26, 101) (by decide))
theorem cK_27 {A : Nat → Nat} {σ : AM} (H : LC A σ) : okO σ (A 27) 4 = true := okO_of (H.2.2.1 (27, 4) (by decide))
theorem cN_27 {A : Nat → Nat} {σ : AM} (H : LC A σ) : aN σ (A 27) = 11 := H.2.2.2.1 (27, 11) (by decide)
theorem cK_28 {A : Nat → Nat} {σ : AM} (H : LC A σ) : okO σ (A 28) 101 = true := okO_of (H.2.2.1 (28, 101) (by decide))
theorem cN_28 {A : Nat → Nat} {σ : AM} (H : LC A σ) : aN σ (A 28) = 60 := H.2.2.2.1 (28, 60) (by decide)
theorem cK_29 {A : Nat → Nat} {σ : AM} (H : LC A σ) : okO σ (A 29) 103 = true := okO_of (H.2.2.1 (29, 103) (by decide))
theorem cN_29 {A : Nat → Nat} {σ : AM} (H : LC A σ) : aN σ (A 29) = 60 := H.2.2.2.1 (29, 60) (by decide)
theorem cK_30 {A : Nat → Nat} {σ : AM} (H : LC A σ) : okO σ (A 30) 101 = true := okO_of (H.2.2.1 (30, 101) (by decide))
theorem cN_30 {A : Nat → Nat} {σ : AM} (H : LC A σ) : aN σ (A 30) = 8 := H.2.2.2.1 (30, 8) (by decide)
theorem cK_31 {A : Nat → Nat} {σ : AM} (H : LC A σ) : okO σ (A 31) 101 = true := okO_of (H.2.2.1 (31, 101) (by decide))
theorem cN_31 {A : Nat → Nat} {σ : AM} (H : LC A σ) : aN σ (A 31) = 8 := H.2.2.2.1 (31, 8) (by decide)
theorem cK_32 {A : Nat → Nat} {σ : AM} (H : LC A σ) : okO σ (A 32) 101 = true := okO_of (H.2.2.1 (32, 101) (by decide))
theorem cN_32 {A : Nat → Nat} {σ : AM} (H : LC A σ) : aN σ (A 32) = 4 := H.2.2.2.1 (32, 4) (by decide)
theorem cK_33 {A : Nat → Nat} {σ : AM} (H : LC A σ) : okO σ (A 33) 101 = true := okO_of (H.2.2.1 (33, 101) (by decide))
theorem cN_33 {A : Nat → Nat} {σ : AM} (H : LC A σ) : aN σ (A 33) = 4 := H.2.2.2.1 (33, 4) (by decide)
theorem cK_34 {A : Nat → Nat} {σ : AM} (H : LC A σ) : okO σ (A 34) 101 = true := okO_of (H.2.2.1 (34, 101) (by decide))
theorem cN_34 {A : Nat → Nat} {σ : AM} (H : LC A σ) : aN σ (A 34) = 4 := H.2.2.2.1 (34, 4) (by decide)
theorem cK_35 {A : Nat → Nat} {σ : AM} (H : LC A σ) : okO σ (A 35) 5 = true := okO_of (H.2.2.1 (35, 5) (by decide))
theorem cN_35 {A : Nat → Nat} {σ : AM} (H : LC A σ) : aN σ (A 35) = 10 := H.2.2.2.1 (35, 10) (by decide)
theorem cK_36 {A : Nat → Nat} {σ : AM} (H : LC A σ) : okO σ (A 36) 101 = true := okO_of (H.2.2.1 (36, 101) (by decide))
theorem cN_36 {A : Nat → Nat} {σ : AM} (H : LC A σ) : aN σ (A 36) = 10 := H.2.2.2.1 (36, 10) (by decide)
theorem cK_37 {A : Nat → Nat} {σ : AM} (H : LC A σ) : okO σ (A 37) 103 = true := okO_of (H.2.2.1 (37, 103) (by decide))
theorem cK_38 {A : Nat → Nat} {σ : AM} (H : LC A σ) : okO σ (A 38) 101 = true := okO_of (H.2.2.1 (38, 101) (by decide))
theorem cK_39 {A : Nat → Nat} {σ : AM} (H : LC A σ) : okO σ (A 39) 6 = true := okO_of (H.2.2.1 (39, 6) (by decide))
theorem cN_39 {A : Nat → Nat} {σ : AM} (H : LC A σ) : aN σ (A 39) = 19 := H.2.2.2.1 (39, 19) (by decide)
theorem cK_40 {A : Nat → Nat} {σ : AM} (H : LC A σ) : okO σ (A 40) 102 = true := okO_of (H.2.2.1 (40, 102) (by decide))
theorem cN_40 {A : Nat → Nat} {σ : AM} (H : LC A σ) : aN σ (A 40) = 15 := H.2.2.2.1 (40, 15) (by decide)
theorem cK_41 {A : Nat → Nat} {σ : AM} (H : LC A σ) : okO σ (A 41) 101 = true := okO_of (H.2.2.1 (41, 101) (by decide))
theorem cN_41 {A : Nat → Nat} {σ : AM} (H : LC A σ) : aN σ (A 41) = 62 := H.2.2.2.1 (41, 62) (by decide)
theorem cK_42 {A : Nat → Nat} {σ : AM} (H : LC A σ) : okO σ (A 42) 101 = true := okO_of (H.2.2.1 (42, 101) (by decide))
theorem cN_42 {A : Nat → Nat} {σ : AM} (H : LC A σ) : aN σ (A 42) = 62 := H.2.2.2.1 (42, 62) (by decide)
theorem cK_43 {A : Nat → Nat} {σ : AM} (H : LC A σ) : okO σ (A 43) 101 = true := okO_of (H.2.2.1 (43, 101) (by decide))
theorem cN_43 {A : Nat → Nat} {σ : AM} (H : LC A σ) : aN σ (A 43) = 62 := H.2.2.2.1 (43, 62) (by decide)
theorem cK_44 {A : Nat → Nat} {σ : AM} (H : LC A σ) : okO σ (A 44) 101 = true := okO_of (H.2.2.1 (44, 101) (by decide))
theorem cN_44 {A : Nat → Nat} {σ : AM} (H : LC A σ) : aN σ (A 44) = 3 := H.2.2.2.1 (44, 3) (by decide)
theorem cK_45 {A : Nat → Nat} {σ : AM} (H : LC A σ) : okO σ (A 45) 101 = true := okO_of (H.2.2.1 (45, 101) (by decide))
theorem cN_45 {A : Nat → Nat} {σ : AM} (H : LC A σ) : aN σ (A 45) = 3 := H.2.2.2.1 (45, 3) (by decide)
theorem cK_46 {A : Nat → Nat} {σ : AM} (H : LC A σ) : okO σ (A 46) 101 = true := okO_of (H.2.2.1 (46, 101) (by decide))
theorem cN_46 {A : Nat → Nat} {σ : AM} (H : LC A σ) : aN σ (A 46) = 3 := H.2.2.2.1 (46, 3) (by decide)
theorem cK_47 {A : Nat → Nat} {σ : AM} (H : LC A σ) : okO σ (A 47) 101 = true := okO_of (H.2.2.1 (47, 101) (by decide))
theorem cN_47 {A : Nat → Nat} {σ : AM} (H : LC A σ) : aN σ (A 47) = 60 := H.2.2.2.1 (47, 60) (by decide)
theorem cK_48 {A : Nat → Nat} {σ : AM} (H : LC A σ) : okO σ (A 48) 7 = true := okO_of (H.2.2.1 (48, 7) (by decide))
theorem cN_48 {A : Nat → Nat} {σ : AM} (H : LC A σ) : aN σ (A 48) = 10 := H.2.2.2.1 (48, 10) (by decide)
theorem cK_49 {A : Nat → Nat} {σ : AM} (H : LC A σ) : okO σ (A 49) 101 = true := okO_of (H.2.2.1 (49, 101) (by decide))
theorem cN_49 {A : Nat → Nat} {σ : AM} (H : LC A σ) : aN σ (A 49) = 12 := H.2.2.2.1 (49, 12) (by decide)
theorem cK_50 {A : Nat → Nat} {σ : AM} (H : LC A σ) : okO σ (A 50) 101 = true := okO_of (H.2.2.1 (50, 101) (by decide))
theorem cN_50 {A : Nat → Nat} {σ : AM} (H : LC A σ) : aN σ (A 50) = 12 := H.2.2.2.1 (50, 12) (by decide)
theorem cK_51 {A : Nat → Nat} {σ : AM} (H : LC A σ) : okO σ (A 51) 101 = true := okO_of (H.2.2.1 (51, 101) (by decide))
theorem cN_51 {A : Nat → Nat} {σ : AM} (H : LC A σ) : aN σ (A 51) = 64 := H.2.2.2.1 (51, 64) (by decide)
theorem cK_52 {A : Nat → Nat} {σ : AM} (H : LC A σ) : okO σ (A 52) 101 = true := okO_of (H.2.2.1 (52, 101) (by decide))
theorem cN_52 {A : Nat → Nat} {σ : AM} (H : LC A σ) : aN σ (A 52) = 64 := H.2.2.2.1 (52, 64) (by decide)
theorem cK_53 {A : Nat → Nat} {σ : AM} (H : LC A σ) : okO σ (A 53) 105 = true := okO_of (H.2.2.1 (53, 105) (by decide))
theorem cN_53 {A : Nat → Nat} {σ : AM} (H : LC A σ) : aN σ (A 53) = 4096 := H.2.2.2.1 (53, 4096) (by decide)
theorem cK_54 {A : Nat → Nat} {σ : AM} (H : LC A σ) : okO σ (A 54) 8 = true := okO_of (H.2.2.1 (54, 8) (by decide))
theorem cN_54 {A : Nat → Nat} {σ : AM} (H : LC A σ) : aN σ (A 54) = 16 := H.2.2.2.1 (54, 16) (by decide)
theorem cK_55 {A : Nat → Nat} {σ : AM} (H : LC A σ) : okO σ (A 55) 101 = true := okO_of (H.2.2.1 (55, 101) (by decide))
theorem cN_55 {A : Nat → Nat} {σ : AM} (H : LC A σ) : aN σ (A 55) = 6 := H.2.2.2.1 (55, 6) (by decide)
theorem cK_56 {A : Nat → Nat} {σ : AM} (H : LC A σ) : okO σ (A 56) 101 = true := okO_of (H.2.2.1 (56, 101) (by decide))
theorem cN_56 {A : Nat → Nat} {σ : AM} (H : LC A σ) : aN σ (A 56) = 64 := H.2.2.2.1 (56, 64) (by decide)
theorem cK_57 {A : Nat → Nat} {σ : AM} (H : LC A σ) : okO σ (A 57) 101 = true := okO_of (H.2.2.1 (57, 101) (by decide))
theorem cN_57 {A : Nat → Nat} {σ : AM} (H : LC A σ) : aN σ (A 57) = 64 := H.2.2.2.1 (57, 64) (by decide)
theorem cK_58 {A : Nat → Nat} {σ : AM} (H : LC A σ) : okO σ (A 58) 102 = true := okO_of (H.2.2.1 (58, 102) (by decide))
theorem cN_58 {A : Nat → Nat} {σ : AM} (H : LC A σ) : aN σ (A 58) = 64 := H.2.2.2.1 (58, 64) (by decide)
theorem cK_59 {A : Nat → Nat} {σ : AM} (H : LC A σ) : okO σ (A 59) 101 = true := okO_of (H.2.2.1 (59, 101) (by decide))
theorem cN_59 {A : Nat → Nat} {σ : AM} (H : LC A σ) : aN σ (A 59) = 60 := H.2.2.2.1 (59, 60) (by decide)
theorem cK_60 {A : Nat → Nat} {σ : AM} (H : LC A σ) : okO σ (A 60) 101 = true := okO_of (H.2.2.1 (60, 101) (by decide))
theorem cN_60 {A : Nat → Nat} {σ : AM} (H : LC A σ) : aN σ (A 60) = 6 := H.2.2.2.1 (60, 6) (by decide)
theorem cK_61 {A : Nat → Nat} {σ : AM} (H : LC A σ) : okO σ (A 61) 9 = true := okO_of (H.2.2.1 (61, 9) (by decide))
theorem cN_61 {A : Nat → Nat} {σ : AM} (H : LC A σ) : aN σ (A 61) = 15 := H.2.2.2.1 (61, 15) (by decide)
theorem cK_62 {A : Nat → Nat} {σ : AM} (H : LC A σ) : okO σ (A 62) 102 = true := okO_of (H.2.2.1 (62, 102) (by decide))
theorem cN_62 {A : Nat → Nat} {σ : AM} (H : LC A σ) : aN σ (A 62) = 6 := H.2.2.2.1 (62, 6) (by decide)
theorem cK_63 {A : Nat → Nat} {σ : AM} (H : LC A σ) : okO σ (A 63) 102 = true := okO_of (H.2.2.1 (63, 102) (by decide))
theorem cN_63 {A : Nat → Nat} {σ : AM} (H : LC A σ) : aN σ (A 63) = 6 := H.2.2.2.1 (63, 6) (by decide)
theorem cK_64 {A : Nat → Nat} {σ : AM} (H : LC A σ) : okO σ (A 64) 101 = true := okO_of (H.2.2.1 (64, 101) (by decide))
theorem cN_64 {A : Nat → Nat} {σ : AM} (H : LC A σ) : aN σ (A 64) = 61 := H.2.2.2.1 (64, 61) (by decide)
theorem cK_65 {A : Nat → Nat} {σ : AM} (H : LC A σ) : okO σ (A 65) 101 = true := okO_of (H.2.2.1 (65, 101) (by decide))
theorem cN_65 {A : Nat → Nat} {σ : AM} (H : LC A σ) : aN σ (A 65) = 6 := H.2.2.2.1 (65, 6) (by decide)
theorem cK_66 {A : Nat → Nat} {σ : AM} (H : LC A σ) : okO σ (A 66) 10 = true := okO_of (H.2.2.1 (66, 10) (by decide))
theorem cN_66 {A : Nat → Nat} {σ : AM} (H : LC A σ) : aN σ (A 66) = 2 := H.2.2.2.1 (66, 2) (by decide)
theorem cK_67 {A : Nat → Nat} {σ : AM} (H : LC A σ) : okO σ (A 67) 101 = true := okO_of (H.2.2.1 (67, 101) (by decide))
theorem cN_67 {A : Nat → Nat} {σ : AM} (H : LC A σ) : aN σ (A 67) = 6 := H.2.2.2.1 (67, 6) (by decide)
theorem cN_22 {A : Nat → Nat} {σ : AM} (H : LC A σ) : aN σ (A 22) = aN σ (A 21) := H.2.2.2.2.1
theorem cN_23 {A : Nat → Nat} {σ : AM} (H : LC A σ) : aN σ (A 23) = aN σ (A 21) := H.2.2.2.2.2.1
theorem cN_24 {A : Nat → Nat} {σ : AM} (H : LC A σ) : aN σ (A 24) = aN σ (A 21) := H.2.2.2.2.2.2.1
theorem cN_37 {A : Nat → Nat} {σ : AM} (H : LC A σ) : aN σ (A 37) = aN σ (A 38) := H.2.2.2.2.2.2.2.1
theorem cN_21 {A : Nat → Nat} {σ : AM} (_ : LC A σ) : aN σ (A 21) = aN σ (A 21) := rfl
theorem cN_25 {A : Nat → Nat} {σ : AM} (_ : LC A σ) : aN σ (A 25) = aN σ (A 25) := rfl
theorem cN_26 {A : Nat → Nat} {σ : AM} (_ : LC A σ) : aN σ (A 26) = aN σ (A 26) := rfl
theorem cN_38 {A : Nat → Nat} {σ : AM} (_ : LC A σ) : aN σ (A 38) = aN σ (A 38) := rfl
def LT (t : Nat) (A : Nat → Nat) (σ : AM) : Prop := LC A σ ∧ (t = 3 ∨ t = 10)
theorem tK {t : Nat} {A : Nat → Nat} {σ : AM} (HT : LT t A σ) : okO σ (A t) 1 = true := by
  obtain ⟨H, rfl | rfl⟩ := HT
  · exact cK_3 H
  · exact cK_10 H
theorem tR_0 {t : Nat} {A : Nat → Nat} {σ : AM} (HT : LT t A σ) : aR σ (A t) 0 = A (t + 1) := by
  obtain ⟨H, rfl | rfl⟩ := HT
  · exact cR_3_0 H
  · exact cR_10_0 H
theorem tK_0 {t : Nat} {A : Nat → Nat} {σ : AM} (HT : LT t A σ) : okO σ (A (t + 1)) 102 = true := by
  obtain ⟨H, rfl | rfl⟩ := HT
  · exact cK_4 H
  · exact cK_11 H
theorem tN_0 {t : Nat} {A : Nat → Nat} {σ : AM} (HT : LT t A σ) : aN σ (A (t + 1)) = 6 := by
  obtain ⟨H, rfl | rfl⟩ := HT
  · exact cN_4 H
  · exact cN_11 H
theorem tR_1 {t : Nat} {A : Nat → Nat} {σ : AM} (HT : LT t A σ) : aR σ (A t) 1 = A (t + 2) := by
  obtain ⟨H, rfl | rfl⟩ := HT
  · exact cR_3_1 H
  · exact cR_10_1 H
theorem tK_1 {t : Nat} {A : Nat → Nat} {σ : AM} (HT : LT t A σ) : okO σ (A (t + 2)) 101 = true := by
  obtain ⟨H, rfl | rfl⟩ := HT
  · exact cK_5 H
  · exact cK_12 H
theorem tN_1 {t : Nat} {A : Nat → Nat} {σ : AM} (HT : LT t A σ) : aN σ (A (t + 2)) = 1000 := by
  obtain ⟨H, rfl | rfl⟩ := HT
  · exact cN_5 H
  · exact cN_12 H
theorem tR_2 {t : Nat} {A : Nat → Nat} {σ : AM} (HT : LT t A σ) : aR σ (A t) 2 = A (t + 3) := by
  obtain ⟨H, rfl | rfl⟩ := HT
  · exact cR_3_2 H
  · exact cR_10_2 H
theorem tK_2 {t : Nat} {A : Nat → Nat} {σ : AM} (HT : LT t A σ) : okO σ (A (t + 3)) 101 = true := by
  obtain ⟨H, rfl | rfl⟩ := HT
  · exact cK_6 H
  · exact cK_13 H
theorem tN_2 {t : Nat} {A : Nat → Nat} {σ : AM} (HT : LT t A σ) : aN σ (A (t + 3)) = 5 := by
  obtain ⟨H, rfl | rfl⟩ := HT
  · exact cN_6 H
  · exact cN_13 H
theorem tR_3 {t : Nat} {A : Nat → Nat} {σ : AM} (HT : LT t A σ) : aR σ (A t) 3 = A (t + 4) := by
  obtain ⟨H, rfl | rfl⟩ := HT
  · exact cR_3_3 H
  · exact cR_10_3 H
theorem tK_3 {t : Nat} {A : Nat → Nat} {σ : AM} (HT : LT t A σ) : okO σ (A (t + 4)) 101 = true := by
  obtain ⟨H, rfl | rfl⟩ := HT
  · exact cK_7 H
  · exact cK_14 H
theorem tN_3 {t : Nat} {A : Nat → Nat} {σ : AM} (HT : LT t A σ) : aN σ (A (t + 4)) = 5 := by
  obtain ⟨H, rfl | rfl⟩ := HT
  · exact cN_7 H
  · exact cN_14 H
theorem tR_4 {t : Nat} {A : Nat → Nat} {σ : AM} (HT : LT t A σ) : aR σ (A t) 4 = A (t + 5) := by
  obtain ⟨H, rfl | rfl⟩ := HT
  · exact cR_3_4 H
  · exact cR_10_4 H
theorem tK_4 {t : Nat} {A : Nat → Nat} {σ : AM} (HT : LT t A σ) : okO σ (A (t + 5)) 101 = true := by
  obtain ⟨H, rfl | rfl⟩ := HT
  · exact cK_8 H
  · exact cK_15 H
theorem tN_4 {t : Nat} {A : Nat → Nat} {σ : AM} (HT : LT t A σ) : aN σ (A (t + 5)) = 64 := by
  obtain ⟨H, rfl | rfl⟩ := HT
  · exact cN_8 H
  · exact cN_15 H
theorem tR_5 {t : Nat} {A : Nat → Nat} {σ : AM} (HT : LT t A σ) : aR σ (A t) 5 = A (t + 6) := by
  obtain ⟨H, rfl | rfl⟩ := HT
  · exact cR_3_5 H
  · exact cR_10_5 H
theorem tK_5 {t : Nat} {A : Nat → Nat} {σ : AM} (HT : LT t A σ) : okO σ (A (t + 6)) 101 = true := by
  obtain ⟨H, rfl | rfl⟩ := HT
  · exact cK_9 H
  · exact cK_16 H
theorem tN_5 {t : Nat} {A : Nat → Nat} {σ : AM} (HT : LT t A σ) : aN σ (A (t + 6)) = 32 := by
  obtain ⟨H, rfl | rfl⟩ := HT
  · exact cN_9 H
  · exact cN_16 H
