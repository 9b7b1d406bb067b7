/-! the kinds of the system's objects, by program -/
def kHill : KD := (some (0, [0, 0, 0, 0, 0, 1, 1, 1, 0, 0, 1, 0, 1, 1, 1, 1, 0, 1]), [(5, 0, 10), (6, 0, 10), (7, 0, 10), (10, 0, 6), (12, 0, 4), (13, 0, 4), (14, 0, 4), (15, 0, 4), (17, 0, 8)])
theorem ukHill_5 : ∀ b ∈ kHill.2, b.1 = 5 → b = (5, 0, 10) := by decide +kernel
theorem ukHill_6 : ∀ b ∈ kHill.2, b.1 = 6 → b = (6, 0, 10) := by decide +kernel
theorem ukHill_7 : ∀ b ∈ kHill.2, b.1 = 7 → b = (7, 0, 10) := by decide +kernel
theorem ukHill_10 : ∀ b ∈ kHill.2, b.1 = 10 → b = (10, 0, 6) := by decide +kernel
theorem ukHill_12 : ∀ b ∈ kHill.2, b.1 = 12 → b = (12, 0, 4) := by decide +kernel
theorem ukHill_13 : ∀ b ∈ kHill.2, b.1 = 13 → b = (13, 0, 4) := by decide +kernel
theorem ukHill_14 : ∀ b ∈ kHill.2, b.1 = 14 → b = (14, 0, 4) := by decide +kernel
theorem ukHill_15 : ∀ b ∈ kHill.2, b.1 = 15 → b = (15, 0, 4) := by decide +kernel
theorem ukHill_17 : ∀ b ∈ kHill.2, b.1 = 17 → b = (17, 0, 8) := by decide +kernel
def kHillReader : KD := (some (1, [1]), [])
theorem nkHillReader_0 : ∀ b ∈ kHillReader.2, ¬ b.1 = 0 := by decide +kernel
def kReader : KD := (some (2, [1, 0, 0, 0]), [])
theorem nkReader_0 : ∀ b ∈ kReader.2, ¬ b.1 = 0 := by decide +kernel
def kRule : KD := (some (3, [1, 0, 1, 1, 0, 1]), [(0, 0, 400), (2, 0, 13), (3, 0, 12), (5, 3, 64)])
theorem ukRule_0 : ∀ b ∈ kRule.2, b.1 = 0 → b = (0, 0, 400) := by decide +kernel
theorem ukRule_2 : ∀ b ∈ kRule.2, b.1 = 2 → b = (2, 0, 13) := by decide +kernel
theorem ukRule_3 : ∀ b ∈ kRule.2, b.1 = 3 → b = (3, 0, 12) := by decide +kernel
theorem ukRule_5 : ∀ b ∈ kRule.2, b.1 = 5 → b = (5, 3, 64) := by decide +kernel
def kRuleReader : KD := (some (4, [1, 1, 0]), [])
theorem nkRuleReader_0 : ∀ b ∈ kRuleReader.2, ¬ b.1 = 0 := by decide +kernel
theorem nkRuleReader_1 : ∀ b ∈ kRuleReader.2, ¬ b.1 = 1 := by decide +kernel
def kScene : KD := (some (5, [1, 0, 0, 1, 1, 0, 0, 0, 1, 1]), [(4, 4, 20), (8, 0, 10), (9, 0, 10)])
theorem ukScene_4 : ∀ b ∈ kScene.2, b.1 = 4 → b = (4, 4, 20) := by decide +kernel
theorem ukScene_8 : ∀ b ∈ kScene.2, b.1 = 8 → b = (8, 0, 10) := by decide +kernel
theorem ukScene_9 : ∀ b ∈ kScene.2, b.1 = 9 → b = (9, 0, 10) := by decide +kernel
theorem nkScene_0 : ∀ b ∈ kScene.2, ¬ b.1 = 0 := by decide +kernel
theorem nkScene_3 : ∀ b ∈ kScene.2, ¬ b.1 = 3 := by decide +kernel
def kState : KD := (some (6, [0, 0, 0, 1, 1, 1, 1, 1, 1]), [(3, 0, 10), (4, 0, 6), (5, 0, 4), (6, 0, 4), (7, 0, 4), (8, 0, 4)])
theorem ukState_3 : ∀ b ∈ kState.2, b.1 = 3 → b = (3, 0, 10) := by decide +kernel
theorem ukState_4 : ∀ b ∈ kState.2, b.1 = 4 → b = (4, 0, 6) := by decide +kernel
theorem ukState_5 : ∀ b ∈ kState.2, b.1 = 5 → b = (5, 0, 4) := by decide +kernel
theorem ukState_6 : ∀ b ∈ kState.2, b.1 = 6 → b = (6, 0, 4) := by decide +kernel
theorem ukState_7 : ∀ b ∈ kState.2, b.1 = 7 → b = (7, 0, 4) := by decide +kernel
theorem ukState_8 : ∀ b ∈ kState.2, b.1 = 8 → b = (8, 0, 4) := by decide +kernel
def kWalk : KD := (some (7, [1, 1, 1, 0, 0, 0]), [(0, 3, 14), (1, 3, 10), (2, 0, 10)])
theorem ukWalk_0 : ∀ b ∈ kWalk.2, b.1 = 0 → b = (0, 3, 14) := by decide +kernel
theorem ukWalk_1 : ∀ b ∈ kWalk.2, b.1 = 1 → b = (1, 3, 10) := by decide +kernel
theorem ukWalk_2 : ∀ b ∈ kWalk.2, b.1 = 2 → b = (2, 0, 10) := by decide +kernel
def kTin : KD := (some (8, [1, 0, 1, 1, 1, 0, 1, 1, 1, 1, 1, 1]), [(0, 0, 400), (4, 6, 6), (7, 5, 4), (10, 7, 7), (11, 0, 10), (100, 0, 4), (101, 0, 4), (102, 0, 4), (103, 0, 4), (104, 0, 4), (105, 0, 4), (106, 0, 4)])
theorem ukTin_0 : ∀ b ∈ kTin.2, b.1 = 0 → b = (0, 0, 400) := by decide +kernel
theorem ukTin_4 : ∀ b ∈ kTin.2, b.1 = 4 → b = (4, 6, 6) := by decide +kernel
theorem ukTin_7 : ∀ b ∈ kTin.2, b.1 = 7 → b = (7, 5, 4) := by decide +kernel
theorem ukTin_10 : ∀ b ∈ kTin.2, b.1 = 10 → b = (10, 7, 7) := by decide +kernel
theorem ukTin_11 : ∀ b ∈ kTin.2, b.1 = 11 → b = (11, 0, 10) := by decide +kernel
theorem ukTin_100 : ∀ b ∈ kTin.2, b.1 = 100 → b = (100, 0, 4) := by decide +kernel
theorem ukTin_101 : ∀ b ∈ kTin.2, b.1 = 101 → b = (101, 0, 4) := by decide +kernel
theorem ukTin_102 : ∀ b ∈ kTin.2, b.1 = 102 → b = (102, 0, 4) := by decide +kernel
theorem ukTin_103 : ∀ b ∈ kTin.2, b.1 = 103 → b = (103, 0, 4) := by decide +kernel
theorem ukTin_104 : ∀ b ∈ kTin.2, b.1 = 104 → b = (104, 0, 4) := by decide +kernel
theorem ukTin_105 : ∀ b ∈ kTin.2, b.1 = 105 → b = (105, 0, 4) := by decide +kernel
theorem ukTin_106 : ∀ b ∈ kTin.2, b.1 = 106 → b = (106, 0, 4) := by decide +kernel
theorem nkTin_2 : ∀ b ∈ kTin.2, ¬ b.1 = 2 := by decide +kernel
theorem nkTin_3 : ∀ b ∈ kTin.2, ¬ b.1 = 3 := by decide +kernel
theorem nkTin_6 : ∀ b ∈ kTin.2, ¬ b.1 = 6 := by decide +kernel
theorem nkTin_8 : ∀ b ∈ kTin.2, ¬ b.1 = 8 := by decide +kernel
theorem nkTin_9 : ∀ b ∈ kTin.2, ¬ b.1 = 9 := by decide +kernel
def kModel : KD := (some (9, [0, 1, 1, 1, 1, 1, 1, 1, 1, 1, 1, 1, 1, 1, 1, 1, 1, 1, 1, 1, 1, 1, 1, 1, 1, 1, 1, 1, 1, 1, 0, 0, 0, 0, 0, 0, 0, 0, 0, 0, 1, 1, 1, 1, 1, 1, 1, 1, 1, 1, 0, 1, 1, 0, 0, 1, 1, 0, 0, 0, 1, 1, 1, 1, 1, 0, 0]), [(1, 0, 12), (2, 0, 10), (3, 0, 10), (4, 0, 10), (5, 0, 10), (6, 0, 6), (7, 0, 4), (8, 0, 4), (9, 0, 4), (10, 0, 4), (11, 0, 4), (12, 0, 4), (13, 0, 4), (14, 0, 8), (15, 0, 10), (16, 0, 10), (17, 0, 6), (18, 0, 4), (19, 0, 2), (20, 0, 8), (21, 0, 10), (22, 0, 10), (23, 0, 10), (24, 0, 6), (25, 0, 4), (26, 0, 4), (27, 0, 4), (28, 0, 4), (29, 0, 8), (40, 1, 400), (41, 0, 1800), (42, 0, 1800), (43, 0, 6), (44, 0, 72), (45, 0, 72), (46, 0, 72), (47, 0, 402), (48, 3, 14), (49, 3, 300), (51, 0, 10), (52, 3, 10), (55, 0, 700), (56, 0, 1), (60, 0, 10), (61, 0, 4), (62, 0, 248), (63, 0, 4750), (64, 2, 4)])
theorem ukModel_1 : ∀ b ∈ kModel.2, b.1 = 1 → b = (1, 0, 12) := by decide +kernel
theorem ukModel_2 : ∀ b ∈ kModel.2, b.1 = 2 → b = (2, 0, 10) := by decide +kernel
theorem ukModel_3 : ∀ b ∈ kModel.2, b.1 = 3 → b = (3, 0, 10) := by decide +kernel
theorem ukModel_4 : ∀ b ∈ kModel.2, b.1 = 4 → b = (4, 0, 10) := by decide +kernel
theorem ukModel_5 : ∀ b ∈ kModel.2, b.1 = 5 → b = (5, 0, 10) := by decide +kernel
theorem ukModel_6 : ∀ b ∈ kModel.2, b.1 = 6 → b = (6, 0, 6) := by decide +kernel
theorem ukModel_7 : ∀ b ∈ kModel.2, b.1 = 7 → b = (7, 0, 4) := by decide +kernel
theorem ukModel_8 : ∀ b ∈ kModel.2, b.1 = 8 → b = (8, 0, 4) := by decide +kernel
theorem ukModel_9 : ∀ b ∈ kModel.2, b.1 = 9 → b = (9, 0, 4) := by decide +kernel
theorem ukModel_10 : ∀ b ∈ kModel.2, b.1 = 10 → b = (10, 0, 4) := by decide +kernel
theorem ukModel_11 : ∀ b ∈ kModel.2, b.1 = 11 → b = (11, 0, 4) := by decide +kernel
theorem ukModel_12 : ∀ b ∈ kModel.2, b.1 = 12 → b = (12, 0, 4) := by decide +kernel
theorem ukModel_13 : ∀ b ∈ kModel.2, b.1 = 13 → b = (13, 0, 4) := by decide +kernel
theorem ukModel_14 : ∀ b ∈ kModel.2, b.1 = 14 → b = (14, 0, 8) := by decide +kernel
theorem ukModel_15 : ∀ b ∈ kModel.2, b.1 = 15 → b = (15, 0, 10) := by decide +kernel
theorem ukModel_16 : ∀ b ∈ kModel.2, b.1 = 16 → b = (16, 0, 10) := by decide +kernel
theorem ukModel_17 : ∀ b ∈ kModel.2, b.1 = 17 → b = (17, 0, 6) := by decide +kernel
theorem ukModel_18 : ∀ b ∈ kModel.2, b.1 = 18 → b = (18, 0, 4) := by decide +kernel
theorem ukModel_19 : ∀ b ∈ kModel.2, b.1 = 19 → b = (19, 0, 2) := by decide +kernel
theorem ukModel_20 : ∀ b ∈ kModel.2, b.1 = 20 → b = (20, 0, 8) := by decide +kernel
theorem ukModel_21 : ∀ b ∈ kModel.2, b.1 = 21 → b = (21, 0, 10) := by decide +kernel
theorem ukModel_22 : ∀ b ∈ kModel.2, b.1 = 22 → b = (22, 0, 10) := by decide +kernel
theorem ukModel_23 : ∀ b ∈ kModel.2, b.1 = 23 → b = (23, 0, 10) := by decide +kernel
theorem ukModel_24 : ∀ b ∈ kModel.2, b.1 = 24 → b = (24, 0, 6) := by decide +kernel
theorem ukModel_25 : ∀ b ∈ kModel.2, b.1 = 25 → b = (25, 0, 4) := by decide +kernel
theorem ukModel_26 : ∀ b ∈ kModel.2, b.1 = 26 → b = (26, 0, 4) := by decide +kernel
theorem ukModel_27 : ∀ b ∈ kModel.2, b.1 = 27 → b = (27, 0, 4) := by decide +kernel
theorem ukModel_28 : ∀ b ∈ kModel.2, b.1 = 28 → b = (28, 0, 4) := by decide +kernel
theorem ukModel_29 : ∀ b ∈ kModel.2, b.1 = 29 → b = (29, 0, 8) := by decide +kernel
theorem ukModel_40 : ∀ b ∈ kModel.2, b.1 = 40 → b = (40, 1, 400) := by decide +kernel
theorem ukModel_41 : ∀ b ∈ kModel.2, b.1 = 41 → b = (41, 0, 1800) := by decide +kernel
theorem ukModel_42 : ∀ b ∈ kModel.2, b.1 = 42 → b = (42, 0, 1800) := by decide +kernel
theorem ukModel_43 : ∀ b ∈ kModel.2, b.1 = 43 → b = (43, 0, 6) := by decide +kernel
theorem ukModel_44 : ∀ b ∈ kModel.2, b.1 = 44 → b = (44, 0, 72) := by decide +kernel
theorem ukModel_45 : ∀ b ∈ kModel.2, b.1 = 45 → b = (45, 0, 72) := by decide +kernel
theorem ukModel_46 : ∀ b ∈ kModel.2, b.1 = 46 → b = (46, 0, 72) := by decide +kernel
theorem ukModel_47 : ∀ b ∈ kModel.2, b.1 = 47 → b = (47, 0, 402) := by decide +kernel
theorem ukModel_48 : ∀ b ∈ kModel.2, b.1 = 48 → b = (48, 3, 14) := by decide +kernel
theorem ukModel_49 : ∀ b ∈ kModel.2, b.1 = 49 → b = (49, 3, 300) := by decide +kernel
theorem ukModel_51 : ∀ b ∈ kModel.2, b.1 = 51 → b = (51, 0, 10) := by decide +kernel
theorem ukModel_52 : ∀ b ∈ kModel.2, b.1 = 52 → b = (52, 3, 10) := by decide +kernel
theorem ukModel_55 : ∀ b ∈ kModel.2, b.1 = 55 → b = (55, 0, 700) := by decide +kernel
theorem ukModel_56 : ∀ b ∈ kModel.2, b.1 = 56 → b = (56, 0, 1) := by decide +kernel
theorem ukModel_60 : ∀ b ∈ kModel.2, b.1 = 60 → b = (60, 0, 10) := by decide +kernel
theorem ukModel_61 : ∀ b ∈ kModel.2, b.1 = 61 → b = (61, 0, 4) := by decide +kernel
theorem ukModel_62 : ∀ b ∈ kModel.2, b.1 = 62 → b = (62, 0, 248) := by decide +kernel
theorem ukModel_63 : ∀ b ∈ kModel.2, b.1 = 63 → b = (63, 0, 4750) := by decide +kernel
theorem ukModel_64 : ∀ b ∈ kModel.2, b.1 = 64 → b = (64, 2, 4) := by decide +kernel
