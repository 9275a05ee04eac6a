theorem cb_m100 : (Int8.ofInt (-100)).toInt32 = -100 := by decide
theorem cb_m2 : (Int8.ofInt (-2)).toInt32 = -2 := by decide
theorem cb_6 : (Int8.ofInt (6)).toInt32 = 6 := by decide
theorem cb_7 : (Int8.ofInt (7)).toInt32 = 7 := by decide
theorem cb_8 : (Int8.ofInt (8)).toInt32 = 8 := by decide
theorem cb_9 : (Int8.ofInt (9)).toInt32 = 9 := by decide
theorem cb_10 : (Int8.ofInt (10)).toInt32 = 10 := by decide
theorem cb_11 : (Int8.ofInt (11)).toInt32 = 11 := by decide
theorem cb_12 : (Int8.ofInt (12)).toInt32 = 12 := by decide
theorem cb_13 : (Int8.ofInt (13)).toInt32 = 13 := by decide
theorem cb_14 : (Int8.ofInt (14)).toInt32 = 14 := by decide
theorem cb_15 : (Int8.ofInt (15)).toInt32 = 15 := by decide
theorem cb_16 : (Int8.ofInt (16)).toInt32 = 16 := by decide
theorem cb_20 : (Int8.ofInt (20)).toInt32 = 20 := by decide
theorem cb_22 : (Int8.ofInt (22)).toInt32 = 22 := by decide
theorem cb_24 : (Int8.ofInt (24)).toInt32 = 24 := by decide
theorem cb_27 : (Int8.ofInt (27)).toInt32 = 27 := by decide
theorem cb_32 : (Int8.ofInt (32)).toInt32 = 32 := by decide
theorem cb_34 : (Int8.ofInt (34)).toInt32 = 34 := by decide
theorem cb_38 : (Int8.ofInt (38)).toInt32 = 38 := by decide
theorem cb_41 : (Int8.ofInt (41)).toInt32 = 41 := by decide
theorem cb_45 : (Int8.ofInt (45)).toInt32 = 45 := by decide
theorem cb_48 : (Int8.ofInt (48)).toInt32 = 48 := by decide
theorem cb_49 : (Int8.ofInt (49)).toInt32 = 49 := by decide
theorem cb_50 : (Int8.ofInt (50)).toInt32 = 50 := by decide
theorem cb_57 : (Int8.ofInt (57)).toInt32 = 57 := by decide
theorem cb_59 : (Int8.ofInt (59)).toInt32 = 59 := by decide
theorem cb_60 : (Int8.ofInt (60)).toInt32 = 60 := by decide
theorem cb_63 : (Int8.ofInt (63)).toInt32 = 63 := by decide
theorem cb_69 : (Int8.ofInt (69)).toInt32 = 69 := by decide
theorem cb_74 : (Int8.ofInt (74)).toInt32 = 74 := by decide
theorem cb_75 : (Int8.ofInt (75)).toInt32 = 75 := by decide
theorem cb_83 : (Int8.ofInt (83)).toInt32 = 83 := by decide
theorem cb_97 : (Int8.ofInt (97)).toInt32 = 97 := by decide
theorem cb_99 : (Int8.ofInt (99)).toInt32 = 99 := by decide
theorem cb_100 : (Int8.ofInt (100)).toInt32 = 100 := by decide
theorem cb_122 : (Int8.ofInt (122)).toInt32 = 122 := by decide
theorem ci_m8 : Int32.ofInt (-8) = -8 := by decide
theorem ci_m1 : Int32.ofInt (-1) = -1 := by decide
theorem ci_0 : Int32.ofInt (0) = 0 := by decide
theorem ci_1 : Int32.ofInt (1) = 1 := by decide
theorem ci_2 : Int32.ofInt (2) = 2 := by decide
theorem ci_3 : Int32.ofInt (3) = 3 := by decide
theorem ci_4 : Int32.ofInt (4) = 4 := by decide
theorem ci_5 : Int32.ofInt (5) = 5 := by decide
theorem cl_0 : Int64.ofNat ((0 : Fin 2) : Nat) = 0 := by decide
theorem cl_1 : Int64.ofNat ((1 : Fin 2) : Nat) = 1 := by decide
theorem cs_195 : (Int16.ofInt (195)).toInt32 = 195 := by decide
theorem cs_200 : (Int16.ofInt (200)).toInt32 = 200 := by decide
theorem cs_255 : (Int16.ofInt (255)).toInt32 = 255 := by decide
theorem cs_729 : (Int16.ofInt (729)).toInt32 = 729 := by decide
theorem cs_730 : (Int16.ofInt (730)).toInt32 = 730 := by decide
theorem cs_750 : (Int16.ofInt (750)).toInt32 = 750 := by decide
theorem cs_900 : (Int16.ofInt (900)).toInt32 = 900 := by decide
theorem ct_0 : (0 : Int32).toInt = 0 := by decide
theorem ct_1 : (1 : Int32).toInt = 1 := by decide
theorem ct_2 : (2 : Int32).toInt = 2 := by decide
theorem ct_3 : (3 : Int32).toInt = 3 := by decide
theorem ct_4 : (4 : Int32).toInt = 4 := by decide
theorem ct_5 : (5 : Int32).toInt = 5 := by decide
theorem ct_6 : (6 : Int32).toInt = 6 := by decide
theorem ct_7 : (7 : Int32).toInt = 7 := by decide
theorem ct_8 : (8 : Int32).toInt = 8 := by decide
theorem ct_9 : (9 : Int32).toInt = 9 := by decide
theorem ct_10 : (10 : Int32).toInt = 10 := by decide
theorem ct_11 : (11 : Int32).toInt = 11 := by decide
def FU : Nat := 2000
def FUR : Nat := 9
