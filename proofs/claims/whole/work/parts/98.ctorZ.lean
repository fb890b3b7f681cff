/-! the constructor of m, traced -/
def KM0 (B : Mem) : Mem := B
theorem KMs_0 (B : Mem) : sh (KM0 B) = sh B ++ (shT.drop 78).take 0 := (List.append_nil _).symm
def KM1 (B : Mem) : Mem := nwL (KM0 B) 78 11 56
theorem KMs_1 (B : Mem) : sh (KM1 B) = sh B ++ (shT.drop 78).take 1 := sh_st (KMs_0 B) (by decide +kernel)
def KM2 (B : Mem) : Mem := nwL (KM1 B) 79 100 6
theorem KMs_2 (B : Mem) : sh (KM2 B) = sh B ++ (shT.drop 78).take 2 := sh_st (KMs_1 B) (by decide +kernel)
def KM3 (B : Mem) : Mem := wr (KM2 B) 78 1 (some 79)
theorem KMs_3 (B : Mem) : sh (KM3 B) = sh B ++ (shT.drop 78).take 2 := (sh_wr _ _ _ _).trans (KMs_2 B)
def KM4 (B : Mem) : Mem := nwL (KM3 B) 80 100 6
theorem KMs_4 (B : Mem) : sh (KM4 B) = sh B ++ (shT.drop 78).take 3 := sh_st (KMs_3 B) (by decide +kernel)
def KM5 (B : Mem) : Mem := wr (KM4 B) 78 2 (some 80)
theorem KMs_5 (B : Mem) : sh (KM5 B) = sh B ++ (shT.drop 78).take 3 := (sh_wr _ _ _ _).trans (KMs_4 B)
def KM6 (B : Mem) : Mem := nwL (KM5 B) 81 100 6
theorem KMs_6 (B : Mem) : sh (KM6 B) = sh B ++ (shT.drop 78).take 4 := sh_st (KMs_5 B) (by decide +kernel)
def KM7 (B : Mem) : Mem := wr (KM6 B) 78 3 (some 81)
theorem KMs_7 (B : Mem) : sh (KM7 B) = sh B ++ (shT.drop 78).take 4 := (sh_wr _ _ _ _).trans (KMs_6 B)
def KM8 (B : Mem) : Mem := nwL (KM7 B) 82 100 6
theorem KMs_8 (B : Mem) : sh (KM8 B) = sh B ++ (shT.drop 78).take 5 := sh_st (KMs_7 B) (by decide +kernel)
def KM9 (B : Mem) : Mem := wr (KM8 B) 78 4 (some 82)
theorem KMs_9 (B : Mem) : sh (KM9 B) = sh B ++ (shT.drop 78).take 5 := (sh_wr _ _ _ _).trans (KMs_8 B)
def KM10 (B : Mem) : Mem := nwL (KM9 B) 83 100 36
theorem KMs_10 (B : Mem) : sh (KM10 B) = sh B ++ (shT.drop 78).take 6 := sh_st (KMs_9 B) (by decide +kernel)
def KM11 (B : Mem) : Mem := wr (KM10 B) 78 5 (some 83)
theorem KMs_11 (B : Mem) : sh (KM11 B) = sh B ++ (shT.drop 78).take 6 := (sh_wr _ _ _ _).trans (KMs_10 B)
def KM12 (B : Mem) : Mem := wi (KM11 B) 78 6 (nI 6)
theorem KMs_12 (B : Mem) : sh (KM12 B) = sh B ++ (shT.drop 78).take 6 := (sh_wi _ _ _ _).trans (KMs_11 B)
def KM13 (B : Mem) : Mem := nwL (KM12 B) 84 100 10
theorem KMs_13 (B : Mem) : sh (KM13 B) = sh B ++ (shT.drop 78).take 7 := sh_st (KMs_12 B) (by decide +kernel)
def KM14 (B : Mem) : Mem := wr (KM13 B) 78 8 (some 84)
theorem KMs_14 (B : Mem) : sh (KM14 B) = sh B ++ (shT.drop 78).take 7 := (sh_wr _ _ _ _).trans (KMs_13 B)
def KM15 (B : Mem) : Mem := nwL (KM14 B) 85 100 10
theorem KMs_15 (B : Mem) : sh (KM15 B) = sh B ++ (shT.drop 78).take 8 := sh_st (KMs_14 B) (by decide +kernel)
def KM16 (B : Mem) : Mem := wr (KM15 B) 78 9 (some 85)
theorem KMs_16 (B : Mem) : sh (KM16 B) = sh B ++ (shT.drop 78).take 8 := (sh_wr _ _ _ _).trans (KMs_15 B)
def KM17 (B : Mem) : Mem := nwL (KM16 B) 86 100 160
theorem KMs_17 (B : Mem) : sh (KM17 B) = sh B ++ (shT.drop 78).take 9 := sh_st (KMs_16 B) (by decide +kernel)
def KM18 (B : Mem) : Mem := wr (KM17 B) 78 10 (some 86)
theorem KMs_18 (B : Mem) : sh (KM18 B) = sh B ++ (shT.drop 78).take 9 := (sh_wr _ _ _ _).trans (KMs_17 B)
def KM19 (B : Mem) : Mem := nwL (KM18 B) 87 100 1200
theorem KMs_19 (B : Mem) : sh (KM19 B) = sh B ++ (shT.drop 78).take 10 := sh_st (KMs_18 B) (by decide +kernel)
def KM20 (B : Mem) : Mem := wr (KM19 B) 78 12 (some 87)
theorem KMs_20 (B : Mem) : sh (KM20 B) = sh B ++ (shT.drop 78).take 10 := (sh_wr _ _ _ _).trans (KMs_19 B)
def KM21 (B : Mem) : Mem := nwL (KM20 B) 88 100 24
theorem KMs_21 (B : Mem) : sh (KM21 B) = sh B ++ (shT.drop 78).take 11 := sh_st (KMs_20 B) (by decide +kernel)
def KM22 (B : Mem) : Mem := wr (KM21 B) 78 13 (some 88)
theorem KMs_22 (B : Mem) : sh (KM22 B) = sh B ++ (shT.drop 78).take 11 := (sh_wr _ _ _ _).trans (KMs_21 B)
def KM23 (B : Mem) : Mem := wi (KM22 B) 78 14 (nI 1)
theorem KMs_23 (B : Mem) : sh (KM23 B) = sh B ++ (shT.drop 78).take 11 := (sh_wi _ _ _ _).trans (KMs_22 B)
def KM24 (B : Mem) : Mem := nwL (KM23 B) 89 100 12
theorem KMs_24 (B : Mem) : sh (KM24 B) = sh B ++ (shT.drop 78).take 12 := sh_st (KMs_23 B) (by decide +kernel)
def KM25 (B : Mem) : Mem := wr (KM24 B) 78 17 (some 89)
theorem KMs_25 (B : Mem) : sh (KM25 B) = sh B ++ (shT.drop 78).take 12 := (sh_wr _ _ _ _).trans (KMs_24 B)
def KM26 (B : Mem) : Mem := nwL (KM25 B) 90 100 12
theorem KMs_26 (B : Mem) : sh (KM26 B) = sh B ++ (shT.drop 78).take 13 := sh_st (KMs_25 B) (by decide +kernel)
def KM27 (B : Mem) : Mem := wr (KM26 B) 78 18 (some 90)
theorem KMs_27 (B : Mem) : sh (KM27 B) = sh B ++ (shT.drop 78).take 13 := (sh_wr _ _ _ _).trans (KMs_26 B)
def KM28 (B : Mem) : Mem := nwL (KM27 B) 91 100 72
theorem KMs_28 (B : Mem) : sh (KM28 B) = sh B ++ (shT.drop 78).take 14 := sh_st (KMs_27 B) (by decide +kernel)
def KM29 (B : Mem) : Mem := wr (KM28 B) 78 19 (some 91)
theorem KMs_29 (B : Mem) : sh (KM29 B) = sh B ++ (shT.drop 78).take 14 := (sh_wr _ _ _ _).trans (KMs_28 B)
def KM30 (B : Mem) : Mem := nwL (KM29 B) 92 100 6
theorem KMs_30 (B : Mem) : sh (KM30 B) = sh B ++ (shT.drop 78).take 15 := sh_st (KMs_29 B) (by decide +kernel)
def KM31 (B : Mem) : Mem := wr (KM30 B) 78 22 (some 92)
theorem KMs_31 (B : Mem) : sh (KM31 B) = sh B ++ (shT.drop 78).take 15 := (sh_wr _ _ _ _).trans (KMs_30 B)
def KM32 (B : Mem) : Mem := nwL (KM31 B) 93 100 7
theorem KMs_32 (B : Mem) : sh (KM32 B) = sh B ++ (shT.drop 78).take 16 := sh_st (KMs_31 B) (by decide +kernel)
def KM33 (B : Mem) : Mem := wr (KM32 B) 78 24 (some 93)
theorem KMs_33 (B : Mem) : sh (KM33 B) = sh B ++ (shT.drop 78).take 16 := (sh_wr _ _ _ _).trans (KMs_32 B)
def KM34 (B : Mem) : Mem := nwL (KM33 B) 94 100 6
theorem KMs_34 (B : Mem) : sh (KM34 B) = sh B ++ (shT.drop 78).take 17 := sh_st (KMs_33 B) (by decide +kernel)
def KM35 (B : Mem) : Mem := wr (KM34 B) 78 30 (some 94)
theorem KMs_35 (B : Mem) : sh (KM35 B) = sh B ++ (shT.drop 78).take 17 := (sh_wr _ _ _ _).trans (KMs_34 B)
def KM36 (B : Mem) : Mem := nwL (KM35 B) 95 100 6
theorem KMs_36 (B : Mem) : sh (KM36 B) = sh B ++ (shT.drop 78).take 18 := sh_st (KMs_35 B) (by decide +kernel)
def KM37 (B : Mem) : Mem := wr (KM36 B) 78 31 (some 95)
theorem KMs_37 (B : Mem) : sh (KM37 B) = sh B ++ (shT.drop 78).take 18 := (sh_wr _ _ _ _).trans (KMs_36 B)
def KM38 (B : Mem) : Mem := nwL (KM37 B) 96 100 6
theorem KMs_38 (B : Mem) : sh (KM38 B) = sh B ++ (shT.drop 78).take 19 := sh_st (KMs_37 B) (by decide +kernel)
def KM39 (B : Mem) : Mem := wr (KM38 B) 78 32 (some 96)
theorem KMs_39 (B : Mem) : sh (KM39 B) = sh B ++ (shT.drop 78).take 19 := (sh_wr _ _ _ _).trans (KMs_38 B)
def KM40 (B : Mem) : Mem := nwL (KM39 B) 97 100 36
theorem KMs_40 (B : Mem) : sh (KM40 B) = sh B ++ (shT.drop 78).take 20 := sh_st (KMs_39 B) (by decide +kernel)
def KM41 (B : Mem) : Mem := wr (KM40 B) 78 33 (some 97)
theorem KMs_41 (B : Mem) : sh (KM41 B) = sh B ++ (shT.drop 78).take 20 := (sh_wr _ _ _ _).trans (KMs_40 B)
def KM42 (B : Mem) : Mem := nwL (KM41 B) 98 100 10
theorem KMs_42 (B : Mem) : sh (KM42 B) = sh B ++ (shT.drop 78).take 21 := sh_st (KMs_41 B) (by decide +kernel)
def KM43 (B : Mem) : Mem := wr (KM42 B) 78 34 (some 98)
theorem KMs_43 (B : Mem) : sh (KM43 B) = sh B ++ (shT.drop 78).take 21 := (sh_wr _ _ _ _).trans (KMs_42 B)
def KM44 (B : Mem) : Mem := nwL (KM43 B) 99 100 10
theorem KMs_44 (B : Mem) : sh (KM44 B) = sh B ++ (shT.drop 78).take 22 := sh_st (KMs_43 B) (by decide +kernel)
def KM45 (B : Mem) : Mem := wr (KM44 B) 78 35 (some 99)
theorem KMs_45 (B : Mem) : sh (KM45 B) = sh B ++ (shT.drop 78).take 22 := (sh_wr _ _ _ _).trans (KMs_44 B)
def KM46 (B : Mem) : Mem := nwL (KM45 B) 100 100 4
theorem KMs_46 (B : Mem) : sh (KM46 B) = sh B ++ (shT.drop 78).take 23 := sh_st (KMs_45 B) (by decide +kernel)
def KM47 (B : Mem) : Mem := wi (KM46 B) 100 0 (-1)
theorem KMs_47 (B : Mem) : sh (KM47 B) = sh B ++ (shT.drop 78).take 23 := (sh_wi _ _ _ _).trans (KMs_46 B)
def KM48 (B : Mem) : Mem := wi (KM47 B) 100 1 (-1)
theorem KMs_48 (B : Mem) : sh (KM48 B) = sh B ++ (shT.drop 78).take 23 := (sh_wi _ _ _ _).trans (KMs_47 B)
def KM49 (B : Mem) : Mem := wi (KM48 B) 100 2 (-1)
theorem KMs_49 (B : Mem) : sh (KM49 B) = sh B ++ (shT.drop 78).take 23 := (sh_wi _ _ _ _).trans (KMs_48 B)
def KM50 (B : Mem) : Mem := wi (KM49 B) 100 3 (-1)
theorem KMs_50 (B : Mem) : sh (KM50 B) = sh B ++ (shT.drop 78).take 23 := (sh_wi _ _ _ _).trans (KMs_49 B)
def KM51 (B : Mem) : Mem := wr (KM50 B) 78 36 (some 100)
theorem KMs_51 (B : Mem) : sh (KM51 B) = sh B ++ (shT.drop 78).take 23 := (sh_wr _ _ _ _).trans (KMs_50 B)
def KM52 (B : Mem) : Mem := nwL (KM51 B) 101 100 4
theorem KMs_52 (B : Mem) : sh (KM52 B) = sh B ++ (shT.drop 78).take 24 := sh_st (KMs_51 B) (by decide +kernel)
def KM53 (B : Mem) : Mem := wr (KM52 B) 78 37 (some 101)
theorem KMs_53 (B : Mem) : sh (KM53 B) = sh B ++ (shT.drop 78).take 24 := (sh_wr _ _ _ _).trans (KMs_52 B)
def KM54 (B : Mem) : Mem := nwL (KM53 B) 102 100 160
theorem KMs_54 (B : Mem) : sh (KM54 B) = sh B ++ (shT.drop 78).take 25 := sh_st (KMs_53 B) (by decide +kernel)
def KM55 (B : Mem) : Mem := wr (KM54 B) 78 38 (some 102)
theorem KMs_55 (B : Mem) : sh (KM55 B) = sh B ++ (shT.drop 78).take 25 := (sh_wr _ _ _ _).trans (KMs_54 B)
def KM56 (B : Mem) : Mem := nwL (KM55 B) 103 100 36
theorem KMs_56 (B : Mem) : sh (KM56 B) = sh B ++ (shT.drop 78).take 26 := sh_st (KMs_55 B) (by decide +kernel)
def KM57 (B : Mem) : Mem := wr (KM56 B) 78 39 (some 103)
theorem KMs_57 (B : Mem) : sh (KM57 B) = sh B ++ (shT.drop 78).take 26 := (sh_wr _ _ _ _).trans (KMs_56 B)
def KM58 (B : Mem) : Mem := nwL (KM57 B) 104 102 11
theorem KMs_58 (B : Mem) : sh (KM58 B) = sh B ++ (shT.drop 78).take 27 := sh_st (KMs_57 B) (by decide +kernel)
def KM59 (B : Mem) : Mem := wl (KM58 B) 104 0 (1852137842)
theorem KMs_59 (B : Mem) : sh (KM59 B) = sh B ++ (shT.drop 78).take 27 := (sh_wl _ _ _ _).trans (KMs_58 B)
def KM60 (B : Mem) : Mem := wl (KM59 B) 104 1 (512970880104)
theorem KMs_60 (B : Mem) : sh (KM60 B) = sh B ++ (shT.drop 78).take 27 := (sh_wl _ _ _ _).trans (KMs_59 B)
def KM61 (B : Mem) : Mem := wl (KM60 B) 104 2 (448546566771)
theorem KMs_61 (B : Mem) : sh (KM61 B) = sh B ++ (shT.drop 78).take 27 := (sh_wl _ _ _ _).trans (KMs_60 B)
def KM62 (B : Mem) : Mem := wl (KM61 B) 104 3 (1936292453)
theorem KMs_62 (B : Mem) : sh (KM62 B) = sh B ++ (shT.drop 78).take 27 := (sh_wl _ _ _ _).trans (KMs_61 B)
def KM63 (B : Mem) : Mem := wl (KM62 B) 104 4 (478694368626)
theorem KMs_63 (B : Mem) : sh (KM63 B) = sh B ++ (shT.drop 78).take 27 := (sh_wl _ _ _ _).trans (KMs_62 B)
def KM64 (B : Mem) : Mem := wl (KM63 B) 104 5 (6578553)
theorem KMs_64 (B : Mem) : sh (KM64 B) = sh B ++ (shT.drop 78).take 27 := (sh_wl _ _ _ _).trans (KMs_63 B)
def KM65 (B : Mem) : Mem := wl (KM64 B) 104 6 (2002873972)
theorem KMs_65 (B : Mem) : sh (KM65 B) = sh B ++ (shT.drop 78).take 27 := (sh_wl _ _ _ _).trans (KMs_64 B)
def KM66 (B : Mem) : Mem := wl (KM65 B) 104 7 (2003133803)
theorem KMs_66 (B : Mem) : sh (KM66 B) = sh B ++ (shT.drop 78).take 27 := (sh_wl _ _ _ _).trans (KMs_65 B)
def KM67 (B : Mem) : Mem := wl (KM66 B) 104 8 (28530)
theorem KMs_67 (B : Mem) : sh (KM67 B) = sh B ++ (shT.drop 78).take 27 := (sh_wl _ _ _ _).trans (KMs_66 B)
def KM68 (B : Mem) : Mem := wl (KM67 B) 104 9 (6385252)
theorem KMs_68 (B : Mem) : sh (KM68 B) = sh B ++ (shT.drop 78).take 27 := (sh_wl _ _ _ _).trans (KMs_67 B)
def KM69 (B : Mem) : Mem := wl (KM68 B) 104 10 (7237492)
theorem KMs_69 (B : Mem) : sh (KM69 B) = sh B ++ (shT.drop 78).take 27 := (sh_wl _ _ _ _).trans (KMs_68 B)
def KM70 (B : Mem) : Mem := wr (KM69 B) 78 44 (some 104)
theorem KMs_70 (B : Mem) : sh (KM70 B) = sh B ++ (shT.drop 78).take 27 := (sh_wr _ _ _ _).trans (KMs_69 B)
def KM71 (B : Mem) : Mem := nwL (KM70 B) 105 100 200
theorem KMs_71 (B : Mem) : sh (KM71 B) = sh B ++ (shT.drop 78).take 28 := sh_st (KMs_70 B) (by decide +kernel)
def KM72 (B : Mem) : Mem := wr (KM71 B) 78 45 (some 105)
theorem KMs_72 (B : Mem) : sh (KM72 B) = sh B ++ (shT.drop 78).take 28 := (sh_wr _ _ _ _).trans (KMs_71 B)
def KM73 (B : Mem) : Mem := nwL (KM72 B) 106 100 200
theorem KMs_73 (B : Mem) : sh (KM73 B) = sh B ++ (shT.drop 78).take 29 := sh_st (KMs_72 B) (by decide +kernel)
def KM74 (B : Mem) : Mem := wr (KM73 B) 78 49 (some 106)
theorem KMs_74 (B : Mem) : sh (KM74 B) = sh B ++ (shT.drop 78).take 29 := (sh_wr _ _ _ _).trans (KMs_73 B)
def KM75 (B : Mem) : Mem := nwL (KM74 B) 107 100 6
theorem KMs_75 (B : Mem) : sh (KM75 B) = sh B ++ (shT.drop 78).take 30 := sh_st (KMs_74 B) (by decide +kernel)
def KM76 (B : Mem) : Mem := wr (KM75 B) 78 50 (some 107)
theorem KMs_76 (B : Mem) : sh (KM76 B) = sh B ++ (shT.drop 78).take 30 := (sh_wr _ _ _ _).trans (KMs_75 B)
def KM77 (B : Mem) : Mem := nwL (KM76 B) 108 101 36
theorem KMs_77 (B : Mem) : sh (KM77 B) = sh B ++ (shT.drop 78).take 31 := sh_st (KMs_76 B) (by decide +kernel)
def KM78 (B : Mem) : Mem := wr (KM77 B) 78 51 (some 108)
theorem KMs_78 (B : Mem) : sh (KM78 B) = sh B ++ (shT.drop 78).take 31 := (sh_wr _ _ _ _).trans (KMs_77 B)
def KM79 (B : Mem) : Mem := nwL (KM78 B) 109 100 6
theorem KMs_79 (B : Mem) : sh (KM79 B) = sh B ++ (shT.drop 78).take 32 := sh_st (KMs_78 B) (by decide +kernel)
def KM80 (B : Mem) : Mem := wr (KM79 B) 78 52 (some 109)
theorem KMs_80 (B : Mem) : sh (KM80 B) = sh B ++ (shT.drop 78).take 32 := (sh_wr _ _ _ _).trans (KMs_79 B)
def KM81 (B : Mem) : Mem := nwL (KM80 B) 110 100 29400
theorem KMs_81 (B : Mem) : sh (KM81 B) = sh B ++ (shT.drop 78).take 33 := sh_st (KMs_80 B) (by decide +kernel)
def KM82 (B : Mem) : Mem := wr (KM81 B) 78 53 (some 110)
theorem KMs_82 (B : Mem) : sh (KM82 B) = sh B ++ (shT.drop 78).take 33 := (sh_wr _ _ _ _).trans (KMs_81 B)
def KM83 (B : Mem) : Mem := nwL (KM82 B) 111 101 29400
theorem KMs_83 (B : Mem) : sh (KM83 B) = sh B ++ (shT.drop 78).take 34 := sh_st (KMs_82 B) (by decide +kernel)
def KM84 (B : Mem) : Mem := wr (KM83 B) 78 54 (some 111)
theorem KMs_84 (B : Mem) : sh (KM84 B) = sh B ++ (shT.drop 78).take 34 := (sh_wr _ _ _ _).trans (KMs_83 B)
def KM85 (B : Mem) : Mem := nwL (KM84 B) 112 100 1968
theorem KMs_85 (B : Mem) : sh (KM85 B) = sh B ++ (shT.drop 78).take 35 := sh_st (KMs_84 B) (by decide +kernel)
def KM86 (B : Mem) : Mem := wr (KM85 B) 78 55 (some 112)
theorem KMs_86 (B : Mem) : sh (KM86 B) = sh B ++ (shT.drop 78).take 35 := (sh_wr _ _ _ _).trans (KMs_85 B)
theorem KM_c78 {d : Nat} {B : Mem} {Φ : Option Value → Mem → Prop} (hB : (sh B).length = 78) (h : Ex (d + 1) m_MM_init 0 0 380 [some (.ref 78)] [] (KM86 B) Φ) : Con (d + 1) m_MM_init 34 63078 [.ref 78] (KM1 B) Φ := by
  refine Con.ent (k := 0) F_MM_init.1 rfl (Nat.le_of_ble_eq_true rfl) ?_
  refine ex_aload_n (pc := 0) (k := 0) (by decide +kernel) rfl ?_
  refine ex_objInit (pc := 1) (by decide +kernel) (in_t5 (i := 56) rfl rfl) (Nat.le_of_ble_eq_true rfl) (Nat.succ_le_succ (Nat.zero_le _)) ?_
  refine ex_aload_n (pc := 4) (k := 0) (by decide +kernel) rfl ?_
  refine ex_bipush (pc := 5) (k := 6) (v := nI 6) (by decide +kernel) (by decide) ?_
  refine ex_newa_int (pc := 7) (N := 6) (by decide +kernel) (in_t1 (i := 99) rfl rfl) (by decide) (by decide) (by decide) ⟨by decide, by decide⟩ (Nat.lt_of_le_of_lt (Nat.le_of_eq (sh_N (b := 78) (n := 1) (q := 79) hB (KMs_1 B) rfl)) (by decide)) ?_
  rw [nw_L (sh_N (b := 78) (n := 1) (q := 79) hB (KMs_1 B) rfl), (sh_N (b := 78) (n := 1) (q := 79) hB (KMs_1 B) rfl)]
  show Ex _ _ 33 63072 _ _ _ (KM2 B) _
  refine ex_putR (pc := 9) (index := 7) (ci := 11) (k := 1) (fin := true) (v := some 79) (by decide +kernel) ⟨_, _, _, _, cf_MM, by decide, in_t5 (i := 77) rfl rfl, rfl, (fun _ => rfl), rfl, rfl⟩ rfl (fun _ => rfl) (sh_L (b := 78) (n := 2) (i := 0) (j := 78) hB (KMs_2 B) rfl) ?_
  show Ex _ _ 33 63072 _ _ _ (KM3 B) _
  refine ex_aload_n (pc := 12) (k := 0) (by decide +kernel) rfl ?_
  refine ex_bipush (pc := 13) (k := 6) (v := nI 6) (by decide +kernel) (by decide) ?_
  refine ex_newa_int (pc := 15) (N := 6) (by decide +kernel) (in_t1 (i := 99) rfl rfl) (by decide) (by decide) (by decide) ⟨by decide, by decide⟩ (Nat.lt_of_le_of_lt (Nat.le_of_eq (sh_N (b := 78) (n := 2) (q := 80) hB (KMs_3 B) rfl)) (by decide)) ?_
  rw [nw_L (sh_N (b := 78) (n := 2) (q := 80) hB (KMs_3 B) rfl), (sh_N (b := 78) (n := 2) (q := 80) hB (KMs_3 B) rfl)]
  show Ex _ _ 32 63066 _ _ _ (KM4 B) _
  refine ex_putR (pc := 17) (index := 13) (ci := 11) (k := 2) (fin := true) (v := some 80) (by decide +kernel) ⟨_, _, _, _, cf_MM, by decide, in_t5 (i := 78) rfl rfl, rfl, (fun _ => rfl), rfl, rfl⟩ rfl (fun _ => rfl) (sh_L (b := 78) (n := 3) (i := 0) (j := 78) hB (KMs_4 B) rfl) ?_
  show Ex _ _ 32 63066 _ _ _ (KM5 B) _
  refine ex_aload_n (pc := 20) (k := 0) (by decide +kernel) rfl ?_
  refine ex_bipush (pc := 21) (k := 6) (v := nI 6) (by decide +kernel) (by decide) ?_
  refine ex_newa_int (pc := 23) (N := 6) (by decide +kernel) (in_t1 (i := 99) rfl rfl) (by decide) (by decide) (by decide) ⟨by decide, by decide⟩ (Nat.lt_of_le_of_lt (Nat.le_of_eq (sh_N (b := 78) (n := 3) (q := 81) hB (KMs_5 B) rfl)) (by decide)) ?_
  rw [nw_L (sh_N (b := 78) (n := 3) (q := 81) hB (KMs_5 B) rfl), (sh_N (b := 78) (n := 3) (q := 81) hB (KMs_5 B) rfl)]
  show Ex _ _ 31 63060 _ _ _ (KM6 B) _
  refine ex_putR (pc := 25) (index := 16) (ci := 11) (k := 3) (fin := true) (v := some 81) (by decide +kernel) ⟨_, _, _, _, cf_MM, by decide, in_t5 (i := 79) rfl rfl, rfl, (fun _ => rfl), rfl, rfl⟩ rfl (fun _ => rfl) (sh_L (b := 78) (n := 4) (i := 0) (j := 78) hB (KMs_6 B) rfl) ?_
  show Ex _ _ 31 63060 _ _ _ (KM7 B) _
  refine ex_aload_n (pc := 28) (k := 0) (by decide +kernel) rfl ?_
  refine ex_bipush (pc := 29) (k := 6) (v := nI 6) (by decide +kernel) (by decide) ?_
  refine ex_newa_int (pc := 31) (N := 6) (by decide +kernel) (in_t1 (i := 99) rfl rfl) (by decide) (by decide) (by decide) ⟨by decide, by decide⟩ (Nat.lt_of_le_of_lt (Nat.le_of_eq (sh_N (b := 78) (n := 4) (q := 82) hB (KMs_7 B) rfl)) (by decide)) ?_
  rw [nw_L (sh_N (b := 78) (n := 4) (q := 82) hB (KMs_7 B) rfl), (sh_N (b := 78) (n := 4) (q := 82) hB (KMs_7 B) rfl)]
  show Ex _ _ 30 63054 _ _ _ (KM8 B) _
  refine ex_putR (pc := 33) (index := 19) (ci := 11) (k := 4) (fin := true) (v := some 82) (by decide +kernel) ⟨_, _, _, _, cf_MM, by decide, in_t5 (i := 80) rfl rfl, rfl, (fun _ => rfl), rfl, rfl⟩ rfl (fun _ => rfl) (sh_L (b := 78) (n := 5) (i := 0) (j := 78) hB (KMs_8 B) rfl) ?_
  show Ex _ _ 30 63054 _ _ _ (KM9 B) _
  refine ex_aload_n (pc := 36) (k := 0) (by decide +kernel) rfl ?_
  refine ex_bipush (pc := 37) (k := 36) (v := nI 36) (by decide +kernel) (by decide) ?_
  refine ex_newa_int (pc := 39) (N := 36) (by decide +kernel) (in_t1 (i := 99) rfl rfl) (by decide) (by decide) (by decide) ⟨by decide, by decide⟩ (Nat.lt_of_le_of_lt (Nat.le_of_eq (sh_N (b := 78) (n := 5) (q := 83) hB (KMs_9 B) rfl)) (by decide)) ?_
  rw [nw_L (sh_N (b := 78) (n := 5) (q := 83) hB (KMs_9 B) rfl), (sh_N (b := 78) (n := 5) (q := 83) hB (KMs_9 B) rfl)]
  show Ex _ _ 29 63018 _ _ _ (KM10 B) _
  refine ex_putR (pc := 41) (index := 22) (ci := 11) (k := 5) (fin := true) (v := some 83) (by decide +kernel) ⟨_, _, _, _, cf_MM, by decide, in_t5 (i := 81) rfl rfl, rfl, (fun _ => rfl), rfl, rfl⟩ rfl (fun _ => rfl) (sh_L (b := 78) (n := 6) (i := 0) (j := 78) hB (KMs_10 B) rfl) ?_
  show Ex _ _ 29 63018 _ _ _ (KM11 B) _
  refine ex_aload_n (pc := 44) (k := 0) (by decide +kernel) rfl ?_
  refine ex_bipush (pc := 45) (k := 6) (v := nI 6) (by decide +kernel) (by decide) ?_
  refine ex_putI (pc := 47) (index := 25) (ci := 11) (k := 6) (fin := false) (v := nI 6) (by decide +kernel) ⟨_, _, _, _, cf_MM, by decide, in_t5 (i := 82) rfl rfl, rfl, (fun h => by cases h), rfl, rfl⟩ rfl (fun h => by cases h) (sh_L (b := 78) (n := 6) (i := 0) (j := 78) hB (KMs_11 B) rfl) ?_
  show Ex _ _ 29 63018 _ _ _ (KM12 B) _
  refine ex_aload_n (pc := 50) (k := 0) (by decide +kernel) rfl ?_
  refine ex_bipush (pc := 51) (k := 10) (v := nI 10) (by decide +kernel) (by decide) ?_
  refine ex_newa_int (pc := 53) (N := 10) (by decide +kernel) (in_t1 (i := 99) rfl rfl) (by decide) (by decide) (by decide) ⟨by decide, by decide⟩ (Nat.lt_of_le_of_lt (Nat.le_of_eq (sh_N (b := 78) (n := 6) (q := 84) hB (KMs_12 B) rfl)) (by decide)) ?_
  rw [nw_L (sh_N (b := 78) (n := 6) (q := 84) hB (KMs_12 B) rfl), (sh_N (b := 78) (n := 6) (q := 84) hB (KMs_12 B) rfl)]
  show Ex _ _ 28 63008 _ _ _ (KM13 B) _
  refine ex_putR (pc := 55) (index := 29) (ci := 11) (k := 8) (fin := true) (v := some 84) (by decide +kernel) ⟨_, _, _, _, cf_MM, by decide, in_t5 (i := 84) rfl rfl, rfl, (fun _ => rfl), rfl, rfl⟩ rfl (fun _ => rfl) (sh_L (b := 78) (n := 7) (i := 0) (j := 78) hB (KMs_13 B) rfl) ?_
  show Ex _ _ 28 63008 _ _ _ (KM14 B) _
  refine ex_aload_n (pc := 58) (k := 0) (by decide +kernel) rfl ?_
  refine ex_bipush (pc := 59) (k := 10) (v := nI 10) (by decide +kernel) (by decide) ?_
  refine ex_newa_int (pc := 61) (N := 10) (by decide +kernel) (in_t1 (i := 99) rfl rfl) (by decide) (by decide) (by decide) ⟨by decide, by decide⟩ (Nat.lt_of_le_of_lt (Nat.le_of_eq (sh_N (b := 78) (n := 7) (q := 85) hB (KMs_14 B) rfl)) (by decide)) ?_
  rw [nw_L (sh_N (b := 78) (n := 7) (q := 85) hB (KMs_14 B) rfl), (sh_N (b := 78) (n := 7) (q := 85) hB (KMs_14 B) rfl)]
  show Ex _ _ 27 62998 _ _ _ (KM15 B) _
  refine ex_putR (pc := 63) (index := 32) (ci := 11) (k := 9) (fin := true) (v := some 85) (by decide +kernel) ⟨_, _, _, _, cf_MM, by decide, in_t5 (i := 85) rfl rfl, rfl, (fun _ => rfl), rfl, rfl⟩ rfl (fun _ => rfl) (sh_L (b := 78) (n := 8) (i := 0) (j := 78) hB (KMs_15 B) rfl) ?_
  show Ex _ _ 27 62998 _ _ _ (KM16 B) _
  refine ex_aload_n (pc := 66) (k := 0) (by decide +kernel) rfl ?_
  refine ex_sipush (pc := 67) (k := 160) (v := nI 160) (by decide +kernel) (by decide) ?_
  refine ex_newa_int (pc := 70) (N := 160) (by decide +kernel) (in_t1 (i := 99) rfl rfl) (by decide) (by decide) (by decide) ⟨by decide, by decide⟩ (Nat.lt_of_le_of_lt (Nat.le_of_eq (sh_N (b := 78) (n := 8) (q := 86) hB (KMs_16 B) rfl)) (by decide)) ?_
  rw [nw_L (sh_N (b := 78) (n := 8) (q := 86) hB (KMs_16 B) rfl), (sh_N (b := 78) (n := 8) (q := 86) hB (KMs_16 B) rfl)]
  show Ex _ _ 26 62838 _ _ _ (KM17 B) _
  refine ex_putR (pc := 72) (index := 35) (ci := 11) (k := 10) (fin := true) (v := some 86) (by decide +kernel) ⟨_, _, _, _, cf_MM, by decide, in_t5 (i := 86) rfl rfl, rfl, (fun _ => rfl), rfl, rfl⟩ rfl (fun _ => rfl) (sh_L (b := 78) (n := 9) (i := 0) (j := 78) hB (KMs_17 B) rfl) ?_
  show Ex _ _ 26 62838 _ _ _ (KM18 B) _
  refine ex_aload_n (pc := 75) (k := 0) (by decide +kernel) rfl ?_
  refine ex_sipush (pc := 76) (k := 1200) (v := nI 1200) (by decide +kernel) (by decide) ?_
  refine ex_newa_int (pc := 79) (N := 1200) (by decide +kernel) (in_t1 (i := 99) rfl rfl) (by decide) (by decide) (by decide) ⟨by decide, by decide⟩ (Nat.lt_of_le_of_lt (Nat.le_of_eq (sh_N (b := 78) (n := 9) (q := 87) hB (KMs_18 B) rfl)) (by decide)) ?_
  rw [nw_L (sh_N (b := 78) (n := 9) (q := 87) hB (KMs_18 B) rfl), (sh_N (b := 78) (n := 9) (q := 87) hB (KMs_18 B) rfl)]
  show Ex _ _ 25 61638 _ _ _ (KM19 B) _
  refine ex_putR (pc := 81) (index := 38) (ci := 11) (k := 12) (fin := true) (v := some 87) (by decide +kernel) ⟨_, _, _, _, cf_MM, by decide, in_t5 (i := 88) rfl rfl, rfl, (fun _ => rfl), rfl, rfl⟩ rfl (fun _ => rfl) (sh_L (b := 78) (n := 10) (i := 0) (j := 78) hB (KMs_19 B) rfl) ?_
  show Ex _ _ 25 61638 _ _ _ (KM20 B) _
  refine ex_aload_n (pc := 84) (k := 0) (by decide +kernel) rfl ?_
  refine ex_bipush (pc := 85) (k := 24) (v := nI 24) (by decide +kernel) (by decide) ?_
  refine ex_newa_int (pc := 87) (N := 24) (by decide +kernel) (in_t1 (i := 99) rfl rfl) (by decide) (by decide) (by decide) ⟨by decide, by decide⟩ (Nat.lt_of_le_of_lt (Nat.le_of_eq (sh_N (b := 78) (n := 10) (q := 88) hB (KMs_20 B) rfl)) (by decide)) ?_
  rw [nw_L (sh_N (b := 78) (n := 10) (q := 88) hB (KMs_20 B) rfl), (sh_N (b := 78) (n := 10) (q := 88) hB (KMs_20 B) rfl)]
  show Ex _ _ 24 61614 _ _ _ (KM21 B) _
  refine ex_putR (pc := 89) (index := 41) (ci := 11) (k := 13) (fin := true) (v := some 88) (by decide +kernel) ⟨_, _, _, _, cf_MM, by decide, in_t5 (i := 89) rfl rfl, rfl, (fun _ => rfl), rfl, rfl⟩ rfl (fun _ => rfl) (sh_L (b := 78) (n := 11) (i := 0) (j := 78) hB (KMs_21 B) rfl) ?_
  show Ex _ _ 24 61614 _ _ _ (KM22 B) _
  refine ex_aload_n (pc := 92) (k := 0) (by decide +kernel) rfl ?_
  refine ex_iconst (pc := 93) (k := 1) (v := nI 1) (by decide +kernel) (by decide) ?_
  refine ex_putI (pc := 94) (index := 44) (ci := 11) (k := 14) (fin := false) (v := nI 1) (by decide +kernel) ⟨_, _, _, _, cf_MM, by decide, in_t5 (i := 90) rfl rfl, rfl, (fun h => by cases h), rfl, rfl⟩ rfl (fun h => by cases h) (sh_L (b := 78) (n := 11) (i := 0) (j := 78) hB (KMs_22 B) rfl) ?_
  show Ex _ _ 24 61614 _ _ _ (KM23 B) _
  refine ex_aload_n (pc := 97) (k := 0) (by decide +kernel) rfl ?_
  refine ex_bipush (pc := 98) (k := 12) (v := nI 12) (by decide +kernel) (by decide) ?_
  refine ex_newa_int (pc := 100) (N := 12) (by decide +kernel) (in_t1 (i := 99) rfl rfl) (by decide) (by decide) (by decide) ⟨by decide, by decide⟩ (Nat.lt_of_le_of_lt (Nat.le_of_eq (sh_N (b := 78) (n := 11) (q := 89) hB (KMs_23 B) rfl)) (by decide)) ?_
  rw [nw_L (sh_N (b := 78) (n := 11) (q := 89) hB (KMs_23 B) rfl), (sh_N (b := 78) (n := 11) (q := 89) hB (KMs_23 B) rfl)]
  show Ex _ _ 23 61602 _ _ _ (KM24 B) _
  refine ex_putR (pc := 102) (index := 47) (ci := 11) (k := 17) (fin := true) (v := some 89) (by decide +kernel) ⟨_, _, _, _, cf_MM, by decide, in_t5 (i := 93) rfl rfl, rfl, (fun _ => rfl), rfl, rfl⟩ rfl (fun _ => rfl) (sh_L (b := 78) (n := 12) (i := 0) (j := 78) hB (KMs_24 B) rfl) ?_
  show Ex _ _ 23 61602 _ _ _ (KM25 B) _
  refine ex_aload_n (pc := 105) (k := 0) (by decide +kernel) rfl ?_
  refine ex_bipush (pc := 106) (k := 12) (v := nI 12) (by decide +kernel) (by decide) ?_
  refine ex_newa_int (pc := 108) (N := 12) (by decide +kernel) (in_t1 (i := 99) rfl rfl) (by decide) (by decide) (by decide) ⟨by decide, by decide⟩ (Nat.lt_of_le_of_lt (Nat.le_of_eq (sh_N (b := 78) (n := 12) (q := 90) hB (KMs_25 B) rfl)) (by decide)) ?_
  rw [nw_L (sh_N (b := 78) (n := 12) (q := 90) hB (KMs_25 B) rfl), (sh_N (b := 78) (n := 12) (q := 90) hB (KMs_25 B) rfl)]
  show Ex _ _ 22 61590 _ _ _ (KM26 B) _
  refine ex_putR (pc := 110) (index := 50) (ci := 11) (k := 18) (fin := true) (v := some 90) (by decide +kernel) ⟨_, _, _, _, cf_MM, by decide, in_t5 (i := 94) rfl rfl, rfl, (fun _ => rfl), rfl, rfl⟩ rfl (fun _ => rfl) (sh_L (b := 78) (n := 13) (i := 0) (j := 78) hB (KMs_26 B) rfl) ?_
  show Ex _ _ 22 61590 _ _ _ (KM27 B) _
  refine ex_aload_n (pc := 113) (k := 0) (by decide +kernel) rfl ?_
  refine ex_bipush (pc := 114) (k := 72) (v := nI 72) (by decide +kernel) (by decide) ?_
  refine ex_newa_int (pc := 116) (N := 72) (by decide +kernel) (in_t1 (i := 99) rfl rfl) (by decide) (by decide) (by decide) ⟨by decide, by decide⟩ (Nat.lt_of_le_of_lt (Nat.le_of_eq (sh_N (b := 78) (n := 13) (q := 91) hB (KMs_27 B) rfl)) (by decide)) ?_
  rw [nw_L (sh_N (b := 78) (n := 13) (q := 91) hB (KMs_27 B) rfl), (sh_N (b := 78) (n := 13) (q := 91) hB (KMs_27 B) rfl)]
  show Ex _ _ 21 61518 _ _ _ (KM28 B) _
  refine ex_putR (pc := 118) (index := 53) (ci := 11) (k := 19) (fin := true) (v := some 91) (by decide +kernel) ⟨_, _, _, _, cf_MM, by decide, in_t5 (i := 95) rfl rfl, rfl, (fun _ => rfl), rfl, rfl⟩ rfl (fun _ => rfl) (sh_L (b := 78) (n := 14) (i := 0) (j := 78) hB (KMs_28 B) rfl) ?_
  show Ex _ _ 21 61518 _ _ _ (KM29 B) _
  refine ex_aload_n (pc := 121) (k := 0) (by decide +kernel) rfl ?_
  refine ex_bipush (pc := 122) (k := 6) (v := nI 6) (by decide +kernel) (by decide) ?_
  refine ex_newa_int (pc := 124) (N := 6) (by decide +kernel) (in_t1 (i := 99) rfl rfl) (by decide) (by decide) (by decide) ⟨by decide, by decide⟩ (Nat.lt_of_le_of_lt (Nat.le_of_eq (sh_N (b := 78) (n := 14) (q := 92) hB (KMs_29 B) rfl)) (by decide)) ?_
  rw [nw_L (sh_N (b := 78) (n := 14) (q := 92) hB (KMs_29 B) rfl), (sh_N (b := 78) (n := 14) (q := 92) hB (KMs_29 B) rfl)]
  show Ex _ _ 20 61512 _ _ _ (KM30 B) _
  refine ex_putR (pc := 126) (index := 56) (ci := 11) (k := 22) (fin := true) (v := some 92) (by decide +kernel) ⟨_, _, _, _, cf_MM, by decide, in_t5 (i := 98) rfl rfl, rfl, (fun _ => rfl), rfl, rfl⟩ rfl (fun _ => rfl) (sh_L (b := 78) (n := 15) (i := 0) (j := 78) hB (KMs_30 B) rfl) ?_
  show Ex _ _ 20 61512 _ _ _ (KM31 B) _
  refine ex_aload_n (pc := 129) (k := 0) (by decide +kernel) rfl ?_
  refine ex_bipush (pc := 130) (k := 7) (v := nI 7) (by decide +kernel) (by decide) ?_
  refine ex_newa_int (pc := 132) (N := 7) (by decide +kernel) (in_t1 (i := 99) rfl rfl) (by decide) (by decide) (by decide) ⟨by decide, by decide⟩ (Nat.lt_of_le_of_lt (Nat.le_of_eq (sh_N (b := 78) (n := 15) (q := 93) hB (KMs_31 B) rfl)) (by decide)) ?_
  rw [nw_L (sh_N (b := 78) (n := 15) (q := 93) hB (KMs_31 B) rfl), (sh_N (b := 78) (n := 15) (q := 93) hB (KMs_31 B) rfl)]
  show Ex _ _ 19 61505 _ _ _ (KM32 B) _
  refine ex_putR (pc := 134) (index := 59) (ci := 11) (k := 24) (fin := true) (v := some 93) (by decide +kernel) ⟨_, _, _, _, cf_MM, by decide, in_t5 (i := 100) rfl rfl, rfl, (fun _ => rfl), rfl, rfl⟩ rfl (fun _ => rfl) (sh_L (b := 78) (n := 16) (i := 0) (j := 78) hB (KMs_32 B) rfl) ?_
  show Ex _ _ 19 61505 _ _ _ (KM33 B) _
  refine ex_aload_n (pc := 137) (k := 0) (by decide +kernel) rfl ?_
  refine ex_bipush (pc := 138) (k := 6) (v := nI 6) (by decide +kernel) (by decide) ?_
  refine ex_newa_int (pc := 140) (N := 6) (by decide +kernel) (in_t1 (i := 99) rfl rfl) (by decide) (by decide) (by decide) ⟨by decide, by decide⟩ (Nat.lt_of_le_of_lt (Nat.le_of_eq (sh_N (b := 78) (n := 16) (q := 94) hB (KMs_33 B) rfl)) (by decide)) ?_
  rw [nw_L (sh_N (b := 78) (n := 16) (q := 94) hB (KMs_33 B) rfl), (sh_N (b := 78) (n := 16) (q := 94) hB (KMs_33 B) rfl)]
  show Ex _ _ 18 61499 _ _ _ (KM34 B) _
  refine ex_putR (pc := 142) (index := 62) (ci := 11) (k := 30) (fin := true) (v := some 94) (by decide +kernel) ⟨_, _, _, _, cf_MM, by decide, in_t5 (i := 106) rfl rfl, rfl, (fun _ => rfl), rfl, rfl⟩ rfl (fun _ => rfl) (sh_L (b := 78) (n := 17) (i := 0) (j := 78) hB (KMs_34 B) rfl) ?_
  show Ex _ _ 18 61499 _ _ _ (KM35 B) _
  refine ex_aload_n (pc := 145) (k := 0) (by decide +kernel) rfl ?_
  refine ex_bipush (pc := 146) (k := 6) (v := nI 6) (by decide +kernel) (by decide) ?_
  refine ex_newa_int (pc := 148) (N := 6) (by decide +kernel) (in_t1 (i := 99) rfl rfl) (by decide) (by decide) (by decide) ⟨by decide, by decide⟩ (Nat.lt_of_le_of_lt (Nat.le_of_eq (sh_N (b := 78) (n := 17) (q := 95) hB (KMs_35 B) rfl)) (by decide)) ?_
  rw [nw_L (sh_N (b := 78) (n := 17) (q := 95) hB (KMs_35 B) rfl), (sh_N (b := 78) (n := 17) (q := 95) hB (KMs_35 B) rfl)]
  show Ex _ _ 17 61493 _ _ _ (KM36 B) _
  refine ex_putR (pc := 150) (index := 65) (ci := 11) (k := 31) (fin := true) (v := some 95) (by decide +kernel) ⟨_, _, _, _, cf_MM, by decide, in_t5 (i := 107) rfl rfl, rfl, (fun _ => rfl), rfl, rfl⟩ rfl (fun _ => rfl) (sh_L (b := 78) (n := 18) (i := 0) (j := 78) hB (KMs_36 B) rfl) ?_
  show Ex _ _ 17 61493 _ _ _ (KM37 B) _
  refine ex_aload_n (pc := 153) (k := 0) (by decide +kernel) rfl ?_
  refine ex_bipush (pc := 154) (k := 6) (v := nI 6) (by decide +kernel) (by decide) ?_
  refine ex_newa_int (pc := 156) (N := 6) (by decide +kernel) (in_t1 (i := 99) rfl rfl) (by decide) (by decide) (by decide) ⟨by decide, by decide⟩ (Nat.lt_of_le_of_lt (Nat.le_of_eq (sh_N (b := 78) (n := 18) (q := 96) hB (KMs_37 B) rfl)) (by decide)) ?_
  rw [nw_L (sh_N (b := 78) (n := 18) (q := 96) hB (KMs_37 B) rfl), (sh_N (b := 78) (n := 18) (q := 96) hB (KMs_37 B) rfl)]
  show Ex _ _ 16 61487 _ _ _ (KM38 B) _
  refine ex_putR (pc := 158) (index := 68) (ci := 11) (k := 32) (fin := true) (v := some 96) (by decide +kernel) ⟨_, _, _, _, cf_MM, by decide, in_t5 (i := 108) rfl rfl, rfl, (fun _ => rfl), rfl, rfl⟩ rfl (fun _ => rfl) (sh_L (b := 78) (n := 19) (i := 0) (j := 78) hB (KMs_38 B) rfl) ?_
  show Ex _ _ 16 61487 _ _ _ (KM39 B) _
  refine ex_aload_n (pc := 161) (k := 0) (by decide +kernel) rfl ?_
  refine ex_bipush (pc := 162) (k := 36) (v := nI 36) (by decide +kernel) (by decide) ?_
  refine ex_newa_int (pc := 164) (N := 36) (by decide +kernel) (in_t1 (i := 99) rfl rfl) (by decide) (by decide) (by decide) ⟨by decide, by decide⟩ (Nat.lt_of_le_of_lt (Nat.le_of_eq (sh_N (b := 78) (n := 19) (q := 97) hB (KMs_39 B) rfl)) (by decide)) ?_
  rw [nw_L (sh_N (b := 78) (n := 19) (q := 97) hB (KMs_39 B) rfl), (sh_N (b := 78) (n := 19) (q := 97) hB (KMs_39 B) rfl)]
  show Ex _ _ 15 61451 _ _ _ (KM40 B) _
  refine ex_putR (pc := 166) (index := 71) (ci := 11) (k := 33) (fin := true) (v := some 97) (by decide +kernel) ⟨_, _, _, _, cf_MM, by decide, in_t5 (i := 109) rfl rfl, rfl, (fun _ => rfl), rfl, rfl⟩ rfl (fun _ => rfl) (sh_L (b := 78) (n := 20) (i := 0) (j := 78) hB (KMs_40 B) rfl) ?_
  show Ex _ _ 15 61451 _ _ _ (KM41 B) _
  refine ex_aload_n (pc := 169) (k := 0) (by decide +kernel) rfl ?_
  refine ex_bipush (pc := 170) (k := 10) (v := nI 10) (by decide +kernel) (by decide) ?_
  refine ex_newa_int (pc := 172) (N := 10) (by decide +kernel) (in_t1 (i := 99) rfl rfl) (by decide) (by decide) (by decide) ⟨by decide, by decide⟩ (Nat.lt_of_le_of_lt (Nat.le_of_eq (sh_N (b := 78) (n := 20) (q := 98) hB (KMs_41 B) rfl)) (by decide)) ?_
  rw [nw_L (sh_N (b := 78) (n := 20) (q := 98) hB (KMs_41 B) rfl), (sh_N (b := 78) (n := 20) (q := 98) hB (KMs_41 B) rfl)]
  show Ex _ _ 14 61441 _ _ _ (KM42 B) _
  refine ex_putR (pc := 174) (index := 74) (ci := 11) (k := 34) (fin := true) (v := some 98) (by decide +kernel) ⟨_, _, _, _, cf_MM, by decide, in_t5 (i := 110) rfl rfl, rfl, (fun _ => rfl), rfl, rfl⟩ rfl (fun _ => rfl) (sh_L (b := 78) (n := 21) (i := 0) (j := 78) hB (KMs_42 B) rfl) ?_
  show Ex _ _ 14 61441 _ _ _ (KM43 B) _
  refine ex_aload_n (pc := 177) (k := 0) (by decide +kernel) rfl ?_
  refine ex_bipush (pc := 178) (k := 10) (v := nI 10) (by decide +kernel) (by decide) ?_
  refine ex_newa_int (pc := 180) (N := 10) (by decide +kernel) (in_t1 (i := 99) rfl rfl) (by decide) (by decide) (by decide) ⟨by decide, by decide⟩ (Nat.lt_of_le_of_lt (Nat.le_of_eq (sh_N (b := 78) (n := 21) (q := 99) hB (KMs_43 B) rfl)) (by decide)) ?_
  rw [nw_L (sh_N (b := 78) (n := 21) (q := 99) hB (KMs_43 B) rfl), (sh_N (b := 78) (n := 21) (q := 99) hB (KMs_43 B) rfl)]
  show Ex _ _ 13 61431 _ _ _ (KM44 B) _
  refine ex_putR (pc := 182) (index := 77) (ci := 11) (k := 35) (fin := true) (v := some 99) (by decide +kernel) ⟨_, _, _, _, cf_MM, by decide, in_t5 (i := 111) rfl rfl, rfl, (fun _ => rfl), rfl, rfl⟩ rfl (fun _ => rfl) (sh_L (b := 78) (n := 22) (i := 0) (j := 78) hB (KMs_44 B) rfl) ?_
  show Ex _ _ 13 61431 _ _ _ (KM45 B) _
  refine ex_aload_n (pc := 185) (k := 0) (by decide +kernel) rfl ?_
  refine ex_iconst (pc := 186) (k := 4) (v := nI 4) (by decide +kernel) (by decide) ?_
  refine ex_newa_int (pc := 187) (N := 4) (by decide +kernel) (in_t1 (i := 99) rfl rfl) (by decide) (by decide) (by decide) ⟨by decide, by decide⟩ (Nat.lt_of_le_of_lt (Nat.le_of_eq (sh_N (b := 78) (n := 22) (q := 100) hB (KMs_45 B) rfl)) (by decide)) ?_
  rw [nw_L (sh_N (b := 78) (n := 22) (q := 100) hB (KMs_45 B) rfl), (sh_N (b := 78) (n := 22) (q := 100) hB (KMs_45 B) rfl)]
  show Ex _ _ 12 61427 _ _ _ (KM46 B) _
  refine ex_dup (pc := 189) (by decide +kernel) rfl ?_
  refine ex_iconst (pc := 190) (k := 0) (v := nI 0) (by decide +kernel) (by decide) ?_
  refine ex_iconst (pc := 191) (k := -1) (v := -1) (by decide +kernel) (by decide) ?_
  refine ey_iast (pc := 192) (v := -1) (by decide +kernel) (sh_L (b := 78) (n := 23) (i := 22) (j := 100) hB (KMs_46 B) rfl) (vN (n := 4) (by decide) (by decide)) (nI_clamp (by decide)) ?_
  show Ex _ _ 12 61427 _ _ _ (KM47 B) _
  refine ex_dup (pc := 193) (by decide +kernel) rfl ?_
  refine ex_iconst (pc := 194) (k := 1) (v := nI 1) (by decide +kernel) (by decide) ?_
  refine ex_iconst (pc := 195) (k := -1) (v := -1) (by decide +kernel) (by decide) ?_
  refine ey_iast (pc := 196) (v := -1) (by decide +kernel) (sh_L (b := 78) (n := 23) (i := 22) (j := 100) hB (KMs_47 B) rfl) (vN (n := 4) (by decide) (by decide)) (nI_clamp (by decide)) ?_
  show Ex _ _ 12 61427 _ _ _ (KM48 B) _
  refine ex_dup (pc := 197) (by decide +kernel) rfl ?_
  refine ex_iconst (pc := 198) (k := 2) (v := nI 2) (by decide +kernel) (by decide) ?_
  refine ex_iconst (pc := 199) (k := -1) (v := -1) (by decide +kernel) (by decide) ?_
  refine ey_iast (pc := 200) (v := -1) (by decide +kernel) (sh_L (b := 78) (n := 23) (i := 22) (j := 100) hB (KMs_48 B) rfl) (vN (n := 4) (by decide) (by decide)) (nI_clamp (by decide)) ?_
  show Ex _ _ 12 61427 _ _ _ (KM49 B) _
  refine ex_dup (pc := 201) (by decide +kernel) rfl ?_
  refine ex_iconst (pc := 202) (k := 3) (v := nI 3) (by decide +kernel) (by decide) ?_
  refine ex_iconst (pc := 203) (k := -1) (v := -1) (by decide +kernel) (by decide) ?_
  refine ey_iast (pc := 204) (v := -1) (by decide +kernel) (sh_L (b := 78) (n := 23) (i := 22) (j := 100) hB (KMs_49 B) rfl) (vN (n := 4) (by decide) (by decide)) (nI_clamp (by decide)) ?_
  show Ex _ _ 12 61427 _ _ _ (KM50 B) _
  refine ex_putR (pc := 205) (index := 80) (ci := 11) (k := 36) (fin := true) (v := some 100) (by decide +kernel) ⟨_, _, _, _, cf_MM, by decide, in_t5 (i := 112) rfl rfl, rfl, (fun _ => rfl), rfl, rfl⟩ rfl (fun _ => rfl) (sh_L (b := 78) (n := 23) (i := 0) (j := 78) hB (KMs_50 B) rfl) ?_
  show Ex _ _ 12 61427 _ _ _ (KM51 B) _
  refine ex_aload_n (pc := 208) (k := 0) (by decide +kernel) rfl ?_
  refine ex_iconst (pc := 209) (k := 4) (v := nI 4) (by decide +kernel) (by decide) ?_
  refine ex_newa_int (pc := 210) (N := 4) (by decide +kernel) (in_t1 (i := 99) rfl rfl) (by decide) (by decide) (by decide) ⟨by decide, by decide⟩ (Nat.lt_of_le_of_lt (Nat.le_of_eq (sh_N (b := 78) (n := 23) (q := 101) hB (KMs_51 B) rfl)) (by decide)) ?_
  rw [nw_L (sh_N (b := 78) (n := 23) (q := 101) hB (KMs_51 B) rfl), (sh_N (b := 78) (n := 23) (q := 101) hB (KMs_51 B) rfl)]
  show Ex _ _ 11 61423 _ _ _ (KM52 B) _
  refine ex_putR (pc := 212) (index := 83) (ci := 11) (k := 37) (fin := true) (v := some 101) (by decide +kernel) ⟨_, _, _, _, cf_MM, by decide, in_t5 (i := 113) rfl rfl, rfl, (fun _ => rfl), rfl, rfl⟩ rfl (fun _ => rfl) (sh_L (b := 78) (n := 24) (i := 0) (j := 78) hB (KMs_52 B) rfl) ?_
  show Ex _ _ 11 61423 _ _ _ (KM53 B) _
  refine ex_aload_n (pc := 215) (k := 0) (by decide +kernel) rfl ?_
  refine ex_sipush (pc := 216) (k := 160) (v := nI 160) (by decide +kernel) (by decide) ?_
  refine ex_newa_int (pc := 219) (N := 160) (by decide +kernel) (in_t1 (i := 99) rfl rfl) (by decide) (by decide) (by decide) ⟨by decide, by decide⟩ (Nat.lt_of_le_of_lt (Nat.le_of_eq (sh_N (b := 78) (n := 24) (q := 102) hB (KMs_53 B) rfl)) (by decide)) ?_
  rw [nw_L (sh_N (b := 78) (n := 24) (q := 102) hB (KMs_53 B) rfl), (sh_N (b := 78) (n := 24) (q := 102) hB (KMs_53 B) rfl)]
  show Ex _ _ 10 61263 _ _ _ (KM54 B) _
  refine ex_putR (pc := 221) (index := 86) (ci := 11) (k := 38) (fin := true) (v := some 102) (by decide +kernel) ⟨_, _, _, _, cf_MM, by decide, in_t5 (i := 114) rfl rfl, rfl, (fun _ => rfl), rfl, rfl⟩ rfl (fun _ => rfl) (sh_L (b := 78) (n := 25) (i := 0) (j := 78) hB (KMs_54 B) rfl) ?_
  show Ex _ _ 10 61263 _ _ _ (KM55 B) _
  refine ex_aload_n (pc := 224) (k := 0) (by decide +kernel) rfl ?_
  refine ex_bipush (pc := 225) (k := 36) (v := nI 36) (by decide +kernel) (by decide) ?_
  refine ex_newa_int (pc := 227) (N := 36) (by decide +kernel) (in_t1 (i := 99) rfl rfl) (by decide) (by decide) (by decide) ⟨by decide, by decide⟩ (Nat.lt_of_le_of_lt (Nat.le_of_eq (sh_N (b := 78) (n := 25) (q := 103) hB (KMs_55 B) rfl)) (by decide)) ?_
  rw [nw_L (sh_N (b := 78) (n := 25) (q := 103) hB (KMs_55 B) rfl), (sh_N (b := 78) (n := 25) (q := 103) hB (KMs_55 B) rfl)]
  show Ex _ _ 9 61227 _ _ _ (KM56 B) _
  refine ex_putR (pc := 229) (index := 89) (ci := 11) (k := 39) (fin := true) (v := some 103) (by decide +kernel) ⟨_, _, _, _, cf_MM, by decide, in_t5 (i := 115) rfl rfl, rfl, (fun _ => rfl), rfl, rfl⟩ rfl (fun _ => rfl) (sh_L (b := 78) (n := 26) (i := 0) (j := 78) hB (KMs_56 B) rfl) ?_
  show Ex _ _ 9 61227 _ _ _ (KM57 B) _
  refine ex_aload_n (pc := 232) (k := 0) (by decide +kernel) rfl ?_
  refine ex_bipush (pc := 233) (k := 11) (v := nI 11) (by decide +kernel) (by decide) ?_
  refine ex_newa_long (pc := 235) (N := 11) (by decide +kernel) (in_t6 (i := 5) rfl rfl) (by decide) (by decide) (by decide) ⟨by decide, by decide⟩ (Nat.lt_of_le_of_lt (Nat.le_of_eq (sh_N (b := 78) (n := 26) (q := 104) hB (KMs_57 B) rfl)) (by decide)) ?_
  rw [nw_L (sh_N (b := 78) (n := 26) (q := 104) hB (KMs_57 B) rfl), (sh_N (b := 78) (n := 26) (q := 104) hB (KMs_57 B) rfl)]
  show Ex _ _ 8 61216 _ _ _ (KM58 B) _
  refine ex_dup (pc := 237) (by decide +kernel) rfl ?_
  refine ex_iconst (pc := 238) (k := 0) (v := nI 0) (by decide +kernel) (by decide) ?_
  refine ex_ldc2 (pc := 239) (v := 1852137842) (by decide +kernel) (in_t5 (i := 57) rfl rfl) ?_
  refine ex_last (pc := 242) (v := 1852137842) (by decide +kernel) (sh_L (b := 78) (n := 27) (i := 26) (j := 104) hB (KMs_58 B) rfl) (vN (n := 11) (by decide) (by decide)) ?_
  rw [show (nI 0).toNatClampNeg = 0 from nI_clamp (by decide)]
  show Ex _ _ 8 61216 _ _ _ (KM59 B) _
  refine ex_dup (pc := 243) (by decide +kernel) rfl ?_
  refine ex_iconst (pc := 244) (k := 1) (v := nI 1) (by decide +kernel) (by decide) ?_
  refine ex_ldc2 (pc := 245) (v := 512970880104) (by decide +kernel) (in_t5 (i := 58) rfl rfl) ?_
  refine ex_last (pc := 248) (v := 512970880104) (by decide +kernel) (sh_L (b := 78) (n := 27) (i := 26) (j := 104) hB (KMs_59 B) rfl) (vN (n := 11) (by decide) (by decide)) ?_
  rw [show (nI 1).toNatClampNeg = 1 from nI_clamp (by decide)]
  show Ex _ _ 8 61216 _ _ _ (KM60 B) _
  refine ex_dup (pc := 249) (by decide +kernel) rfl ?_
  refine ex_iconst (pc := 250) (k := 2) (v := nI 2) (by decide +kernel) (by decide) ?_
  refine ex_ldc2 (pc := 251) (v := 448546566771) (by decide +kernel) (in_t5 (i := 59) rfl rfl) ?_
  refine ex_last (pc := 254) (v := 448546566771) (by decide +kernel) (sh_L (b := 78) (n := 27) (i := 26) (j := 104) hB (KMs_60 B) rfl) (vN (n := 11) (by decide) (by decide)) ?_
  rw [show (nI 2).toNatClampNeg = 2 from nI_clamp (by decide)]
  show Ex _ _ 8 61216 _ _ _ (KM61 B) _
  refine ex_dup (pc := 255) (by decide +kernel) rfl ?_
  refine ex_iconst (pc := 256) (k := 3) (v := nI 3) (by decide +kernel) (by decide) ?_
  refine ex_ldc2 (pc := 257) (v := 1936292453) (by decide +kernel) (in_t5 (i := 60) rfl rfl) ?_
  refine ex_last (pc := 260) (v := 1936292453) (by decide +kernel) (sh_L (b := 78) (n := 27) (i := 26) (j := 104) hB (KMs_61 B) rfl) (vN (n := 11) (by decide) (by decide)) ?_
  rw [show (nI 3).toNatClampNeg = 3 from nI_clamp (by decide)]
  show Ex _ _ 8 61216 _ _ _ (KM62 B) _
  refine ex_dup (pc := 261) (by decide +kernel) rfl ?_
  refine ex_iconst (pc := 262) (k := 4) (v := nI 4) (by decide +kernel) (by decide) ?_
  refine ex_ldc2 (pc := 263) (v := 478694368626) (by decide +kernel) (in_t5 (i := 61) rfl rfl) ?_
  refine ex_last (pc := 266) (v := 478694368626) (by decide +kernel) (sh_L (b := 78) (n := 27) (i := 26) (j := 104) hB (KMs_62 B) rfl) (vN (n := 11) (by decide) (by decide)) ?_
  rw [show (nI 4).toNatClampNeg = 4 from nI_clamp (by decide)]
  show Ex _ _ 8 61216 _ _ _ (KM63 B) _
  refine ex_dup (pc := 267) (by decide +kernel) rfl ?_
  refine ex_iconst (pc := 268) (k := 5) (v := nI 5) (by decide +kernel) (by decide) ?_
  refine ex_ldc2 (pc := 269) (v := 6578553) (by decide +kernel) (in_t5 (i := 62) rfl rfl) ?_
  refine ex_last (pc := 272) (v := 6578553) (by decide +kernel) (sh_L (b := 78) (n := 27) (i := 26) (j := 104) hB (KMs_63 B) rfl) (vN (n := 11) (by decide) (by decide)) ?_
  rw [show (nI 5).toNatClampNeg = 5 from nI_clamp (by decide)]
  show Ex _ _ 8 61216 _ _ _ (KM64 B) _
  refine ex_dup (pc := 273) (by decide +kernel) rfl ?_
  refine ex_bipush (pc := 274) (k := 6) (v := nI 6) (by decide +kernel) (by decide) ?_
  refine ex_ldc2 (pc := 276) (v := 2002873972) (by decide +kernel) (in_t5 (i := 63) rfl rfl) ?_
  refine ex_last (pc := 279) (v := 2002873972) (by decide +kernel) (sh_L (b := 78) (n := 27) (i := 26) (j := 104) hB (KMs_64 B) rfl) (vN (n := 11) (by decide) (by decide)) ?_
  rw [show (nI 6).toNatClampNeg = 6 from nI_clamp (by decide)]
  show Ex _ _ 8 61216 _ _ _ (KM65 B) _
  refine ex_dup (pc := 280) (by decide +kernel) rfl ?_
  refine ex_bipush (pc := 281) (k := 7) (v := nI 7) (by decide +kernel) (by decide) ?_
  refine ex_ldc2 (pc := 283) (v := 2003133803) (by decide +kernel) (in_t5 (i := 64) rfl rfl) ?_
  refine ex_last (pc := 286) (v := 2003133803) (by decide +kernel) (sh_L (b := 78) (n := 27) (i := 26) (j := 104) hB (KMs_65 B) rfl) (vN (n := 11) (by decide) (by decide)) ?_
  rw [show (nI 7).toNatClampNeg = 7 from nI_clamp (by decide)]
  show Ex _ _ 8 61216 _ _ _ (KM66 B) _
  refine ex_dup (pc := 287) (by decide +kernel) rfl ?_
  refine ex_bipush (pc := 288) (k := 8) (v := nI 8) (by decide +kernel) (by decide) ?_
  refine ex_ldc2 (pc := 290) (v := 28530) (by decide +kernel) (in_t5 (i := 65) rfl rfl) ?_
  refine ex_last (pc := 293) (v := 28530) (by decide +kernel) (sh_L (b := 78) (n := 27) (i := 26) (j := 104) hB (KMs_66 B) rfl) (vN (n := 11) (by decide) (by decide)) ?_
  rw [show (nI 8).toNatClampNeg = 8 from nI_clamp (by decide)]
  show Ex _ _ 8 61216 _ _ _ (KM67 B) _
  refine ex_dup (pc := 294) (by decide +kernel) rfl ?_
  refine ex_bipush (pc := 295) (k := 9) (v := nI 9) (by decide +kernel) (by decide) ?_
  refine ex_ldc2 (pc := 297) (v := 6385252) (by decide +kernel) (in_t5 (i := 66) rfl rfl) ?_
  refine ex_last (pc := 300) (v := 6385252) (by decide +kernel) (sh_L (b := 78) (n := 27) (i := 26) (j := 104) hB (KMs_67 B) rfl) (vN (n := 11) (by decide) (by decide)) ?_
  rw [show (nI 9).toNatClampNeg = 9 from nI_clamp (by decide)]
  show Ex _ _ 8 61216 _ _ _ (KM68 B) _
  refine ex_dup (pc := 301) (by decide +kernel) rfl ?_
  refine ex_bipush (pc := 302) (k := 10) (v := nI 10) (by decide +kernel) (by decide) ?_
  refine ex_ldc2 (pc := 304) (v := 7237492) (by decide +kernel) (in_t5 (i := 67) rfl rfl) ?_
  refine ex_last (pc := 307) (v := 7237492) (by decide +kernel) (sh_L (b := 78) (n := 27) (i := 26) (j := 104) hB (KMs_68 B) rfl) (vN (n := 11) (by decide) (by decide)) ?_
  rw [show (nI 10).toNatClampNeg = 10 from nI_clamp (by decide)]
  show Ex _ _ 8 61216 _ _ _ (KM69 B) _
  refine ex_putR (pc := 308) (index := 114) (ci := 11) (k := 44) (fin := true) (v := some 104) (by decide +kernel) ⟨_, _, _, _, cf_MM, by decide, in_t5 (i := 120) rfl rfl, rfl, (fun _ => rfl), rfl, rfl⟩ rfl (fun _ => rfl) (sh_L (b := 78) (n := 27) (i := 0) (j := 78) hB (KMs_69 B) rfl) ?_
  show Ex _ _ 8 61216 _ _ _ (KM70 B) _
  refine ex_aload_n (pc := 311) (k := 0) (by decide +kernel) rfl ?_
  refine ex_sipush (pc := 312) (k := 200) (v := nI 200) (by decide +kernel) (by decide) ?_
  refine ex_newa_int (pc := 315) (N := 200) (by decide +kernel) (in_t1 (i := 99) rfl rfl) (by decide) (by decide) (by decide) ⟨by decide, by decide⟩ (Nat.lt_of_le_of_lt (Nat.le_of_eq (sh_N (b := 78) (n := 27) (q := 105) hB (KMs_70 B) rfl)) (by decide)) ?_
  rw [nw_L (sh_N (b := 78) (n := 27) (q := 105) hB (KMs_70 B) rfl), (sh_N (b := 78) (n := 27) (q := 105) hB (KMs_70 B) rfl)]
  show Ex _ _ 7 61016 _ _ _ (KM71 B) _
  refine ex_putR (pc := 317) (index := 118) (ci := 11) (k := 45) (fin := true) (v := some 105) (by decide +kernel) ⟨_, _, _, _, cf_MM, by decide, in_t5 (i := 121) rfl rfl, rfl, (fun _ => rfl), rfl, rfl⟩ rfl (fun _ => rfl) (sh_L (b := 78) (n := 28) (i := 0) (j := 78) hB (KMs_71 B) rfl) ?_
  show Ex _ _ 7 61016 _ _ _ (KM72 B) _
  refine ex_aload_n (pc := 320) (k := 0) (by decide +kernel) rfl ?_
  refine ex_sipush (pc := 321) (k := 200) (v := nI 200) (by decide +kernel) (by decide) ?_
  refine ex_newa_int (pc := 324) (N := 200) (by decide +kernel) (in_t1 (i := 99) rfl rfl) (by decide) (by decide) (by decide) ⟨by decide, by decide⟩ (Nat.lt_of_le_of_lt (Nat.le_of_eq (sh_N (b := 78) (n := 28) (q := 106) hB (KMs_72 B) rfl)) (by decide)) ?_
  rw [nw_L (sh_N (b := 78) (n := 28) (q := 106) hB (KMs_72 B) rfl), (sh_N (b := 78) (n := 28) (q := 106) hB (KMs_72 B) rfl)]
  show Ex _ _ 6 60816 _ _ _ (KM73 B) _
  refine ex_putR (pc := 326) (index := 121) (ci := 11) (k := 49) (fin := true) (v := some 106) (by decide +kernel) ⟨_, _, _, _, cf_MM, by decide, in_t5 (i := 125) rfl rfl, rfl, (fun _ => rfl), rfl, rfl⟩ rfl (fun _ => rfl) (sh_L (b := 78) (n := 29) (i := 0) (j := 78) hB (KMs_73 B) rfl) ?_
  show Ex _ _ 6 60816 _ _ _ (KM74 B) _
  refine ex_aload_n (pc := 329) (k := 0) (by decide +kernel) rfl ?_
  refine ex_bipush (pc := 330) (k := 6) (v := nI 6) (by decide +kernel) (by decide) ?_
  refine ex_newa_int (pc := 332) (N := 6) (by decide +kernel) (in_t1 (i := 99) rfl rfl) (by decide) (by decide) (by decide) ⟨by decide, by decide⟩ (Nat.lt_of_le_of_lt (Nat.le_of_eq (sh_N (b := 78) (n := 29) (q := 107) hB (KMs_74 B) rfl)) (by decide)) ?_
  rw [nw_L (sh_N (b := 78) (n := 29) (q := 107) hB (KMs_74 B) rfl), (sh_N (b := 78) (n := 29) (q := 107) hB (KMs_74 B) rfl)]
  show Ex _ _ 5 60810 _ _ _ (KM75 B) _
  refine ex_putR (pc := 334) (index := 124) (ci := 11) (k := 50) (fin := true) (v := some 107) (by decide +kernel) ⟨_, _, _, _, cf_MM, by decide, in_t5 (i := 126) rfl rfl, rfl, (fun _ => rfl), rfl, rfl⟩ rfl (fun _ => rfl) (sh_L (b := 78) (n := 30) (i := 0) (j := 78) hB (KMs_75 B) rfl) ?_
  show Ex _ _ 5 60810 _ _ _ (KM76 B) _
  refine ex_aload_n (pc := 337) (k := 0) (by decide +kernel) rfl ?_
  refine ex_bipush (pc := 338) (k := 36) (v := nI 36) (by decide +kernel) (by decide) ?_
  refine ex_newa_boolean (pc := 340) (N := 36) (by decide +kernel) (in_t6 (i := 6) rfl rfl) (by decide) (by decide) (by decide) ⟨by decide, by decide⟩ (Nat.lt_of_le_of_lt (Nat.le_of_eq (sh_N (b := 78) (n := 30) (q := 108) hB (KMs_76 B) rfl)) (by decide)) ?_
  rw [nw_L (sh_N (b := 78) (n := 30) (q := 108) hB (KMs_76 B) rfl), (sh_N (b := 78) (n := 30) (q := 108) hB (KMs_76 B) rfl)]
  show Ex _ _ 4 60774 _ _ _ (KM77 B) _
  refine ex_putR (pc := 342) (index := 127) (ci := 11) (k := 51) (fin := true) (v := some 108) (by decide +kernel) ⟨_, _, _, _, cf_MM, by decide, in_t5 (i := 127) rfl rfl, rfl, (fun _ => rfl), rfl, rfl⟩ rfl (fun _ => rfl) (sh_L (b := 78) (n := 31) (i := 0) (j := 78) hB (KMs_77 B) rfl) ?_
  show Ex _ _ 4 60774 _ _ _ (KM78 B) _
  refine ex_aload_n (pc := 345) (k := 0) (by decide +kernel) rfl ?_
  refine ex_bipush (pc := 346) (k := 6) (v := nI 6) (by decide +kernel) (by decide) ?_
  refine ex_newa_int (pc := 348) (N := 6) (by decide +kernel) (in_t1 (i := 99) rfl rfl) (by decide) (by decide) (by decide) ⟨by decide, by decide⟩ (Nat.lt_of_le_of_lt (Nat.le_of_eq (sh_N (b := 78) (n := 31) (q := 109) hB (KMs_78 B) rfl)) (by decide)) ?_
  rw [nw_L (sh_N (b := 78) (n := 31) (q := 109) hB (KMs_78 B) rfl), (sh_N (b := 78) (n := 31) (q := 109) hB (KMs_78 B) rfl)]
  show Ex _ _ 3 60768 _ _ _ (KM79 B) _
  refine ex_putR (pc := 350) (index := 131) (ci := 11) (k := 52) (fin := true) (v := some 109) (by decide +kernel) ⟨_, _, _, _, cf_MM, by decide, in_t5 (i := 128) rfl rfl, rfl, (fun _ => rfl), rfl, rfl⟩ rfl (fun _ => rfl) (sh_L (b := 78) (n := 32) (i := 0) (j := 78) hB (KMs_79 B) rfl) ?_
  show Ex _ _ 3 60768 _ _ _ (KM80 B) _
  refine ex_aload_n (pc := 353) (k := 0) (by decide +kernel) rfl ?_
  refine ex_sipush (pc := 354) (k := 29400) (v := nI 29400) (by decide +kernel) (by decide) ?_
  refine ex_newa_int (pc := 357) (N := 29400) (by decide +kernel) (in_t1 (i := 99) rfl rfl) (by decide) (by decide) (by decide) ⟨by decide, by decide⟩ (Nat.lt_of_le_of_lt (Nat.le_of_eq (sh_N (b := 78) (n := 32) (q := 110) hB (KMs_80 B) rfl)) (by decide)) ?_
  rw [nw_L (sh_N (b := 78) (n := 32) (q := 110) hB (KMs_80 B) rfl), (sh_N (b := 78) (n := 32) (q := 110) hB (KMs_80 B) rfl)]
  show Ex _ _ 2 31368 _ _ _ (KM81 B) _
  refine ex_putR (pc := 359) (index := 134) (ci := 11) (k := 53) (fin := true) (v := some 110) (by decide +kernel) ⟨_, _, _, _, cf_MM, by decide, in_t5 (i := 129) rfl rfl, rfl, (fun _ => rfl), rfl, rfl⟩ rfl (fun _ => rfl) (sh_L (b := 78) (n := 33) (i := 0) (j := 78) hB (KMs_81 B) rfl) ?_
  show Ex _ _ 2 31368 _ _ _ (KM82 B) _
  refine ex_aload_n (pc := 362) (k := 0) (by decide +kernel) rfl ?_
  refine ex_sipush (pc := 363) (k := 29400) (v := nI 29400) (by decide +kernel) (by decide) ?_
  refine ex_newa_boolean (pc := 366) (N := 29400) (by decide +kernel) (in_t6 (i := 6) rfl rfl) (by decide) (by decide) (by decide) ⟨by decide, by decide⟩ (Nat.lt_of_le_of_lt (Nat.le_of_eq (sh_N (b := 78) (n := 33) (q := 111) hB (KMs_82 B) rfl)) (by decide)) ?_
  rw [nw_L (sh_N (b := 78) (n := 33) (q := 111) hB (KMs_82 B) rfl), (sh_N (b := 78) (n := 33) (q := 111) hB (KMs_82 B) rfl)]
  show Ex _ _ 1 1968 _ _ _ (KM83 B) _
  refine ex_putR (pc := 368) (index := 137) (ci := 11) (k := 54) (fin := true) (v := some 111) (by decide +kernel) ⟨_, _, _, _, cf_MM, by decide, in_t5 (i := 130) rfl rfl, rfl, (fun _ => rfl), rfl, rfl⟩ rfl (fun _ => rfl) (sh_L (b := 78) (n := 34) (i := 0) (j := 78) hB (KMs_83 B) rfl) ?_
  show Ex _ _ 1 1968 _ _ _ (KM84 B) _
  refine ex_aload_n (pc := 371) (k := 0) (by decide +kernel) rfl ?_
  refine ex_sipush (pc := 372) (k := 1968) (v := nI 1968) (by decide +kernel) (by decide) ?_
  refine ex_newa_int (pc := 375) (N := 1968) (by decide +kernel) (in_t1 (i := 99) rfl rfl) (by decide) (by decide) (by decide) ⟨by decide, by decide⟩ (Nat.lt_of_le_of_lt (Nat.le_of_eq (sh_N (b := 78) (n := 34) (q := 112) hB (KMs_84 B) rfl)) (by decide)) ?_
  rw [nw_L (sh_N (b := 78) (n := 34) (q := 112) hB (KMs_84 B) rfl), (sh_N (b := 78) (n := 34) (q := 112) hB (KMs_84 B) rfl)]
  show Ex _ _ 0 0 _ _ _ (KM85 B) _
  refine ex_putR (pc := 377) (index := 140) (ci := 11) (k := 55) (fin := true) (v := some 112) (by decide +kernel) ⟨_, _, _, _, cf_MM, by decide, in_t5 (i := 131) rfl rfl, rfl, (fun _ => rfl), rfl, rfl⟩ rfl (fun _ => rfl) (sh_L (b := 78) (n := 35) (i := 0) (j := 78) hB (KMs_85 B) rfl) ?_
  show Ex _ _ 0 0 _ _ _ (KM86 B) _
  exact h
theorem k_MM_init_380 {d bc bs : Nat}  {M : Mem} {Φ : Option Value → Mem → Prop} (hF : Fm M) (h : Con d m_MM_first 0 0 [.ref 78, .int (nI 0), .int (nI 0), .int (nI 100004), .int (nI 14), .int (nI 100010)] M (PV fun M1 => Fm M1 ∧ Con d m_MM_first 0 0 [.ref 78, .int (nI 4), .int (nI 2), .int (nI 100002), .int (nI 18), .int (nI 17)] M1 (PV fun M2 => Fm M2 ∧ Con d m_MM_first 0 0 [.ref 78, .int (nI 8), .int (nI 4), .int (nI 100005), .int (nI 18), .int (nI 16)] M2 (PV fun M3 => Fm M3 ∧ Φ none (wi (wi M3 88 1 (nI 3)) 88 2 (nI 12)))))) : Ex (d + 1) m_MM_init bc bs 380 [some (.ref 78)] [] M Φ := by
  refine ex_aload_n (pc := 380) (k := 0) (by decide +kernel) rfl ?_
  refine ex_iconst (pc := 381) (k := 0) (v := nI 0) (by decide +kernel) (by decide) ?_
  refine ex_iconst (pc := 382) (k := 0) (v := nI 0) (by decide +kernel) (by decide) ?_
  refine ex_ldc (pc := 383) (v := nI 100004) (by decide +kernel) (in_t5 (i := 68) rfl rfl) ?_
  refine ex_bipush (pc := 385) (k := 14) (v := nI 14) (by decide +kernel) (by decide) ?_
  refine ex_ldc (pc := 387) (v := nI 100010) (by decide +kernel) (in_t5 (i := 69) rfl rfl) ?_
  refine ex_callV (pc := 389) (as := [.int (nI 0), .int (nI 0), .int (nI 100004), .int (nI 14), .int (nI 100010)]) (by decide +kernel) F_MM_first (in_t5 (i := 70) rfl rfl) (hF.s (j := 78) rfl) rfl (by decide) rfl rfl (Nat.le_of_ble_eq_true rfl) (Nat.lt_succ_self _) ⟨Nat.zero_le _, Nat.zero_le _⟩ (KC_V (Con.mono h ?_))
  intro o M1 ⟨e9, hF1, h⟩
  refine ⟨e9, ?_⟩
  refine ex_aload_n (pc := 392) (k := 0) (by decide +kernel) rfl ?_
  refine ex_iconst (pc := 393) (k := 4) (v := nI 4) (by decide +kernel) (by decide) ?_
  refine ex_iconst (pc := 394) (k := 2) (v := nI 2) (by decide +kernel) (by decide) ?_
  refine ex_ldc (pc := 395) (v := nI 100002) (by decide +kernel) (in_t5 (i := 74) rfl rfl) ?_
  refine ex_bipush (pc := 397) (k := 18) (v := nI 18) (by decide +kernel) (by decide) ?_
  refine ex_bipush (pc := 399) (k := 17) (v := nI 17) (by decide +kernel) (by decide) ?_
  refine ex_callV (pc := 401) (as := [.int (nI 4), .int (nI 2), .int (nI 100002), .int (nI 18), .int (nI 17)]) (by decide +kernel) F_MM_first (in_t5 (i := 70) rfl rfl) (hF1.s (j := 78) rfl) rfl (by decide) rfl rfl (Nat.le_of_ble_eq_true rfl) (Nat.lt_succ_self _) ⟨Nat.zero_le _, Nat.zero_le _⟩ (KC_V (Con.mono h ?_))
  intro o M2 ⟨e9, hF2, h⟩
  refine ⟨e9, ?_⟩
  refine ex_aload_n (pc := 404) (k := 0) (by decide +kernel) rfl ?_
  refine ex_bipush (pc := 405) (k := 8) (v := nI 8) (by decide +kernel) (by decide) ?_
  refine ex_iconst (pc := 407) (k := 4) (v := nI 4) (by decide +kernel) (by decide) ?_
  refine ex_ldc (pc := 408) (v := nI 100005) (by decide +kernel) (in_t5 (i := 75) rfl rfl) ?_
  refine ex_bipush (pc := 410) (k := 18) (v := nI 18) (by decide +kernel) (by decide) ?_
  refine ex_bipush (pc := 412) (k := 16) (v := nI 16) (by decide +kernel) (by decide) ?_
  refine ex_callV (pc := 414) (as := [.int (nI 8), .int (nI 4), .int (nI 100005), .int (nI 18), .int (nI 16)]) (by decide +kernel) F_MM_first (in_t5 (i := 70) rfl rfl) (hF2.s (j := 78) rfl) rfl (by decide) rfl rfl (Nat.le_of_ble_eq_true rfl) (Nat.lt_succ_self _) ⟨Nat.zero_le _, Nat.zero_le _⟩ (KC_V (Con.mono h ?_))
  intro o M3 ⟨e9, hF3, h⟩
  refine ⟨e9, ?_⟩
  refine ex_aload_n (pc := 417) (k := 0) (by decide +kernel) rfl ?_
  refine ex_getR (pc := 418) (a := 88) (by decide +kernel) lf_MM_41 (hF3.s (j := 78) rfl) (hF3.r (j := 78) (k := 13) rfl rfl) ?_
  refine ex_iconst (pc := 421) (k := 1) (v := nI 1) (by decide +kernel) (by decide) ?_
  refine ex_iconst (pc := 422) (k := 3) (v := nI 3) (by decide +kernel) (by decide) ?_
  refine ey_iast (pc := 423) (by decide +kernel) (hF3.s (j := 88) rfl) (vp_in_nI (by decide) (by decide)) (nI_clamp (by decide)) ?_
  refine ex_aload_n (pc := 424) (k := 0) (by decide +kernel) rfl ?_
  refine ex_getR (pc := 425) (a := 88) (by decide +kernel) lf_MM_41 (hF3.s (j := 78) rfl) (hF3.r (j := 78) (k := 13) rfl rfl) ?_
  refine ex_iconst (pc := 428) (k := 2) (v := nI 2) (by decide +kernel) (by decide) ?_
  refine ex_bipush (pc := 429) (k := 12) (v := nI 12) (by decide +kernel) (by decide) ?_
  refine ey_iast (pc := 431) (by decide +kernel) (hF3.s (j := 88) rfl) (vp_in_nI (by decide) (by decide)) (nI_clamp (by decide)) ?_
  exact ex_return (pc := 432) (by decide +kernel) rfl h
