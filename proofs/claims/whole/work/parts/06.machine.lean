/-! A machine on pictures: cells 0, 1, 2 .. in the order of their making; 999 the script; 1000 + q the static row q. What it answers, the machine does (part 06). -/
def lyL : List (Nat × Nat) := [(11, 12), (9, 7), (0, 12), (1, 8), (0, 50), (0, 20), (3, 3), (0, 32), (3, 3), (0, 32), (3, 3), (0, 32), (3, 3), (0, 32), (3, 3), (0, 32), (3, 3), (0, 32), (3, 3), (0, 32), (3, 3), (0, 32), (9, 7), (0, 12), (1, 8), (0, 50), (0, 20), (3, 3), (0, 32), (3, 3), (0, 32), (3, 3), (0, 32), (3, 3), (0, 32), (3, 3), (0, 32), (3, 3), (0, 32), (3, 3), (0, 32), (3, 3), (0, 32), (0, 6), (2, 4), (8, 9), (0, 50), (0, 50), (0, 50), (0, 10), (7, 10), (4, 6), (0, 576), (0, 156), (0, 12), (0, 64), (0, 84), (0, 12), (0, 64), (0, 64), (0, 64), (0, 64), (6, 4), (0, 12), (0, 36), (10, 5), (0, 40), (0, 12), (0, 256), (5, 3), (0, 40), (5, 3), (0, 40), (5, 3), (0, 40), (5, 3), (0, 40), (12, 33), (0, 366), (0, 366), (0, 6), (0, 7), (0, 90), (0, 90), (0, 90), (0, 60), (0, 60), (0, 12), (0, 144), (0, 12), (0, 4096), (0, 12), (0, 36), (0, 40), (0, 4), (0, 4), (0, 160), (0, 40)]
def kd (k : Nat) : Nat := (lyL.getD k (99, 0)).1
def ln (k : Nat) : Nat := (lyL.getD k (99, 0)).2
def mk_0 (pc : Nat) : Nat := bif Nat.beq pc 16 then 1 else 0
def mk_1 (pc : Nat) : Nat := bif Nat.blt pc 14 then (bif Nat.beq pc 13 then 1 else 0) else (bif Nat.beq pc 14 then 1 else 0)
def mk_2 (pc : Nat) : Nat := bif Nat.blt pc 73 then (bif Nat.beq pc 52 then 1 else 0) else (bif Nat.blt pc 74 then (bif Nat.beq pc 73 then 1 else 0) else (bif Nat.beq pc 74 then 1 else 0))
def mk_3 (pc : Nat) : Nat := bif Nat.blt pc 66 then (bif Nat.beq pc 65 then 1 else 0) else (bif Nat.beq pc 66 then 1 else 0)
def mk_4 (pc : Nat) : Nat := bif Nat.beq pc 18 then 1 else 0
def mk_5 (pc : Nat) : Nat := bif Nat.blt pc 15 then (bif Nat.beq pc 14 then 1 else 0) else (bif Nat.beq pc 15 then 1 else 0)
def mk_6 (pc : Nat) : Nat := bif Nat.beq pc 10 then 1 else 0
def mk_7 (pc : Nat) : Nat := bif Nat.beq pc 10 then 1 else 0
def mk_8 (pc : Nat) : Nat := bif Nat.beq pc 22 then 1 else 0
def mk_9 (pc : Nat) : Nat := 0
def mk_10 (pc : Nat) : Nat := 0
def mk_11 (pc : Nat) : Nat := 0
def mk_12 (pc : Nat) : Nat := 0
def mk_13 (pc : Nat) : Nat := bif Nat.blt pc 142 then (bif Nat.beq pc 129 then 1 else 0) else (bif Nat.beq pc 142 then 1 else 0)
def mk_14 (pc : Nat) : Nat := bif Nat.beq pc 25 then 1 else 0
def mk_15 (pc : Nat) : Nat := bif Nat.beq pc 21 then 1 else 0
def mk_16 (pc : Nat) : Nat := 0
def mk_17 (pc : Nat) : Nat := 0
def mk_18 (pc : Nat) : Nat := 0
def mk_19 (pc : Nat) : Nat := 0
def mk_20 (pc : Nat) : Nat := bif Nat.blt pc 58 then (bif Nat.beq pc 2 then 8 else 0) else (bif Nat.beq pc 58 then 1 else 0)
def mk_21 (pc : Nat) : Nat := 0
def mk_22 (pc : Nat) : Nat := bif Nat.blt pc 55 then (bif Nat.beq pc 28 then 16 else 0) else (bif Nat.blt pc 61 then (bif Nat.beq pc 55 then 16 else 0) else (bif Nat.beq pc 61 then 1 else 0))
def mk_23 (pc : Nat) : Nat := bif Nat.blt pc 26 then (bif Nat.blt pc 21 then (bif Nat.beq pc 16 then 4 else 0) else (bif Nat.beq pc 21 then 4 else 0)) else (bif Nat.blt pc 89 then (bif Nat.beq pc 26 then 8 else 0) else (bif Nat.blt pc 95 then (bif Nat.beq pc 89 then 8 else 0) else (bif Nat.beq pc 95 then 1 else 0)))
def mk_24 (pc : Nat) : Nat := bif Nat.blt pc 69 then (bif Nat.beq pc 3 then 64 else 0) else (bif Nat.beq pc 69 then 1 else 0)
def mk_25 (pc : Nat) : Nat := bif Nat.blt pc 46 then (bif Nat.beq pc 42 then 1 else 0) else (bif Nat.blt pc 47 then (bif Nat.beq pc 46 then 1 else 0) else (bif Nat.beq pc 47 then 1 else 0))
def mk_26 (pc : Nat) : Nat := bif Nat.blt pc 57 then (bif Nat.blt pc 25 then (bif Nat.beq pc 3 then 28 else 0) else (bif Nat.blt pc 38 then (bif Nat.beq pc 25 then 28 else 0) else (bif Nat.beq pc 38 then 1 else 0))) else (bif Nat.blt pc 112 then (bif Nat.beq pc 57 then 124 else 0) else (bif Nat.blt pc 118 then (bif Nat.beq pc 112 then 124 else 0) else (bif Nat.beq pc 118 then 1 else 0)))
def mk_27 (pc : Nat) : Nat := bif Nat.blt pc 79 then (bif Nat.beq pc 11 then 126 else 0) else (bif Nat.blt pc 85 then (bif Nat.beq pc 79 then 126 else 0) else (bif Nat.beq pc 85 then 1 else 0))
def mk_28 (pc : Nat) : Nat := bif Nat.blt pc 60 then (bif Nat.blt pc 21 then (bif Nat.beq pc 7 then 4 else 0) else (bif Nat.beq pc 21 then 16 else 0)) else (bif Nat.blt pc 71 then (bif Nat.beq pc 60 then 16 else 0) else (bif Nat.blt pc 77 then (bif Nat.beq pc 71 then 4 else 0) else (bif Nat.beq pc 77 then 1 else 0)))
def mk_29 (pc : Nat) : Nat := bif Nat.blt pc 31 then (bif Nat.beq pc 2 then 8 else 0) else (bif Nat.beq pc 31 then 1 else 0)
def mk_30 (pc : Nat) : Nat := bif Nat.blt pc 62 then (bif Nat.blt pc 38 then (bif Nat.beq pc 14 then 14 else 0) else (bif Nat.beq pc 38 then 14 else 0)) else (bif Nat.blt pc 68 then (bif Nat.beq pc 62 then 14 else 0) else (bif Nat.beq pc 68 then 6 else 0))
def mk_31 (pc : Nat) : Nat := bif Nat.blt pc 51 then (bif Nat.beq pc 10 then 32 else 0) else (bif Nat.blt pc 57 then (bif Nat.beq pc 51 then 32 else 0) else (bif Nat.beq pc 57 then 9 else 0))
def mk_32 (pc : Nat) : Nat := 0
def mk_33 (pc : Nat) : Nat := 0
def mk_34 (pc : Nat) : Nat := bif Nat.beq pc 12 then 1 else 0
def mk_35 (pc : Nat) : Nat := 0
def mk_36 (pc : Nat) : Nat := bif Nat.beq pc 27 then 1 else 0
def mk_37 (pc : Nat) : Nat := bif Nat.blt pc 31 then (bif Nat.beq pc 30 then 1 else 0) else (bif Nat.beq pc 31 then 1 else 0)
def mk_38 (pc : Nat) : Nat := 0
def mk_39 (pc : Nat) : Nat := 0
def mk_40 (pc : Nat) : Nat := bif Nat.blt pc 78 then (bif Nat.blt pc 39 then (bif Nat.beq pc 9 then 32 else 0) else (bif Nat.beq pc 39 then 64 else 0)) else (bif Nat.blt pc 84 then (bif Nat.beq pc 78 then 64 else 0) else (bif Nat.blt pc 90 then (bif Nat.beq pc 84 then 32 else 0) else (bif Nat.beq pc 90 then 1 else 0)))
def mk_41 (pc : Nat) : Nat := bif Nat.blt pc 100 then (bif Nat.blt pc 91 then (bif Nat.blt pc 43 then (bif Nat.beq pc 2 then 16 else 0) else (bif Nat.beq pc 43 then 128 else 0)) else (bif Nat.blt pc 97 then (bif Nat.beq pc 91 then 128 else 0) else (bif Nat.beq pc 97 then 48 else 0))) else (bif Nat.blt pc 154 then (bif Nat.blt pc 148 then (bif Nat.beq pc 100 then 112 else 0) else (bif Nat.beq pc 148 then 112 else 0)) else (bif Nat.blt pc 160 then (bif Nat.beq pc 154 then 16 else 0) else (bif Nat.beq pc 160 then 1 else 0)))
def mk_42 (pc : Nat) : Nat := bif Nat.blt pc 46 then (bif Nat.beq pc 36 then 17 else 0) else (bif Nat.beq pc 46 then 1 else 0)
def mk_43 (pc : Nat) : Nat := bif Nat.blt pc 38 then (bif Nat.beq pc 37 then 1 else 0) else (bif Nat.beq pc 38 then 1 else 0)
def mk_44 (pc : Nat) : Nat := bif Nat.blt pc 70 then (bif Nat.beq pc 53 then 6 else 0) else (bif Nat.blt pc 75 then (bif Nat.beq pc 70 then 1 else 0) else (bif Nat.beq pc 75 then 1 else 0))
def mk_45 (pc : Nat) : Nat := bif Nat.beq pc 73 then 1 else 0
def mk_46 (pc : Nat) : Nat := bif Nat.blt pc 67 then (bif Nat.blt pc 41 then (bif Nat.beq pc 3 then 32 else 0) else (bif Nat.beq pc 41 then 32 else 0)) else (bif Nat.blt pc 73 then (bif Nat.beq pc 67 then 32 else 0) else (bif Nat.beq pc 73 then 1 else 0))
def mk_47 (pc : Nat) : Nat := 0
def mk_48 (pc : Nat) : Nat := 0
def mk_49 (pc : Nat) : Nat := bif Nat.blt pc 73 then (bif Nat.blt pc 72 then (bif Nat.beq pc 4 then 8 else 0) else (bif Nat.beq pc 72 then 8 else 0)) else (bif Nat.blt pc 79 then (bif Nat.beq pc 73 then 8 else 0) else (bif Nat.beq pc 79 then 3 else 0))
def mk_50 (pc : Nat) : Nat := bif Nat.blt pc 43 then (bif Nat.blt pc 10 then (bif Nat.beq pc 2 then 8 else 0) else (bif Nat.beq pc 10 then 16 else 0)) else (bif Nat.blt pc 49 then (bif Nat.beq pc 43 then 8 else 0) else (bif Nat.beq pc 49 then 1 else 0))
def mk_51 (pc : Nat) : Nat := bif Nat.blt pc 141 then (bif Nat.blt pc 29 then (bif Nat.beq pc 3 then 64 else 0) else (bif Nat.beq pc 29 then 512 else 0)) else (bif Nat.blt pc 147 then (bif Nat.beq pc 141 then 512 else 0) else (bif Nat.blt pc 153 then (bif Nat.beq pc 147 then 64 else 0) else (bif Nat.beq pc 153 then 1 else 0)))
def mk_52 (pc : Nat) : Nat := bif Nat.beq pc 15 then 1 else 0
def mk_53 (pc : Nat) : Nat := bif Nat.beq pc 25 then 1 else 0
def mk_54 (pc : Nat) : Nat := bif Nat.blt pc 79 then (bif Nat.beq pc 36 then 64 else 0) else (bif Nat.blt pc 85 then (bif Nat.beq pc 79 then 64 else 0) else (bif Nat.beq pc 85 then 1 else 0))
def mk_55 (pc : Nat) : Nat := bif Nat.blt pc 73 then (bif Nat.beq pc 9 then 62 else 0) else (bif Nat.beq pc 73 then 1 else 0)
def mk_56 (pc : Nat) : Nat := bif Nat.blt pc 41 then (bif Nat.beq pc 15 then 16 else 0) else (bif Nat.blt pc 47 then (bif Nat.beq pc 41 then 16 else 0) else (bif Nat.beq pc 47 then 1 else 0))
def mk_57 (pc : Nat) : Nat := bif Nat.blt pc 218 then (bif Nat.beq pc 29 then 64 else 0) else (bif Nat.blt pc 224 then (bif Nat.beq pc 218 then 64 else 0) else (bif Nat.beq pc 224 then 1 else 0))
def mk_58 (pc : Nat) : Nat := 0
def mk_59 (pc : Nat) : Nat := 0
def mk_60 (pc : Nat) : Nat := bif Nat.blt pc 72 then (bif Nat.beq pc 49 then 2 else 0) else (bif Nat.beq pc 72 then 2 else 0)
def mk_61 (pc : Nat) : Nat := bif Nat.blt pc 50 then (bif Nat.beq pc 7 then 8 else 0) else (bif Nat.beq pc 50 then 1 else 0)
def mk_62 (pc : Nat) : Nat := bif Nat.blt pc 50 then (bif Nat.beq pc 7 then 8 else 0) else (bif Nat.beq pc 50 then 1 else 0)
def mk_63 (pc : Nat) : Nat := bif Nat.blt pc 52 then (bif Nat.beq pc 28 then 8 else 0) else (bif Nat.beq pc 52 then 1 else 0)
def mk_64 (pc : Nat) : Nat := bif Nat.blt pc 30 then (bif Nat.beq pc 12 then 16 else 0) else (bif Nat.blt pc 65 then (bif Nat.beq pc 30 then 16 else 0) else (bif Nat.beq pc 65 then 1 else 0))
def mk_65 (pc : Nat) : Nat := bif Nat.blt pc 36 then (bif Nat.beq pc 12 then 16 else 0) else (bif Nat.blt pc 71 then (bif Nat.beq pc 36 then 16 else 0) else (bif Nat.beq pc 71 then 1 else 0))
def mk_66 (pc : Nat) : Nat := bif Nat.blt pc 124 then (bif Nat.beq pc 89 then 8 else 0) else (bif Nat.blt pc 128 then (bif Nat.beq pc 124 then 2 else 0) else (bif Nat.beq pc 128 then 1 else 0))
def mk_67 (pc : Nat) : Nat := bif Nat.blt pc 48 then (bif Nat.beq pc 4 then 8 else 0) else (bif Nat.beq pc 48 then 4 else 0)
def mk_68 (pc : Nat) : Nat := bif Nat.beq pc 26 then 1 else 0
def mk_69 (pc : Nat) : Nat := bif Nat.blt pc 44 then (bif Nat.beq pc 43 then 1 else 0) else (bif Nat.beq pc 44 then 1 else 0)
def mk_70 (pc : Nat) : Nat := bif Nat.beq pc 16 then 1 else 0
def mk_71 (pc : Nat) : Nat := bif Nat.blt pc 17 then (bif Nat.beq pc 16 then 1 else 0) else (bif Nat.beq pc 17 then 1 else 0)
def mk_72 (pc : Nat) : Nat := bif Nat.blt pc 35 then (bif Nat.beq pc 2 then 8 else 0) else (bif Nat.beq pc 35 then 1 else 0)
def mk_73 (pc : Nat) : Nat := bif Nat.beq pc 32 then 1 else 0
def mk_74 (pc : Nat) : Nat := bif Nat.blt pc 46 then (bif Nat.beq pc 11 then 28 else 0) else (bif Nat.beq pc 46 then 9 else 0)
def mk_75 (pc : Nat) : Nat := bif Nat.blt pc 52 then (bif Nat.blt pc 25 then (bif Nat.beq pc 20 then 1 else 0) else (bif Nat.beq pc 25 then 14 else 0)) else (bif Nat.blt pc 58 then (bif Nat.beq pc 52 then 14 else 0) else (bif Nat.beq pc 58 then 5 else 0))
def mk_76 (pc : Nat) : Nat := bif Nat.blt pc 125 then (bif Nat.beq pc 104 then 8 else 0) else (bif Nat.beq pc 125 then 1 else 0)
def mk_77 (pc : Nat) : Nat := bif Nat.blt pc 79 then (bif Nat.blt pc 75 then (bif Nat.beq pc 4 then 8 else 0) else (bif Nat.beq pc 75 then 8 else 0)) else (bif Nat.blt pc 85 then (bif Nat.beq pc 79 then 8 else 0) else (bif Nat.beq pc 85 then 2 else 0))
def mk_78 (pc : Nat) : Nat := bif Nat.blt pc 40 then (bif Nat.beq pc 34 then 5 else 0) else (bif Nat.beq pc 40 then 8 else 0)
def mk_79 (pc : Nat) : Nat := bif Nat.blt pc 128 then (bif Nat.blt pc 113 then (bif Nat.blt pc 97 then (bif Nat.beq pc 92 then 1 else 0) else (bif Nat.beq pc 97 then 1 else 0)) else (bif Nat.blt pc 114 then (bif Nat.beq pc 113 then 1 else 0) else (bif Nat.beq pc 114 then 1 else 0))) else (bif Nat.blt pc 156 then (bif Nat.blt pc 142 then (bif Nat.beq pc 128 then 1 else 0) else (bif Nat.beq pc 142 then 1 else 0)) else (bif Nat.blt pc 183 then (bif Nat.beq pc 156 then 1 else 0) else (bif Nat.blt pc 195 then (bif Nat.beq pc 183 then 1 else 0) else (bif Nat.beq pc 195 then 1 else 0))))
def mk_80 (pc : Nat) : Nat := bif Nat.beq pc 9 then 1 else 0
def mk_81 (pc : Nat) : Nat := bif Nat.blt pc 87 then (bif Nat.beq pc 62 then 4 else 0) else (bif Nat.beq pc 87 then 1 else 0)
def mk_82 (pc : Nat) : Nat := bif Nat.blt pc 54 then (bif Nat.beq pc 25 then 8 else 0) else (bif Nat.beq pc 54 then 4 else 0)
def mk_83 (pc : Nat) : Nat := bif Nat.blt pc 25 then (bif Nat.beq pc 24 then 1 else 0) else (bif Nat.beq pc 25 then 1 else 0)
def mk_84 (pc : Nat) : Nat := bif Nat.blt pc 33 then (bif Nat.beq pc 4 then 16 else 0) else (bif Nat.blt pc 39 then (bif Nat.beq pc 33 then 16 else 0) else (bif Nat.beq pc 39 then 5 else 0))
def mk_85 (pc : Nat) : Nat := bif Nat.blt pc 23 then (bif Nat.beq pc 4 then 8 else 0) else (bif Nat.blt pc 29 then (bif Nat.beq pc 23 then 8 else 0) else (bif Nat.beq pc 29 then 3 else 0))
def mk_86 (pc : Nat) : Nat := bif Nat.blt pc 34 then (bif Nat.beq pc 2 then 16 else 0) else (bif Nat.blt pc 40 then (bif Nat.beq pc 34 then 16 else 0) else (bif Nat.beq pc 40 then 1 else 0))
def mk_87 (pc : Nat) : Nat := 0
def mk_88 (pc : Nat) : Nat := 0
def mk_89 (pc : Nat) : Nat := 0
def mk_90 (pc : Nat) : Nat := bif Nat.blt pc 34 then (bif Nat.beq pc 4 then 15 else 0) else (bif Nat.beq pc 34 then 5 else 0)
def mk_91 (pc : Nat) : Nat := bif Nat.beq pc 29 then 1 else 0
def mk_92 (pc : Nat) : Nat := bif Nat.blt pc 145 then (bif Nat.beq pc 121 then 4 else 0) else (bif Nat.beq pc 145 then 2 else 0)
def mk_93 (pc : Nat) : Nat := 0
def mk_94 (pc : Nat) : Nat := bif Nat.beq pc 16 then 2 else 0
def mk_95 (pc : Nat) : Nat := bif Nat.beq pc 14 then 2 else 0
def mk_96 (pc : Nat) : Nat := bif Nat.beq pc 24 then 1 else 0
def mk_97 (pc : Nat) : Nat := bif Nat.blt pc 77 then (bif Nat.beq pc 46 then 30 else 0) else (bif Nat.beq pc 77 then 14 else 0)
def mk_98 (pc : Nat) : Nat := bif Nat.blt pc 50 then (bif Nat.blt pc 20 then (bif Nat.beq pc 10 then 2 else 0) else (bif Nat.beq pc 20 then 16 else 0)) else (bif Nat.blt pc 67 then (bif Nat.beq pc 50 then 32 else 0) else (bif Nat.beq pc 67 then 5 else 0))
def mk_99 (pc : Nat) : Nat := bif Nat.blt pc 40 then (bif Nat.beq pc 11 then 2 else 0) else (bif Nat.blt pc 92 then (bif Nat.beq pc 40 then 28 else 0) else (bif Nat.beq pc 92 then 2 else 0))
def mk_100 (pc : Nat) : Nat := bif Nat.blt pc 120 then (bif Nat.blt pc 86 then (bif Nat.beq pc 14 then 2 else 0) else (bif Nat.beq pc 86 then 8 else 0)) else (bif Nat.blt pc 150 then (bif Nat.beq pc 120 then 60 else 0) else (bif Nat.beq pc 150 then 10 else 0))
def mk_101 (pc : Nat) : Nat := bif Nat.beq pc 15 then 2 else 0
def mk_102 (pc : Nat) : Nat := bif Nat.beq pc 15 then 2 else 0
def mk_103 (pc : Nat) : Nat := bif Nat.blt pc 71 then (bif Nat.beq pc 18 then 2 else 0) else (bif Nat.beq pc 71 then 1 else 0)
def mk_104 (pc : Nat) : Nat := bif Nat.blt pc 59 then (bif Nat.beq pc 16 then 2 else 0) else (bif Nat.blt pc 94 then (bif Nat.beq pc 59 then 1 else 0) else (bif Nat.beq pc 94 then 1 else 0))
def mk_105 (pc : Nat) : Nat := bif Nat.beq pc 47 then 1 else 0
def mk_106 (pc : Nat) : Nat := bif Nat.blt pc 43 then (bif Nat.beq pc 4 then 8 else 0) else (bif Nat.blt pc 49 then (bif Nat.beq pc 43 then 8 else 0) else (bif Nat.beq pc 49 then 3 else 0))
def mk_107 (pc : Nat) : Nat := bif Nat.blt pc 46 then (bif Nat.beq pc 15 then 2 else 0) else (bif Nat.beq pc 46 then 1 else 0)
def mk_108 (pc : Nat) : Nat := 0
def mk_109 (pc : Nat) : Nat := bif Nat.beq pc 23 then 1 else 0
def mk_110 (pc : Nat) : Nat := bif Nat.blt pc 100 then (bif Nat.blt pc 59 then (bif Nat.beq pc 15 then 2 else 0) else (bif Nat.beq pc 59 then 62 else 0)) else (bif Nat.blt pc 106 then (bif Nat.beq pc 100 then 62 else 0) else (bif Nat.beq pc 106 then 17 else 0))
def mk_111 (pc : Nat) : Nat := 0
def mk_112 (pc : Nat) : Nat := bif Nat.blt pc 47 then (bif Nat.blt pc 24 then (bif Nat.beq pc 16 then 8 else 0) else (bif Nat.beq pc 24 then 16 else 0)) else (bif Nat.blt pc 70 then (bif Nat.beq pc 47 then 8 else 0) else (bif Nat.beq pc 70 then 2 else 0))
def mk_113 (pc : Nat) : Nat := bif Nat.blt pc 66 then (bif Nat.beq pc 14 then 2 else 0) else (bif Nat.blt pc 95 then (bif Nat.beq pc 66 then 1 else 0) else (bif Nat.beq pc 95 then 1 else 0))
def mk_114 (pc : Nat) : Nat := bif Nat.blt pc 93 then (bif Nat.blt pc 51 then (bif Nat.beq pc 15 then 2 else 0) else (bif Nat.beq pc 51 then 28 else 0)) else (bif Nat.blt pc 113 then (bif Nat.beq pc 93 then 10 else 0) else (bif Nat.beq pc 113 then 1 else 0))
def mk_115 (pc : Nat) : Nat := bif Nat.blt pc 69 then (bif Nat.blt pc 38 then (bif Nat.beq pc 30 then 8 else 0) else (bif Nat.beq pc 38 then 16 else 0)) else (bif Nat.blt pc 75 then (bif Nat.beq pc 69 then 16 else 0) else (bif Nat.blt pc 81 then (bif Nat.beq pc 75 then 8 else 0) else (bif Nat.beq pc 81 then 3 else 0)))
def mk_116 (pc : Nat) : Nat := 0
def mk_117 (pc : Nat) : Nat := bif Nat.blt pc 98 then (bif Nat.blt pc 93 then (bif Nat.blt pc 38 then (bif Nat.beq pc 17 then 2 else 0) else (bif Nat.beq pc 38 then 64 else 0)) else (bif Nat.blt pc 97 then (bif Nat.beq pc 93 then 128 else 0) else (bif Nat.beq pc 97 then 128 else 0))) else (bif Nat.blt pc 131 then (bif Nat.blt pc 125 then (bif Nat.beq pc 98 then 128 else 0) else (bif Nat.beq pc 125 then 64 else 0)) else (bif Nat.blt pc 141 then (bif Nat.beq pc 131 then 29 else 0) else (bif Nat.beq pc 141 then 1 else 0)))
def mk_118 (pc : Nat) : Nat := bif Nat.blt pc 36 then (bif Nat.beq pc 16 then 2 else 0) else (bif Nat.beq pc 36 then 1 else 0)
def mk_119 (pc : Nat) : Nat := bif Nat.blt pc 60 then (bif Nat.beq pc 18 then 16 else 0) else (bif Nat.blt pc 66 then (bif Nat.beq pc 60 then 16 else 0) else (bif Nat.beq pc 66 then 5 else 0))
def mk_120 (pc : Nat) : Nat := bif Nat.blt pc 52 then (bif Nat.beq pc 16 then 2 else 0) else (bif Nat.blt pc 53 then (bif Nat.beq pc 52 then 1 else 0) else (bif Nat.beq pc 53 then 1 else 0))
def mk_121 (pc : Nat) : Nat := bif Nat.beq pc 17 then 2 else 0
def mk_122 (pc : Nat) : Nat := bif Nat.blt pc 32 then (bif Nat.beq pc 27 then 2 else 0) else (bif Nat.beq pc 32 then 1 else 0)
def mk_123 (pc : Nat) : Nat := bif Nat.blt pc 49 then (bif Nat.blt pc 35 then (bif Nat.beq pc 29 then 2 else 0) else (bif Nat.beq pc 35 then 16 else 0)) else (bif Nat.blt pc 65 then (bif Nat.beq pc 49 then 16 else 0) else (bif Nat.blt pc 81 then (bif Nat.beq pc 65 then 16 else 0) else (bif Nat.beq pc 81 then 1 else 0)))
def mk_124 (pc : Nat) : Nat := bif Nat.beq pc 48 then 2 else 0
def mk_125 (pc : Nat) : Nat := bif Nat.blt pc 52 then (bif Nat.beq pc 14 then 2 else 0) else (bif Nat.blt pc 100 then (bif Nat.beq pc 52 then 2 else 0) else (bif Nat.beq pc 100 then 2 else 0))
def mk_126 (pc : Nat) : Nat := 0
def mk_127 (pc : Nat) : Nat := 0
def mk_128 (pc : Nat) : Nat := 0
def mk_129 (pc : Nat) : Nat := bif Nat.blt pc 78 then (bif Nat.beq pc 46 then 14 else 0) else (bif Nat.blt pc 88 then (bif Nat.beq pc 78 then 9 else 0) else (bif Nat.beq pc 88 then 1 else 0))
def mk_130 (pc : Nat) : Nat := 0
def mk_131 (pc : Nat) : Nat := bif Nat.blt pc 24 then (bif Nat.beq pc 19 then 2 else 0) else (bif Nat.beq pc 24 then 1 else 0)
def mk_132 (pc : Nat) : Nat := 0
def mk_133 (pc : Nat) : Nat := bif Nat.blt pc 20 then (bif Nat.beq pc 19 then 1 else 0) else (bif Nat.beq pc 20 then 1 else 0)
def mk_134 (pc : Nat) : Nat := bif Nat.blt pc 36 then (bif Nat.beq pc 35 then 1 else 0) else (bif Nat.beq pc 36 then 1 else 0)
def mk_135 (pc : Nat) : Nat := bif Nat.blt pc 22 then (bif Nat.beq pc 21 then 1 else 0) else (bif Nat.beq pc 22 then 1 else 0)
def mk_136 (pc : Nat) : Nat := bif Nat.blt pc 14 then (bif Nat.beq pc 13 then 1 else 0) else (bif Nat.beq pc 14 then 1 else 0)
def mk_137 (pc : Nat) : Nat := bif Nat.blt pc 15 then (bif Nat.beq pc 14 then 1 else 0) else (bif Nat.beq pc 15 then 1 else 0)
def mk_138 (pc : Nat) : Nat := bif Nat.blt pc 15 then (bif Nat.beq pc 14 then 1 else 0) else (bif Nat.beq pc 15 then 1 else 0)
def mk_139 (pc : Nat) : Nat := bif Nat.blt pc 15 then (bif Nat.beq pc 14 then 1 else 0) else (bif Nat.beq pc 15 then 1 else 0)
def mk_140 (pc : Nat) : Nat := bif Nat.blt pc 19 then (bif Nat.beq pc 14 then 1 else 0) else (bif Nat.beq pc 19 then 1 else 0)
def mk_141 (pc : Nat) : Nat := bif Nat.blt pc 31 then (bif Nat.beq pc 4 then 15 else 0) else (bif Nat.blt pc 41 then (bif Nat.beq pc 31 then 7 else 0) else (bif Nat.beq pc 41 then 1 else 0))
def mk_142 (pc : Nat) : Nat := 0
def mk_143 (pc : Nat) : Nat := bif Nat.beq pc 15 then 1 else 0
def mk_144 (pc : Nat) : Nat := bif Nat.beq pc 23 then 1 else 0
def mk_145 (pc : Nat) : Nat := 0
def mk_146 (pc : Nat) : Nat := bif Nat.blt pc 44 then (bif Nat.beq pc 43 then 4 else 0) else (bif Nat.blt pc 58 then (bif Nat.beq pc 44 then 4 else 0) else (bif Nat.beq pc 58 then 1 else 0))
def mk_147 (pc : Nat) : Nat := bif Nat.beq pc 48 then 4 else 0
def mk_148 (pc : Nat) : Nat := 0
def mk_149 (pc : Nat) : Nat := bif Nat.beq pc 22 then 1 else 0
def mk_150 (pc : Nat) : Nat := bif Nat.blt pc 210 then (bif Nat.blt pc 191 then (bif Nat.beq pc 169 then 4 else 0) else (bif Nat.blt pc 193 then (bif Nat.beq pc 191 then 2 else 0) else (bif Nat.beq pc 193 then 4 else 0))) else (bif Nat.blt pc 228 then (bif Nat.beq pc 210 then 8 else 0) else (bif Nat.blt pc 234 then (bif Nat.beq pc 228 then 4 else 0) else (bif Nat.beq pc 234 then 2 else 0)))
def mk_151 (pc : Nat) : Nat := bif Nat.beq pc 10 then 1 else 0
def mk_152 (pc : Nat) : Nat := bif Nat.blt pc 28 then (bif Nat.beq pc 24 then 3 else 0) else (bif Nat.beq pc 28 then 1 else 0)
def mk_153 (pc : Nat) : Nat := bif Nat.beq pc 18 then 1 else 0
def mk_154 (pc : Nat) : Nat := 0
def mk_155 (pc : Nat) : Nat := bif Nat.blt pc 120 then (bif Nat.blt pc 66 then (bif Nat.blt pc 61 then (bif Nat.beq pc 34 then 14 else 0) else (bif Nat.beq pc 61 then 1 else 0)) else (bif Nat.blt pc 79 then (bif Nat.beq pc 66 then 14 else 0) else (bif Nat.beq pc 79 then 30 else 0))) else (bif Nat.blt pc 132 then (bif Nat.blt pc 126 then (bif Nat.beq pc 120 then 30 else 0) else (bif Nat.beq pc 126 then 14 else 0)) else (bif Nat.blt pc 190 then (bif Nat.beq pc 132 then 1 else 0) else (bif Nat.beq pc 190 then 1 else 0)))
def mk_156 (pc : Nat) : Nat := 0
def mk_157 (pc : Nat) : Nat := bif Nat.blt pc 15 then (bif Nat.beq pc 14 then 1 else 0) else (bif Nat.beq pc 15 then 1 else 0)
def mk_158 (pc : Nat) : Nat := 0
def mk_159 (pc : Nat) : Nat := 0
def mk_160 (pc : Nat) : Nat := 0
def mk_161 (pc : Nat) : Nat := 0
def mk_162 (pc : Nat) : Nat := bif Nat.beq pc 14 then 1 else 0
def mk_163 (pc : Nat) : Nat := 0
def mk_164 (pc : Nat) : Nat := 0
def mk_165 (pc : Nat) : Nat := bif Nat.blt pc 22 then (bif Nat.beq pc 21 then 1 else 0) else (bif Nat.beq pc 22 then 1 else 0)
def mk_166 (pc : Nat) : Nat := bif Nat.blt pc 27 then (bif Nat.beq pc 4 then 16 else 0) else (bif Nat.blt pc 35 then (bif Nat.beq pc 27 then 12 else 0) else (bif Nat.beq pc 35 then 5 else 0))
def mk_167 (pc : Nat) : Nat := bif Nat.blt pc 34 then (bif Nat.beq pc 27 then 2 else 0) else (bif Nat.blt pc 68 then (bif Nat.beq pc 34 then 7 else 0) else (bif Nat.beq pc 68 then 1 else 0))
def mk_168 (pc : Nat) : Nat := bif Nat.blt pc 47 then (bif Nat.beq pc 16 then 2 else 0) else (bif Nat.beq pc 47 then 1 else 0)
def mk_169 (pc : Nat) : Nat := bif Nat.beq pc 14 then 2 else 0
def mk_170 (pc : Nat) : Nat := bif Nat.beq pc 25 then 1 else 0
def mk_171 (pc : Nat) : Nat := bif Nat.blt pc 81 then (bif Nat.blt pc 79 then (bif Nat.beq pc 44 then 16 else 0) else (bif Nat.beq pc 79 then 8 else 0)) else (bif Nat.blt pc 112 then (bif Nat.beq pc 81 then 16 else 0) else (bif Nat.beq pc 112 then 5 else 0))
def mk_172 (pc : Nat) : Nat := bif Nat.blt pc 149 then (bif Nat.blt pc 117 then (bif Nat.beq pc 31 then 16 else 0) else (bif Nat.blt pc 131 then (bif Nat.beq pc 117 then 1 else 0) else (bif Nat.beq pc 131 then 1 else 0))) else (bif Nat.blt pc 177 then (bif Nat.blt pc 167 then (bif Nat.beq pc 149 then 1 else 0) else (bif Nat.beq pc 167 then 1 else 0)) else (bif Nat.blt pc 187 then (bif Nat.beq pc 177 then 1 else 0) else (bif Nat.beq pc 187 then 1 else 0)))
def mk_173 (pc : Nat) : Nat := bif Nat.blt pc 50 then (bif Nat.beq pc 21 then 16 else 0) else (bif Nat.blt pc 72 then (bif Nat.beq pc 50 then 12 else 0) else (bif Nat.beq pc 72 then 5 else 0))
def mk_174 (pc : Nat) : Nat := bif Nat.blt pc 88 then (bif Nat.beq pc 40 then 28 else 0) else (bif Nat.beq pc 88 then 2 else 0)
def mk_175 (pc : Nat) : Nat := bif Nat.blt pc 36 then (bif Nat.beq pc 35 then 1 else 0) else (bif Nat.beq pc 36 then 1 else 0)
def mk_176 (pc : Nat) : Nat := bif Nat.blt pc 28 then (bif Nat.beq pc 13 then 2 else 0) else (bif Nat.beq pc 28 then 5 else 0)
def mk_177 (pc : Nat) : Nat := bif Nat.beq pc 27 then 1 else 0
def mk_178 (pc : Nat) : Nat := bif Nat.blt pc 27 then (bif Nat.beq pc 4 then 2 else 0) else (bif Nat.beq pc 27 then 1 else 0)
def mk_179 (pc : Nat) : Nat := bif Nat.blt pc 27 then (bif Nat.beq pc 4 then 2 else 0) else (bif Nat.beq pc 27 then 1 else 0)
def mk_180 (pc : Nat) : Nat := bif Nat.blt pc 64 then (bif Nat.beq pc 50 then 2 else 0) else (bif Nat.beq pc 64 then 1 else 0)
def mk_181 (pc : Nat) : Nat := bif Nat.blt pc 80 then (bif Nat.blt pc 36 then (bif Nat.beq pc 35 then 2 else 0) else (bif Nat.beq pc 36 then 4 else 0)) else (bif Nat.blt pc 84 then (bif Nat.beq pc 80 then 2 else 0) else (bif Nat.beq pc 84 then 1 else 0))
def mk_182 (pc : Nat) : Nat := bif Nat.blt pc 110 then (bif Nat.blt pc 51 then (bif Nat.beq pc 50 then 2 else 0) else (bif Nat.beq pc 51 then 4 else 0)) else (bif Nat.blt pc 114 then (bif Nat.beq pc 110 then 2 else 0) else (bif Nat.beq pc 114 then 1 else 0))
def mk_183 (pc : Nat) : Nat := 0
def mk_184 (pc : Nat) : Nat := bif Nat.blt pc 179 then (bif Nat.blt pc 100 then (bif Nat.blt pc 31 then (bif Nat.beq pc 17 then 4 else 0) else (bif Nat.beq pc 31 then 4 else 0)) else (bif Nat.blt pc 103 then (bif Nat.beq pc 100 then 2 else 0) else (bif Nat.blt pc 131 then (bif Nat.beq pc 103 then 2 else 0) else (bif Nat.beq pc 131 then 14 else 0)))) else (bif Nat.blt pc 222 then (bif Nat.blt pc 199 then (bif Nat.beq pc 179 then 6 else 0) else (bif Nat.beq pc 199 then 2 else 0)) else (bif Nat.blt pc 227 then (bif Nat.beq pc 222 then 6 else 0) else (bif Nat.blt pc 256 then (bif Nat.beq pc 227 then 6 else 0) else (bif Nat.beq pc 256 then 1 else 0))))
def mk_185 (pc : Nat) : Nat := bif Nat.beq pc 143 then 1 else 0
def mk_186 (pc : Nat) : Nat := bif Nat.blt pc 90 then (bif Nat.blt pc 78 then (bif Nat.blt pc 65 then (bif Nat.beq pc 60 then 1 else 0) else (bif Nat.beq pc 65 then 1 else 0)) else (bif Nat.blt pc 79 then (bif Nat.beq pc 78 then 1 else 0) else (bif Nat.beq pc 79 then 1 else 0))) else (bif Nat.blt pc 112 then (bif Nat.blt pc 101 then (bif Nat.beq pc 90 then 1 else 0) else (bif Nat.beq pc 101 then 1 else 0)) else (bif Nat.blt pc 136 then (bif Nat.beq pc 112 then 1 else 0) else (bif Nat.blt pc 148 then (bif Nat.beq pc 136 then 1 else 0) else (bif Nat.beq pc 148 then 1 else 0))))
def mk_187 (pc : Nat) : Nat := bif Nat.blt pc 121 then (bif Nat.blt pc 51 then (bif Nat.beq pc 4 then 8 else 0) else (bif Nat.blt pc 88 then (bif Nat.beq pc 51 then 8 else 0) else (bif Nat.beq pc 88 then 8 else 0))) else (bif Nat.blt pc 127 then (bif Nat.beq pc 121 then 8 else 0) else (bif Nat.blt pc 141 then (bif Nat.beq pc 127 then 2 else 0) else (bif Nat.beq pc 141 then 1 else 0)))
def mk_188 (pc : Nat) : Nat := bif Nat.blt pc 75 then (bif Nat.blt pc 61 then (bif Nat.beq pc 50 then 1 else 0) else (bif Nat.beq pc 61 then 1 else 0)) else (bif Nat.blt pc 83 then (bif Nat.beq pc 75 then 1 else 0) else (bif Nat.beq pc 83 then 1 else 0))
def mk_189 (pc : Nat) : Nat := bif Nat.blt pc 89 then (bif Nat.blt pc 47 then (bif Nat.beq pc 10 then 32 else 0) else (bif Nat.blt pc 55 then (bif Nat.beq pc 47 then 24 else 0) else (bif Nat.beq pc 55 then 64 else 0))) else (bif Nat.blt pc 97 then (bif Nat.beq pc 89 then 56 else 0) else (bif Nat.blt pc 103 then (bif Nat.beq pc 97 then 32 else 0) else (bif Nat.beq pc 103 then 9 else 0)))
def mk_190 (pc : Nat) : Nat := bif Nat.blt pc 135 then (bif Nat.blt pc 102 then (bif Nat.blt pc 60 then (bif Nat.beq pc 19 then 2 else 0) else (bif Nat.beq pc 60 then 16 else 0)) else (bif Nat.blt pc 130 then (bif Nat.beq pc 102 then 16 else 0) else (bif Nat.beq pc 130 then 16 else 0))) else (bif Nat.blt pc 188 then (bif Nat.blt pc 160 then (bif Nat.beq pc 135 then 16 else 0) else (bif Nat.beq pc 160 then 16 else 0)) else (bif Nat.blt pc 236 then (bif Nat.beq pc 188 then 28 else 0) else (bif Nat.beq pc 236 then 10 else 0)))
def mk_191 (pc : Nat) : Nat := bif Nat.beq pc 18 then 2 else 0
def mk_192 (pc : Nat) : Nat := bif Nat.blt pc 23 then (bif Nat.beq pc 18 then 1 else 0) else (bif Nat.beq pc 23 then 1 else 0)
def mk_193 (pc : Nat) : Nat := bif Nat.blt pc 47 then (bif Nat.blt pc 30 then (bif Nat.beq pc 17 then 2 else 0) else (bif Nat.beq pc 30 then 16 else 0)) else (bif Nat.blt pc 65 then (bif Nat.beq pc 47 then 12 else 0) else (bif Nat.beq pc 65 then 1 else 0))
def mk_194 (pc : Nat) : Nat := bif Nat.blt pc 28 then (bif Nat.beq pc 27 then 1 else 0) else (bif Nat.beq pc 28 then 1 else 0)
def mk_195 (pc : Nat) : Nat := 0
def mk_196 (pc : Nat) : Nat := 0
def mk_197 (pc : Nat) : Nat := bif Nat.blt pc 59 then (bif Nat.beq pc 18 then 2 else 0) else (bif Nat.beq pc 59 then 1 else 0)
def mk_198 (pc : Nat) : Nat := bif Nat.beq pc 48 then 1 else 0
def mk_199 (pc : Nat) : Nat := bif Nat.blt pc 39 then (bif Nat.beq pc 32 then 2 else 0) else (bif Nat.blt pc 56 then (bif Nat.beq pc 39 then 32 else 0) else (bif Nat.beq pc 56 then 1 else 0))
def mk_200 (pc : Nat) : Nat := bif Nat.blt pc 52 then (bif Nat.beq pc 3 then 32 else 0) else (bif Nat.blt pc 67 then (bif Nat.beq pc 52 then 32 else 0) else (bif Nat.beq pc 67 then 1 else 0))
def mk_201 (pc : Nat) : Nat := bif Nat.beq pc 41 then 1 else 0
def mk_202 (pc : Nat) : Nat := bif Nat.blt pc 36 then (bif Nat.beq pc 4 then 8 else 0) else (bif Nat.blt pc 44 then (bif Nat.beq pc 36 then 6 else 0) else (bif Nat.beq pc 44 then 3 else 0))
def mk_203 (pc : Nat) : Nat := bif Nat.blt pc 40 then (bif Nat.blt pc 11 then (bif Nat.beq pc 4 then 8 else 0) else (bif Nat.beq pc 11 then 16 else 0)) else (bif Nat.blt pc 48 then (bif Nat.beq pc 40 then 14 else 0) else (bif Nat.blt pc 54 then (bif Nat.beq pc 48 then 8 else 0) else (bif Nat.beq pc 54 then 3 else 0)))
def mk_204 (pc : Nat) : Nat := bif Nat.blt pc 49 then (bif Nat.blt pc 35 then (bif Nat.beq pc 2 then 8 else 0) else (bif Nat.blt pc 37 then (bif Nat.beq pc 35 then 4 else 0) else (bif Nat.beq pc 37 then 8 else 0))) else (bif Nat.blt pc 173 then (bif Nat.blt pc 167 then (bif Nat.beq pc 49 then 16 else 0) else (bif Nat.beq pc 167 then 16 else 0)) else (bif Nat.blt pc 179 then (bif Nat.beq pc 173 then 8 else 0) else (bif Nat.beq pc 179 then 1 else 0)))
def mk_205 (pc : Nat) : Nat := bif Nat.blt pc 73 then (bif Nat.blt pc 68 then (bif Nat.beq pc 17 then 64 else 0) else (bif Nat.beq pc 68 then 48 else 0)) else (bif Nat.blt pc 81 then (bif Nat.beq pc 73 then 48 else 0) else (bif Nat.beq pc 81 then 17 else 0))
def mk_206 (pc : Nat) : Nat := bif Nat.blt pc 62 then (bif Nat.beq pc 27 then 16 else 0) else (bif Nat.blt pc 68 then (bif Nat.beq pc 62 then 16 else 0) else (bif Nat.beq pc 68 then 1 else 0))
def mk_207 (pc : Nat) : Nat := 0
def mk_208 (pc : Nat) : Nat := bif Nat.blt pc 45 then (bif Nat.beq pc 15 then 2 else 0) else (bif Nat.beq pc 45 then 1 else 0)
def mk_209 (pc : Nat) : Nat := bif Nat.blt pc 71 then (bif Nat.beq pc 34 then 14 else 0) else (bif Nat.blt pc 79 then (bif Nat.beq pc 71 then 10 else 0) else (bif Nat.beq pc 79 then 5 else 0))
def mk_210 (pc : Nat) : Nat := bif Nat.blt pc 110 then (bif Nat.blt pc 101 then (bif Nat.blt pc 28 then (bif Nat.beq pc 13 then 16 else 0) else (bif Nat.beq pc 28 then 128 else 0)) else (bif Nat.blt pc 102 then (bif Nat.beq pc 101 then 112 else 0) else (bif Nat.beq pc 102 then 112 else 0))) else (bif Nat.blt pc 129 then (bif Nat.blt pc 121 then (bif Nat.beq pc 110 then 32 else 0) else (bif Nat.beq pc 121 then 12 else 0)) else (bif Nat.blt pc 136 then (bif Nat.beq pc 129 then 8 else 0) else (bif Nat.beq pc 136 then 4 else 0)))
def mk_211 (pc : Nat) : Nat := bif Nat.blt pc 107 then (bif Nat.blt pc 30 then (bif Nat.blt pc 18 then (bif Nat.beq pc 10 then 14 else 0) else (bif Nat.beq pc 18 then 30 else 0)) else (bif Nat.blt pc 79 then (bif Nat.beq pc 30 then 126 else 0) else (bif Nat.blt pc 99 then (bif Nat.beq pc 79 then 62 else 0) else (bif Nat.beq pc 99 then 26 else 0)))) else (bif Nat.blt pc 125 then (bif Nat.blt pc 113 then (bif Nat.beq pc 107 then 14 else 0) else (bif Nat.beq pc 113 then 6 else 0)) else (bif Nat.blt pc 162 then (bif Nat.beq pc 125 then 24 else 0) else (bif Nat.blt pc 168 then (bif Nat.beq pc 162 then 24 else 0) else (bif Nat.beq pc 168 then 5 else 0))))
def mk_212 (pc : Nat) : Nat := bif Nat.blt pc 43 then (bif Nat.beq pc 23 then 6 else 0) else (bif Nat.beq pc 43 then 2 else 0)
def mk_213 (pc : Nat) : Nat := bif Nat.blt pc 81 then (bif Nat.blt pc 40 then (bif Nat.beq pc 15 then 2 else 0) else (bif Nat.beq pc 40 then 62 else 0)) else (bif Nat.blt pc 90 then (bif Nat.beq pc 81 then 46 else 0) else (bif Nat.beq pc 90 then 17 else 0))
def mk_214 (pc : Nat) : Nat := bif Nat.blt pc 75 then (bif Nat.blt pc 35 then (bif Nat.beq pc 10 then 16 else 0) else (bif Nat.beq pc 35 then 16 else 0)) else (bif Nat.blt pc 81 then (bif Nat.beq pc 75 then 16 else 0) else (bif Nat.beq pc 81 then 1 else 0))
def mk_215 (pc : Nat) : Nat := bif Nat.blt pc 47 then (bif Nat.beq pc 32 then 6 else 0) else (bif Nat.beq pc 47 then 5 else 0)
def mk_216 (pc : Nat) : Nat := bif Nat.blt pc 95 then (bif Nat.blt pc 54 then (bif Nat.blt pc 28 then (bif Nat.beq pc 17 then 8 else 0) else (bif Nat.beq pc 28 then 32 else 0)) else (bif Nat.blt pc 57 then (bif Nat.beq pc 54 then 16 else 0) else (bif Nat.beq pc 57 then 32 else 0))) else (bif Nat.blt pc 107 then (bif Nat.blt pc 100 then (bif Nat.beq pc 95 then 24 else 0) else (bif Nat.beq pc 100 then 24 else 0)) else (bif Nat.blt pc 119 then (bif Nat.beq pc 107 then 16 else 0) else (bif Nat.beq pc 119 then 2 else 0)))
def mk_217 (pc : Nat) : Nat := bif Nat.blt pc 108 then (bif Nat.blt pc 50 then (bif Nat.beq pc 44 then 64 else 0) else (bif Nat.blt pc 104 then (bif Nat.beq pc 50 then 256 else 0) else (bif Nat.beq pc 104 then 224 else 0))) else (bif Nat.blt pc 109 then (bif Nat.beq pc 108 then 224 else 0) else (bif Nat.blt pc 117 then (bif Nat.beq pc 109 then 224 else 0) else (bif Nat.beq pc 117 then 33 else 0)))
def mk_218 (pc : Nat) : Nat := bif Nat.blt pc 28 then (bif Nat.blt pc 23 then (bif Nat.beq pc 4 then 8 else 0) else (bif Nat.beq pc 23 then 6 else 0)) else (bif Nat.blt pc 35 then (bif Nat.beq pc 28 then 6 else 0) else (bif Nat.beq pc 35 then 3 else 0))
def mk_219 (pc : Nat) : Nat := bif Nat.blt pc 22 then (bif Nat.beq pc 2 then 4 else 0) else (bif Nat.beq pc 22 then 2 else 0)
def mk_220 (pc : Nat) : Nat := bif Nat.blt pc 111 then (bif Nat.blt pc 24 then (bif Nat.beq pc 19 then 16 else 0) else (bif Nat.beq pc 24 then 64 else 0)) else (bif Nat.blt pc 117 then (bif Nat.beq pc 111 then 64 else 0) else (bif Nat.beq pc 117 then 1 else 0))
def mk_221 (pc : Nat) : Nat := bif Nat.blt pc 83 then (bif Nat.blt pc 28 then (bif Nat.beq pc 6 then 8 else 0) else (bif Nat.blt pc 41 then (bif Nat.beq pc 28 then 16 else 0) else (bif Nat.beq pc 41 then 32 else 0))) else (bif Nat.blt pc 95 then (bif Nat.blt pc 89 then (bif Nat.beq pc 83 then 32 else 0) else (bif Nat.beq pc 89 then 16 else 0)) else (bif Nat.blt pc 98 then (bif Nat.beq pc 95 then 8 else 0) else (bif Nat.beq pc 98 then 1 else 0)))
def mk_222 (pc : Nat) : Nat := bif Nat.blt pc 54 then (bif Nat.beq pc 14 then 2 else 0) else (bif Nat.blt pc 78 then (bif Nat.beq pc 54 then 1 else 0) else (bif Nat.beq pc 78 then 1 else 0))
def mk_223 (pc : Nat) : Nat := bif Nat.blt pc 131 then (bif Nat.blt pc 66 then (bif Nat.beq pc 58 then 1 else 0) else (bif Nat.blt pc 106 then (bif Nat.beq pc 66 then 250 else 0) else (bif Nat.beq pc 106 then 186 else 0))) else (bif Nat.blt pc 136 then (bif Nat.blt pc 135 then (bif Nat.beq pc 131 then 186 else 0) else (bif Nat.beq pc 135 then 186 else 0)) else (bif Nat.blt pc 144 then (bif Nat.beq pc 136 then 186 else 0) else (bif Nat.beq pc 144 then 65 else 0)))
def mk_224 (pc : Nat) : Nat := bif Nat.blt pc 110 then (bif Nat.blt pc 44 then (bif Nat.beq pc 15 then 2 else 0) else (bif Nat.beq pc 44 then 16 else 0)) else (bif Nat.blt pc 129 then (bif Nat.beq pc 110 then 6 else 0) else (bif Nat.beq pc 129 then 1 else 0))
def mk_225 (pc : Nat) : Nat := bif Nat.blt pc 24 then (bif Nat.beq pc 4 then 8 else 0) else (bif Nat.beq pc 24 then 3 else 0)
def mk_226 (pc : Nat) : Nat := bif Nat.blt pc 85 then (bif Nat.blt pc 75 then (bif Nat.beq pc 35 then 16 else 0) else (bif Nat.beq pc 75 then 16 else 0)) else (bif Nat.blt pc 91 then (bif Nat.beq pc 85 then 16 else 0) else (bif Nat.beq pc 91 then 5 else 0))
def mk_227 (pc : Nat) : Nat := bif Nat.blt pc 67 then (bif Nat.blt pc 41 then (bif Nat.beq pc 33 then 6 else 0) else (bif Nat.beq pc 41 then 14 else 0)) else (bif Nat.blt pc 73 then (bif Nat.beq pc 67 then 14 else 0) else (bif Nat.blt pc 79 then (bif Nat.beq pc 73 then 6 else 0) else (bif Nat.beq pc 79 then 1 else 0)))
def mk_228 (pc : Nat) : Nat := bif Nat.blt pc 36 then (bif Nat.beq pc 4 then 16 else 0) else (bif Nat.blt pc 44 then (bif Nat.beq pc 36 then 12 else 0) else (bif Nat.beq pc 44 then 5 else 0))
def mk_229 (pc : Nat) : Nat := bif Nat.blt pc 98 then (bif Nat.blt pc 93 then (bif Nat.blt pc 29 then (bif Nat.beq pc 17 then 2 else 0) else (bif Nat.beq pc 29 then 32 else 0)) else (bif Nat.blt pc 97 then (bif Nat.beq pc 93 then 32 else 0) else (bif Nat.beq pc 97 then 32 else 0))) else (bif Nat.blt pc 136 then (bif Nat.blt pc 130 then (bif Nat.beq pc 98 then 32 else 0) else (bif Nat.beq pc 130 then 32 else 0)) else (bif Nat.blt pc 149 then (bif Nat.beq pc 136 then 14 else 0) else (bif Nat.beq pc 149 then 1 else 0)))
def mk_230 (pc : Nat) : Nat := bif Nat.blt pc 174 then (bif Nat.blt pc 88 then (bif Nat.beq pc 7 then 14 else 0) else (bif Nat.beq pc 88 then 126 else 0)) else (bif Nat.blt pc 195 then (bif Nat.beq pc 174 then 654 else 0) else (bif Nat.blt pc 208 then (bif Nat.beq pc 195 then 270 else 0) else (bif Nat.beq pc 208 then 1 else 0)))
def mk_231 (pc : Nat) : Nat := bif Nat.blt pc 37 then (bif Nat.beq pc 16 then 2 else 0) else (bif Nat.beq pc 37 then 1 else 0)
def mk_232 (pc : Nat) : Nat := bif Nat.blt pc 60 then (bif Nat.blt pc 59 then (bif Nat.beq pc 19 then 16 else 0) else (bif Nat.beq pc 59 then 12 else 0)) else (bif Nat.blt pc 68 then (bif Nat.beq pc 60 then 12 else 0) else (bif Nat.beq pc 68 then 5 else 0))
def mk_233 (pc : Nat) : Nat := bif Nat.blt pc 44 then (bif Nat.blt pc 39 then (bif Nat.beq pc 5 then 32 else 0) else (bif Nat.beq pc 39 then 24 else 0)) else (bif Nat.blt pc 51 then (bif Nat.beq pc 44 then 24 else 0) else (bif Nat.beq pc 51 then 9 else 0))
def mk_234 (pc : Nat) : Nat := bif Nat.blt pc 45 then (bif Nat.beq pc 16 then 2 else 0) else (bif Nat.blt pc 46 then (bif Nat.beq pc 45 then 1 else 0) else (bif Nat.beq pc 46 then 1 else 0))
def mk_235 (pc : Nat) : Nat := bif Nat.beq pc 29 then 1 else 0
def mk_236 (pc : Nat) : Nat := bif Nat.blt pc 85 then (bif Nat.blt pc 63 then (bif Nat.blt pc 58 then (bif Nat.beq pc 48 then 1 else 0) else (bif Nat.beq pc 58 then 1 else 0)) else (bif Nat.blt pc 74 then (bif Nat.beq pc 63 then 1 else 0) else (bif Nat.beq pc 74 then 1 else 0))) else (bif Nat.blt pc 100 then (bif Nat.blt pc 90 then (bif Nat.beq pc 85 then 1 else 0) else (bif Nat.beq pc 90 then 1 else 0)) else (bif Nat.blt pc 105 then (bif Nat.beq pc 100 then 1 else 0) else (bif Nat.beq pc 105 then 1 else 0)))
def mk_237 (pc : Nat) : Nat := 0
def mk_238 (pc : Nat) : Nat := bif Nat.blt pc 22 then (bif Nat.beq pc 3 then 30 else 0) else (bif Nat.beq pc 22 then 30 else 0)
def mk_239 (pc : Nat) : Nat := 0
def mk_240 (pc : Nat) : Nat := bif Nat.beq pc 17 then 2 else 0
def mk_241 (pc : Nat) : Nat := bif Nat.beq pc 29 then 1 else 0
def mk_242 (pc : Nat) : Nat := 0
def mk_243 (pc : Nat) : Nat := bif Nat.blt pc 69 then (bif Nat.blt pc 36 then (bif Nat.beq pc 29 then 2 else 0) else (bif Nat.blt pc 52 then (bif Nat.beq pc 36 then 16 else 0) else (bif Nat.beq pc 52 then 16 else 0))) else (bif Nat.blt pc 94 then (bif Nat.blt pc 90 then (bif Nat.beq pc 69 then 16 else 0) else (bif Nat.beq pc 90 then 4 else 0)) else (bif Nat.blt pc 120 then (bif Nat.beq pc 94 then 20 else 0) else (bif Nat.beq pc 120 then 1 else 0)))
def mk_244 (pc : Nat) : Nat := bif Nat.beq pc 96 then 1 else 0
def mk_245 (pc : Nat) : Nat := bif Nat.blt pc 127 then (bif Nat.blt pc 39 then (bif Nat.beq pc 14 then 2 else 0) else (bif Nat.blt pc 117 then (bif Nat.beq pc 39 then 2 else 0) else (bif Nat.beq pc 117 then 2 else 0))) else (bif Nat.blt pc 164 then (bif Nat.blt pc 161 then (bif Nat.beq pc 127 then 128 else 0) else (bif Nat.beq pc 161 then 58 else 0)) else (bif Nat.blt pc 199 then (bif Nat.beq pc 164 then 122 else 0) else (bif Nat.beq pc 199 then 33 else 0)))
def mk_246 (pc : Nat) : Nat := bif Nat.blt pc 27 then (bif Nat.beq pc 2 then 4 else 0) else (bif Nat.beq pc 27 then 2 else 0)
def mk_247 (pc : Nat) : Nat := bif Nat.blt pc 41 then (bif Nat.beq pc 16 then 4 else 0) else (bif Nat.beq pc 41 then 2 else 0)
def mk_248 (pc : Nat) : Nat := 0
def mk_249 (pc : Nat) : Nat := bif Nat.blt pc 75 then (bif Nat.beq pc 46 then 14 else 0) else (bif Nat.blt pc 85 then (bif Nat.beq pc 75 then 9 else 0) else (bif Nat.beq pc 85 then 1 else 0))
def mk_250 (pc : Nat) : Nat := bif Nat.blt pc 89 then (bif Nat.beq pc 64 then 14 else 0) else (bif Nat.blt pc 97 then (bif Nat.beq pc 89 then 10 else 0) else (bif Nat.beq pc 97 then 5 else 0))
def mk_251 (pc : Nat) : Nat := bif Nat.beq pc 24 then 1 else 0
def mk_252 (pc : Nat) : Nat := 0
def mk_253 (pc : Nat) : Nat := bif Nat.beq pc 10 then 1 else 0
def mk_254 (pc : Nat) : Nat := bif Nat.beq pc 10 then 1 else 0
def mk_255 (pc : Nat) : Nat := 0
def mk_256 (pc : Nat) : Nat := bif Nat.blt pc 20 then (bif Nat.beq pc 5 then 16 else 0) else (bif Nat.beq pc 20 then 1 else 0)
def mk_257 (pc : Nat) : Nat := bif Nat.blt pc 27 then (bif Nat.beq pc 10 then 30 else 0) else (bif Nat.beq pc 27 then 1 else 0)
def mk_258 (pc : Nat) : Nat := bif Nat.blt pc 1392 then (bif Nat.beq pc 18 then 16 else 0) else (bif Nat.blt pc 1398 then (bif Nat.beq pc 1392 then 16 else 0) else (bif Nat.beq pc 1398 then 1 else 0))
/-- which locals are still of use at a place where ways meet: a number of bits, and one; 0 where nothing is forgotten -/
def mkT (i pc : Nat) : Nat := bif Nat.blt i 129 then (bif Nat.blt i 64 then (bif Nat.blt i 32 then (bif Nat.blt i 16 then (bif Nat.blt i 8 then (bif Nat.blt i 4 then (bif Nat.blt i 2 then (bif Nat.blt i 1 then (mk_0 pc) else (mk_1 pc)) else (bif Nat.blt i 3 then (mk_2 pc) else (mk_3 pc))) else (bif Nat.blt i 6 then (bif Nat.blt i 5 then (mk_4 pc) else (mk_5 pc)) else (bif Nat.blt i 7 then (mk_6 pc) else (mk_7 pc)))) else (bif Nat.blt i 12 then (bif Nat.blt i 10 then (bif Nat.blt i 9 then (mk_8 pc) else (mk_9 pc)) else (bif Nat.blt i 11 then (mk_10 pc) else (mk_11 pc))) else (bif Nat.blt i 14 then (bif Nat.blt i 13 then (mk_12 pc) else (mk_13 pc)) else (bif Nat.blt i 15 then (mk_14 pc) else (mk_15 pc))))) else (bif Nat.blt i 24 then (bif Nat.blt i 20 then (bif Nat.blt i 18 then (bif Nat.blt i 17 then (mk_16 pc) else (mk_17 pc)) else (bif Nat.blt i 19 then (mk_18 pc) else (mk_19 pc))) else (bif Nat.blt i 22 then (bif Nat.blt i 21 then (mk_20 pc) else (mk_21 pc)) else (bif Nat.blt i 23 then (mk_22 pc) else (mk_23 pc)))) else (bif Nat.blt i 28 then (bif Nat.blt i 26 then (bif Nat.blt i 25 then (mk_24 pc) else (mk_25 pc)) else (bif Nat.blt i 27 then (mk_26 pc) else (mk_27 pc))) else (bif Nat.blt i 30 then (bif Nat.blt i 29 then (mk_28 pc) else (mk_29 pc)) else (bif Nat.blt i 31 then (mk_30 pc) else (mk_31 pc)))))) else (bif Nat.blt i 48 then (bif Nat.blt i 40 then (bif Nat.blt i 36 then (bif Nat.blt i 34 then (bif Nat.blt i 33 then (mk_32 pc) else (mk_33 pc)) else (bif Nat.blt i 35 then (mk_34 pc) else (mk_35 pc))) else (bif Nat.blt i 38 then (bif Nat.blt i 37 then (mk_36 pc) else (mk_37 pc)) else (bif Nat.blt i 39 then (mk_38 pc) else (mk_39 pc)))) else (bif Nat.blt i 44 then (bif Nat.blt i 42 then (bif Nat.blt i 41 then (mk_40 pc) else (mk_41 pc)) else (bif Nat.blt i 43 then (mk_42 pc) else (mk_43 pc))) else (bif Nat.blt i 46 then (bif Nat.blt i 45 then (mk_44 pc) else (mk_45 pc)) else (bif Nat.blt i 47 then (mk_46 pc) else (mk_47 pc))))) else (bif Nat.blt i 56 then (bif Nat.blt i 52 then (bif Nat.blt i 50 then (bif Nat.blt i 49 then (mk_48 pc) else (mk_49 pc)) else (bif Nat.blt i 51 then (mk_50 pc) else (mk_51 pc))) else (bif Nat.blt i 54 then (bif Nat.blt i 53 then (mk_52 pc) else (mk_53 pc)) else (bif Nat.blt i 55 then (mk_54 pc) else (mk_55 pc)))) else (bif Nat.blt i 60 then (bif Nat.blt i 58 then (bif Nat.blt i 57 then (mk_56 pc) else (mk_57 pc)) else (bif Nat.blt i 59 then (mk_58 pc) else (mk_59 pc))) else (bif Nat.blt i 62 then (bif Nat.blt i 61 then (mk_60 pc) else (mk_61 pc)) else (bif Nat.blt i 63 then (mk_62 pc) else (mk_63 pc))))))) else (bif Nat.blt i 96 then (bif Nat.blt i 80 then (bif Nat.blt i 72 then (bif Nat.blt i 68 then (bif Nat.blt i 66 then (bif Nat.blt i 65 then (mk_64 pc) else (mk_65 pc)) else (bif Nat.blt i 67 then (mk_66 pc) else (mk_67 pc))) else (bif Nat.blt i 70 then (bif Nat.blt i 69 then (mk_68 pc) else (mk_69 pc)) else (bif Nat.blt i 71 then (mk_70 pc) else (mk_71 pc)))) else (bif Nat.blt i 76 then (bif Nat.blt i 74 then (bif Nat.blt i 73 then (mk_72 pc) else (mk_73 pc)) else (bif Nat.blt i 75 then (mk_74 pc) else (mk_75 pc))) else (bif Nat.blt i 78 then (bif Nat.blt i 77 then (mk_76 pc) else (mk_77 pc)) else (bif Nat.blt i 79 then (mk_78 pc) else (mk_79 pc))))) else (bif Nat.blt i 88 then (bif Nat.blt i 84 then (bif Nat.blt i 82 then (bif Nat.blt i 81 then (mk_80 pc) else (mk_81 pc)) else (bif Nat.blt i 83 then (mk_82 pc) else (mk_83 pc))) else (bif Nat.blt i 86 then (bif Nat.blt i 85 then (mk_84 pc) else (mk_85 pc)) else (bif Nat.blt i 87 then (mk_86 pc) else (mk_87 pc)))) else (bif Nat.blt i 92 then (bif Nat.blt i 90 then (bif Nat.blt i 89 then (mk_88 pc) else (mk_89 pc)) else (bif Nat.blt i 91 then (mk_90 pc) else (mk_91 pc))) else (bif Nat.blt i 94 then (bif Nat.blt i 93 then (mk_92 pc) else (mk_93 pc)) else (bif Nat.blt i 95 then (mk_94 pc) else (mk_95 pc)))))) else (bif Nat.blt i 112 then (bif Nat.blt i 104 then (bif Nat.blt i 100 then (bif Nat.blt i 98 then (bif Nat.blt i 97 then (mk_96 pc) else (mk_97 pc)) else (bif Nat.blt i 99 then (mk_98 pc) else (mk_99 pc))) else (bif Nat.blt i 102 then (bif Nat.blt i 101 then (mk_100 pc) else (mk_101 pc)) else (bif Nat.blt i 103 then (mk_102 pc) else (mk_103 pc)))) else (bif Nat.blt i 108 then (bif Nat.blt i 106 then (bif Nat.blt i 105 then (mk_104 pc) else (mk_105 pc)) else (bif Nat.blt i 107 then (mk_106 pc) else (mk_107 pc))) else (bif Nat.blt i 110 then (bif Nat.blt i 109 then (mk_108 pc) else (mk_109 pc)) else (bif Nat.blt i 111 then (mk_110 pc) else (mk_111 pc))))) else (bif Nat.blt i 120 then (bif Nat.blt i 116 then (bif Nat.blt i 114 then (bif Nat.blt i 113 then (mk_112 pc) else (mk_113 pc)) else (bif Nat.blt i 115 then (mk_114 pc) else (mk_115 pc))) else (bif Nat.blt i 118 then (bif Nat.blt i 117 then (mk_116 pc) else (mk_117 pc)) else (bif Nat.blt i 119 then (mk_118 pc) else (mk_119 pc)))) else (bif Nat.blt i 124 then (bif Nat.blt i 122 then (bif Nat.blt i 121 then (mk_120 pc) else (mk_121 pc)) else (bif Nat.blt i 123 then (mk_122 pc) else (mk_123 pc))) else (bif Nat.blt i 126 then (bif Nat.blt i 125 then (mk_124 pc) else (mk_125 pc)) else (bif Nat.blt i 127 then (mk_126 pc) else (bif Nat.blt i 128 then (mk_127 pc) else (mk_128 pc))))))))) else (bif Nat.blt i 194 then (bif Nat.blt i 161 then (bif Nat.blt i 145 then (bif Nat.blt i 137 then (bif Nat.blt i 133 then (bif Nat.blt i 131 then (bif Nat.blt i 130 then (mk_129 pc) else (mk_130 pc)) else (bif Nat.blt i 132 then (mk_131 pc) else (mk_132 pc))) else (bif Nat.blt i 135 then (bif Nat.blt i 134 then (mk_133 pc) else (mk_134 pc)) else (bif Nat.blt i 136 then (mk_135 pc) else (mk_136 pc)))) else (bif Nat.blt i 141 then (bif Nat.blt i 139 then (bif Nat.blt i 138 then (mk_137 pc) else (mk_138 pc)) else (bif Nat.blt i 140 then (mk_139 pc) else (mk_140 pc))) else (bif Nat.blt i 143 then (bif Nat.blt i 142 then (mk_141 pc) else (mk_142 pc)) else (bif Nat.blt i 144 then (mk_143 pc) else (mk_144 pc))))) else (bif Nat.blt i 153 then (bif Nat.blt i 149 then (bif Nat.blt i 147 then (bif Nat.blt i 146 then (mk_145 pc) else (mk_146 pc)) else (bif Nat.blt i 148 then (mk_147 pc) else (mk_148 pc))) else (bif Nat.blt i 151 then (bif Nat.blt i 150 then (mk_149 pc) else (mk_150 pc)) else (bif Nat.blt i 152 then (mk_151 pc) else (mk_152 pc)))) else (bif Nat.blt i 157 then (bif Nat.blt i 155 then (bif Nat.blt i 154 then (mk_153 pc) else (mk_154 pc)) else (bif Nat.blt i 156 then (mk_155 pc) else (mk_156 pc))) else (bif Nat.blt i 159 then (bif Nat.blt i 158 then (mk_157 pc) else (mk_158 pc)) else (bif Nat.blt i 160 then (mk_159 pc) else (mk_160 pc)))))) else (bif Nat.blt i 177 then (bif Nat.blt i 169 then (bif Nat.blt i 165 then (bif Nat.blt i 163 then (bif Nat.blt i 162 then (mk_161 pc) else (mk_162 pc)) else (bif Nat.blt i 164 then (mk_163 pc) else (mk_164 pc))) else (bif Nat.blt i 167 then (bif Nat.blt i 166 then (mk_165 pc) else (mk_166 pc)) else (bif Nat.blt i 168 then (mk_167 pc) else (mk_168 pc)))) else (bif Nat.blt i 173 then (bif Nat.blt i 171 then (bif Nat.blt i 170 then (mk_169 pc) else (mk_170 pc)) else (bif Nat.blt i 172 then (mk_171 pc) else (mk_172 pc))) else (bif Nat.blt i 175 then (bif Nat.blt i 174 then (mk_173 pc) else (mk_174 pc)) else (bif Nat.blt i 176 then (mk_175 pc) else (mk_176 pc))))) else (bif Nat.blt i 185 then (bif Nat.blt i 181 then (bif Nat.blt i 179 then (bif Nat.blt i 178 then (mk_177 pc) else (mk_178 pc)) else (bif Nat.blt i 180 then (mk_179 pc) else (mk_180 pc))) else (bif Nat.blt i 183 then (bif Nat.blt i 182 then (mk_181 pc) else (mk_182 pc)) else (bif Nat.blt i 184 then (mk_183 pc) else (mk_184 pc)))) else (bif Nat.blt i 189 then (bif Nat.blt i 187 then (bif Nat.blt i 186 then (mk_185 pc) else (mk_186 pc)) else (bif Nat.blt i 188 then (mk_187 pc) else (mk_188 pc))) else (bif Nat.blt i 191 then (bif Nat.blt i 190 then (mk_189 pc) else (mk_190 pc)) else (bif Nat.blt i 192 then (mk_191 pc) else (bif Nat.blt i 193 then (mk_192 pc) else (mk_193 pc)))))))) else (bif Nat.blt i 226 then (bif Nat.blt i 210 then (bif Nat.blt i 202 then (bif Nat.blt i 198 then (bif Nat.blt i 196 then (bif Nat.blt i 195 then (mk_194 pc) else (mk_195 pc)) else (bif Nat.blt i 197 then (mk_196 pc) else (mk_197 pc))) else (bif Nat.blt i 200 then (bif Nat.blt i 199 then (mk_198 pc) else (mk_199 pc)) else (bif Nat.blt i 201 then (mk_200 pc) else (mk_201 pc)))) else (bif Nat.blt i 206 then (bif Nat.blt i 204 then (bif Nat.blt i 203 then (mk_202 pc) else (mk_203 pc)) else (bif Nat.blt i 205 then (mk_204 pc) else (mk_205 pc))) else (bif Nat.blt i 208 then (bif Nat.blt i 207 then (mk_206 pc) else (mk_207 pc)) else (bif Nat.blt i 209 then (mk_208 pc) else (mk_209 pc))))) else (bif Nat.blt i 218 then (bif Nat.blt i 214 then (bif Nat.blt i 212 then (bif Nat.blt i 211 then (mk_210 pc) else (mk_211 pc)) else (bif Nat.blt i 213 then (mk_212 pc) else (mk_213 pc))) else (bif Nat.blt i 216 then (bif Nat.blt i 215 then (mk_214 pc) else (mk_215 pc)) else (bif Nat.blt i 217 then (mk_216 pc) else (mk_217 pc)))) else (bif Nat.blt i 222 then (bif Nat.blt i 220 then (bif Nat.blt i 219 then (mk_218 pc) else (mk_219 pc)) else (bif Nat.blt i 221 then (mk_220 pc) else (mk_221 pc))) else (bif Nat.blt i 224 then (bif Nat.blt i 223 then (mk_222 pc) else (mk_223 pc)) else (bif Nat.blt i 225 then (mk_224 pc) else (mk_225 pc)))))) else (bif Nat.blt i 242 then (bif Nat.blt i 234 then (bif Nat.blt i 230 then (bif Nat.blt i 228 then (bif Nat.blt i 227 then (mk_226 pc) else (mk_227 pc)) else (bif Nat.blt i 229 then (mk_228 pc) else (mk_229 pc))) else (bif Nat.blt i 232 then (bif Nat.blt i 231 then (mk_230 pc) else (mk_231 pc)) else (bif Nat.blt i 233 then (mk_232 pc) else (mk_233 pc)))) else (bif Nat.blt i 238 then (bif Nat.blt i 236 then (bif Nat.blt i 235 then (mk_234 pc) else (mk_235 pc)) else (bif Nat.blt i 237 then (mk_236 pc) else (mk_237 pc))) else (bif Nat.blt i 240 then (bif Nat.blt i 239 then (mk_238 pc) else (mk_239 pc)) else (bif Nat.blt i 241 then (mk_240 pc) else (mk_241 pc))))) else (bif Nat.blt i 250 then (bif Nat.blt i 246 then (bif Nat.blt i 244 then (bif Nat.blt i 243 then (mk_242 pc) else (mk_243 pc)) else (bif Nat.blt i 245 then (mk_244 pc) else (mk_245 pc))) else (bif Nat.blt i 248 then (bif Nat.blt i 247 then (mk_246 pc) else (mk_247 pc)) else (bif Nat.blt i 249 then (mk_248 pc) else (mk_249 pc)))) else (bif Nat.blt i 254 then (bif Nat.blt i 252 then (bif Nat.blt i 251 then (mk_250 pc) else (mk_251 pc)) else (bif Nat.blt i 253 then (mk_252 pc) else (mk_253 pc))) else (bif Nat.blt i 256 then (bif Nat.blt i 255 then (mk_254 pc) else (mk_255 pc)) else (bif Nat.blt i 257 then (mk_256 pc) else (bif Nat.blt i 258 then (mk_257 pc) else (mk_258 pc)))))))))
def nCell : Nat := 98
def sTl : List (List Int32) := [[97, 98, 99, 115, 112, 113, 114, 100, 119, 105], [12, 32, 14, 12, 8, 12], [1, 2, 5, 5, 6, 6, 7, 7, 8, 8, 9, 9, 10, 10], [2, 1, 6, 8, 5, 8, 10, 9, 5, 6, 10, 7, 9, 7], [0, 0, 1, 1, 1, 0], [5, 6, 8, 7, 9, 10], [10, 11, 12, 13, 0, 20, 0, 0, 30, 0, 0, 31, 0, 0, 40, 0, 0, 51, 0, 50, 60, 0, 61, 0]]
def sT (q j : Nat) : Int32 := (sTl.getD q []).getD j 0
def sN (q : Nat) : Nat := (sTl.getD q []).length
abbrev AM : Type := Nat → Nat → Value
abbrev AL : Type := List (Option Value)
abbrev AX : Type := Nat × (Nat → Int32)
def aset (μ : AM) (k j : Nat) (v : Value) : AM := fun k' j' => bif Nat.beq k' k && Nat.beq j' j then v else μ k' j'
def arow (μ : AM) (k : Nat) (r : Nat → Value) : AM := fun k' j' => bif Nat.beq k' k then r j' else μ k' j'
def toI (v : Value) : Int32 := match v with | .int x => x | _ => 0
def inb (i : Int32) (n : Nat) : Bool := !(decide (i < 0)) && Nat.blt i.toNatClampNeg n
def lget (ls : AL) (i : Nat) : Option Value := ls.getD i none
/-- no long begins at i -/
def lcl (ls : AL) (i : Nat) : Bool := match ls.getD i none with | some (.long _) => false | some (.double _) => false | _ => true
def lok (ls : AL) (i : Nat) : Bool := match i with | 0 => true | k + 1 => lcl ls k
def lset (ls : AL) (i : Nat) (v : Value) : Option AL := bif Nat.blt i ls.length && lok ls i then some (ls.set i (some v)) else none
def lset2 (ls : AL) (i : Nat) (v : Value) : Option AL := bif Nat.blt (i + 1) ls.length && lok ls i then some ((ls.set i (some v)).set (i + 1) none) else none
/-- a row of ints: its length -/
def ial (X : AX) (n k : Nat) : Option Nat := bif Nat.blt k 999 then (bif Nat.blt k n && Nat.beq (kd k) 0 then some (ln k) else none) else bif Nat.beq k 999 then some X.1 else bif Nat.blt k 1007 then some (sN (k - 1000)) else none
def ird (X : AX) (μ : AM) (k j : Nat) : Int32 := bif Nat.blt k 999 then toI (μ k j) else bif Nat.beq k 999 then X.2 j else sT (k - 1000) j
def fok (ty : FieldType) (v : Value) : Bool := match ty, v with
  | .int, .int _ => true
  | .boolean, .int x => decide (x = 0) || decide (x = 1)
  | .object _, .ref _ => true
  | .array _, .ref _ => true
  | _, _ => false
def amask : Nat → AL → AL
  | _, [] => []
  | b, v :: r => (bif Nat.beq (b % 2) 1 then v else none) :: amask (b / 2) r
def amk (i pc : Nat) (ls : AL) : AL := match mkT i pc with | 0 => ls | b + 1 => amask b ls
def tgt (pc : Nat) (off : Int) : Nat := ((pc : Int) + off).toNat
/-- is the jump's aim a number -/
def tok (pc : Nat) (off : Int) : Bool := decide (0 ≤ (pc : Int) + off)
def cmp0 (c : Jvm.ClassFile.Cond) (x y : Int32) : Bool := match c with
  | .eq => decide (x = y) | .ne => decide (¬ x = y) | .lt => decide (x < y) | .ge => decide (y ≤ x) | .gt => decide (y < x) | .le => decide (x ≤ y)
abbrev AR : Type := Nat × AL × List Value × Nat × AM
def aI (pc : Nat) (ls : AL) (n : Nat) (μ : AM) (x : Int32) (r : List Value) : Option AR := some (pc, ls, .int x :: r, n, μ)
def aLd (i pc : Nat) (ls : AL) (st : List Value) (n : Nat) (μ : AM) : Option AR := match lget ls i with
  | some (.int x) => some (pc, ls, .int x :: st, n, μ)
  | _ => none
def aLda (i pc : Nat) (ls : AL) (st : List Value) (n : Nat) (μ : AM) : Option AR := match lget ls i with
  | some (.ref x) => some (pc, ls, .ref x :: st, n, μ)
  | _ => none
def aLdl (i pc : Nat) (ls : AL) (st : List Value) (n : Nat) (μ : AM) : Option AR := match lget ls i with
  | some (.long x) => some (pc, ls, .long x :: st, n, μ)
  | _ => none
def aSt (i pc : Nat) (ls : AL) (st : List Value) (n : Nat) (μ : AM) : Option AR := match st with
  | .int x :: r => (match lset ls i (.int x) with | some ls' => some (pc, ls', r, n, μ) | none => none)
  | _ => none
def aSta (i pc : Nat) (ls : AL) (st : List Value) (n : Nat) (μ : AM) : Option AR := match st with
  | .ref x :: r => (match lset ls i (.ref x) with | some ls' => some (pc, ls', r, n, μ) | none => none)
  | _ => none
def aStl (i pc : Nat) (ls : AL) (st : List Value) (n : Nat) (μ : AM) : Option AR := match st with
  | .long x :: r => (match lset2 ls i (.long x) with | some ls' => some (pc, ls', r, n, μ) | none => none)
  | _ => none
def aB (f : Int32 → Int32 → Int32) (pc : Nat) (ls : AL) (st : List Value) (n : Nat) (μ : AM) : Option AR := match st with
  | .int y :: .int x :: r => some (pc, ls, .int (f x y) :: r, n, μ)
  | _ => none
def aU (f : Int32 → Int32) (pc : Nat) (ls : AL) (st : List Value) (n : Nat) (μ : AM) : Option AR := match st with
  | .int x :: r => some (pc, ls, .int (f x) :: r, n, μ)
  | _ => none
def aBl (f : Int64 → Int64 → Int64) (pc : Nat) (ls : AL) (st : List Value) (n : Nat) (μ : AM) : Option AR := match st with
  | .long y :: .long x :: r => some (pc, ls, .long (f x y) :: r, n, μ)
  | _ => none
def aSl (f : Int64 → Int32 → Int64) (pc : Nat) (ls : AL) (st : List Value) (n : Nat) (μ : AM) : Option AR := match st with
  | .int y :: .long x :: r => some (pc, ls, .long (f x y) :: r, n, μ)
  | _ => none
/-- one instruction that is neither a call nor an end -/
def astep (X : AX) (ins : Instr) (len a b pc : Nat) (ls : AL) (st : List Value) (n : Nat) (μ : AM) : Option AR := match ins with
  | .iconst k => some (pc + 1, ls, .int (Int32.ofInt k) :: st, n, μ)
  | .bipush k => some (pc + 2, ls, .int (Int8.ofInt k).toInt32 :: st, n, μ)
  | .sipush k => some (pc + 3, ls, .int (Int16.ofInt k).toInt32 :: st, n, μ)
  | .ldc _ => some (pc + 2, ls, .int (kI a) :: st, n, μ)
  | .ldc_w _ => some (pc + 3, ls, .int (kI a) :: st, n, μ)
  | .ldc2_w _ => some (pc + 3, ls, .long (kLo a) :: st, n, μ)
  | .lconst k => some (pc + 1, ls, .long (Int64.ofNat k) :: st, n, μ)
  | .iload_n k => aLd k (pc + 1) ls st n μ
  | .iload k => aLd k (pc + 2) ls st n μ
  | .aload_n k => aLda k (pc + 1) ls st n μ
  | .aload k => aLda k (pc + 2) ls st n μ
  | .lload_n k => aLdl k (pc + 1) ls st n μ
  | .istore_n k => aSt k (pc + 1) ls st n μ
  | .istore k => aSt k (pc + 2) ls st n μ
  | .astore_n k => aSta k (pc + 1) ls st n μ
  | .astore k => aSta k (pc + 2) ls st n μ
  | .lstore_n k => aStl k (pc + 1) ls st n μ
  | .iinc k d => (match lget ls k with
    | some (.int x) => (match lset ls k (.int (x + Int32.ofInt d)) with | some ls' => some (pc + 3, ls', st, n, μ) | none => none)
    | _ => none)
  | .dup => (match st with
    | .int x :: r => some (pc + 1, ls, .int x :: .int x :: r, n, μ)
    | .ref x :: r => some (pc + 1, ls, .ref x :: .ref x :: r, n, μ)
    | _ => none)
  | .dup2 => (match st with
    | .int x :: .ref y :: r => some (pc + 1, ls, .int x :: .ref y :: .int x :: .ref y :: r, n, μ)
    | _ => none)
  | .iadd => aB (fun x y => x + y) (pc + 1) ls st n μ
  | .isub => aB (fun x y => x - y) (pc + 1) ls st n μ
  | .imul => aB (fun x y => x * y) (pc + 1) ls st n μ
  | .iand => aB (fun x y => x &&& y) (pc + 1) ls st n μ
  | .ior => aB (fun x y => x ||| y) (pc + 1) ls st n μ
  | .ixor => aB (fun x y => x ^^^ y) (pc + 1) ls st n μ
  | .ishl => aB (fun x y => x <<< (y &&& 31)) (pc + 1) ls st n μ
  | .ishr => aB (fun x y => x >>> (y &&& 31)) (pc + 1) ls st n μ
  | .iushr => aB (fun x y => (x.toUInt32 >>> (y.toUInt32 &&& Int32.toUInt32 31)).toInt32) (pc + 1) ls st n μ
  | .idiv => (match st with
    | .int y :: .int x :: r => bif decide (y = 0) then none else some (pc + 1, ls, .int (x / y) :: r, n, μ)
    | _ => none)
  | .irem => (match st with
    | .int y :: .int x :: r => bif decide (y = 0) then none else some (pc + 1, ls, .int (x - x / y * y) :: r, n, μ)
    | _ => none)
  | .ineg => aU (fun x => -x) (pc + 1) ls st n μ
  | .i2b => aU (fun x => x.toInt8.toInt32) (pc + 1) ls st n μ
  | .i2s => aU (fun x => x.toInt16.toInt32) (pc + 1) ls st n μ
  | .i2l => (match st with
    | .int x :: r => some (pc + 1, ls, .long x.toInt64 :: r, n, μ)
    | _ => none)
  | .l2i => (match st with
    | .long x :: r => some (pc + 1, ls, .int x.toInt32 :: r, n, μ)
    | _ => none)
  | .ladd => aBl (fun x y => x + y) (pc + 1) ls st n μ
  | .land => aBl (fun x y => x &&& y) (pc + 1) ls st n μ
  | .lor => aBl (fun x y => x ||| y) (pc + 1) ls st n μ
  | .lshl => aSl (fun x y => x <<< (y.toInt64 &&& 63)) (pc + 1) ls st n μ
  | .lshr => aSl (fun x y => x >>> (y.toInt64 &&& 63)) (pc + 1) ls st n μ
  | .lushr => aSl (fun x y => (x.toUInt64 >>> (y.toInt64.toUInt64 &&& Int64.toUInt64 63)).toInt64) (pc + 1) ls st n μ
  | .lcmp => (match st with
    | .long y :: .long x :: r => some (pc + 1, ls, .int (lg_cmp x y) :: r, n, μ)
    | _ => none)
  | .goto off => bif tok pc off then some (tgt pc off, ls, st, n, μ) else none
  | .ifCond c off => (match st with
    | .int x :: r => bif tok pc off then (bif cmp0 c x 0 then some (tgt pc off, ls, r, n, μ) else some (pc + 3, ls, r, n, μ)) else none
    | _ => none)
  | .if_icmp c off => (match st with
    | .int y :: .int x :: r => bif tok pc off then (bif cmp0 c x y then some (tgt pc off, ls, r, n, μ) else some (pc + 3, ls, r, n, μ)) else none
    | _ => none)
  | .tableswitch d lo hi offs => (match st with
    | .int x :: r => bif decide (x.toInt < lo) || decide (hi < x.toInt) then (bif tok pc d then some (tgt pc d, ls, r, n, μ) else none) else (match offs[(x.toInt - lo).toNat]? with
      | some off => bif tok pc off then some (tgt pc off, ls, r, n, μ) else none
      | none => none)
    | _ => none)
  | .lookupswitch d ps => (match st with
    | .int x :: r => bif (ps.toList.zip (ps.toList.drop 1)).all (fun (a, next) => a.1 < next.1) && tok pc (Op.lookupswitch.offset ps.toList d x.toInt) then some (tgt pc (Op.lookupswitch.offset ps.toList d x.toInt), ls, r, n, μ) else none
    | _ => none)
  | .getstatic _ => some (pc + 3, ls, .ref (1000 + a) :: st, n, μ)
  | .getfield _ => (match st with
    | .ref k :: r => bif Nat.blt k 999 && Nat.blt k n && Nat.beq (kd k) (a + 3) && Nat.blt b (kN a) then some (pc + 3, ls, μ k b :: r, n, μ) else none
    | _ => none)
  | .putfield _ => (match st with
    | v :: .ref k :: r => bif Nat.blt k 999 && Nat.blt k n && Nat.beq (kd k) (a + 3) && Nat.blt b (kN a) && fok (kY a b) v then some (pc + 3, ls, r, n, aset μ k b v) else none
    | _ => none)
  | .arraylength => (match st with
    | .ref k :: r => (match ial X n k with | some L => some (pc + 1, ls, .int (Int32.ofNat L) :: r, n, μ) | none => none)
    | _ => none)
  | .iaload => (match st with
    | .int i :: .ref k :: r => (match ial X n k with | some L => bif inb i L then some (pc + 1, ls, .int (ird X μ k i.toNatClampNeg) :: r, n, μ) else none | none => none)
    | _ => none)
  | .iastore => (match st with
    | .int x :: .int i :: .ref k :: r => bif Nat.blt k 999 && Nat.blt k n && Nat.beq (kd k) 0 && inb i (ln k) then some (pc + 1, ls, r, n, aset μ k i.toNatClampNeg (.int x)) else none
    | _ => none)
  | .aaload => (match st with
    | .int i :: .ref k :: r => bif Nat.blt k 999 && Nat.blt k n && (Nat.beq (kd k) 1 || Nat.beq (kd k) 2) && inb i (ln k) then some (pc + 1, ls, μ k i.toNatClampNeg :: r, n, μ) else none
    | _ => none)
  | .aastore => (match st with
    | .ref h :: .int i :: .ref k :: r => bif Nat.blt k 999 && Nat.blt k n && (Nat.beq (kd k) 1 && Nat.beq (kd h) 3 || Nat.beq (kd k) 2 && Nat.beq (kd h) 5) && inb i (ln k) && Nat.blt h 999 && Nat.blt h n then some (pc + 1, ls, r, n, aset μ k i.toNatClampNeg (.ref h)) else none
    | _ => none)
  | .new _ => bif Nat.blt n 999 && Nat.beq (kd n) (a + 3) && Nat.beq (ln n) (kN a) && Nat.blt a 10 then some (pc + 3, ls, .ref n :: st, n + 1, arow μ n (fun j => defaultValue (kY a j))) else none
  | .newarray t => (match st with
    | .int m :: r => bif Nat.blt n 999 && decide (t = .int) && Nat.beq (kd n) 0 && !(decide (m < 0)) && Nat.beq m.toNatClampNeg (ln n) then some (pc + 2, ls, .ref n :: r, n + 1, arow μ n (fun _ => .int 0)) else none
    | _ => none)
  | .anewarray _ => (match st with
    | .int m :: r => bif Nat.blt n 999 && (Nat.beq a 0 && Nat.beq (kd n) 1 || Nat.beq a 2 && Nat.beq (kd n) 2) && !(decide (m < 0)) && Nat.beq m.toNatClampNeg (ln n) then some (pc + 3, ls, .ref n :: r, n + 1, arow μ n (fun _ => .null)) else none
    | _ => none)
  | _ => none
/-- the locals with which a method begins -/
def aent : List Value → AL
  | [] => []
  | .long x :: r => some (.long x) :: none :: aent r
  | .double x :: r => some (.double x) :: none :: aent r
  | v :: r => some v :: aent r
def apad (as : List Value) (m : Nat) : AL := aent as ++ List.replicate (m - (aent as).length) none
/-- the arguments off the stack, the last one first -/
def atake : Nat → List Value → List Value → Option (List Value × List Value)
  | 0, st, acc => some (acc, st)
  | _ + 1, [], _ => none
  | k + 1, v :: st, acc => atake k st (v :: acc)
def acpy (μ : AM) (X : AX) (sk sp dk dp m : Nat) : AM := fun k j => bif Nat.beq k dk && Nat.ble dp j && Nat.blt j (dp + m) then .int (ird X μ sk (sp + (j - dp))) else μ k j
/-- what may lie below a call's arguments -/
def arest (st : List Value) : Bool := Nat.ble (st.map fun v => v.category).sum 8
/-- the kind of an end: what it gives -/
def aend (ins : Instr) (r : Option FieldType) (st : List Value) : Option (Option Value) := match ins with
  | .return_ => (match st, r with | [], none => some none | _, _ => none)
  | .ireturn => (match st, r with | [.int v], some .int => some (some (.int v)) | [.int v], some .boolean => bif decide (v = 0) || decide (v = 1) then some (some (.int v)) else none | _, _ => none)
  | .lreturn => (match st, r with | [.long v], some .long => some (some (.long v)) | _, _ => none)
  | _ => none
def isend (ins : Instr) : Bool := match ins with | .return_ => true | .ireturn => true | .lreturn => true | _ => false
/-- the receiver is of the method's class -/
def arecv (kind n j : Nat) (as : List Value) : Bool := bif Nat.beq kind 2 then mS j else match as with
  | .ref k :: _ => !(mS j) && Nat.blt k 999 && Nat.blt k n && Nat.beq (kd k) (mO j + 3) && Nat.blt (mO j) 10
  | _ => false
/-- one step of a method, over what calls and the rest give -/
def axB (X : AX) (rc : Nat → Nat → Nat → AL → List Value → Nat → AM → Option (Option Value × Nat × AM)) (d i pc : Nat) (ls : AL) (st : List Value) (n : Nat) (μ : AM) : Option (Option Value × Nat × AM) := match it i pc with
    | none => none
    | some (ins, len, a, b) => bif isend ins then (match aend ins (mR i) st with | some v => some (v, n, μ) | none => none)
      else bif Nat.beq (acall ins) 0 then (match astep X ins len a b pc (amk i pc ls) st n μ with
        | some (pc', ls', st', n', μ') => rc d i pc' ls' st' n' μ'
        | none => none)
      else bif Nat.beq a 1000 then (match st with
        | .ref _ :: r => bif Nat.beq (acall ins) 3 && Nat.blt 0 d && arest r then rc d i (pc + 3) (amk i pc ls) r n μ else none
        | _ => none)
      else bif Nat.beq a 1001 then (match st with
        | .int m :: .int dp :: .ref dk :: .int sp :: .ref sk :: r => (match ial X n sk with
          | some L => bif Nat.beq (acall ins) 2 && Nat.blt 0 d && arest r && Nat.blt dk 999 && Nat.blt sk 999 && Nat.blt dk n && Nat.beq (kd dk) 0 && !(decide (m < 0)) && !(decide (sp < 0)) && !(decide (dp < 0)) && Nat.ble (sp.toNatClampNeg + m.toNatClampNeg) L && Nat.ble (dp.toNatClampNeg + m.toNatClampNeg) (ln dk)
              then rc d i (pc + 3) (amk i pc ls) r n (acpy μ X sk sp.toNatClampNeg dk dp.toNatClampNeg m.toNatClampNeg) else none
          | none => none)
        | _ => none)
      else bif Nat.beq a 1002 then (match st with
        | .int y :: .int x :: r => bif Nat.beq (acall ins) 2 && Nat.blt 0 d && arest r then rc d i (pc + 3) (amk i pc ls) (.int (bif decide (x < y) then y else x) :: r) n μ else none
        | _ => none)
      else bif Nat.beq a 1003 then (match st with
        | .int y :: .int x :: r => bif Nat.beq (acall ins) 2 && Nat.blt 0 d && arest r then rc d i (pc + 3) (amk i pc ls) (.int (bif decide (y < x) then y else x) :: r) n μ else none
        | _ => none)
      else match d with
        | 0 => none
        | d' + 1 => (match atake (bif Nat.beq (acall ins) 2 then mP a else mP a + 1) st [] with
          | none => none
          | some (as, r) => bif arest r && arecv (acall ins) n a as && Nat.ble (aent as).length (mL a) then (match rc d' a 0 (apad as (mL a)) [] n μ with
            | none => none
            | some (v, n', μ') => rc d i (pc + 3) (amk i pc ls) (v.toList ++ r) n' μ') else none)
def ax (X : AX) : Nat → Nat → Nat → Nat → AL → List Value → Nat → AM → Option (Option Value × Nat × AM)
  | 0, _, _, _, _, _, _, _ => none
  | f + 1, d, i, pc, ls, st, n, μ => axB X (ax X f) d i pc ls st n μ
