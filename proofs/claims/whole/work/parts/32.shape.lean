/-! THE SHAPE of the store behind the constructors (written by wip/whole/shape.py) -/
def shL : List (Nat × Nat × Nat) := [(3, 10, 0), (3, 8, 0), (1, 0, 160), (1, 0, 160), (1, 0, 160), (1, 0, 160), (1, 0, 160), (1, 0, 2048), (1, 0, 136), (3, 7, 0), (1, 0, 68), (3, 2, 0), (3, 6, 0), (1, 0, 1984), (1, 0, 31), (1, 0, 192), (3, 7, 0), (1, 0, 68), (2, 5, 2), (3, 5, 0), (3, 7, 0), (1, 0, 30), (3, 7, 0), (1, 0, 4960), (1, 0, 31), (1, 0, 93), (1, 0, 94), (1, 0, 961), (3, 5, 0), (3, 7, 0), (1, 0, 30), (3, 7, 0), (1, 0, 4960), (1, 0, 31), (1, 0, 93), (1, 0, 94), (1, 0, 961), (3, 1, 0), (1, 0, 300), (1, 0, 300), (1, 0, 300), (1, 0, 300), (1, 0, 300), (1, 0, 9300), (3, 7, 0), (1, 0, 300), (1, 0, 300), (3, 4, 0), (1, 0, 300), (1, 0, 300), (1, 0, 300), (1, 0, 31), (1, 0, 31), (1, 0, 300), (1, 0, 31), (3, 0, 0), (3, 9, 0), (1, 0, 512), (1, 0, 512), (1, 0, 512), (1, 0, 512), (3, 3, 0), (3, 7, 0), (1, 0, 60), (2, 5, 2), (3, 5, 0), (3, 7, 0), (1, 0, 30), (3, 7, 0), (1, 0, 4960), (1, 0, 31), (1, 0, 93), (1, 0, 94), (1, 0, 961), (3, 5, 0), (3, 7, 0), (1, 0, 30), (3, 7, 0), (1, 0, 4960), (1, 0, 31), (1, 0, 93), (1, 0, 94), (1, 0, 961), (2, 7, 4), (3, 1, 0), (1, 0, 300), (1, 0, 300), (1, 0, 300), (1, 0, 300), (1, 0, 300), (1, 0, 9300), (3, 7, 0), (1, 0, 300), (1, 0, 300), (3, 7, 0), (1, 0, 30), (3, 7, 0), (1, 0, 30), (3, 7, 0), (1, 0, 30), (3, 7, 0), (1, 0, 30), (2, 3, 2), (3, 3, 0), (3, 7, 0), (1, 0, 60), (2, 5, 2), (3, 5, 0), (3, 7, 0), (1, 0, 30), (3, 7, 0), (1, 0, 4960), (1, 0, 31), (1, 0, 93), (1, 0, 94), (1, 0, 961), (3, 5, 0), (3, 7, 0), (1, 0, 30), (3, 7, 0), (1, 0, 4960), (1, 0, 31), (1, 0, 93), (1, 0, 94), (1, 0, 961), (2, 7, 4), (3, 1, 0), (1, 0, 300), (1, 0, 300), (1, 0, 300), (1, 0, 300), (1, 0, 300), (1, 0, 9300), (3, 7, 0), (1, 0, 300), (1, 0, 300), (3, 7, 0), (1, 0, 30), (3, 7, 0), (1, 0, 30), (3, 7, 0), (1, 0, 30), (3, 7, 0), (1, 0, 30), (3, 3, 0), (3, 7, 0), (1, 0, 60), (2, 5, 2), (3, 5, 0), (3, 7, 0), (1, 0, 30), (3, 7, 0), (1, 0, 4960), (1, 0, 31), (1, 0, 93), (1, 0, 94), (1, 0, 961), (3, 5, 0), (3, 7, 0), (1, 0, 30), (3, 7, 0), (1, 0, 4960), (1, 0, 31), (1, 0, 93), (1, 0, 94), (1, 0, 961), (2, 7, 4), (3, 1, 0), (1, 0, 300), (1, 0, 300), (1, 0, 300), (1, 0, 300), (1, 0, 300), (1, 0, 9300), (3, 7, 0), (1, 0, 300), (1, 0, 300), (3, 7, 0), (1, 0, 30), (3, 7, 0), (1, 0, 30), (3, 7, 0), (1, 0, 30), (3, 7, 0), (1, 0, 30), (1, 1, 2), (3, 11, 0), (1, 0, 42882), (1, 0, 60), (1, 1, 2), (1, 0, 1500), (1, 0, 1500), (1, 0, 1500), (1, 0, 1500), (1, 0, 1500), (1, 0, 24000), (1, 1, 1500), (1, 0, 4500), (1, 0, 4500), (1, 0, 48000), (1, 0, 400), (1, 0, 400), (1, 0, 960), (1, 0, 960), (1, 0, 32), (1, 0, 32), (1, 0, 2000), (1, 0, 600), (1, 0, 1500), (1, 0, 200), (1, 0, 62), (1, 0, 2), (1, 0, 186), (1, 0, 5766), (1, 0, 186), (1, 0, 301), (1, 0, 301), (1, 0, 301), (1, 0, 8)]
def shX : sX := (219, 251654, fun i => shL.getD i (0, 0, 0))
def yY (L : Nat) (xs : Nat → Int32) : sY := (L, xs, shX)
theorem yY_1 (L : Nat) (xs : Nat → Int32) : (yY L xs).1 = L := rfl
theorem yY_2 (L : Nat) (xs : Nat → Int32) : (yY L xs).2.1 = xs := rfl
theorem isA_iff {Y : sY} {i t0 m0 : Nat} (h : isA Y i t0 m0) (t m : Nat) : isA Y i t m ↔ t0 = t ∧ m0 = m := by
  unfold isA at h ⊢
  rw [h]
  simp
theorem isQ_iff {Y : sY} {i t0 m0 : Nat} (h : isQ Y i t0 m0) (t m : Nat) : isQ Y i t m ↔ t0 = t ∧ m0 = m := by
  unfold isQ at h ⊢
  rw [h]
  simp
theorem so_0 {L : Nat} {xs : Nat → Int32} : isO (yY L xs) 0 10 := ⟨rfl, rfl⟩
theorem so_1 {L : Nat} {xs : Nat → Int32} : isO (yY L xs) 1 8 := ⟨rfl, rfl⟩
theorem sa_2 {L : Nat} {xs : Nat → Int32} : isA (yY L xs) 2 0 160 := rfl
theorem sa_3 {L : Nat} {xs : Nat → Int32} : isA (yY L xs) 3 0 160 := rfl
theorem sa_4 {L : Nat} {xs : Nat → Int32} : isA (yY L xs) 4 0 160 := rfl
theorem sa_5 {L : Nat} {xs : Nat → Int32} : isA (yY L xs) 5 0 160 := rfl
theorem sa_6 {L : Nat} {xs : Nat → Int32} : isA (yY L xs) 6 0 160 := rfl
theorem sa_7 {L : Nat} {xs : Nat → Int32} : isA (yY L xs) 7 0 2048 := rfl
theorem sa_8 {L : Nat} {xs : Nat → Int32} : isA (yY L xs) 8 0 136 := rfl
theorem so_9 {L : Nat} {xs : Nat → Int32} : isO (yY L xs) 9 7 := ⟨rfl, rfl⟩
theorem sa_10 {L : Nat} {xs : Nat → Int32} : isA (yY L xs) 10 0 68 := rfl
theorem so_11 {L : Nat} {xs : Nat → Int32} : isO (yY L xs) 11 2 := ⟨rfl, rfl⟩
theorem so_12 {L : Nat} {xs : Nat → Int32} : isO (yY L xs) 12 6 := ⟨rfl, rfl⟩
theorem sa_13 {L : Nat} {xs : Nat → Int32} : isA (yY L xs) 13 0 1984 := rfl
theorem sa_14 {L : Nat} {xs : Nat → Int32} : isA (yY L xs) 14 0 31 := rfl
theorem sa_15 {L : Nat} {xs : Nat → Int32} : isA (yY L xs) 15 0 192 := rfl
theorem so_16 {L : Nat} {xs : Nat → Int32} : isO (yY L xs) 16 7 := ⟨rfl, rfl⟩
theorem sa_17 {L : Nat} {xs : Nat → Int32} : isA (yY L xs) 17 0 68 := rfl
theorem sq_18 {L : Nat} {xs : Nat → Int32} : isQ (yY L xs) 18 5 2 := rfl
theorem so_19 {L : Nat} {xs : Nat → Int32} : isO (yY L xs) 19 5 := ⟨rfl, rfl⟩
theorem so_20 {L : Nat} {xs : Nat → Int32} : isO (yY L xs) 20 7 := ⟨rfl, rfl⟩
theorem sa_21 {L : Nat} {xs : Nat → Int32} : isA (yY L xs) 21 0 30 := rfl
theorem so_22 {L : Nat} {xs : Nat → Int32} : isO (yY L xs) 22 7 := ⟨rfl, rfl⟩
theorem sa_23 {L : Nat} {xs : Nat → Int32} : isA (yY L xs) 23 0 4960 := rfl
theorem sa_24 {L : Nat} {xs : Nat → Int32} : isA (yY L xs) 24 0 31 := rfl
theorem sa_25 {L : Nat} {xs : Nat → Int32} : isA (yY L xs) 25 0 93 := rfl
theorem sa_26 {L : Nat} {xs : Nat → Int32} : isA (yY L xs) 26 0 94 := rfl
theorem sa_27 {L : Nat} {xs : Nat → Int32} : isA (yY L xs) 27 0 961 := rfl
theorem so_28 {L : Nat} {xs : Nat → Int32} : isO (yY L xs) 28 5 := ⟨rfl, rfl⟩
theorem so_29 {L : Nat} {xs : Nat → Int32} : isO (yY L xs) 29 7 := ⟨rfl, rfl⟩
theorem sa_30 {L : Nat} {xs : Nat → Int32} : isA (yY L xs) 30 0 30 := rfl
theorem so_31 {L : Nat} {xs : Nat → Int32} : isO (yY L xs) 31 7 := ⟨rfl, rfl⟩
theorem sa_32 {L : Nat} {xs : Nat → Int32} : isA (yY L xs) 32 0 4960 := rfl
theorem sa_33 {L : Nat} {xs : Nat → Int32} : isA (yY L xs) 33 0 31 := rfl
theorem sa_34 {L : Nat} {xs : Nat → Int32} : isA (yY L xs) 34 0 93 := rfl
theorem sa_35 {L : Nat} {xs : Nat → Int32} : isA (yY L xs) 35 0 94 := rfl
theorem sa_36 {L : Nat} {xs : Nat → Int32} : isA (yY L xs) 36 0 961 := rfl
theorem so_37 {L : Nat} {xs : Nat → Int32} : isO (yY L xs) 37 1 := ⟨rfl, rfl⟩
theorem sa_38 {L : Nat} {xs : Nat → Int32} : isA (yY L xs) 38 0 300 := rfl
theorem sa_39 {L : Nat} {xs : Nat → Int32} : isA (yY L xs) 39 0 300 := rfl
theorem sa_40 {L : Nat} {xs : Nat → Int32} : isA (yY L xs) 40 0 300 := rfl
theorem sa_41 {L : Nat} {xs : Nat → Int32} : isA (yY L xs) 41 0 300 := rfl
theorem sa_42 {L : Nat} {xs : Nat → Int32} : isA (yY L xs) 42 0 300 := rfl
theorem sa_43 {L : Nat} {xs : Nat → Int32} : isA (yY L xs) 43 0 9300 := rfl
theorem so_44 {L : Nat} {xs : Nat → Int32} : isO (yY L xs) 44 7 := ⟨rfl, rfl⟩
theorem sa_45 {L : Nat} {xs : Nat → Int32} : isA (yY L xs) 45 0 300 := rfl
theorem sa_46 {L : Nat} {xs : Nat → Int32} : isA (yY L xs) 46 0 300 := rfl
theorem so_47 {L : Nat} {xs : Nat → Int32} : isO (yY L xs) 47 4 := ⟨rfl, rfl⟩
theorem sa_48 {L : Nat} {xs : Nat → Int32} : isA (yY L xs) 48 0 300 := rfl
theorem sa_49 {L : Nat} {xs : Nat → Int32} : isA (yY L xs) 49 0 300 := rfl
theorem sa_50 {L : Nat} {xs : Nat → Int32} : isA (yY L xs) 50 0 300 := rfl
theorem sa_51 {L : Nat} {xs : Nat → Int32} : isA (yY L xs) 51 0 31 := rfl
theorem sa_52 {L : Nat} {xs : Nat → Int32} : isA (yY L xs) 52 0 31 := rfl
theorem sa_53 {L : Nat} {xs : Nat → Int32} : isA (yY L xs) 53 0 300 := rfl
theorem sa_54 {L : Nat} {xs : Nat → Int32} : isA (yY L xs) 54 0 31 := rfl
theorem so_55 {L : Nat} {xs : Nat → Int32} : isO (yY L xs) 55 0 := ⟨rfl, rfl⟩
theorem so_56 {L : Nat} {xs : Nat → Int32} : isO (yY L xs) 56 9 := ⟨rfl, rfl⟩
theorem sa_57 {L : Nat} {xs : Nat → Int32} : isA (yY L xs) 57 0 512 := rfl
theorem sa_58 {L : Nat} {xs : Nat → Int32} : isA (yY L xs) 58 0 512 := rfl
theorem sa_59 {L : Nat} {xs : Nat → Int32} : isA (yY L xs) 59 0 512 := rfl
theorem sa_60 {L : Nat} {xs : Nat → Int32} : isA (yY L xs) 60 0 512 := rfl
theorem so_61 {L : Nat} {xs : Nat → Int32} : isO (yY L xs) 61 3 := ⟨rfl, rfl⟩
theorem so_62 {L : Nat} {xs : Nat → Int32} : isO (yY L xs) 62 7 := ⟨rfl, rfl⟩
theorem sa_63 {L : Nat} {xs : Nat → Int32} : isA (yY L xs) 63 0 60 := rfl
theorem sq_64 {L : Nat} {xs : Nat → Int32} : isQ (yY L xs) 64 5 2 := rfl
theorem so_65 {L : Nat} {xs : Nat → Int32} : isO (yY L xs) 65 5 := ⟨rfl, rfl⟩
theorem so_66 {L : Nat} {xs : Nat → Int32} : isO (yY L xs) 66 7 := ⟨rfl, rfl⟩
theorem sa_67 {L : Nat} {xs : Nat → Int32} : isA (yY L xs) 67 0 30 := rfl
theorem so_68 {L : Nat} {xs : Nat → Int32} : isO (yY L xs) 68 7 := ⟨rfl, rfl⟩
theorem sa_69 {L : Nat} {xs : Nat → Int32} : isA (yY L xs) 69 0 4960 := rfl
theorem sa_70 {L : Nat} {xs : Nat → Int32} : isA (yY L xs) 70 0 31 := rfl
theorem sa_71 {L : Nat} {xs : Nat → Int32} : isA (yY L xs) 71 0 93 := rfl
theorem sa_72 {L : Nat} {xs : Nat → Int32} : isA (yY L xs) 72 0 94 := rfl
theorem sa_73 {L : Nat} {xs : Nat → Int32} : isA (yY L xs) 73 0 961 := rfl
theorem so_74 {L : Nat} {xs : Nat → Int32} : isO (yY L xs) 74 5 := ⟨rfl, rfl⟩
theorem so_75 {L : Nat} {xs : Nat → Int32} : isO (yY L xs) 75 7 := ⟨rfl, rfl⟩
theorem sa_76 {L : Nat} {xs : Nat → Int32} : isA (yY L xs) 76 0 30 := rfl
theorem so_77 {L : Nat} {xs : Nat → Int32} : isO (yY L xs) 77 7 := ⟨rfl, rfl⟩
theorem sa_78 {L : Nat} {xs : Nat → Int32} : isA (yY L xs) 78 0 4960 := rfl
theorem sa_79 {L : Nat} {xs : Nat → Int32} : isA (yY L xs) 79 0 31 := rfl
theorem sa_80 {L : Nat} {xs : Nat → Int32} : isA (yY L xs) 80 0 93 := rfl
theorem sa_81 {L : Nat} {xs : Nat → Int32} : isA (yY L xs) 81 0 94 := rfl
theorem sa_82 {L : Nat} {xs : Nat → Int32} : isA (yY L xs) 82 0 961 := rfl
theorem sq_83 {L : Nat} {xs : Nat → Int32} : isQ (yY L xs) 83 7 4 := rfl
theorem so_84 {L : Nat} {xs : Nat → Int32} : isO (yY L xs) 84 1 := ⟨rfl, rfl⟩
theorem sa_85 {L : Nat} {xs : Nat → Int32} : isA (yY L xs) 85 0 300 := rfl
theorem sa_86 {L : Nat} {xs : Nat → Int32} : isA (yY L xs) 86 0 300 := rfl
theorem sa_87 {L : Nat} {xs : Nat → Int32} : isA (yY L xs) 87 0 300 := rfl
theorem sa_88 {L : Nat} {xs : Nat → Int32} : isA (yY L xs) 88 0 300 := rfl
theorem sa_89 {L : Nat} {xs : Nat → Int32} : isA (yY L xs) 89 0 300 := rfl
theorem sa_90 {L : Nat} {xs : Nat → Int32} : isA (yY L xs) 90 0 9300 := rfl
theorem so_91 {L : Nat} {xs : Nat → Int32} : isO (yY L xs) 91 7 := ⟨rfl, rfl⟩
theorem sa_92 {L : Nat} {xs : Nat → Int32} : isA (yY L xs) 92 0 300 := rfl
theorem sa_93 {L : Nat} {xs : Nat → Int32} : isA (yY L xs) 93 0 300 := rfl
theorem so_94 {L : Nat} {xs : Nat → Int32} : isO (yY L xs) 94 7 := ⟨rfl, rfl⟩
theorem sa_95 {L : Nat} {xs : Nat → Int32} : isA (yY L xs) 95 0 30 := rfl
theorem so_96 {L : Nat} {xs : Nat → Int32} : isO (yY L xs) 96 7 := ⟨rfl, rfl⟩
theorem sa_97 {L : Nat} {xs : Nat → Int32} : isA (yY L xs) 97 0 30 := rfl
theorem so_98 {L : Nat} {xs : Nat → Int32} : isO (yY L xs) 98 7 := ⟨rfl, rfl⟩
theorem sa_99 {L : Nat} {xs : Nat → Int32} : isA (yY L xs) 99 0 30 := rfl
theorem so_100 {L : Nat} {xs : Nat → Int32} : isO (yY L xs) 100 7 := ⟨rfl, rfl⟩
theorem sa_101 {L : Nat} {xs : Nat → Int32} : isA (yY L xs) 101 0 30 := rfl
theorem sq_102 {L : Nat} {xs : Nat → Int32} : isQ (yY L xs) 102 3 2 := rfl
theorem so_103 {L : Nat} {xs : Nat → Int32} : isO (yY L xs) 103 3 := ⟨rfl, rfl⟩
theorem so_104 {L : Nat} {xs : Nat → Int32} : isO (yY L xs) 104 7 := ⟨rfl, rfl⟩
theorem sa_105 {L : Nat} {xs : Nat → Int32} : isA (yY L xs) 105 0 60 := rfl
theorem sq_106 {L : Nat} {xs : Nat → Int32} : isQ (yY L xs) 106 5 2 := rfl
theorem so_107 {L : Nat} {xs : Nat → Int32} : isO (yY L xs) 107 5 := ⟨rfl, rfl⟩
theorem so_108 {L : Nat} {xs : Nat → Int32} : isO (yY L xs) 108 7 := ⟨rfl, rfl⟩
theorem sa_109 {L : Nat} {xs : Nat → Int32} : isA (yY L xs) 109 0 30 := rfl
theorem so_110 {L : Nat} {xs : Nat → Int32} : isO (yY L xs) 110 7 := ⟨rfl, rfl⟩
theorem sa_111 {L : Nat} {xs : Nat → Int32} : isA (yY L xs) 111 0 4960 := rfl
theorem sa_112 {L : Nat} {xs : Nat → Int32} : isA (yY L xs) 112 0 31 := rfl
theorem sa_113 {L : Nat} {xs : Nat → Int32} : isA (yY L xs) 113 0 93 := rfl
theorem sa_114 {L : Nat} {xs : Nat → Int32} : isA (yY L xs) 114 0 94 := rfl
theorem sa_115 {L : Nat} {xs : Nat → Int32} : isA (yY L xs) 115 0 961 := rfl
theorem so_116 {L : Nat} {xs : Nat → Int32} : isO (yY L xs) 116 5 := ⟨rfl, rfl⟩
theorem so_117 {L : Nat} {xs : Nat → Int32} : isO (yY L xs) 117 7 := ⟨rfl, rfl⟩
theorem sa_118 {L : Nat} {xs : Nat → Int32} : isA (yY L xs) 118 0 30 := rfl
theorem so_119 {L : Nat} {xs : Nat → Int32} : isO (yY L xs) 119 7 := ⟨rfl, rfl⟩
theorem sa_120 {L : Nat} {xs : Nat → Int32} : isA (yY L xs) 120 0 4960 := rfl
theorem sa_121 {L : Nat} {xs : Nat → Int32} : isA (yY L xs) 121 0 31 := rfl
theorem sa_122 {L : Nat} {xs : Nat → Int32} : isA (yY L xs) 122 0 93 := rfl
theorem sa_123 {L : Nat} {xs : Nat → Int32} : isA (yY L xs) 123 0 94 := rfl
theorem sa_124 {L : Nat} {xs : Nat → Int32} : isA (yY L xs) 124 0 961 := rfl
theorem sq_125 {L : Nat} {xs : Nat → Int32} : isQ (yY L xs) 125 7 4 := rfl
theorem so_126 {L : Nat} {xs : Nat → Int32} : isO (yY L xs) 126 1 := ⟨rfl, rfl⟩
theorem sa_127 {L : Nat} {xs : Nat → Int32} : isA (yY L xs) 127 0 300 := rfl
theorem sa_128 {L : Nat} {xs : Nat → Int32} : isA (yY L xs) 128 0 300 := rfl
theorem sa_129 {L : Nat} {xs : Nat → Int32} : isA (yY L xs) 129 0 300 := rfl
theorem sa_130 {L : Nat} {xs : Nat → Int32} : isA (yY L xs) 130 0 300 := rfl
theorem sa_131 {L : Nat} {xs : Nat → Int32} : isA (yY L xs) 131 0 300 := rfl
theorem sa_132 {L : Nat} {xs : Nat → Int32} : isA (yY L xs) 132 0 9300 := rfl
theorem so_133 {L : Nat} {xs : Nat → Int32} : isO (yY L xs) 133 7 := ⟨rfl, rfl⟩
theorem sa_134 {L : Nat} {xs : Nat → Int32} : isA (yY L xs) 134 0 300 := rfl
theorem sa_135 {L : Nat} {xs : Nat → Int32} : isA (yY L xs) 135 0 300 := rfl
theorem so_136 {L : Nat} {xs : Nat → Int32} : isO (yY L xs) 136 7 := ⟨rfl, rfl⟩
theorem sa_137 {L : Nat} {xs : Nat → Int32} : isA (yY L xs) 137 0 30 := rfl
theorem so_138 {L : Nat} {xs : Nat → Int32} : isO (yY L xs) 138 7 := ⟨rfl, rfl⟩
theorem sa_139 {L : Nat} {xs : Nat → Int32} : isA (yY L xs) 139 0 30 := rfl
theorem so_140 {L : Nat} {xs : Nat → Int32} : isO (yY L xs) 140 7 := ⟨rfl, rfl⟩
theorem sa_141 {L : Nat} {xs : Nat → Int32} : isA (yY L xs) 141 0 30 := rfl
theorem so_142 {L : Nat} {xs : Nat → Int32} : isO (yY L xs) 142 7 := ⟨rfl, rfl⟩
theorem sa_143 {L : Nat} {xs : Nat → Int32} : isA (yY L xs) 143 0 30 := rfl
theorem so_144 {L : Nat} {xs : Nat → Int32} : isO (yY L xs) 144 3 := ⟨rfl, rfl⟩
theorem so_145 {L : Nat} {xs : Nat → Int32} : isO (yY L xs) 145 7 := ⟨rfl, rfl⟩
theorem sa_146 {L : Nat} {xs : Nat → Int32} : isA (yY L xs) 146 0 60 := rfl
theorem sq_147 {L : Nat} {xs : Nat → Int32} : isQ (yY L xs) 147 5 2 := rfl
theorem so_148 {L : Nat} {xs : Nat → Int32} : isO (yY L xs) 148 5 := ⟨rfl, rfl⟩
theorem so_149 {L : Nat} {xs : Nat → Int32} : isO (yY L xs) 149 7 := ⟨rfl, rfl⟩
theorem sa_150 {L : Nat} {xs : Nat → Int32} : isA (yY L xs) 150 0 30 := rfl
theorem so_151 {L : Nat} {xs : Nat → Int32} : isO (yY L xs) 151 7 := ⟨rfl, rfl⟩
theorem sa_152 {L : Nat} {xs : Nat → Int32} : isA (yY L xs) 152 0 4960 := rfl
theorem sa_153 {L : Nat} {xs : Nat → Int32} : isA (yY L xs) 153 0 31 := rfl
theorem sa_154 {L : Nat} {xs : Nat → Int32} : isA (yY L xs) 154 0 93 := rfl
theorem sa_155 {L : Nat} {xs : Nat → Int32} : isA (yY L xs) 155 0 94 := rfl
theorem sa_156 {L : Nat} {xs : Nat → Int32} : isA (yY L xs) 156 0 961 := rfl
theorem so_157 {L : Nat} {xs : Nat → Int32} : isO (yY L xs) 157 5 := ⟨rfl, rfl⟩
theorem so_158 {L : Nat} {xs : Nat → Int32} : isO (yY L xs) 158 7 := ⟨rfl, rfl⟩
theorem sa_159 {L : Nat} {xs : Nat → Int32} : isA (yY L xs) 159 0 30 := rfl
theorem so_160 {L : Nat} {xs : Nat → Int32} : isO (yY L xs) 160 7 := ⟨rfl, rfl⟩
theorem sa_161 {L : Nat} {xs : Nat → Int32} : isA (yY L xs) 161 0 4960 := rfl
theorem sa_162 {L : Nat} {xs : Nat → Int32} : isA (yY L xs) 162 0 31 := rfl
theorem sa_163 {L : Nat} {xs : Nat → Int32} : isA (yY L xs) 163 0 93 := rfl
theorem sa_164 {L : Nat} {xs : Nat → Int32} : isA (yY L xs) 164 0 94 := rfl
theorem sa_165 {L : Nat} {xs : Nat → Int32} : isA (yY L xs) 165 0 961 := rfl
theorem sq_166 {L : Nat} {xs : Nat → Int32} : isQ (yY L xs) 166 7 4 := rfl
theorem so_167 {L : Nat} {xs : Nat → Int32} : isO (yY L xs) 167 1 := ⟨rfl, rfl⟩
theorem sa_168 {L : Nat} {xs : Nat → Int32} : isA (yY L xs) 168 0 300 := rfl
theorem sa_169 {L : Nat} {xs : Nat → Int32} : isA (yY L xs) 169 0 300 := rfl
theorem sa_170 {L : Nat} {xs : Nat → Int32} : isA (yY L xs) 170 0 300 := rfl
theorem sa_171 {L : Nat} {xs : Nat → Int32} : isA (yY L xs) 171 0 300 := rfl
theorem sa_172 {L : Nat} {xs : Nat → Int32} : isA (yY L xs) 172 0 300 := rfl
theorem sa_173 {L : Nat} {xs : Nat → Int32} : isA (yY L xs) 173 0 9300 := rfl
theorem so_174 {L : Nat} {xs : Nat → Int32} : isO (yY L xs) 174 7 := ⟨rfl, rfl⟩
theorem sa_175 {L : Nat} {xs : Nat → Int32} : isA (yY L xs) 175 0 300 := rfl
theorem sa_176 {L : Nat} {xs : Nat → Int32} : isA (yY L xs) 176 0 300 := rfl
theorem so_177 {L : Nat} {xs : Nat → Int32} : isO (yY L xs) 177 7 := ⟨rfl, rfl⟩
theorem sa_178 {L : Nat} {xs : Nat → Int32} : isA (yY L xs) 178 0 30 := rfl
theorem so_179 {L : Nat} {xs : Nat → Int32} : isO (yY L xs) 179 7 := ⟨rfl, rfl⟩
theorem sa_180 {L : Nat} {xs : Nat → Int32} : isA (yY L xs) 180 0 30 := rfl
theorem so_181 {L : Nat} {xs : Nat → Int32} : isO (yY L xs) 181 7 := ⟨rfl, rfl⟩
theorem sa_182 {L : Nat} {xs : Nat → Int32} : isA (yY L xs) 182 0 30 := rfl
theorem so_183 {L : Nat} {xs : Nat → Int32} : isO (yY L xs) 183 7 := ⟨rfl, rfl⟩
theorem sa_184 {L : Nat} {xs : Nat → Int32} : isA (yY L xs) 184 0 30 := rfl
theorem sa_185 {L : Nat} {xs : Nat → Int32} : isA (yY L xs) 185 1 2 := rfl
theorem so_186 {L : Nat} {xs : Nat → Int32} : isO (yY L xs) 186 11 := ⟨rfl, rfl⟩
theorem sa_187 {L : Nat} {xs : Nat → Int32} : isA (yY L xs) 187 0 42882 := rfl
theorem sa_188 {L : Nat} {xs : Nat → Int32} : isA (yY L xs) 188 0 60 := rfl
theorem sa_189 {L : Nat} {xs : Nat → Int32} : isA (yY L xs) 189 1 2 := rfl
theorem sa_190 {L : Nat} {xs : Nat → Int32} : isA (yY L xs) 190 0 1500 := rfl
theorem sa_191 {L : Nat} {xs : Nat → Int32} : isA (yY L xs) 191 0 1500 := rfl
theorem sa_192 {L : Nat} {xs : Nat → Int32} : isA (yY L xs) 192 0 1500 := rfl
theorem sa_193 {L : Nat} {xs : Nat → Int32} : isA (yY L xs) 193 0 1500 := rfl
theorem sa_194 {L : Nat} {xs : Nat → Int32} : isA (yY L xs) 194 0 1500 := rfl
theorem sa_195 {L : Nat} {xs : Nat → Int32} : isA (yY L xs) 195 0 24000 := rfl
theorem sa_196 {L : Nat} {xs : Nat → Int32} : isA (yY L xs) 196 1 1500 := rfl
theorem sa_197 {L : Nat} {xs : Nat → Int32} : isA (yY L xs) 197 0 4500 := rfl
theorem sa_198 {L : Nat} {xs : Nat → Int32} : isA (yY L xs) 198 0 4500 := rfl
theorem sa_199 {L : Nat} {xs : Nat → Int32} : isA (yY L xs) 199 0 48000 := rfl
theorem sa_200 {L : Nat} {xs : Nat → Int32} : isA (yY L xs) 200 0 400 := rfl
theorem sa_201 {L : Nat} {xs : Nat → Int32} : isA (yY L xs) 201 0 400 := rfl
theorem sa_202 {L : Nat} {xs : Nat → Int32} : isA (yY L xs) 202 0 960 := rfl
theorem sa_203 {L : Nat} {xs : Nat → Int32} : isA (yY L xs) 203 0 960 := rfl
theorem sa_204 {L : Nat} {xs : Nat → Int32} : isA (yY L xs) 204 0 32 := rfl
theorem sa_205 {L : Nat} {xs : Nat → Int32} : isA (yY L xs) 205 0 32 := rfl
theorem sa_206 {L : Nat} {xs : Nat → Int32} : isA (yY L xs) 206 0 2000 := rfl
theorem sa_207 {L : Nat} {xs : Nat → Int32} : isA (yY L xs) 207 0 600 := rfl
theorem sa_208 {L : Nat} {xs : Nat → Int32} : isA (yY L xs) 208 0 1500 := rfl
theorem sa_209 {L : Nat} {xs : Nat → Int32} : isA (yY L xs) 209 0 200 := rfl
theorem sa_210 {L : Nat} {xs : Nat → Int32} : isA (yY L xs) 210 0 62 := rfl
theorem sa_211 {L : Nat} {xs : Nat → Int32} : isA (yY L xs) 211 0 2 := rfl
theorem sa_212 {L : Nat} {xs : Nat → Int32} : isA (yY L xs) 212 0 186 := rfl
theorem sa_213 {L : Nat} {xs : Nat → Int32} : isA (yY L xs) 213 0 5766 := rfl
theorem sa_214 {L : Nat} {xs : Nat → Int32} : isA (yY L xs) 214 0 186 := rfl
theorem sa_215 {L : Nat} {xs : Nat → Int32} : isA (yY L xs) 215 0 301 := rfl
theorem sa_216 {L : Nat} {xs : Nat → Int32} : isA (yY L xs) 216 0 301 := rfl
theorem sa_217 {L : Nat} {xs : Nat → Int32} : isA (yY L xs) 217 0 301 := rfl
theorem sa_218 {L : Nat} {xs : Nat → Int32} : isA (yY L xs) 218 0 8 := rfl
/-- the reference's cells -/
theorem SM {L : Nat} {xs : Nat → Int32} : isO (yY L xs) 186 11 ∧ (∀ t m, isA (yY L xs) 187 t m ↔ 0 = t ∧ 42882 = m) ∧ (∀ t m, isA (yY L xs) 188 t m ↔ 0 = t ∧ 60 = m) ∧ (∀ t m, isA (yY L xs) 189 t m ↔ 1 = t ∧ 2 = m) ∧ (∀ t m, isA (yY L xs) 190 t m ↔ 0 = t ∧ 1500 = m) ∧ (∀ t m, isA (yY L xs) 191 t m ↔ 0 = t ∧ 1500 = m) ∧ (∀ t m, isA (yY L xs) 192 t m ↔ 0 = t ∧ 1500 = m) ∧ (∀ t m, isA (yY L xs) 193 t m ↔ 0 = t ∧ 1500 = m) ∧ (∀ t m, isA (yY L xs) 194 t m ↔ 0 = t ∧ 1500 = m) ∧ (∀ t m, isA (yY L xs) 195 t m ↔ 0 = t ∧ 24000 = m) ∧ (∀ t m, isA (yY L xs) 196 t m ↔ 1 = t ∧ 1500 = m) ∧ (∀ t m, isA (yY L xs) 197 t m ↔ 0 = t ∧ 4500 = m) ∧ (∀ t m, isA (yY L xs) 198 t m ↔ 0 = t ∧ 4500 = m) ∧ (∀ t m, isA (yY L xs) 199 t m ↔ 0 = t ∧ 48000 = m) ∧ (∀ t m, isA (yY L xs) 200 t m ↔ 0 = t ∧ 400 = m) ∧ (∀ t m, isA (yY L xs) 201 t m ↔ 0 = t ∧ 400 = m) ∧ (∀ t m, isA (yY L xs) 202 t m ↔ 0 = t ∧ 960 = m) ∧ (∀ t m, isA (yY L xs) 203 t m ↔ 0 = t ∧ 960 = m) ∧ (∀ t m, isA (yY L xs) 204 t m ↔ 0 = t ∧ 32 = m) ∧ (∀ t m, isA (yY L xs) 205 t m ↔ 0 = t ∧ 32 = m) ∧ (∀ t m, isA (yY L xs) 206 t m ↔ 0 = t ∧ 2000 = m) ∧ (∀ t m, isA (yY L xs) 207 t m ↔ 0 = t ∧ 600 = m) ∧ (∀ t m, isA (yY L xs) 208 t m ↔ 0 = t ∧ 1500 = m) ∧ (∀ t m, isA (yY L xs) 209 t m ↔ 0 = t ∧ 200 = m) ∧ (∀ t m, isA (yY L xs) 210 t m ↔ 0 = t ∧ 62 = m) ∧ (∀ t m, isA (yY L xs) 211 t m ↔ 0 = t ∧ 2 = m) ∧ (∀ t m, isA (yY L xs) 212 t m ↔ 0 = t ∧ 186 = m) ∧ (∀ t m, isA (yY L xs) 213 t m ↔ 0 = t ∧ 5766 = m) ∧ (∀ t m, isA (yY L xs) 214 t m ↔ 0 = t ∧ 186 = m) ∧ (∀ t m, isA (yY L xs) 215 t m ↔ 0 = t ∧ 301 = m) ∧ (∀ t m, isA (yY L xs) 216 t m ↔ 0 = t ∧ 301 = m) ∧ (∀ t m, isA (yY L xs) 217 t m ↔ 0 = t ∧ 301 = m) ∧ (∀ t m, isA (yY L xs) 218 t m ↔ 0 = t ∧ 8 = m) := ⟨so_186, isA_iff sa_187, isA_iff sa_188, isA_iff sa_189, isA_iff sa_190, isA_iff sa_191, isA_iff sa_192, isA_iff sa_193, isA_iff sa_194, isA_iff sa_195, isA_iff sa_196, isA_iff sa_197, isA_iff sa_198, isA_iff sa_199, isA_iff sa_200, isA_iff sa_201, isA_iff sa_202, isA_iff sa_203, isA_iff sa_204, isA_iff sa_205, isA_iff sa_206, isA_iff sa_207, isA_iff sa_208, isA_iff sa_209, isA_iff sa_210, isA_iff sa_211, isA_iff sa_212, isA_iff sa_213, isA_iff sa_214, isA_iff sa_215, isA_iff sa_216, isA_iff sa_217, isA_iff sa_218⟩
/-- the class's -/
theorem SP {L : Nat} {xs : Nat → Int32} : isO (yY L xs) 0 10 ∧ isO (yY L xs) 1 8 ∧ (∀ t m, isA (yY L xs) 2 t m ↔ 0 = t ∧ 160 = m) ∧ (∀ t m, isA (yY L xs) 3 t m ↔ 0 = t ∧ 160 = m) ∧ (∀ t m, isA (yY L xs) 4 t m ↔ 0 = t ∧ 160 = m) ∧ (∀ t m, isA (yY L xs) 5 t m ↔ 0 = t ∧ 160 = m) ∧ (∀ t m, isA (yY L xs) 6 t m ↔ 0 = t ∧ 160 = m) ∧ (∀ t m, isA (yY L xs) 7 t m ↔ 0 = t ∧ 2048 = m) ∧ (∀ t m, isA (yY L xs) 8 t m ↔ 0 = t ∧ 136 = m) ∧ isO (yY L xs) 9 7 ∧ (∀ t m, isA (yY L xs) 10 t m ↔ 0 = t ∧ 68 = m) ∧ isO (yY L xs) 11 2 ∧ isO (yY L xs) 12 6 ∧ (∀ t m, isA (yY L xs) 13 t m ↔ 0 = t ∧ 1984 = m) ∧ (∀ t m, isA (yY L xs) 14 t m ↔ 0 = t ∧ 31 = m) ∧ (∀ t m, isA (yY L xs) 15 t m ↔ 0 = t ∧ 192 = m) ∧ isO (yY L xs) 16 7 ∧ (∀ t m, isA (yY L xs) 17 t m ↔ 0 = t ∧ 68 = m) ∧ (∀ t m, isQ (yY L xs) 18 t m ↔ 5 = t ∧ 2 = m) ∧ isO (yY L xs) 19 5 ∧ isO (yY L xs) 20 7 ∧ (∀ t m, isA (yY L xs) 21 t m ↔ 0 = t ∧ 30 = m) ∧ isO (yY L xs) 22 7 ∧ (∀ t m, isA (yY L xs) 23 t m ↔ 0 = t ∧ 4960 = m) ∧ (∀ t m, isA (yY L xs) 24 t m ↔ 0 = t ∧ 31 = m) ∧ (∀ t m, isA (yY L xs) 25 t m ↔ 0 = t ∧ 93 = m) ∧ (∀ t m, isA (yY L xs) 26 t m ↔ 0 = t ∧ 94 = m) ∧ (∀ t m, isA (yY L xs) 27 t m ↔ 0 = t ∧ 961 = m) ∧ isO (yY L xs) 28 5 ∧ isO (yY L xs) 29 7 ∧ (∀ t m, isA (yY L xs) 30 t m ↔ 0 = t ∧ 30 = m) ∧ isO (yY L xs) 31 7 ∧ (∀ t m, isA (yY L xs) 32 t m ↔ 0 = t ∧ 4960 = m) ∧ (∀ t m, isA (yY L xs) 33 t m ↔ 0 = t ∧ 31 = m) ∧ (∀ t m, isA (yY L xs) 34 t m ↔ 0 = t ∧ 93 = m) ∧ (∀ t m, isA (yY L xs) 35 t m ↔ 0 = t ∧ 94 = m) ∧ (∀ t m, isA (yY L xs) 36 t m ↔ 0 = t ∧ 961 = m) ∧ isO (yY L xs) 37 1 ∧ (∀ t m, isA (yY L xs) 38 t m ↔ 0 = t ∧ 300 = m) ∧ (∀ t m, isA (yY L xs) 39 t m ↔ 0 = t ∧ 300 = m) ∧ (∀ t m, isA (yY L xs) 40 t m ↔ 0 = t ∧ 300 = m) ∧ (∀ t m, isA (yY L xs) 41 t m ↔ 0 = t ∧ 300 = m) ∧ (∀ t m, isA (yY L xs) 42 t m ↔ 0 = t ∧ 300 = m) ∧ (∀ t m, isA (yY L xs) 43 t m ↔ 0 = t ∧ 9300 = m) ∧ isO (yY L xs) 44 7 ∧ (∀ t m, isA (yY L xs) 45 t m ↔ 0 = t ∧ 300 = m) ∧ (∀ t m, isA (yY L xs) 46 t m ↔ 0 = t ∧ 300 = m) ∧ isO (yY L xs) 47 4 ∧ (∀ t m, isA (yY L xs) 48 t m ↔ 0 = t ∧ 300 = m) ∧ (∀ t m, isA (yY L xs) 49 t m ↔ 0 = t ∧ 300 = m) ∧ (∀ t m, isA (yY L xs) 50 t m ↔ 0 = t ∧ 300 = m) ∧ (∀ t m, isA (yY L xs) 51 t m ↔ 0 = t ∧ 31 = m) ∧ (∀ t m, isA (yY L xs) 52 t m ↔ 0 = t ∧ 31 = m) ∧ (∀ t m, isA (yY L xs) 53 t m ↔ 0 = t ∧ 300 = m) ∧ (∀ t m, isA (yY L xs) 54 t m ↔ 0 = t ∧ 31 = m) ∧ isO (yY L xs) 55 0 ∧ isO (yY L xs) 56 9 ∧ (∀ t m, isA (yY L xs) 57 t m ↔ 0 = t ∧ 512 = m) ∧ (∀ t m, isA (yY L xs) 58 t m ↔ 0 = t ∧ 512 = m) ∧ (∀ t m, isA (yY L xs) 59 t m ↔ 0 = t ∧ 512 = m) ∧ (∀ t m, isA (yY L xs) 60 t m ↔ 0 = t ∧ 512 = m) ∧ isO (yY L xs) 61 3 ∧ isO (yY L xs) 62 7 ∧ (∀ t m, isA (yY L xs) 63 t m ↔ 0 = t ∧ 60 = m) ∧ (∀ t m, isQ (yY L xs) 64 t m ↔ 5 = t ∧ 2 = m) ∧ isO (yY L xs) 65 5 ∧ isO (yY L xs) 66 7 ∧ (∀ t m, isA (yY L xs) 67 t m ↔ 0 = t ∧ 30 = m) ∧ isO (yY L xs) 68 7 ∧ (∀ t m, isA (yY L xs) 69 t m ↔ 0 = t ∧ 4960 = m) ∧ (∀ t m, isA (yY L xs) 70 t m ↔ 0 = t ∧ 31 = m) ∧ (∀ t m, isA (yY L xs) 71 t m ↔ 0 = t ∧ 93 = m) ∧ (∀ t m, isA (yY L xs) 72 t m ↔ 0 = t ∧ 94 = m) ∧ (∀ t m, isA (yY L xs) 73 t m ↔ 0 = t ∧ 961 = m) ∧ isO (yY L xs) 74 5 ∧ isO (yY L xs) 75 7 ∧ (∀ t m, isA (yY L xs) 76 t m ↔ 0 = t ∧ 30 = m) ∧ isO (yY L xs) 77 7 ∧ (∀ t m, isA (yY L xs) 78 t m ↔ 0 = t ∧ 4960 = m) ∧ (∀ t m, isA (yY L xs) 79 t m ↔ 0 = t ∧ 31 = m) ∧ (∀ t m, isA (yY L xs) 80 t m ↔ 0 = t ∧ 93 = m) ∧ (∀ t m, isA (yY L xs) 81 t m ↔ 0 = t ∧ 94 = m) ∧ (∀ t m, isA (yY L xs) 82 t m ↔ 0 = t ∧ 961 = m) ∧ (∀ t m, isQ (yY L xs) 83 t m ↔ 7 = t ∧ 4 = m) ∧ isO (yY L xs) 84 1 ∧ (∀ t m, isA (yY L xs) 85 t m ↔ 0 = t ∧ 300 = m) ∧ (∀ t m, isA (yY L xs) 86 t m ↔ 0 = t ∧ 300 = m) ∧ (∀ t m, isA (yY L xs) 87 t m ↔ 0 = t ∧ 300 = m) ∧ (∀ t m, isA (yY L xs) 88 t m ↔ 0 = t ∧ 300 = m) ∧ (∀ t m, isA (yY L xs) 89 t m ↔ 0 = t ∧ 300 = m) ∧ (∀ t m, isA (yY L xs) 90 t m ↔ 0 = t ∧ 9300 = m) ∧ isO (yY L xs) 91 7 ∧ (∀ t m, isA (yY L xs) 92 t m ↔ 0 = t ∧ 300 = m) ∧ (∀ t m, isA (yY L xs) 93 t m ↔ 0 = t ∧ 300 = m) ∧ isO (yY L xs) 94 7 ∧ (∀ t m, isA (yY L xs) 95 t m ↔ 0 = t ∧ 30 = m) ∧ isO (yY L xs) 96 7 ∧ (∀ t m, isA (yY L xs) 97 t m ↔ 0 = t ∧ 30 = m) ∧ isO (yY L xs) 98 7 ∧ (∀ t m, isA (yY L xs) 99 t m ↔ 0 = t ∧ 30 = m) ∧ isO (yY L xs) 100 7 ∧ (∀ t m, isA (yY L xs) 101 t m ↔ 0 = t ∧ 30 = m) ∧ (∀ t m, isQ (yY L xs) 102 t m ↔ 3 = t ∧ 2 = m) ∧ isO (yY L xs) 103 3 ∧ isO (yY L xs) 104 7 ∧ (∀ t m, isA (yY L xs) 105 t m ↔ 0 = t ∧ 60 = m) ∧ (∀ t m, isQ (yY L xs) 106 t m ↔ 5 = t ∧ 2 = m) ∧ isO (yY L xs) 107 5 ∧ isO (yY L xs) 108 7 ∧ (∀ t m, isA (yY L xs) 109 t m ↔ 0 = t ∧ 30 = m) ∧ isO (yY L xs) 110 7 ∧ (∀ t m, isA (yY L xs) 111 t m ↔ 0 = t ∧ 4960 = m) ∧ (∀ t m, isA (yY L xs) 112 t m ↔ 0 = t ∧ 31 = m) ∧ (∀ t m, isA (yY L xs) 113 t m ↔ 0 = t ∧ 93 = m) ∧ (∀ t m, isA (yY L xs) 114 t m ↔ 0 = t ∧ 94 = m) ∧ (∀ t m, isA (yY L xs) 115 t m ↔ 0 = t ∧ 961 = m) ∧ isO (yY L xs) 116 5 ∧ isO (yY L xs) 117 7 ∧ (∀ t m, isA (yY L xs) 118 t m ↔ 0 = t ∧ 30 = m) ∧ isO (yY L xs) 119 7 ∧ (∀ t m, isA (yY L xs) 120 t m ↔ 0 = t ∧ 4960 = m) ∧ (∀ t m, isA (yY L xs) 121 t m ↔ 0 = t ∧ 31 = m) ∧ (∀ t m, isA (yY L xs) 122 t m ↔ 0 = t ∧ 93 = m) ∧ (∀ t m, isA (yY L xs) 123 t m ↔ 0 = t ∧ 94 = m) ∧ (∀ t m, isA (yY L xs) 124 t m ↔ 0 = t ∧ 961 = m) ∧ (∀ t m, isQ (yY L xs) 125 t m ↔ 7 = t ∧ 4 = m) ∧ isO (yY L xs) 126 1 ∧ (∀ t m, isA (yY L xs) 127 t m ↔ 0 = t ∧ 300 = m) ∧ (∀ t m, isA (yY L xs) 128 t m ↔ 0 = t ∧ 300 = m) ∧ (∀ t m, isA (yY L xs) 129 t m ↔ 0 = t ∧ 300 = m) ∧ (∀ t m, isA (yY L xs) 130 t m ↔ 0 = t ∧ 300 = m) ∧ (∀ t m, isA (yY L xs) 131 t m ↔ 0 = t ∧ 300 = m) ∧ (∀ t m, isA (yY L xs) 132 t m ↔ 0 = t ∧ 9300 = m) ∧ isO (yY L xs) 133 7 ∧ (∀ t m, isA (yY L xs) 134 t m ↔ 0 = t ∧ 300 = m) ∧ (∀ t m, isA (yY L xs) 135 t m ↔ 0 = t ∧ 300 = m) ∧ isO (yY L xs) 136 7 ∧ (∀ t m, isA (yY L xs) 137 t m ↔ 0 = t ∧ 30 = m) ∧ isO (yY L xs) 138 7 ∧ (∀ t m, isA (yY L xs) 139 t m ↔ 0 = t ∧ 30 = m) ∧ isO (yY L xs) 140 7 ∧ (∀ t m, isA (yY L xs) 141 t m ↔ 0 = t ∧ 30 = m) ∧ isO (yY L xs) 142 7 ∧ (∀ t m, isA (yY L xs) 143 t m ↔ 0 = t ∧ 30 = m) ∧ isO (yY L xs) 144 3 ∧ isO (yY L xs) 145 7 ∧ (∀ t m, isA (yY L xs) 146 t m ↔ 0 = t ∧ 60 = m) ∧ (∀ t m, isQ (yY L xs) 147 t m ↔ 5 = t ∧ 2 = m) ∧ isO (yY L xs) 148 5 ∧ isO (yY L xs) 149 7 ∧ (∀ t m, isA (yY L xs) 150 t m ↔ 0 = t ∧ 30 = m) ∧ isO (yY L xs) 151 7 ∧ (∀ t m, isA (yY L xs) 152 t m ↔ 0 = t ∧ 4960 = m) ∧ (∀ t m, isA (yY L xs) 153 t m ↔ 0 = t ∧ 31 = m) ∧ (∀ t m, isA (yY L xs) 154 t m ↔ 0 = t ∧ 93 = m) ∧ (∀ t m, isA (yY L xs) 155 t m ↔ 0 = t ∧ 94 = m) ∧ (∀ t m, isA (yY L xs) 156 t m ↔ 0 = t ∧ 961 = m) ∧ isO (yY L xs) 157 5 ∧ isO (yY L xs) 158 7 ∧ (∀ t m, isA (yY L xs) 159 t m ↔ 0 = t ∧ 30 = m) ∧ isO (yY L xs) 160 7 ∧ (∀ t m, isA (yY L xs) 161 t m ↔ 0 = t ∧ 4960 = m) ∧ (∀ t m, isA (yY L xs) 162 t m ↔ 0 = t ∧ 31 = m) ∧ (∀ t m, isA (yY L xs) 163 t m ↔ 0 = t ∧ 93 = m) ∧ (∀ t m, isA (yY L xs) 164 t m ↔ 0 = t ∧ 94 = m) ∧ (∀ t m, isA (yY L xs) 165 t m ↔ 0 = t ∧ 961 = m) ∧ (∀ t m, isQ (yY L xs) 166 t m ↔ 7 = t ∧ 4 = m) ∧ isO (yY L xs) 167 1 ∧ (∀ t m, isA (yY L xs) 168 t m ↔ 0 = t ∧ 300 = m) ∧ (∀ t m, isA (yY L xs) 169 t m ↔ 0 = t ∧ 300 = m) ∧ (∀ t m, isA (yY L xs) 170 t m ↔ 0 = t ∧ 300 = m) ∧ (∀ t m, isA (yY L xs) 171 t m ↔ 0 = t ∧ 300 = m) ∧ (∀ t m, isA (yY L xs) 172 t m ↔ 0 = t ∧ 300 = m) ∧ (∀ t m, isA (yY L xs) 173 t m ↔ 0 = t ∧ 9300 = m) ∧ isO (yY L xs) 174 7 ∧ (∀ t m, isA (yY L xs) 175 t m ↔ 0 = t ∧ 300 = m) ∧ (∀ t m, isA (yY L xs) 176 t m ↔ 0 = t ∧ 300 = m) ∧ isO (yY L xs) 177 7 ∧ (∀ t m, isA (yY L xs) 178 t m ↔ 0 = t ∧ 30 = m) ∧ isO (yY L xs) 179 7 ∧ (∀ t m, isA (yY L xs) 180 t m ↔ 0 = t ∧ 30 = m) ∧ isO (yY L xs) 181 7 ∧ (∀ t m, isA (yY L xs) 182 t m ↔ 0 = t ∧ 30 = m) ∧ isO (yY L xs) 183 7 ∧ (∀ t m, isA (yY L xs) 184 t m ↔ 0 = t ∧ 30 = m) ∧ (∀ t m, isA (yY L xs) 185 t m ↔ 1 = t ∧ 2 = m) := ⟨so_0, so_1, isA_iff sa_2, isA_iff sa_3, isA_iff sa_4, isA_iff sa_5, isA_iff sa_6, isA_iff sa_7, isA_iff sa_8, so_9, isA_iff sa_10, so_11, so_12, isA_iff sa_13, isA_iff sa_14, isA_iff sa_15, so_16, isA_iff sa_17, isQ_iff sq_18, so_19, so_20, isA_iff sa_21, so_22, isA_iff sa_23, isA_iff sa_24, isA_iff sa_25, isA_iff sa_26, isA_iff sa_27, so_28, so_29, isA_iff sa_30, so_31, isA_iff sa_32, isA_iff sa_33, isA_iff sa_34, isA_iff sa_35, isA_iff sa_36, so_37, isA_iff sa_38, isA_iff sa_39, isA_iff sa_40, isA_iff sa_41, isA_iff sa_42, isA_iff sa_43, so_44, isA_iff sa_45, isA_iff sa_46, so_47, isA_iff sa_48, isA_iff sa_49, isA_iff sa_50, isA_iff sa_51, isA_iff sa_52, isA_iff sa_53, isA_iff sa_54, so_55, so_56, isA_iff sa_57, isA_iff sa_58, isA_iff sa_59, isA_iff sa_60, so_61, so_62, isA_iff sa_63, isQ_iff sq_64, so_65, so_66, isA_iff sa_67, so_68, isA_iff sa_69, isA_iff sa_70, isA_iff sa_71, isA_iff sa_72, isA_iff sa_73, so_74, so_75, isA_iff sa_76, so_77, isA_iff sa_78, isA_iff sa_79, isA_iff sa_80, isA_iff sa_81, isA_iff sa_82, isQ_iff sq_83, so_84, isA_iff sa_85, isA_iff sa_86, isA_iff sa_87, isA_iff sa_88, isA_iff sa_89, isA_iff sa_90, so_91, isA_iff sa_92, isA_iff sa_93, so_94, isA_iff sa_95, so_96, isA_iff sa_97, so_98, isA_iff sa_99, so_100, isA_iff sa_101, isQ_iff sq_102, so_103, so_104, isA_iff sa_105, isQ_iff sq_106, so_107, so_108, isA_iff sa_109, so_110, isA_iff sa_111, isA_iff sa_112, isA_iff sa_113, isA_iff sa_114, isA_iff sa_115, so_116, so_117, isA_iff sa_118, so_119, isA_iff sa_120, isA_iff sa_121, isA_iff sa_122, isA_iff sa_123, isA_iff sa_124, isQ_iff sq_125, so_126, isA_iff sa_127, isA_iff sa_128, isA_iff sa_129, isA_iff sa_130, isA_iff sa_131, isA_iff sa_132, so_133, isA_iff sa_134, isA_iff sa_135, so_136, isA_iff sa_137, so_138, isA_iff sa_139, so_140, isA_iff sa_141, so_142, isA_iff sa_143, so_144, so_145, isA_iff sa_146, isQ_iff sq_147, so_148, so_149, isA_iff sa_150, so_151, isA_iff sa_152, isA_iff sa_153, isA_iff sa_154, isA_iff sa_155, isA_iff sa_156, so_157, so_158, isA_iff sa_159, so_160, isA_iff sa_161, isA_iff sa_162, isA_iff sa_163, isA_iff sa_164, isA_iff sa_165, isQ_iff sq_166, so_167, isA_iff sa_168, isA_iff sa_169, isA_iff sa_170, isA_iff sa_171, isA_iff sa_172, isA_iff sa_173, so_174, isA_iff sa_175, isA_iff sa_176, so_177, isA_iff sa_178, so_179, isA_iff sa_180, so_181, isA_iff sa_182, so_183, isA_iff sa_184, isA_iff sa_185⟩
/-- references that never change: the reference's -/
def rM (ρ : Nat → Nat → Option Nat) : Prop := ρ 186 0 = some 187 ∧ ρ 186 1 = some 188 ∧ ρ 186 2 = some 189 ∧ ρ 186 5 = some 190 ∧ ρ 186 6 = some 191 ∧ ρ 186 7 = some 192 ∧ ρ 186 8 = some 193 ∧ ρ 186 9 = some 194 ∧ ρ 186 10 = some 195 ∧ ρ 186 11 = some 196 ∧ ρ 186 14 = some 197 ∧ ρ 186 15 = some 198 ∧ ρ 186 16 = some 199 ∧ ρ 186 18 = some 200 ∧ ρ 186 20 = some 201 ∧ ρ 186 21 = some 202 ∧ ρ 186 22 = some 203 ∧ ρ 186 23 = some 204 ∧ ρ 186 24 = some 205 ∧ ρ 186 27 = some 206 ∧ ρ 186 28 = some 207 ∧ ρ 186 31 = some 208 ∧ ρ 186 32 = some 209 ∧ ρ 186 34 = some 210 ∧ ρ 186 35 = some 211 ∧ ρ 186 36 = some 212 ∧ ρ 186 37 = some 213 ∧ ρ 186 38 = some 214 ∧ ρ 186 39 = some 215 ∧ ρ 186 40 = some 216 ∧ ρ 186 41 = some 217 ∧ ρ 186 45 = some 218
/-- the class's -/
def rP (ρ : Nat → Nat → Option Nat) : Prop := ρ 0 0 = some 11 ∧ ρ 0 1 = some 12 ∧ ρ 0 2 = some 47 ∧ ρ 0 3 = some 55 ∧ ρ 0 4 = some 56 ∧ ρ 0 5 = some 9 ∧ ρ 0 6 = some 18 ∧ ρ 0 7 = some 37 ∧ ρ 0 8 = some 61 ∧ ρ 0 9 = some 102 ∧ ρ 0 10 = some 185 ∧ ρ 1 0 = some 2 ∧ ρ 1 1 = some 3 ∧ ρ 1 2 = some 4 ∧ ρ 1 3 = some 5 ∧ ρ 1 4 = some 6 ∧ ρ 1 5 = some 7 ∧ ρ 1 6 = some 8 ∧ ρ 9 0 = some 10 ∧ ρ 11 0 = some 1 ∧ ρ 12 0 = some 1 ∧ ρ 12 1 = some 13 ∧ ρ 12 2 = some 14 ∧ ρ 12 3 = some 15 ∧ ρ 12 4 = some 16 ∧ ρ 16 0 = some 17 ∧ ρ 18 0 = some 19 ∧ ρ 18 1 = some 28 ∧ ρ 19 0 = some 20 ∧ ρ 19 1 = some 22 ∧ ρ 19 2 = some 24 ∧ ρ 19 3 = some 25 ∧ ρ 19 4 = some 26 ∧ ρ 19 5 = some 27 ∧ ρ 20 0 = some 21 ∧ ρ 22 0 = some 23 ∧ ρ 28 0 = some 29 ∧ ρ 28 1 = some 31 ∧ ρ 28 2 = some 33 ∧ ρ 28 3 = some 34 ∧ ρ 28 4 = some 35 ∧ ρ 28 5 = some 36 ∧ ρ 29 0 = some 30 ∧ ρ 31 0 = some 32 ∧ ρ 37 0 = some 38 ∧ ρ 37 1 = some 39 ∧ ρ 37 2 = some 40 ∧ ρ 37 3 = some 41 ∧ ρ 37 4 = some 42 ∧ ρ 37 5 = some 43 ∧ ρ 37 6 = some 44 ∧ ρ 37 7 = some 46 ∧ ρ 44 0 = some 45 ∧ ρ 47 0 = some 48 ∧ ρ 47 1 = some 49 ∧ ρ 47 2 = some 50 ∧ ρ 47 3 = some 51 ∧ ρ 47 4 = some 52 ∧ ρ 47 5 = some 53 ∧ ρ 47 6 = some 54 ∧ ρ 56 0 = some 57 ∧ ρ 56 1 = some 58 ∧ ρ 56 2 = some 59 ∧ ρ 56 3 = some 60 ∧ ρ 61 0 = some 62 ∧ ρ 61 1 = some 64 ∧ ρ 61 2 = some 83 ∧ ρ 61 3 = some 84 ∧ ρ 62 0 = some 63 ∧ ρ 65 0 = some 66 ∧ ρ 65 1 = some 68 ∧ ρ 65 2 = some 70 ∧ ρ 65 3 = some 71 ∧ ρ 65 4 = some 72 ∧ ρ 65 5 = some 73 ∧ ρ 66 0 = some 67 ∧ ρ 68 0 = some 69 ∧ ρ 74 0 = some 75 ∧ ρ 74 1 = some 77 ∧ ρ 74 2 = some 79 ∧ ρ 74 3 = some 80 ∧ ρ 74 4 = some 81 ∧ ρ 74 5 = some 82 ∧ ρ 75 0 = some 76 ∧ ρ 77 0 = some 78 ∧ ρ 83 0 = some 94 ∧ ρ 83 1 = some 96 ∧ ρ 83 2 = some 98 ∧ ρ 83 3 = some 100 ∧ ρ 84 0 = some 85 ∧ ρ 84 1 = some 86 ∧ ρ 84 2 = some 87 ∧ ρ 84 3 = some 88 ∧ ρ 84 4 = some 89 ∧ ρ 84 5 = some 90 ∧ ρ 84 6 = some 91 ∧ ρ 84 7 = some 93 ∧ ρ 91 0 = some 92 ∧ ρ 94 0 = some 95 ∧ ρ 96 0 = some 97 ∧ ρ 98 0 = some 99 ∧ ρ 100 0 = some 101 ∧ ρ 102 0 = some 103 ∧ ρ 102 1 = some 144 ∧ ρ 103 0 = some 104 ∧ ρ 103 1 = some 106 ∧ ρ 103 2 = some 125 ∧ ρ 103 3 = some 126 ∧ ρ 104 0 = some 105 ∧ ρ 106 0 = some 107 ∧ ρ 106 1 = some 116 ∧ ρ 107 0 = some 108 ∧ ρ 107 1 = some 110 ∧ ρ 107 2 = some 112 ∧ ρ 107 3 = some 113 ∧ ρ 107 4 = some 114 ∧ ρ 107 5 = some 115 ∧ ρ 108 0 = some 109 ∧ ρ 110 0 = some 111 ∧ ρ 116 0 = some 117 ∧ ρ 116 1 = some 119 ∧ ρ 116 2 = some 121 ∧ ρ 116 3 = some 122 ∧ ρ 116 4 = some 123 ∧ ρ 116 5 = some 124 ∧ ρ 117 0 = some 118 ∧ ρ 119 0 = some 120 ∧ ρ 125 0 = some 136 ∧ ρ 125 1 = some 138 ∧ ρ 125 2 = some 140 ∧ ρ 125 3 = some 142 ∧ ρ 126 0 = some 127 ∧ ρ 126 1 = some 128 ∧ ρ 126 2 = some 129 ∧ ρ 126 3 = some 130 ∧ ρ 126 4 = some 131 ∧ ρ 126 5 = some 132 ∧ ρ 126 6 = some 133 ∧ ρ 126 7 = some 135 ∧ ρ 133 0 = some 134 ∧ ρ 136 0 = some 137 ∧ ρ 138 0 = some 139 ∧ ρ 140 0 = some 141 ∧ ρ 142 0 = some 143 ∧ ρ 144 0 = some 145 ∧ ρ 144 1 = some 147 ∧ ρ 144 2 = some 166 ∧ ρ 144 3 = some 167 ∧ ρ 145 0 = some 146 ∧ ρ 147 0 = some 148 ∧ ρ 147 1 = some 157 ∧ ρ 148 0 = some 149 ∧ ρ 148 1 = some 151 ∧ ρ 148 2 = some 153 ∧ ρ 148 3 = some 154 ∧ ρ 148 4 = some 155 ∧ ρ 148 5 = some 156 ∧ ρ 149 0 = some 150 ∧ ρ 151 0 = some 152 ∧ ρ 157 0 = some 158 ∧ ρ 157 1 = some 160 ∧ ρ 157 2 = some 162 ∧ ρ 157 3 = some 163 ∧ ρ 157 4 = some 164 ∧ ρ 157 5 = some 165 ∧ ρ 158 0 = some 159 ∧ ρ 160 0 = some 161 ∧ ρ 166 0 = some 177 ∧ ρ 166 1 = some 179 ∧ ρ 166 2 = some 181 ∧ ρ 166 3 = some 183 ∧ ρ 167 0 = some 168 ∧ ρ 167 1 = some 169 ∧ ρ 167 2 = some 170 ∧ ρ 167 3 = some 171 ∧ ρ 167 4 = some 172 ∧ ρ 167 5 = some 173 ∧ ρ 167 6 = some 174 ∧ ρ 167 7 = some 176 ∧ ρ 174 0 = some 175 ∧ ρ 177 0 = some 178 ∧ ρ 179 0 = some 180 ∧ ρ 181 0 = some 182 ∧ ρ 183 0 = some 184
theorem rm_186_0 {ρ : Nat → Nat → Option Nat} (h : rM ρ) : ρ 186 0 = some 187 := h.1
theorem rm_186_1 {ρ : Nat → Nat → Option Nat} (h : rM ρ) : ρ 186 1 = some 188 := h.2.1
theorem rm_186_2 {ρ : Nat → Nat → Option Nat} (h : rM ρ) : ρ 186 2 = some 189 := h.2.2.1
theorem rm_186_5 {ρ : Nat → Nat → Option Nat} (h : rM ρ) : ρ 186 5 = some 190 := h.2.2.2.1
theorem rm_186_6 {ρ : Nat → Nat → Option Nat} (h : rM ρ) : ρ 186 6 = some 191 := h.2.2.2.2.1
theorem rm_186_7 {ρ : Nat → Nat → Option Nat} (h : rM ρ) : ρ 186 7 = some 192 := h.2.2.2.2.2.1
theorem rm_186_8 {ρ : Nat → Nat → Option Nat} (h : rM ρ) : ρ 186 8 = some 193 := h.2.2.2.2.2.2.1
theorem rm_186_9 {ρ : Nat → Nat → Option Nat} (h : rM ρ) : ρ 186 9 = some 194 := h.2.2.2.2.2.2.2.1
theorem rm_186_10 {ρ : Nat → Nat → Option Nat} (h : rM ρ) : ρ 186 10 = some 195 := h.2.2.2.2.2.2.2.2.1
theorem rm_186_11 {ρ : Nat → Nat → Option Nat} (h : rM ρ) : ρ 186 11 = some 196 := h.2.2.2.2.2.2.2.2.2.1
theorem rm_186_14 {ρ : Nat → Nat → Option Nat} (h : rM ρ) : ρ 186 14 = some 197 := h.2.2.2.2.2.2.2.2.2.2.1
theorem rm_186_15 {ρ : Nat → Nat → Option Nat} (h : rM ρ) : ρ 186 15 = some 198 := h.2.2.2.2.2.2.2.2.2.2.2.1
theorem rm_186_16 {ρ : Nat → Nat → Option Nat} (h : rM ρ) : ρ 186 16 = some 199 := h.2.2.2.2.2.2.2.2.2.2.2.2.1
theorem rm_186_18 {ρ : Nat → Nat → Option Nat} (h : rM ρ) : ρ 186 18 = some 200 := h.2.2.2.2.2.2.2.2.2.2.2.2.2.1
theorem rm_186_20 {ρ : Nat → Nat → Option Nat} (h : rM ρ) : ρ 186 20 = some 201 := h.2.2.2.2.2.2.2.2.2.2.2.2.2.2.1
theorem rm_186_21 {ρ : Nat → Nat → Option Nat} (h : rM ρ) : ρ 186 21 = some 202 := h.2.2.2.2.2.2.2.2.2.2.2.2.2.2.2.1
theorem rm_186_22 {ρ : Nat → Nat → Option Nat} (h : rM ρ) : ρ 186 22 = some 203 := h.2.2.2.2.2.2.2.2.2.2.2.2.2.2.2.2.1
theorem rm_186_23 {ρ : Nat → Nat → Option Nat} (h : rM ρ) : ρ 186 23 = some 204 := h.2.2.2.2.2.2.2.2.2.2.2.2.2.2.2.2.2.1
theorem rm_186_24 {ρ : Nat → Nat → Option Nat} (h : rM ρ) : ρ 186 24 = some 205 := h.2.2.2.2.2.2.2.2.2.2.2.2.2.2.2.2.2.2.1
theorem rm_186_27 {ρ : Nat → Nat → Option Nat} (h : rM ρ) : ρ 186 27 = some 206 := h.2.2.2.2.2.2.2.2.2.2.2.2.2.2.2.2.2.2.2.1
theorem rm_186_28 {ρ : Nat → Nat → Option Nat} (h : rM ρ) : ρ 186 28 = some 207 := h.2.2.2.2.2.2.2.2.2.2.2.2.2.2.2.2.2.2.2.2.1
theorem rm_186_31 {ρ : Nat → Nat → Option Nat} (h : rM ρ) : ρ 186 31 = some 208 := h.2.2.2.2.2.2.2.2.2.2.2.2.2.2.2.2.2.2.2.2.2.1
theorem rm_186_32 {ρ : Nat → Nat → Option Nat} (h : rM ρ) : ρ 186 32 = some 209 := h.2.2.2.2.2.2.2.2.2.2.2.2.2.2.2.2.2.2.2.2.2.2.1
theorem rm_186_34 {ρ : Nat → Nat → Option Nat} (h : rM ρ) : ρ 186 34 = some 210 := h.2.2.2.2.2.2.2.2.2.2.2.2.2.2.2.2.2.2.2.2.2.2.2.1
theorem rm_186_35 {ρ : Nat → Nat → Option Nat} (h : rM ρ) : ρ 186 35 = some 211 := h.2.2.2.2.2.2.2.2.2.2.2.2.2.2.2.2.2.2.2.2.2.2.2.2.1
theorem rm_186_36 {ρ : Nat → Nat → Option Nat} (h : rM ρ) : ρ 186 36 = some 212 := h.2.2.2.2.2.2.2.2.2.2.2.2.2.2.2.2.2.2.2.2.2.2.2.2.2.1
theorem rm_186_37 {ρ : Nat → Nat → Option Nat} (h : rM ρ) : ρ 186 37 = some 213 := h.2.2.2.2.2.2.2.2.2.2.2.2.2.2.2.2.2.2.2.2.2.2.2.2.2.2.1
theorem rm_186_38 {ρ : Nat → Nat → Option Nat} (h : rM ρ) : ρ 186 38 = some 214 := h.2.2.2.2.2.2.2.2.2.2.2.2.2.2.2.2.2.2.2.2.2.2.2.2.2.2.2.1
theorem rm_186_39 {ρ : Nat → Nat → Option Nat} (h : rM ρ) : ρ 186 39 = some 215 := h.2.2.2.2.2.2.2.2.2.2.2.2.2.2.2.2.2.2.2.2.2.2.2.2.2.2.2.2.1
theorem rm_186_40 {ρ : Nat → Nat → Option Nat} (h : rM ρ) : ρ 186 40 = some 216 := h.2.2.2.2.2.2.2.2.2.2.2.2.2.2.2.2.2.2.2.2.2.2.2.2.2.2.2.2.2.1
theorem rm_186_41 {ρ : Nat → Nat → Option Nat} (h : rM ρ) : ρ 186 41 = some 217 := h.2.2.2.2.2.2.2.2.2.2.2.2.2.2.2.2.2.2.2.2.2.2.2.2.2.2.2.2.2.2.1
theorem rm_186_45 {ρ : Nat → Nat → Option Nat} (h : rM ρ) : ρ 186 45 = some 218 := h.2.2.2.2.2.2.2.2.2.2.2.2.2.2.2.2.2.2.2.2.2.2.2.2.2.2.2.2.2.2.2
theorem rp_0_0 {ρ : Nat → Nat → Option Nat} (h : rP ρ) : ρ 0 0 = some 11 := h.1
theorem rp_0_1 {ρ : Nat → Nat → Option Nat} (h : rP ρ) : ρ 0 1 = some 12 := h.2.1
theorem rp_0_2 {ρ : Nat → Nat → Option Nat} (h : rP ρ) : ρ 0 2 = some 47 := h.2.2.1
theorem rp_0_3 {ρ : Nat → Nat → Option Nat} (h : rP ρ) : ρ 0 3 = some 55 := h.2.2.2.1
theorem rp_0_4 {ρ : Nat → Nat → Option Nat} (h : rP ρ) : ρ 0 4 = some 56 := h.2.2.2.2.1
theorem rp_0_5 {ρ : Nat → Nat → Option Nat} (h : rP ρ) : ρ 0 5 = some 9 := h.2.2.2.2.2.1
theorem rp_0_6 {ρ : Nat → Nat → Option Nat} (h : rP ρ) : ρ 0 6 = some 18 := h.2.2.2.2.2.2.1
theorem rp_0_7 {ρ : Nat → Nat → Option Nat} (h : rP ρ) : ρ 0 7 = some 37 := h.2.2.2.2.2.2.2.1
theorem rp_0_8 {ρ : Nat → Nat → Option Nat} (h : rP ρ) : ρ 0 8 = some 61 := h.2.2.2.2.2.2.2.2.1
theorem rp_0_9 {ρ : Nat → Nat → Option Nat} (h : rP ρ) : ρ 0 9 = some 102 := h.2.2.2.2.2.2.2.2.2.1
theorem rp_0_10 {ρ : Nat → Nat → Option Nat} (h : rP ρ) : ρ 0 10 = some 185 := h.2.2.2.2.2.2.2.2.2.2.1
theorem rp_1_0 {ρ : Nat → Nat → Option Nat} (h : rP ρ) : ρ 1 0 = some 2 := h.2.2.2.2.2.2.2.2.2.2.2.1
theorem rp_1_1 {ρ : Nat → Nat → Option Nat} (h : rP ρ) : ρ 1 1 = some 3 := h.2.2.2.2.2.2.2.2.2.2.2.2.1
theorem rp_1_2 {ρ : Nat → Nat → Option Nat} (h : rP ρ) : ρ 1 2 = some 4 := h.2.2.2.2.2.2.2.2.2.2.2.2.2.1
theorem rp_1_3 {ρ : Nat → Nat → Option Nat} (h : rP ρ) : ρ 1 3 = some 5 := h.2.2.2.2.2.2.2.2.2.2.2.2.2.2.1
theorem rp_1_4 {ρ : Nat → Nat → Option Nat} (h : rP ρ) : ρ 1 4 = some 6 := h.2.2.2.2.2.2.2.2.2.2.2.2.2.2.2.1
theorem rp_1_5 {ρ : Nat → Nat → Option Nat} (h : rP ρ) : ρ 1 5 = some 7 := h.2.2.2.2.2.2.2.2.2.2.2.2.2.2.2.2.1
theorem rp_1_6 {ρ : Nat → Nat → Option Nat} (h : rP ρ) : ρ 1 6 = some 8 := h.2.2.2.2.2.2.2.2.2.2.2.2.2.2.2.2.2.1
theorem rp_9_0 {ρ : Nat → Nat → Option Nat} (h : rP ρ) : ρ 9 0 = some 10 := h.2.2.2.2.2.2.2.2.2.2.2.2.2.2.2.2.2.2.1
theorem rp_11_0 {ρ : Nat → Nat → Option Nat} (h : rP ρ) : ρ 11 0 = some 1 := h.2.2.2.2.2.2.2.2.2.2.2.2.2.2.2.2.2.2.2.1
theorem rp_12_0 {ρ : Nat → Nat → Option Nat} (h : rP ρ) : ρ 12 0 = some 1 := h.2.2.2.2.2.2.2.2.2.2.2.2.2.2.2.2.2.2.2.2.1
theorem rp_12_1 {ρ : Nat → Nat → Option Nat} (h : rP ρ) : ρ 12 1 = some 13 := h.2.2.2.2.2.2.2.2.2.2.2.2.2.2.2.2.2.2.2.2.2.1
theorem rp_12_2 {ρ : Nat → Nat → Option Nat} (h : rP ρ) : ρ 12 2 = some 14 := h.2.2.2.2.2.2.2.2.2.2.2.2.2.2.2.2.2.2.2.2.2.2.1
theorem rp_12_3 {ρ : Nat → Nat → Option Nat} (h : rP ρ) : ρ 12 3 = some 15 := h.2.2.2.2.2.2.2.2.2.2.2.2.2.2.2.2.2.2.2.2.2.2.2.1
theorem rp_12_4 {ρ : Nat → Nat → Option Nat} (h : rP ρ) : ρ 12 4 = some 16 := h.2.2.2.2.2.2.2.2.2.2.2.2.2.2.2.2.2.2.2.2.2.2.2.2.1
theorem rp_16_0 {ρ : Nat → Nat → Option Nat} (h : rP ρ) : ρ 16 0 = some 17 := h.2.2.2.2.2.2.2.2.2.2.2.2.2.2.2.2.2.2.2.2.2.2.2.2.2.1
theorem rp_18_0 {ρ : Nat → Nat → Option Nat} (h : rP ρ) : ρ 18 0 = some 19 := h.2.2.2.2.2.2.2.2.2.2.2.2.2.2.2.2.2.2.2.2.2.2.2.2.2.2.1
theorem rp_18_1 {ρ : Nat → Nat → Option Nat} (h : rP ρ) : ρ 18 1 = some 28 := h.2.2.2.2.2.2.2.2.2.2.2.2.2.2.2.2.2.2.2.2.2.2.2.2.2.2.2.1
theorem rp_19_0 {ρ : Nat → Nat → Option Nat} (h : rP ρ) : ρ 19 0 = some 20 := h.2.2.2.2.2.2.2.2.2.2.2.2.2.2.2.2.2.2.2.2.2.2.2.2.2.2.2.2.1
theorem rp_19_1 {ρ : Nat → Nat → Option Nat} (h : rP ρ) : ρ 19 1 = some 22 := h.2.2.2.2.2.2.2.2.2.2.2.2.2.2.2.2.2.2.2.2.2.2.2.2.2.2.2.2.2.1
theorem rp_19_2 {ρ : Nat → Nat → Option Nat} (h : rP ρ) : ρ 19 2 = some 24 := h.2.2.2.2.2.2.2.2.2.2.2.2.2.2.2.2.2.2.2.2.2.2.2.2.2.2.2.2.2.2.1
theorem rp_19_3 {ρ : Nat → Nat → Option Nat} (h : rP ρ) : ρ 19 3 = some 25 := h.2.2.2.2.2.2.2.2.2.2.2.2.2.2.2.2.2.2.2.2.2.2.2.2.2.2.2.2.2.2.2.1
theorem rp_19_4 {ρ : Nat → Nat → Option Nat} (h : rP ρ) : ρ 19 4 = some 26 := h.2.2.2.2.2.2.2.2.2.2.2.2.2.2.2.2.2.2.2.2.2.2.2.2.2.2.2.2.2.2.2.2.1
theorem rp_19_5 {ρ : Nat → Nat → Option Nat} (h : rP ρ) : ρ 19 5 = some 27 := h.2.2.2.2.2.2.2.2.2.2.2.2.2.2.2.2.2.2.2.2.2.2.2.2.2.2.2.2.2.2.2.2.2.1
theorem rp_20_0 {ρ : Nat → Nat → Option Nat} (h : rP ρ) : ρ 20 0 = some 21 := h.2.2.2.2.2.2.2.2.2.2.2.2.2.2.2.2.2.2.2.2.2.2.2.2.2.2.2.2.2.2.2.2.2.2.1
theorem rp_22_0 {ρ : Nat → Nat → Option Nat} (h : rP ρ) : ρ 22 0 = some 23 := h.2.2.2.2.2.2.2.2.2.2.2.2.2.2.2.2.2.2.2.2.2.2.2.2.2.2.2.2.2.2.2.2.2.2.2.1
theorem rp_28_0 {ρ : Nat → Nat → Option Nat} (h : rP ρ) : ρ 28 0 = some 29 := h.2.2.2.2.2.2.2.2.2.2.2.2.2.2.2.2.2.2.2.2.2.2.2.2.2.2.2.2.2.2.2.2.2.2.2.2.1
theorem rp_28_1 {ρ : Nat → Nat → Option Nat} (h : rP ρ) : ρ 28 1 = some 31 := h.2.2.2.2.2.2.2.2.2.2.2.2.2.2.2.2.2.2.2.2.2.2.2.2.2.2.2.2.2.2.2.2.2.2.2.2.2.1
theorem rp_28_2 {ρ : Nat → Nat → Option Nat} (h : rP ρ) : ρ 28 2 = some 33 := h.2.2.2.2.2.2.2.2.2.2.2.2.2.2.2.2.2.2.2.2.2.2.2.2.2.2.2.2.2.2.2.2.2.2.2.2.2.2.1
theorem rp_28_3 {ρ : Nat → Nat → Option Nat} (h : rP ρ) : ρ 28 3 = some 34 := h.2.2.2.2.2.2.2.2.2.2.2.2.2.2.2.2.2.2.2.2.2.2.2.2.2.2.2.2.2.2.2.2.2.2.2.2.2.2.2.1
theorem rp_28_4 {ρ : Nat → Nat → Option Nat} (h : rP ρ) : ρ 28 4 = some 35 := h.2.2.2.2.2.2.2.2.2.2.2.2.2.2.2.2.2.2.2.2.2.2.2.2.2.2.2.2.2.2.2.2.2.2.2.2.2.2.2.2.1
theorem rp_28_5 {ρ : Nat → Nat → Option Nat} (h : rP ρ) : ρ 28 5 = some 36 := h.2.2.2.2.2.2.2.2.2.2.2.2.2.2.2.2.2.2.2.2.2.2.2.2.2.2.2.2.2.2.2.2.2.2.2.2.2.2.2.2.2.1
theorem rp_29_0 {ρ : Nat → Nat → Option Nat} (h : rP ρ) : ρ 29 0 = some 30 := h.2.2.2.2.2.2.2.2.2.2.2.2.2.2.2.2.2.2.2.2.2.2.2.2.2.2.2.2.2.2.2.2.2.2.2.2.2.2.2.2.2.2.1
theorem rp_31_0 {ρ : Nat → Nat → Option Nat} (h : rP ρ) : ρ 31 0 = some 32 := h.2.2.2.2.2.2.2.2.2.2.2.2.2.2.2.2.2.2.2.2.2.2.2.2.2.2.2.2.2.2.2.2.2.2.2.2.2.2.2.2.2.2.2.1
theorem rp_37_0 {ρ : Nat → Nat → Option Nat} (h : rP ρ) : ρ 37 0 = some 38 := h.2.2.2.2.2.2.2.2.2.2.2.2.2.2.2.2.2.2.2.2.2.2.2.2.2.2.2.2.2.2.2.2.2.2.2.2.2.2.2.2.2.2.2.2.1
theorem rp_37_1 {ρ : Nat → Nat → Option Nat} (h : rP ρ) : ρ 37 1 = some 39 := h.2.2.2.2.2.2.2.2.2.2.2.2.2.2.2.2.2.2.2.2.2.2.2.2.2.2.2.2.2.2.2.2.2.2.2.2.2.2.2.2.2.2.2.2.2.1
theorem rp_37_2 {ρ : Nat → Nat → Option Nat} (h : rP ρ) : ρ 37 2 = some 40 := h.2.2.2.2.2.2.2.2.2.2.2.2.2.2.2.2.2.2.2.2.2.2.2.2.2.2.2.2.2.2.2.2.2.2.2.2.2.2.2.2.2.2.2.2.2.2.1
theorem rp_37_3 {ρ : Nat → Nat → Option Nat} (h : rP ρ) : ρ 37 3 = some 41 := h.2.2.2.2.2.2.2.2.2.2.2.2.2.2.2.2.2.2.2.2.2.2.2.2.2.2.2.2.2.2.2.2.2.2.2.2.2.2.2.2.2.2.2.2.2.2.2.1
theorem rp_37_4 {ρ : Nat → Nat → Option Nat} (h : rP ρ) : ρ 37 4 = some 42 := h.2.2.2.2.2.2.2.2.2.2.2.2.2.2.2.2.2.2.2.2.2.2.2.2.2.2.2.2.2.2.2.2.2.2.2.2.2.2.2.2.2.2.2.2.2.2.2.2.1
theorem rp_37_5 {ρ : Nat → Nat → Option Nat} (h : rP ρ) : ρ 37 5 = some 43 := h.2.2.2.2.2.2.2.2.2.2.2.2.2.2.2.2.2.2.2.2.2.2.2.2.2.2.2.2.2.2.2.2.2.2.2.2.2.2.2.2.2.2.2.2.2.2.2.2.2.1
theorem rp_37_6 {ρ : Nat → Nat → Option Nat} (h : rP ρ) : ρ 37 6 = some 44 := h.2.2.2.2.2.2.2.2.2.2.2.2.2.2.2.2.2.2.2.2.2.2.2.2.2.2.2.2.2.2.2.2.2.2.2.2.2.2.2.2.2.2.2.2.2.2.2.2.2.2.1
theorem rp_37_7 {ρ : Nat → Nat → Option Nat} (h : rP ρ) : ρ 37 7 = some 46 := h.2.2.2.2.2.2.2.2.2.2.2.2.2.2.2.2.2.2.2.2.2.2.2.2.2.2.2.2.2.2.2.2.2.2.2.2.2.2.2.2.2.2.2.2.2.2.2.2.2.2.2.1
theorem rp_44_0 {ρ : Nat → Nat → Option Nat} (h : rP ρ) : ρ 44 0 = some 45 := h.2.2.2.2.2.2.2.2.2.2.2.2.2.2.2.2.2.2.2.2.2.2.2.2.2.2.2.2.2.2.2.2.2.2.2.2.2.2.2.2.2.2.2.2.2.2.2.2.2.2.2.2.1
theorem rp_47_0 {ρ : Nat → Nat → Option Nat} (h : rP ρ) : ρ 47 0 = some 48 := h.2.2.2.2.2.2.2.2.2.2.2.2.2.2.2.2.2.2.2.2.2.2.2.2.2.2.2.2.2.2.2.2.2.2.2.2.2.2.2.2.2.2.2.2.2.2.2.2.2.2.2.2.2.1
theorem rp_47_1 {ρ : Nat → Nat → Option Nat} (h : rP ρ) : ρ 47 1 = some 49 := h.2.2.2.2.2.2.2.2.2.2.2.2.2.2.2.2.2.2.2.2.2.2.2.2.2.2.2.2.2.2.2.2.2.2.2.2.2.2.2.2.2.2.2.2.2.2.2.2.2.2.2.2.2.2.1
theorem rp_47_2 {ρ : Nat → Nat → Option Nat} (h : rP ρ) : ρ 47 2 = some 50 := h.2.2.2.2.2.2.2.2.2.2.2.2.2.2.2.2.2.2.2.2.2.2.2.2.2.2.2.2.2.2.2.2.2.2.2.2.2.2.2.2.2.2.2.2.2.2.2.2.2.2.2.2.2.2.2.1
theorem rp_47_3 {ρ : Nat → Nat → Option Nat} (h : rP ρ) : ρ 47 3 = some 51 := h.2.2.2.2.2.2.2.2.2.2.2.2.2.2.2.2.2.2.2.2.2.2.2.2.2.2.2.2.2.2.2.2.2.2.2.2.2.2.2.2.2.2.2.2.2.2.2.2.2.2.2.2.2.2.2.2.1
theorem rp_47_4 {ρ : Nat → Nat → Option Nat} (h : rP ρ) : ρ 47 4 = some 52 := h.2.2.2.2.2.2.2.2.2.2.2.2.2.2.2.2.2.2.2.2.2.2.2.2.2.2.2.2.2.2.2.2.2.2.2.2.2.2.2.2.2.2.2.2.2.2.2.2.2.2.2.2.2.2.2.2.2.1
theorem rp_47_5 {ρ : Nat → Nat → Option Nat} (h : rP ρ) : ρ 47 5 = some 53 := h.2.2.2.2.2.2.2.2.2.2.2.2.2.2.2.2.2.2.2.2.2.2.2.2.2.2.2.2.2.2.2.2.2.2.2.2.2.2.2.2.2.2.2.2.2.2.2.2.2.2.2.2.2.2.2.2.2.2.1
theorem rp_47_6 {ρ : Nat → Nat → Option Nat} (h : rP ρ) : ρ 47 6 = some 54 := h.2.2.2.2.2.2.2.2.2.2.2.2.2.2.2.2.2.2.2.2.2.2.2.2.2.2.2.2.2.2.2.2.2.2.2.2.2.2.2.2.2.2.2.2.2.2.2.2.2.2.2.2.2.2.2.2.2.2.2.1
theorem rp_56_0 {ρ : Nat → Nat → Option Nat} (h : rP ρ) : ρ 56 0 = some 57 := h.2.2.2.2.2.2.2.2.2.2.2.2.2.2.2.2.2.2.2.2.2.2.2.2.2.2.2.2.2.2.2.2.2.2.2.2.2.2.2.2.2.2.2.2.2.2.2.2.2.2.2.2.2.2.2.2.2.2.2.2.1
theorem rp_56_1 {ρ : Nat → Nat → Option Nat} (h : rP ρ) : ρ 56 1 = some 58 := h.2.2.2.2.2.2.2.2.2.2.2.2.2.2.2.2.2.2.2.2.2.2.2.2.2.2.2.2.2.2.2.2.2.2.2.2.2.2.2.2.2.2.2.2.2.2.2.2.2.2.2.2.2.2.2.2.2.2.2.2.2.1
theorem rp_56_2 {ρ : Nat → Nat → Option Nat} (h : rP ρ) : ρ 56 2 = some 59 := h.2.2.2.2.2.2.2.2.2.2.2.2.2.2.2.2.2.2.2.2.2.2.2.2.2.2.2.2.2.2.2.2.2.2.2.2.2.2.2.2.2.2.2.2.2.2.2.2.2.2.2.2.2.2.2.2.2.2.2.2.2.2.1
theorem rp_56_3 {ρ : Nat → Nat → Option Nat} (h : rP ρ) : ρ 56 3 = some 60 := h.2.2.2.2.2.2.2.2.2.2.2.2.2.2.2.2.2.2.2.2.2.2.2.2.2.2.2.2.2.2.2.2.2.2.2.2.2.2.2.2.2.2.2.2.2.2.2.2.2.2.2.2.2.2.2.2.2.2.2.2.2.2.2.1
theorem rp_61_0 {ρ : Nat → Nat → Option Nat} (h : rP ρ) : ρ 61 0 = some 62 := h.2.2.2.2.2.2.2.2.2.2.2.2.2.2.2.2.2.2.2.2.2.2.2.2.2.2.2.2.2.2.2.2.2.2.2.2.2.2.2.2.2.2.2.2.2.2.2.2.2.2.2.2.2.2.2.2.2.2.2.2.2.2.2.2.1
theorem rp_61_1 {ρ : Nat → Nat → Option Nat} (h : rP ρ) : ρ 61 1 = some 64 := h.2.2.2.2.2.2.2.2.2.2.2.2.2.2.2.2.2.2.2.2.2.2.2.2.2.2.2.2.2.2.2.2.2.2.2.2.2.2.2.2.2.2.2.2.2.2.2.2.2.2.2.2.2.2.2.2.2.2.2.2.2.2.2.2.2.1
theorem rp_61_2 {ρ : Nat → Nat → Option Nat} (h : rP ρ) : ρ 61 2 = some 83 := h.2.2.2.2.2.2.2.2.2.2.2.2.2.2.2.2.2.2.2.2.2.2.2.2.2.2.2.2.2.2.2.2.2.2.2.2.2.2.2.2.2.2.2.2.2.2.2.2.2.2.2.2.2.2.2.2.2.2.2.2.2.2.2.2.2.2.1
theorem rp_61_3 {ρ : Nat → Nat → Option Nat} (h : rP ρ) : ρ 61 3 = some 84 := h.2.2.2.2.2.2.2.2.2.2.2.2.2.2.2.2.2.2.2.2.2.2.2.2.2.2.2.2.2.2.2.2.2.2.2.2.2.2.2.2.2.2.2.2.2.2.2.2.2.2.2.2.2.2.2.2.2.2.2.2.2.2.2.2.2.2.2.1
theorem rp_62_0 {ρ : Nat → Nat → Option Nat} (h : rP ρ) : ρ 62 0 = some 63 := h.2.2.2.2.2.2.2.2.2.2.2.2.2.2.2.2.2.2.2.2.2.2.2.2.2.2.2.2.2.2.2.2.2.2.2.2.2.2.2.2.2.2.2.2.2.2.2.2.2.2.2.2.2.2.2.2.2.2.2.2.2.2.2.2.2.2.2.2.1
theorem rp_65_0 {ρ : Nat → Nat → Option Nat} (h : rP ρ) : ρ 65 0 = some 66 := h.2.2.2.2.2.2.2.2.2.2.2.2.2.2.2.2.2.2.2.2.2.2.2.2.2.2.2.2.2.2.2.2.2.2.2.2.2.2.2.2.2.2.2.2.2.2.2.2.2.2.2.2.2.2.2.2.2.2.2.2.2.2.2.2.2.2.2.2.2.1
theorem rp_65_1 {ρ : Nat → Nat → Option Nat} (h : rP ρ) : ρ 65 1 = some 68 := h.2.2.2.2.2.2.2.2.2.2.2.2.2.2.2.2.2.2.2.2.2.2.2.2.2.2.2.2.2.2.2.2.2.2.2.2.2.2.2.2.2.2.2.2.2.2.2.2.2.2.2.2.2.2.2.2.2.2.2.2.2.2.2.2.2.2.2.2.2.2.1
theorem rp_65_2 {ρ : Nat → Nat → Option Nat} (h : rP ρ) : ρ 65 2 = some 70 := h.2.2.2.2.2.2.2.2.2.2.2.2.2.2.2.2.2.2.2.2.2.2.2.2.2.2.2.2.2.2.2.2.2.2.2.2.2.2.2.2.2.2.2.2.2.2.2.2.2.2.2.2.2.2.2.2.2.2.2.2.2.2.2.2.2.2.2.2.2.2.2.1
theorem rp_65_3 {ρ : Nat → Nat → Option Nat} (h : rP ρ) : ρ 65 3 = some 71 := h.2.2.2.2.2.2.2.2.2.2.2.2.2.2.2.2.2.2.2.2.2.2.2.2.2.2.2.2.2.2.2.2.2.2.2.2.2.2.2.2.2.2.2.2.2.2.2.2.2.2.2.2.2.2.2.2.2.2.2.2.2.2.2.2.2.2.2.2.2.2.2.2.1
theorem rp_65_4 {ρ : Nat → Nat → Option Nat} (h : rP ρ) : ρ 65 4 = some 72 := h.2.2.2.2.2.2.2.2.2.2.2.2.2.2.2.2.2.2.2.2.2.2.2.2.2.2.2.2.2.2.2.2.2.2.2.2.2.2.2.2.2.2.2.2.2.2.2.2.2.2.2.2.2.2.2.2.2.2.2.2.2.2.2.2.2.2.2.2.2.2.2.2.2.1
theorem rp_65_5 {ρ : Nat → Nat → Option Nat} (h : rP ρ) : ρ 65 5 = some 73 := h.2.2.2.2.2.2.2.2.2.2.2.2.2.2.2.2.2.2.2.2.2.2.2.2.2.2.2.2.2.2.2.2.2.2.2.2.2.2.2.2.2.2.2.2.2.2.2.2.2.2.2.2.2.2.2.2.2.2.2.2.2.2.2.2.2.2.2.2.2.2.2.2.2.2.1
theorem rp_66_0 {ρ : Nat → Nat → Option Nat} (h : rP ρ) : ρ 66 0 = some 67 := h.2.2.2.2.2.2.2.2.2.2.2.2.2.2.2.2.2.2.2.2.2.2.2.2.2.2.2.2.2.2.2.2.2.2.2.2.2.2.2.2.2.2.2.2.2.2.2.2.2.2.2.2.2.2.2.2.2.2.2.2.2.2.2.2.2.2.2.2.2.2.2.2.2.2.2.1
theorem rp_68_0 {ρ : Nat → Nat → Option Nat} (h : rP ρ) : ρ 68 0 = some 69 := h.2.2.2.2.2.2.2.2.2.2.2.2.2.2.2.2.2.2.2.2.2.2.2.2.2.2.2.2.2.2.2.2.2.2.2.2.2.2.2.2.2.2.2.2.2.2.2.2.2.2.2.2.2.2.2.2.2.2.2.2.2.2.2.2.2.2.2.2.2.2.2.2.2.2.2.2.1
theorem rp_74_0 {ρ : Nat → Nat → Option Nat} (h : rP ρ) : ρ 74 0 = some 75 := h.2.2.2.2.2.2.2.2.2.2.2.2.2.2.2.2.2.2.2.2.2.2.2.2.2.2.2.2.2.2.2.2.2.2.2.2.2.2.2.2.2.2.2.2.2.2.2.2.2.2.2.2.2.2.2.2.2.2.2.2.2.2.2.2.2.2.2.2.2.2.2.2.2.2.2.2.2.1
theorem rp_74_1 {ρ : Nat → Nat → Option Nat} (h : rP ρ) : ρ 74 1 = some 77 := h.2.2.2.2.2.2.2.2.2.2.2.2.2.2.2.2.2.2.2.2.2.2.2.2.2.2.2.2.2.2.2.2.2.2.2.2.2.2.2.2.2.2.2.2.2.2.2.2.2.2.2.2.2.2.2.2.2.2.2.2.2.2.2.2.2.2.2.2.2.2.2.2.2.2.2.2.2.2.1
theorem rp_74_2 {ρ : Nat → Nat → Option Nat} (h : rP ρ) : ρ 74 2 = some 79 := h.2.2.2.2.2.2.2.2.2.2.2.2.2.2.2.2.2.2.2.2.2.2.2.2.2.2.2.2.2.2.2.2.2.2.2.2.2.2.2.2.2.2.2.2.2.2.2.2.2.2.2.2.2.2.2.2.2.2.2.2.2.2.2.2.2.2.2.2.2.2.2.2.2.2.2.2.2.2.2.1
theorem rp_74_3 {ρ : Nat → Nat → Option Nat} (h : rP ρ) : ρ 74 3 = some 80 := h.2.2.2.2.2.2.2.2.2.2.2.2.2.2.2.2.2.2.2.2.2.2.2.2.2.2.2.2.2.2.2.2.2.2.2.2.2.2.2.2.2.2.2.2.2.2.2.2.2.2.2.2.2.2.2.2.2.2.2.2.2.2.2.2.2.2.2.2.2.2.2.2.2.2.2.2.2.2.2.2.1
theorem rp_74_4 {ρ : Nat → Nat → Option Nat} (h : rP ρ) : ρ 74 4 = some 81 := h.2.2.2.2.2.2.2.2.2.2.2.2.2.2.2.2.2.2.2.2.2.2.2.2.2.2.2.2.2.2.2.2.2.2.2.2.2.2.2.2.2.2.2.2.2.2.2.2.2.2.2.2.2.2.2.2.2.2.2.2.2.2.2.2.2.2.2.2.2.2.2.2.2.2.2.2.2.2.2.2.2.1
theorem rp_74_5 {ρ : Nat → Nat → Option Nat} (h : rP ρ) : ρ 74 5 = some 82 := h.2.2.2.2.2.2.2.2.2.2.2.2.2.2.2.2.2.2.2.2.2.2.2.2.2.2.2.2.2.2.2.2.2.2.2.2.2.2.2.2.2.2.2.2.2.2.2.2.2.2.2.2.2.2.2.2.2.2.2.2.2.2.2.2.2.2.2.2.2.2.2.2.2.2.2.2.2.2.2.2.2.2.1
theorem rp_75_0 {ρ : Nat → Nat → Option Nat} (h : rP ρ) : ρ 75 0 = some 76 := h.2.2.2.2.2.2.2.2.2.2.2.2.2.2.2.2.2.2.2.2.2.2.2.2.2.2.2.2.2.2.2.2.2.2.2.2.2.2.2.2.2.2.2.2.2.2.2.2.2.2.2.2.2.2.2.2.2.2.2.2.2.2.2.2.2.2.2.2.2.2.2.2.2.2.2.2.2.2.2.2.2.2.2.1
theorem rp_77_0 {ρ : Nat → Nat → Option Nat} (h : rP ρ) : ρ 77 0 = some 78 := h.2.2.2.2.2.2.2.2.2.2.2.2.2.2.2.2.2.2.2.2.2.2.2.2.2.2.2.2.2.2.2.2.2.2.2.2.2.2.2.2.2.2.2.2.2.2.2.2.2.2.2.2.2.2.2.2.2.2.2.2.2.2.2.2.2.2.2.2.2.2.2.2.2.2.2.2.2.2.2.2.2.2.2.2.1
theorem rp_83_0 {ρ : Nat → Nat → Option Nat} (h : rP ρ) : ρ 83 0 = some 94 := h.2.2.2.2.2.2.2.2.2.2.2.2.2.2.2.2.2.2.2.2.2.2.2.2.2.2.2.2.2.2.2.2.2.2.2.2.2.2.2.2.2.2.2.2.2.2.2.2.2.2.2.2.2.2.2.2.2.2.2.2.2.2.2.2.2.2.2.2.2.2.2.2.2.2.2.2.2.2.2.2.2.2.2.2.2.1
theorem rp_83_1 {ρ : Nat → Nat → Option Nat} (h : rP ρ) : ρ 83 1 = some 96 := h.2.2.2.2.2.2.2.2.2.2.2.2.2.2.2.2.2.2.2.2.2.2.2.2.2.2.2.2.2.2.2.2.2.2.2.2.2.2.2.2.2.2.2.2.2.2.2.2.2.2.2.2.2.2.2.2.2.2.2.2.2.2.2.2.2.2.2.2.2.2.2.2.2.2.2.2.2.2.2.2.2.2.2.2.2.2.1
theorem rp_83_2 {ρ : Nat → Nat → Option Nat} (h : rP ρ) : ρ 83 2 = some 98 := h.2.2.2.2.2.2.2.2.2.2.2.2.2.2.2.2.2.2.2.2.2.2.2.2.2.2.2.2.2.2.2.2.2.2.2.2.2.2.2.2.2.2.2.2.2.2.2.2.2.2.2.2.2.2.2.2.2.2.2.2.2.2.2.2.2.2.2.2.2.2.2.2.2.2.2.2.2.2.2.2.2.2.2.2.2.2.2.1
theorem rp_83_3 {ρ : Nat → Nat → Option Nat} (h : rP ρ) : ρ 83 3 = some 100 := h.2.2.2.2.2.2.2.2.2.2.2.2.2.2.2.2.2.2.2.2.2.2.2.2.2.2.2.2.2.2.2.2.2.2.2.2.2.2.2.2.2.2.2.2.2.2.2.2.2.2.2.2.2.2.2.2.2.2.2.2.2.2.2.2.2.2.2.2.2.2.2.2.2.2.2.2.2.2.2.2.2.2.2.2.2.2.2.2.1
theorem rp_84_0 {ρ : Nat → Nat → Option Nat} (h : rP ρ) : ρ 84 0 = some 85 := h.2.2.2.2.2.2.2.2.2.2.2.2.2.2.2.2.2.2.2.2.2.2.2.2.2.2.2.2.2.2.2.2.2.2.2.2.2.2.2.2.2.2.2.2.2.2.2.2.2.2.2.2.2.2.2.2.2.2.2.2.2.2.2.2.2.2.2.2.2.2.2.2.2.2.2.2.2.2.2.2.2.2.2.2.2.2.2.2.2.1
theorem rp_84_1 {ρ : Nat → Nat → Option Nat} (h : rP ρ) : ρ 84 1 = some 86 := h.2.2.2.2.2.2.2.2.2.2.2.2.2.2.2.2.2.2.2.2.2.2.2.2.2.2.2.2.2.2.2.2.2.2.2.2.2.2.2.2.2.2.2.2.2.2.2.2.2.2.2.2.2.2.2.2.2.2.2.2.2.2.2.2.2.2.2.2.2.2.2.2.2.2.2.2.2.2.2.2.2.2.2.2.2.2.2.2.2.2.1
theorem rp_84_2 {ρ : Nat → Nat → Option Nat} (h : rP ρ) : ρ 84 2 = some 87 := h.2.2.2.2.2.2.2.2.2.2.2.2.2.2.2.2.2.2.2.2.2.2.2.2.2.2.2.2.2.2.2.2.2.2.2.2.2.2.2.2.2.2.2.2.2.2.2.2.2.2.2.2.2.2.2.2.2.2.2.2.2.2.2.2.2.2.2.2.2.2.2.2.2.2.2.2.2.2.2.2.2.2.2.2.2.2.2.2.2.2.2.1
theorem rp_84_3 {ρ : Nat → Nat → Option Nat} (h : rP ρ) : ρ 84 3 = some 88 := h.2.2.2.2.2.2.2.2.2.2.2.2.2.2.2.2.2.2.2.2.2.2.2.2.2.2.2.2.2.2.2.2.2.2.2.2.2.2.2.2.2.2.2.2.2.2.2.2.2.2.2.2.2.2.2.2.2.2.2.2.2.2.2.2.2.2.2.2.2.2.2.2.2.2.2.2.2.2.2.2.2.2.2.2.2.2.2.2.2.2.2.2.1
theorem rp_84_4 {ρ : Nat → Nat → Option Nat} (h : rP ρ) : ρ 84 4 = some 89 := h.2.2.2.2.2.2.2.2.2.2.2.2.2.2.2.2.2.2.2.2.2.2.2.2.2.2.2.2.2.2.2.2.2.2.2.2.2.2.2.2.2.2.2.2.2.2.2.2.2.2.2.2.2.2.2.2.2.2.2.2.2.2.2.2.2.2.2.2.2.2.2.2.2.2.2.2.2.2.2.2.2.2.2.2.2.2.2.2.2.2.2.2.2.1
theorem rp_84_5 {ρ : Nat → Nat → Option Nat} (h : rP ρ) : ρ 84 5 = some 90 := h.2.2.2.2.2.2.2.2.2.2.2.2.2.2.2.2.2.2.2.2.2.2.2.2.2.2.2.2.2.2.2.2.2.2.2.2.2.2.2.2.2.2.2.2.2.2.2.2.2.2.2.2.2.2.2.2.2.2.2.2.2.2.2.2.2.2.2.2.2.2.2.2.2.2.2.2.2.2.2.2.2.2.2.2.2.2.2.2.2.2.2.2.2.2.1
theorem rp_84_6 {ρ : Nat → Nat → Option Nat} (h : rP ρ) : ρ 84 6 = some 91 := h.2.2.2.2.2.2.2.2.2.2.2.2.2.2.2.2.2.2.2.2.2.2.2.2.2.2.2.2.2.2.2.2.2.2.2.2.2.2.2.2.2.2.2.2.2.2.2.2.2.2.2.2.2.2.2.2.2.2.2.2.2.2.2.2.2.2.2.2.2.2.2.2.2.2.2.2.2.2.2.2.2.2.2.2.2.2.2.2.2.2.2.2.2.2.2.1
theorem rp_84_7 {ρ : Nat → Nat → Option Nat} (h : rP ρ) : ρ 84 7 = some 93 := h.2.2.2.2.2.2.2.2.2.2.2.2.2.2.2.2.2.2.2.2.2.2.2.2.2.2.2.2.2.2.2.2.2.2.2.2.2.2.2.2.2.2.2.2.2.2.2.2.2.2.2.2.2.2.2.2.2.2.2.2.2.2.2.2.2.2.2.2.2.2.2.2.2.2.2.2.2.2.2.2.2.2.2.2.2.2.2.2.2.2.2.2.2.2.2.2.1
theorem rp_91_0 {ρ : Nat → Nat → Option Nat} (h : rP ρ) : ρ 91 0 = some 92 := h.2.2.2.2.2.2.2.2.2.2.2.2.2.2.2.2.2.2.2.2.2.2.2.2.2.2.2.2.2.2.2.2.2.2.2.2.2.2.2.2.2.2.2.2.2.2.2.2.2.2.2.2.2.2.2.2.2.2.2.2.2.2.2.2.2.2.2.2.2.2.2.2.2.2.2.2.2.2.2.2.2.2.2.2.2.2.2.2.2.2.2.2.2.2.2.2.2.1
theorem rp_94_0 {ρ : Nat → Nat → Option Nat} (h : rP ρ) : ρ 94 0 = some 95 := h.2.2.2.2.2.2.2.2.2.2.2.2.2.2.2.2.2.2.2.2.2.2.2.2.2.2.2.2.2.2.2.2.2.2.2.2.2.2.2.2.2.2.2.2.2.2.2.2.2.2.2.2.2.2.2.2.2.2.2.2.2.2.2.2.2.2.2.2.2.2.2.2.2.2.2.2.2.2.2.2.2.2.2.2.2.2.2.2.2.2.2.2.2.2.2.2.2.2.1
theorem rp_96_0 {ρ : Nat → Nat → Option Nat} (h : rP ρ) : ρ 96 0 = some 97 := h.2.2.2.2.2.2.2.2.2.2.2.2.2.2.2.2.2.2.2.2.2.2.2.2.2.2.2.2.2.2.2.2.2.2.2.2.2.2.2.2.2.2.2.2.2.2.2.2.2.2.2.2.2.2.2.2.2.2.2.2.2.2.2.2.2.2.2.2.2.2.2.2.2.2.2.2.2.2.2.2.2.2.2.2.2.2.2.2.2.2.2.2.2.2.2.2.2.2.2.1
theorem rp_98_0 {ρ : Nat → Nat → Option Nat} (h : rP ρ) : ρ 98 0 = some 99 := h.2.2.2.2.2.2.2.2.2.2.2.2.2.2.2.2.2.2.2.2.2.2.2.2.2.2.2.2.2.2.2.2.2.2.2.2.2.2.2.2.2.2.2.2.2.2.2.2.2.2.2.2.2.2.2.2.2.2.2.2.2.2.2.2.2.2.2.2.2.2.2.2.2.2.2.2.2.2.2.2.2.2.2.2.2.2.2.2.2.2.2.2.2.2.2.2.2.2.2.2.1
theorem rp_100_0 {ρ : Nat → Nat → Option Nat} (h : rP ρ) : ρ 100 0 = some 101 := h.2.2.2.2.2.2.2.2.2.2.2.2.2.2.2.2.2.2.2.2.2.2.2.2.2.2.2.2.2.2.2.2.2.2.2.2.2.2.2.2.2.2.2.2.2.2.2.2.2.2.2.2.2.2.2.2.2.2.2.2.2.2.2.2.2.2.2.2.2.2.2.2.2.2.2.2.2.2.2.2.2.2.2.2.2.2.2.2.2.2.2.2.2.2.2.2.2.2.2.2.2.1
theorem rp_102_0 {ρ : Nat → Nat → Option Nat} (h : rP ρ) : ρ 102 0 = some 103 := h.2.2.2.2.2.2.2.2.2.2.2.2.2.2.2.2.2.2.2.2.2.2.2.2.2.2.2.2.2.2.2.2.2.2.2.2.2.2.2.2.2.2.2.2.2.2.2.2.2.2.2.2.2.2.2.2.2.2.2.2.2.2.2.2.2.2.2.2.2.2.2.2.2.2.2.2.2.2.2.2.2.2.2.2.2.2.2.2.2.2.2.2.2.2.2.2.2.2.2.2.2.2.1
theorem rp_102_1 {ρ : Nat → Nat → Option Nat} (h : rP ρ) : ρ 102 1 = some 144 := h.2.2.2.2.2.2.2.2.2.2.2.2.2.2.2.2.2.2.2.2.2.2.2.2.2.2.2.2.2.2.2.2.2.2.2.2.2.2.2.2.2.2.2.2.2.2.2.2.2.2.2.2.2.2.2.2.2.2.2.2.2.2.2.2.2.2.2.2.2.2.2.2.2.2.2.2.2.2.2.2.2.2.2.2.2.2.2.2.2.2.2.2.2.2.2.2.2.2.2.2.2.2.2.1
theorem rp_103_0 {ρ : Nat → Nat → Option Nat} (h : rP ρ) : ρ 103 0 = some 104 := h.2.2.2.2.2.2.2.2.2.2.2.2.2.2.2.2.2.2.2.2.2.2.2.2.2.2.2.2.2.2.2.2.2.2.2.2.2.2.2.2.2.2.2.2.2.2.2.2.2.2.2.2.2.2.2.2.2.2.2.2.2.2.2.2.2.2.2.2.2.2.2.2.2.2.2.2.2.2.2.2.2.2.2.2.2.2.2.2.2.2.2.2.2.2.2.2.2.2.2.2.2.2.2.2.1
theorem rp_103_1 {ρ : Nat → Nat → Option Nat} (h : rP ρ) : ρ 103 1 = some 106 := h.2.2.2.2.2.2.2.2.2.2.2.2.2.2.2.2.2.2.2.2.2.2.2.2.2.2.2.2.2.2.2.2.2.2.2.2.2.2.2.2.2.2.2.2.2.2.2.2.2.2.2.2.2.2.2.2.2.2.2.2.2.2.2.2.2.2.2.2.2.2.2.2.2.2.2.2.2.2.2.2.2.2.2.2.2.2.2.2.2.2.2.2.2.2.2.2.2.2.2.2.2.2.2.2.2.1
theorem rp_103_2 {ρ : Nat → Nat → Option Nat} (h : rP ρ) : ρ 103 2 = some 125 := h.2.2.2.2.2.2.2.2.2.2.2.2.2.2.2.2.2.2.2.2.2.2.2.2.2.2.2.2.2.2.2.2.2.2.2.2.2.2.2.2.2.2.2.2.2.2.2.2.2.2.2.2.2.2.2.2.2.2.2.2.2.2.2.2.2.2.2.2.2.2.2.2.2.2.2.2.2.2.2.2.2.2.2.2.2.2.2.2.2.2.2.2.2.2.2.2.2.2.2.2.2.2.2.2.2.2.1
theorem rp_103_3 {ρ : Nat → Nat → Option Nat} (h : rP ρ) : ρ 103 3 = some 126 := h.2.2.2.2.2.2.2.2.2.2.2.2.2.2.2.2.2.2.2.2.2.2.2.2.2.2.2.2.2.2.2.2.2.2.2.2.2.2.2.2.2.2.2.2.2.2.2.2.2.2.2.2.2.2.2.2.2.2.2.2.2.2.2.2.2.2.2.2.2.2.2.2.2.2.2.2.2.2.2.2.2.2.2.2.2.2.2.2.2.2.2.2.2.2.2.2.2.2.2.2.2.2.2.2.2.2.2.1
theorem rp_104_0 {ρ : Nat → Nat → Option Nat} (h : rP ρ) : ρ 104 0 = some 105 := h.2.2.2.2.2.2.2.2.2.2.2.2.2.2.2.2.2.2.2.2.2.2.2.2.2.2.2.2.2.2.2.2.2.2.2.2.2.2.2.2.2.2.2.2.2.2.2.2.2.2.2.2.2.2.2.2.2.2.2.2.2.2.2.2.2.2.2.2.2.2.2.2.2.2.2.2.2.2.2.2.2.2.2.2.2.2.2.2.2.2.2.2.2.2.2.2.2.2.2.2.2.2.2.2.2.2.2.2.1
theorem rp_106_0 {ρ : Nat → Nat → Option Nat} (h : rP ρ) : ρ 106 0 = some 107 := h.2.2.2.2.2.2.2.2.2.2.2.2.2.2.2.2.2.2.2.2.2.2.2.2.2.2.2.2.2.2.2.2.2.2.2.2.2.2.2.2.2.2.2.2.2.2.2.2.2.2.2.2.2.2.2.2.2.2.2.2.2.2.2.2.2.2.2.2.2.2.2.2.2.2.2.2.2.2.2.2.2.2.2.2.2.2.2.2.2.2.2.2.2.2.2.2.2.2.2.2.2.2.2.2.2.2.2.2.2.1
theorem rp_106_1 {ρ : Nat → Nat → Option Nat} (h : rP ρ) : ρ 106 1 = some 116 := h.2.2.2.2.2.2.2.2.2.2.2.2.2.2.2.2.2.2.2.2.2.2.2.2.2.2.2.2.2.2.2.2.2.2.2.2.2.2.2.2.2.2.2.2.2.2.2.2.2.2.2.2.2.2.2.2.2.2.2.2.2.2.2.2.2.2.2.2.2.2.2.2.2.2.2.2.2.2.2.2.2.2.2.2.2.2.2.2.2.2.2.2.2.2.2.2.2.2.2.2.2.2.2.2.2.2.2.2.2.2.1
theorem rp_107_0 {ρ : Nat → Nat → Option Nat} (h : rP ρ) : ρ 107 0 = some 108 := h.2.2.2.2.2.2.2.2.2.2.2.2.2.2.2.2.2.2.2.2.2.2.2.2.2.2.2.2.2.2.2.2.2.2.2.2.2.2.2.2.2.2.2.2.2.2.2.2.2.2.2.2.2.2.2.2.2.2.2.2.2.2.2.2.2.2.2.2.2.2.2.2.2.2.2.2.2.2.2.2.2.2.2.2.2.2.2.2.2.2.2.2.2.2.2.2.2.2.2.2.2.2.2.2.2.2.2.2.2.2.2.1
theorem rp_107_1 {ρ : Nat → Nat → Option Nat} (h : rP ρ) : ρ 107 1 = some 110 := h.2.2.2.2.2.2.2.2.2.2.2.2.2.2.2.2.2.2.2.2.2.2.2.2.2.2.2.2.2.2.2.2.2.2.2.2.2.2.2.2.2.2.2.2.2.2.2.2.2.2.2.2.2.2.2.2.2.2.2.2.2.2.2.2.2.2.2.2.2.2.2.2.2.2.2.2.2.2.2.2.2.2.2.2.2.2.2.2.2.2.2.2.2.2.2.2.2.2.2.2.2.2.2.2.2.2.2.2.2.2.2.2.1
theorem rp_107_2 {ρ : Nat → Nat → Option Nat} (h : rP ρ) : ρ 107 2 = some 112 := h.2.2.2.2.2.2.2.2.2.2.2.2.2.2.2.2.2.2.2.2.2.2.2.2.2.2.2.2.2.2.2.2.2.2.2.2.2.2.2.2.2.2.2.2.2.2.2.2.2.2.2.2.2.2.2.2.2.2.2.2.2.2.2.2.2.2.2.2.2.2.2.2.2.2.2.2.2.2.2.2.2.2.2.2.2.2.2.2.2.2.2.2.2.2.2.2.2.2.2.2.2.2.2.2.2.2.2.2.2.2.2.2.2.1
theorem rp_107_3 {ρ : Nat → Nat → Option Nat} (h : rP ρ) : ρ 107 3 = some 113 := h.2.2.2.2.2.2.2.2.2.2.2.2.2.2.2.2.2.2.2.2.2.2.2.2.2.2.2.2.2.2.2.2.2.2.2.2.2.2.2.2.2.2.2.2.2.2.2.2.2.2.2.2.2.2.2.2.2.2.2.2.2.2.2.2.2.2.2.2.2.2.2.2.2.2.2.2.2.2.2.2.2.2.2.2.2.2.2.2.2.2.2.2.2.2.2.2.2.2.2.2.2.2.2.2.2.2.2.2.2.2.2.2.2.2.1
theorem rp_107_4 {ρ : Nat → Nat → Option Nat} (h : rP ρ) : ρ 107 4 = some 114 := h.2.2.2.2.2.2.2.2.2.2.2.2.2.2.2.2.2.2.2.2.2.2.2.2.2.2.2.2.2.2.2.2.2.2.2.2.2.2.2.2.2.2.2.2.2.2.2.2.2.2.2.2.2.2.2.2.2.2.2.2.2.2.2.2.2.2.2.2.2.2.2.2.2.2.2.2.2.2.2.2.2.2.2.2.2.2.2.2.2.2.2.2.2.2.2.2.2.2.2.2.2.2.2.2.2.2.2.2.2.2.2.2.2.2.2.1
theorem rp_107_5 {ρ : Nat → Nat → Option Nat} (h : rP ρ) : ρ 107 5 = some 115 := h.2.2.2.2.2.2.2.2.2.2.2.2.2.2.2.2.2.2.2.2.2.2.2.2.2.2.2.2.2.2.2.2.2.2.2.2.2.2.2.2.2.2.2.2.2.2.2.2.2.2.2.2.2.2.2.2.2.2.2.2.2.2.2.2.2.2.2.2.2.2.2.2.2.2.2.2.2.2.2.2.2.2.2.2.2.2.2.2.2.2.2.2.2.2.2.2.2.2.2.2.2.2.2.2.2.2.2.2.2.2.2.2.2.2.2.2.1
theorem rp_108_0 {ρ : Nat → Nat → Option Nat} (h : rP ρ) : ρ 108 0 = some 109 := h.2.2.2.2.2.2.2.2.2.2.2.2.2.2.2.2.2.2.2.2.2.2.2.2.2.2.2.2.2.2.2.2.2.2.2.2.2.2.2.2.2.2.2.2.2.2.2.2.2.2.2.2.2.2.2.2.2.2.2.2.2.2.2.2.2.2.2.2.2.2.2.2.2.2.2.2.2.2.2.2.2.2.2.2.2.2.2.2.2.2.2.2.2.2.2.2.2.2.2.2.2.2.2.2.2.2.2.2.2.2.2.2.2.2.2.2.2.1
theorem rp_110_0 {ρ : Nat → Nat → Option Nat} (h : rP ρ) : ρ 110 0 = some 111 := h.2.2.2.2.2.2.2.2.2.2.2.2.2.2.2.2.2.2.2.2.2.2.2.2.2.2.2.2.2.2.2.2.2.2.2.2.2.2.2.2.2.2.2.2.2.2.2.2.2.2.2.2.2.2.2.2.2.2.2.2.2.2.2.2.2.2.2.2.2.2.2.2.2.2.2.2.2.2.2.2.2.2.2.2.2.2.2.2.2.2.2.2.2.2.2.2.2.2.2.2.2.2.2.2.2.2.2.2.2.2.2.2.2.2.2.2.2.2.1
theorem rp_116_0 {ρ : Nat → Nat → Option Nat} (h : rP ρ) : ρ 116 0 = some 117 := h.2.2.2.2.2.2.2.2.2.2.2.2.2.2.2.2.2.2.2.2.2.2.2.2.2.2.2.2.2.2.2.2.2.2.2.2.2.2.2.2.2.2.2.2.2.2.2.2.2.2.2.2.2.2.2.2.2.2.2.2.2.2.2.2.2.2.2.2.2.2.2.2.2.2.2.2.2.2.2.2.2.2.2.2.2.2.2.2.2.2.2.2.2.2.2.2.2.2.2.2.2.2.2.2.2.2.2.2.2.2.2.2.2.2.2.2.2.2.2.1
theorem rp_116_1 {ρ : Nat → Nat → Option Nat} (h : rP ρ) : ρ 116 1 = some 119 := h.2.2.2.2.2.2.2.2.2.2.2.2.2.2.2.2.2.2.2.2.2.2.2.2.2.2.2.2.2.2.2.2.2.2.2.2.2.2.2.2.2.2.2.2.2.2.2.2.2.2.2.2.2.2.2.2.2.2.2.2.2.2.2.2.2.2.2.2.2.2.2.2.2.2.2.2.2.2.2.2.2.2.2.2.2.2.2.2.2.2.2.2.2.2.2.2.2.2.2.2.2.2.2.2.2.2.2.2.2.2.2.2.2.2.2.2.2.2.2.2.1
theorem rp_116_2 {ρ : Nat → Nat → Option Nat} (h : rP ρ) : ρ 116 2 = some 121 := h.2.2.2.2.2.2.2.2.2.2.2.2.2.2.2.2.2.2.2.2.2.2.2.2.2.2.2.2.2.2.2.2.2.2.2.2.2.2.2.2.2.2.2.2.2.2.2.2.2.2.2.2.2.2.2.2.2.2.2.2.2.2.2.2.2.2.2.2.2.2.2.2.2.2.2.2.2.2.2.2.2.2.2.2.2.2.2.2.2.2.2.2.2.2.2.2.2.2.2.2.2.2.2.2.2.2.2.2.2.2.2.2.2.2.2.2.2.2.2.2.2.1
theorem rp_116_3 {ρ : Nat → Nat → Option Nat} (h : rP ρ) : ρ 116 3 = some 122 := h.2.2.2.2.2.2.2.2.2.2.2.2.2.2.2.2.2.2.2.2.2.2.2.2.2.2.2.2.2.2.2.2.2.2.2.2.2.2.2.2.2.2.2.2.2.2.2.2.2.2.2.2.2.2.2.2.2.2.2.2.2.2.2.2.2.2.2.2.2.2.2.2.2.2.2.2.2.2.2.2.2.2.2.2.2.2.2.2.2.2.2.2.2.2.2.2.2.2.2.2.2.2.2.2.2.2.2.2.2.2.2.2.2.2.2.2.2.2.2.2.2.2.1
theorem rp_116_4 {ρ : Nat → Nat → Option Nat} (h : rP ρ) : ρ 116 4 = some 123 := h.2.2.2.2.2.2.2.2.2.2.2.2.2.2.2.2.2.2.2.2.2.2.2.2.2.2.2.2.2.2.2.2.2.2.2.2.2.2.2.2.2.2.2.2.2.2.2.2.2.2.2.2.2.2.2.2.2.2.2.2.2.2.2.2.2.2.2.2.2.2.2.2.2.2.2.2.2.2.2.2.2.2.2.2.2.2.2.2.2.2.2.2.2.2.2.2.2.2.2.2.2.2.2.2.2.2.2.2.2.2.2.2.2.2.2.2.2.2.2.2.2.2.2.1
theorem rp_116_5 {ρ : Nat → Nat → Option Nat} (h : rP ρ) : ρ 116 5 = some 124 := h.2.2.2.2.2.2.2.2.2.2.2.2.2.2.2.2.2.2.2.2.2.2.2.2.2.2.2.2.2.2.2.2.2.2.2.2.2.2.2.2.2.2.2.2.2.2.2.2.2.2.2.2.2.2.2.2.2.2.2.2.2.2.2.2.2.2.2.2.2.2.2.2.2.2.2.2.2.2.2.2.2.2.2.2.2.2.2.2.2.2.2.2.2.2.2.2.2.2.2.2.2.2.2.2.2.2.2.2.2.2.2.2.2.2.2.2.2.2.2.2.2.2.2.2.1
theorem rp_117_0 {ρ : Nat → Nat → Option Nat} (h : rP ρ) : ρ 117 0 = some 118 := h.2.2.2.2.2.2.2.2.2.2.2.2.2.2.2.2.2.2.2.2.2.2.2.2.2.2.2.2.2.2.2.2.2.2.2.2.2.2.2.2.2.2.2.2.2.2.2.2.2.2.2.2.2.2.2.2.2.2.2.2.2.2.2.2.2.2.2.2.2.2.2.2.2.2.2.2.2.2.2.2.2.2.2.2.2.2.2.2.2.2.2.2.2.2.2.2.2.2.2.2.2.2.2.2.2.2.2.2.2.2.2.2.2.2.2.2.2.2.2.2.2.2.2.2.2.1
theorem rp_119_0 {ρ : Nat → Nat → Option Nat} (h : rP ρ) : ρ 119 0 = some 120 := h.2.2.2.2.2.2.2.2.2.2.2.2.2.2.2.2.2.2.2.2.2.2.2.2.2.2.2.2.2.2.2.2.2.2.2.2.2.2.2.2.2.2.2.2.2.2.2.2.2.2.2.2.2.2.2.2.2.2.2.2.2.2.2.2.2.2.2.2.2.2.2.2.2.2.2.2.2.2.2.2.2.2.2.2.2.2.2.2.2.2.2.2.2.2.2.2.2.2.2.2.2.2.2.2.2.2.2.2.2.2.2.2.2.2.2.2.2.2.2.2.2.2.2.2.2.2.1
theorem rp_125_0 {ρ : Nat → Nat → Option Nat} (h : rP ρ) : ρ 125 0 = some 136 := h.2.2.2.2.2.2.2.2.2.2.2.2.2.2.2.2.2.2.2.2.2.2.2.2.2.2.2.2.2.2.2.2.2.2.2.2.2.2.2.2.2.2.2.2.2.2.2.2.2.2.2.2.2.2.2.2.2.2.2.2.2.2.2.2.2.2.2.2.2.2.2.2.2.2.2.2.2.2.2.2.2.2.2.2.2.2.2.2.2.2.2.2.2.2.2.2.2.2.2.2.2.2.2.2.2.2.2.2.2.2.2.2.2.2.2.2.2.2.2.2.2.2.2.2.2.2.2.1
theorem rp_125_1 {ρ : Nat → Nat → Option Nat} (h : rP ρ) : ρ 125 1 = some 138 := h.2.2.2.2.2.2.2.2.2.2.2.2.2.2.2.2.2.2.2.2.2.2.2.2.2.2.2.2.2.2.2.2.2.2.2.2.2.2.2.2.2.2.2.2.2.2.2.2.2.2.2.2.2.2.2.2.2.2.2.2.2.2.2.2.2.2.2.2.2.2.2.2.2.2.2.2.2.2.2.2.2.2.2.2.2.2.2.2.2.2.2.2.2.2.2.2.2.2.2.2.2.2.2.2.2.2.2.2.2.2.2.2.2.2.2.2.2.2.2.2.2.2.2.2.2.2.2.2.1
theorem rp_125_2 {ρ : Nat → Nat → Option Nat} (h : rP ρ) : ρ 125 2 = some 140 := h.2.2.2.2.2.2.2.2.2.2.2.2.2.2.2.2.2.2.2.2.2.2.2.2.2.2.2.2.2.2.2.2.2.2.2.2.2.2.2.2.2.2.2.2.2.2.2.2.2.2.2.2.2.2.2.2.2.2.2.2.2.2.2.2.2.2.2.2.2.2.2.2.2.2.2.2.2.2.2.2.2.2.2.2.2.2.2.2.2.2.2.2.2.2.2.2.2.2.2.2.2.2.2.2.2.2.2.2.2.2.2.2.2.2.2.2.2.2.2.2.2.2.2.2.2.2.2.2.2.1
theorem rp_125_3 {ρ : Nat → Nat → Option Nat} (h : rP ρ) : ρ 125 3 = some 142 := h.2.2.2.2.2.2.2.2.2.2.2.2.2.2.2.2.2.2.2.2.2.2.2.2.2.2.2.2.2.2.2.2.2.2.2.2.2.2.2.2.2.2.2.2.2.2.2.2.2.2.2.2.2.2.2.2.2.2.2.2.2.2.2.2.2.2.2.2.2.2.2.2.2.2.2.2.2.2.2.2.2.2.2.2.2.2.2.2.2.2.2.2.2.2.2.2.2.2.2.2.2.2.2.2.2.2.2.2.2.2.2.2.2.2.2.2.2.2.2.2.2.2.2.2.2.2.2.2.2.2.1
theorem rp_126_0 {ρ : Nat → Nat → Option Nat} (h : rP ρ) : ρ 126 0 = some 127 := h.2.2.2.2.2.2.2.2.2.2.2.2.2.2.2.2.2.2.2.2.2.2.2.2.2.2.2.2.2.2.2.2.2.2.2.2.2.2.2.2.2.2.2.2.2.2.2.2.2.2.2.2.2.2.2.2.2.2.2.2.2.2.2.2.2.2.2.2.2.2.2.2.2.2.2.2.2.2.2.2.2.2.2.2.2.2.2.2.2.2.2.2.2.2.2.2.2.2.2.2.2.2.2.2.2.2.2.2.2.2.2.2.2.2.2.2.2.2.2.2.2.2.2.2.2.2.2.2.2.2.2.1
theorem rp_126_1 {ρ : Nat → Nat → Option Nat} (h : rP ρ) : ρ 126 1 = some 128 := h.2.2.2.2.2.2.2.2.2.2.2.2.2.2.2.2.2.2.2.2.2.2.2.2.2.2.2.2.2.2.2.2.2.2.2.2.2.2.2.2.2.2.2.2.2.2.2.2.2.2.2.2.2.2.2.2.2.2.2.2.2.2.2.2.2.2.2.2.2.2.2.2.2.2.2.2.2.2.2.2.2.2.2.2.2.2.2.2.2.2.2.2.2.2.2.2.2.2.2.2.2.2.2.2.2.2.2.2.2.2.2.2.2.2.2.2.2.2.2.2.2.2.2.2.2.2.2.2.2.2.2.2.1
theorem rp_126_2 {ρ : Nat → Nat → Option Nat} (h : rP ρ) : ρ 126 2 = some 129 := h.2.2.2.2.2.2.2.2.2.2.2.2.2.2.2.2.2.2.2.2.2.2.2.2.2.2.2.2.2.2.2.2.2.2.2.2.2.2.2.2.2.2.2.2.2.2.2.2.2.2.2.2.2.2.2.2.2.2.2.2.2.2.2.2.2.2.2.2.2.2.2.2.2.2.2.2.2.2.2.2.2.2.2.2.2.2.2.2.2.2.2.2.2.2.2.2.2.2.2.2.2.2.2.2.2.2.2.2.2.2.2.2.2.2.2.2.2.2.2.2.2.2.2.2.2.2.2.2.2.2.2.2.2.1
theorem rp_126_3 {ρ : Nat → Nat → Option Nat} (h : rP ρ) : ρ 126 3 = some 130 := h.2.2.2.2.2.2.2.2.2.2.2.2.2.2.2.2.2.2.2.2.2.2.2.2.2.2.2.2.2.2.2.2.2.2.2.2.2.2.2.2.2.2.2.2.2.2.2.2.2.2.2.2.2.2.2.2.2.2.2.2.2.2.2.2.2.2.2.2.2.2.2.2.2.2.2.2.2.2.2.2.2.2.2.2.2.2.2.2.2.2.2.2.2.2.2.2.2.2.2.2.2.2.2.2.2.2.2.2.2.2.2.2.2.2.2.2.2.2.2.2.2.2.2.2.2.2.2.2.2.2.2.2.2.2.1
theorem rp_126_4 {ρ : Nat → Nat → Option Nat} (h : rP ρ) : ρ 126 4 = some 131 := h.2.2.2.2.2.2.2.2.2.2.2.2.2.2.2.2.2.2.2.2.2.2.2.2.2.2.2.2.2.2.2.2.2.2.2.2.2.2.2.2.2.2.2.2.2.2.2.2.2.2.2.2.2.2.2.2.2.2.2.2.2.2.2.2.2.2.2.2.2.2.2.2.2.2.2.2.2.2.2.2.2.2.2.2.2.2.2.2.2.2.2.2.2.2.2.2.2.2.2.2.2.2.2.2.2.2.2.2.2.2.2.2.2.2.2.2.2.2.2.2.2.2.2.2.2.2.2.2.2.2.2.2.2.2.2.1
theorem rp_126_5 {ρ : Nat → Nat → Option Nat} (h : rP ρ) : ρ 126 5 = some 132 := h.2.2.2.2.2.2.2.2.2.2.2.2.2.2.2.2.2.2.2.2.2.2.2.2.2.2.2.2.2.2.2.2.2.2.2.2.2.2.2.2.2.2.2.2.2.2.2.2.2.2.2.2.2.2.2.2.2.2.2.2.2.2.2.2.2.2.2.2.2.2.2.2.2.2.2.2.2.2.2.2.2.2.2.2.2.2.2.2.2.2.2.2.2.2.2.2.2.2.2.2.2.2.2.2.2.2.2.2.2.2.2.2.2.2.2.2.2.2.2.2.2.2.2.2.2.2.2.2.2.2.2.2.2.2.2.2.1
theorem rp_126_6 {ρ : Nat → Nat → Option Nat} (h : rP ρ) : ρ 126 6 = some 133 := h.2.2.2.2.2.2.2.2.2.2.2.2.2.2.2.2.2.2.2.2.2.2.2.2.2.2.2.2.2.2.2.2.2.2.2.2.2.2.2.2.2.2.2.2.2.2.2.2.2.2.2.2.2.2.2.2.2.2.2.2.2.2.2.2.2.2.2.2.2.2.2.2.2.2.2.2.2.2.2.2.2.2.2.2.2.2.2.2.2.2.2.2.2.2.2.2.2.2.2.2.2.2.2.2.2.2.2.2.2.2.2.2.2.2.2.2.2.2.2.2.2.2.2.2.2.2.2.2.2.2.2.2.2.2.2.2.2.1
theorem rp_126_7 {ρ : Nat → Nat → Option Nat} (h : rP ρ) : ρ 126 7 = some 135 := h.2.2.2.2.2.2.2.2.2.2.2.2.2.2.2.2.2.2.2.2.2.2.2.2.2.2.2.2.2.2.2.2.2.2.2.2.2.2.2.2.2.2.2.2.2.2.2.2.2.2.2.2.2.2.2.2.2.2.2.2.2.2.2.2.2.2.2.2.2.2.2.2.2.2.2.2.2.2.2.2.2.2.2.2.2.2.2.2.2.2.2.2.2.2.2.2.2.2.2.2.2.2.2.2.2.2.2.2.2.2.2.2.2.2.2.2.2.2.2.2.2.2.2.2.2.2.2.2.2.2.2.2.2.2.2.2.2.2.1
theorem rp_133_0 {ρ : Nat → Nat → Option Nat} (h : rP ρ) : ρ 133 0 = some 134 := h.2.2.2.2.2.2.2.2.2.2.2.2.2.2.2.2.2.2.2.2.2.2.2.2.2.2.2.2.2.2.2.2.2.2.2.2.2.2.2.2.2.2.2.2.2.2.2.2.2.2.2.2.2.2.2.2.2.2.2.2.2.2.2.2.2.2.2.2.2.2.2.2.2.2.2.2.2.2.2.2.2.2.2.2.2.2.2.2.2.2.2.2.2.2.2.2.2.2.2.2.2.2.2.2.2.2.2.2.2.2.2.2.2.2.2.2.2.2.2.2.2.2.2.2.2.2.2.2.2.2.2.2.2.2.2.2.2.2.2.1
theorem rp_136_0 {ρ : Nat → Nat → Option Nat} (h : rP ρ) : ρ 136 0 = some 137 := h.2.2.2.2.2.2.2.2.2.2.2.2.2.2.2.2.2.2.2.2.2.2.2.2.2.2.2.2.2.2.2.2.2.2.2.2.2.2.2.2.2.2.2.2.2.2.2.2.2.2.2.2.2.2.2.2.2.2.2.2.2.2.2.2.2.2.2.2.2.2.2.2.2.2.2.2.2.2.2.2.2.2.2.2.2.2.2.2.2.2.2.2.2.2.2.2.2.2.2.2.2.2.2.2.2.2.2.2.2.2.2.2.2.2.2.2.2.2.2.2.2.2.2.2.2.2.2.2.2.2.2.2.2.2.2.2.2.2.2.2.1
theorem rp_138_0 {ρ : Nat → Nat → Option Nat} (h : rP ρ) : ρ 138 0 = some 139 := h.2.2.2.2.2.2.2.2.2.2.2.2.2.2.2.2.2.2.2.2.2.2.2.2.2.2.2.2.2.2.2.2.2.2.2.2.2.2.2.2.2.2.2.2.2.2.2.2.2.2.2.2.2.2.2.2.2.2.2.2.2.2.2.2.2.2.2.2.2.2.2.2.2.2.2.2.2.2.2.2.2.2.2.2.2.2.2.2.2.2.2.2.2.2.2.2.2.2.2.2.2.2.2.2.2.2.2.2.2.2.2.2.2.2.2.2.2.2.2.2.2.2.2.2.2.2.2.2.2.2.2.2.2.2.2.2.2.2.2.2.2.1
theorem rp_140_0 {ρ : Nat → Nat → Option Nat} (h : rP ρ) : ρ 140 0 = some 141 := h.2.2.2.2.2.2.2.2.2.2.2.2.2.2.2.2.2.2.2.2.2.2.2.2.2.2.2.2.2.2.2.2.2.2.2.2.2.2.2.2.2.2.2.2.2.2.2.2.2.2.2.2.2.2.2.2.2.2.2.2.2.2.2.2.2.2.2.2.2.2.2.2.2.2.2.2.2.2.2.2.2.2.2.2.2.2.2.2.2.2.2.2.2.2.2.2.2.2.2.2.2.2.2.2.2.2.2.2.2.2.2.2.2.2.2.2.2.2.2.2.2.2.2.2.2.2.2.2.2.2.2.2.2.2.2.2.2.2.2.2.2.2.1
theorem rp_142_0 {ρ : Nat → Nat → Option Nat} (h : rP ρ) : ρ 142 0 = some 143 := h.2.2.2.2.2.2.2.2.2.2.2.2.2.2.2.2.2.2.2.2.2.2.2.2.2.2.2.2.2.2.2.2.2.2.2.2.2.2.2.2.2.2.2.2.2.2.2.2.2.2.2.2.2.2.2.2.2.2.2.2.2.2.2.2.2.2.2.2.2.2.2.2.2.2.2.2.2.2.2.2.2.2.2.2.2.2.2.2.2.2.2.2.2.2.2.2.2.2.2.2.2.2.2.2.2.2.2.2.2.2.2.2.2.2.2.2.2.2.2.2.2.2.2.2.2.2.2.2.2.2.2.2.2.2.2.2.2.2.2.2.2.2.2.1
theorem rp_144_0 {ρ : Nat → Nat → Option Nat} (h : rP ρ) : ρ 144 0 = some 145 := h.2.2.2.2.2.2.2.2.2.2.2.2.2.2.2.2.2.2.2.2.2.2.2.2.2.2.2.2.2.2.2.2.2.2.2.2.2.2.2.2.2.2.2.2.2.2.2.2.2.2.2.2.2.2.2.2.2.2.2.2.2.2.2.2.2.2.2.2.2.2.2.2.2.2.2.2.2.2.2.2.2.2.2.2.2.2.2.2.2.2.2.2.2.2.2.2.2.2.2.2.2.2.2.2.2.2.2.2.2.2.2.2.2.2.2.2.2.2.2.2.2.2.2.2.2.2.2.2.2.2.2.2.2.2.2.2.2.2.2.2.2.2.2.2.1
theorem rp_144_1 {ρ : Nat → Nat → Option Nat} (h : rP ρ) : ρ 144 1 = some 147 := h.2.2.2.2.2.2.2.2.2.2.2.2.2.2.2.2.2.2.2.2.2.2.2.2.2.2.2.2.2.2.2.2.2.2.2.2.2.2.2.2.2.2.2.2.2.2.2.2.2.2.2.2.2.2.2.2.2.2.2.2.2.2.2.2.2.2.2.2.2.2.2.2.2.2.2.2.2.2.2.2.2.2.2.2.2.2.2.2.2.2.2.2.2.2.2.2.2.2.2.2.2.2.2.2.2.2.2.2.2.2.2.2.2.2.2.2.2.2.2.2.2.2.2.2.2.2.2.2.2.2.2.2.2.2.2.2.2.2.2.2.2.2.2.2.2.1
theorem rp_144_2 {ρ : Nat → Nat → Option Nat} (h : rP ρ) : ρ 144 2 = some 166 := h.2.2.2.2.2.2.2.2.2.2.2.2.2.2.2.2.2.2.2.2.2.2.2.2.2.2.2.2.2.2.2.2.2.2.2.2.2.2.2.2.2.2.2.2.2.2.2.2.2.2.2.2.2.2.2.2.2.2.2.2.2.2.2.2.2.2.2.2.2.2.2.2.2.2.2.2.2.2.2.2.2.2.2.2.2.2.2.2.2.2.2.2.2.2.2.2.2.2.2.2.2.2.2.2.2.2.2.2.2.2.2.2.2.2.2.2.2.2.2.2.2.2.2.2.2.2.2.2.2.2.2.2.2.2.2.2.2.2.2.2.2.2.2.2.2.2.1
theorem rp_144_3 {ρ : Nat → Nat → Option Nat} (h : rP ρ) : ρ 144 3 = some 167 := h.2.2.2.2.2.2.2.2.2.2.2.2.2.2.2.2.2.2.2.2.2.2.2.2.2.2.2.2.2.2.2.2.2.2.2.2.2.2.2.2.2.2.2.2.2.2.2.2.2.2.2.2.2.2.2.2.2.2.2.2.2.2.2.2.2.2.2.2.2.2.2.2.2.2.2.2.2.2.2.2.2.2.2.2.2.2.2.2.2.2.2.2.2.2.2.2.2.2.2.2.2.2.2.2.2.2.2.2.2.2.2.2.2.2.2.2.2.2.2.2.2.2.2.2.2.2.2.2.2.2.2.2.2.2.2.2.2.2.2.2.2.2.2.2.2.2.2.1
theorem rp_145_0 {ρ : Nat → Nat → Option Nat} (h : rP ρ) : ρ 145 0 = some 146 := h.2.2.2.2.2.2.2.2.2.2.2.2.2.2.2.2.2.2.2.2.2.2.2.2.2.2.2.2.2.2.2.2.2.2.2.2.2.2.2.2.2.2.2.2.2.2.2.2.2.2.2.2.2.2.2.2.2.2.2.2.2.2.2.2.2.2.2.2.2.2.2.2.2.2.2.2.2.2.2.2.2.2.2.2.2.2.2.2.2.2.2.2.2.2.2.2.2.2.2.2.2.2.2.2.2.2.2.2.2.2.2.2.2.2.2.2.2.2.2.2.2.2.2.2.2.2.2.2.2.2.2.2.2.2.2.2.2.2.2.2.2.2.2.2.2.2.2.2.1
theorem rp_147_0 {ρ : Nat → Nat → Option Nat} (h : rP ρ) : ρ 147 0 = some 148 := h.2.2.2.2.2.2.2.2.2.2.2.2.2.2.2.2.2.2.2.2.2.2.2.2.2.2.2.2.2.2.2.2.2.2.2.2.2.2.2.2.2.2.2.2.2.2.2.2.2.2.2.2.2.2.2.2.2.2.2.2.2.2.2.2.2.2.2.2.2.2.2.2.2.2.2.2.2.2.2.2.2.2.2.2.2.2.2.2.2.2.2.2.2.2.2.2.2.2.2.2.2.2.2.2.2.2.2.2.2.2.2.2.2.2.2.2.2.2.2.2.2.2.2.2.2.2.2.2.2.2.2.2.2.2.2.2.2.2.2.2.2.2.2.2.2.2.2.2.2.1
theorem rp_147_1 {ρ : Nat → Nat → Option Nat} (h : rP ρ) : ρ 147 1 = some 157 := h.2.2.2.2.2.2.2.2.2.2.2.2.2.2.2.2.2.2.2.2.2.2.2.2.2.2.2.2.2.2.2.2.2.2.2.2.2.2.2.2.2.2.2.2.2.2.2.2.2.2.2.2.2.2.2.2.2.2.2.2.2.2.2.2.2.2.2.2.2.2.2.2.2.2.2.2.2.2.2.2.2.2.2.2.2.2.2.2.2.2.2.2.2.2.2.2.2.2.2.2.2.2.2.2.2.2.2.2.2.2.2.2.2.2.2.2.2.2.2.2.2.2.2.2.2.2.2.2.2.2.2.2.2.2.2.2.2.2.2.2.2.2.2.2.2.2.2.2.2.2.1
theorem rp_148_0 {ρ : Nat → Nat → Option Nat} (h : rP ρ) : ρ 148 0 = some 149 := h.2.2.2.2.2.2.2.2.2.2.2.2.2.2.2.2.2.2.2.2.2.2.2.2.2.2.2.2.2.2.2.2.2.2.2.2.2.2.2.2.2.2.2.2.2.2.2.2.2.2.2.2.2.2.2.2.2.2.2.2.2.2.2.2.2.2.2.2.2.2.2.2.2.2.2.2.2.2.2.2.2.2.2.2.2.2.2.2.2.2.2.2.2.2.2.2.2.2.2.2.2.2.2.2.2.2.2.2.2.2.2.2.2.2.2.2.2.2.2.2.2.2.2.2.2.2.2.2.2.2.2.2.2.2.2.2.2.2.2.2.2.2.2.2.2.2.2.2.2.2.2.1
theorem rp_148_1 {ρ : Nat → Nat → Option Nat} (h : rP ρ) : ρ 148 1 = some 151 := h.2.2.2.2.2.2.2.2.2.2.2.2.2.2.2.2.2.2.2.2.2.2.2.2.2.2.2.2.2.2.2.2.2.2.2.2.2.2.2.2.2.2.2.2.2.2.2.2.2.2.2.2.2.2.2.2.2.2.2.2.2.2.2.2.2.2.2.2.2.2.2.2.2.2.2.2.2.2.2.2.2.2.2.2.2.2.2.2.2.2.2.2.2.2.2.2.2.2.2.2.2.2.2.2.2.2.2.2.2.2.2.2.2.2.2.2.2.2.2.2.2.2.2.2.2.2.2.2.2.2.2.2.2.2.2.2.2.2.2.2.2.2.2.2.2.2.2.2.2.2.2.2.1
theorem rp_148_2 {ρ : Nat → Nat → Option Nat} (h : rP ρ) : ρ 148 2 = some 153 := h.2.2.2.2.2.2.2.2.2.2.2.2.2.2.2.2.2.2.2.2.2.2.2.2.2.2.2.2.2.2.2.2.2.2.2.2.2.2.2.2.2.2.2.2.2.2.2.2.2.2.2.2.2.2.2.2.2.2.2.2.2.2.2.2.2.2.2.2.2.2.2.2.2.2.2.2.2.2.2.2.2.2.2.2.2.2.2.2.2.2.2.2.2.2.2.2.2.2.2.2.2.2.2.2.2.2.2.2.2.2.2.2.2.2.2.2.2.2.2.2.2.2.2.2.2.2.2.2.2.2.2.2.2.2.2.2.2.2.2.2.2.2.2.2.2.2.2.2.2.2.2.2.2.1
theorem rp_148_3 {ρ : Nat → Nat → Option Nat} (h : rP ρ) : ρ 148 3 = some 154 := h.2.2.2.2.2.2.2.2.2.2.2.2.2.2.2.2.2.2.2.2.2.2.2.2.2.2.2.2.2.2.2.2.2.2.2.2.2.2.2.2.2.2.2.2.2.2.2.2.2.2.2.2.2.2.2.2.2.2.2.2.2.2.2.2.2.2.2.2.2.2.2.2.2.2.2.2.2.2.2.2.2.2.2.2.2.2.2.2.2.2.2.2.2.2.2.2.2.2.2.2.2.2.2.2.2.2.2.2.2.2.2.2.2.2.2.2.2.2.2.2.2.2.2.2.2.2.2.2.2.2.2.2.2.2.2.2.2.2.2.2.2.2.2.2.2.2.2.2.2.2.2.2.2.2.1
theorem rp_148_4 {ρ : Nat → Nat → Option Nat} (h : rP ρ) : ρ 148 4 = some 155 := h.2.2.2.2.2.2.2.2.2.2.2.2.2.2.2.2.2.2.2.2.2.2.2.2.2.2.2.2.2.2.2.2.2.2.2.2.2.2.2.2.2.2.2.2.2.2.2.2.2.2.2.2.2.2.2.2.2.2.2.2.2.2.2.2.2.2.2.2.2.2.2.2.2.2.2.2.2.2.2.2.2.2.2.2.2.2.2.2.2.2.2.2.2.2.2.2.2.2.2.2.2.2.2.2.2.2.2.2.2.2.2.2.2.2.2.2.2.2.2.2.2.2.2.2.2.2.2.2.2.2.2.2.2.2.2.2.2.2.2.2.2.2.2.2.2.2.2.2.2.2.2.2.2.2.2.1
theorem rp_148_5 {ρ : Nat → Nat → Option Nat} (h : rP ρ) : ρ 148 5 = some 156 := h.2.2.2.2.2.2.2.2.2.2.2.2.2.2.2.2.2.2.2.2.2.2.2.2.2.2.2.2.2.2.2.2.2.2.2.2.2.2.2.2.2.2.2.2.2.2.2.2.2.2.2.2.2.2.2.2.2.2.2.2.2.2.2.2.2.2.2.2.2.2.2.2.2.2.2.2.2.2.2.2.2.2.2.2.2.2.2.2.2.2.2.2.2.2.2.2.2.2.2.2.2.2.2.2.2.2.2.2.2.2.2.2.2.2.2.2.2.2.2.2.2.2.2.2.2.2.2.2.2.2.2.2.2.2.2.2.2.2.2.2.2.2.2.2.2.2.2.2.2.2.2.2.2.2.2.2.1
theorem rp_149_0 {ρ : Nat → Nat → Option Nat} (h : rP ρ) : ρ 149 0 = some 150 := h.2.2.2.2.2.2.2.2.2.2.2.2.2.2.2.2.2.2.2.2.2.2.2.2.2.2.2.2.2.2.2.2.2.2.2.2.2.2.2.2.2.2.2.2.2.2.2.2.2.2.2.2.2.2.2.2.2.2.2.2.2.2.2.2.2.2.2.2.2.2.2.2.2.2.2.2.2.2.2.2.2.2.2.2.2.2.2.2.2.2.2.2.2.2.2.2.2.2.2.2.2.2.2.2.2.2.2.2.2.2.2.2.2.2.2.2.2.2.2.2.2.2.2.2.2.2.2.2.2.2.2.2.2.2.2.2.2.2.2.2.2.2.2.2.2.2.2.2.2.2.2.2.2.2.2.2.2.1
theorem rp_151_0 {ρ : Nat → Nat → Option Nat} (h : rP ρ) : ρ 151 0 = some 152 := h.2.2.2.2.2.2.2.2.2.2.2.2.2.2.2.2.2.2.2.2.2.2.2.2.2.2.2.2.2.2.2.2.2.2.2.2.2.2.2.2.2.2.2.2.2.2.2.2.2.2.2.2.2.2.2.2.2.2.2.2.2.2.2.2.2.2.2.2.2.2.2.2.2.2.2.2.2.2.2.2.2.2.2.2.2.2.2.2.2.2.2.2.2.2.2.2.2.2.2.2.2.2.2.2.2.2.2.2.2.2.2.2.2.2.2.2.2.2.2.2.2.2.2.2.2.2.2.2.2.2.2.2.2.2.2.2.2.2.2.2.2.2.2.2.2.2.2.2.2.2.2.2.2.2.2.2.2.2.1
theorem rp_157_0 {ρ : Nat → Nat → Option Nat} (h : rP ρ) : ρ 157 0 = some 158 := h.2.2.2.2.2.2.2.2.2.2.2.2.2.2.2.2.2.2.2.2.2.2.2.2.2.2.2.2.2.2.2.2.2.2.2.2.2.2.2.2.2.2.2.2.2.2.2.2.2.2.2.2.2.2.2.2.2.2.2.2.2.2.2.2.2.2.2.2.2.2.2.2.2.2.2.2.2.2.2.2.2.2.2.2.2.2.2.2.2.2.2.2.2.2.2.2.2.2.2.2.2.2.2.2.2.2.2.2.2.2.2.2.2.2.2.2.2.2.2.2.2.2.2.2.2.2.2.2.2.2.2.2.2.2.2.2.2.2.2.2.2.2.2.2.2.2.2.2.2.2.2.2.2.2.2.2.2.2.2.1
theorem rp_157_1 {ρ : Nat → Nat → Option Nat} (h : rP ρ) : ρ 157 1 = some 160 := h.2.2.2.2.2.2.2.2.2.2.2.2.2.2.2.2.2.2.2.2.2.2.2.2.2.2.2.2.2.2.2.2.2.2.2.2.2.2.2.2.2.2.2.2.2.2.2.2.2.2.2.2.2.2.2.2.2.2.2.2.2.2.2.2.2.2.2.2.2.2.2.2.2.2.2.2.2.2.2.2.2.2.2.2.2.2.2.2.2.2.2.2.2.2.2.2.2.2.2.2.2.2.2.2.2.2.2.2.2.2.2.2.2.2.2.2.2.2.2.2.2.2.2.2.2.2.2.2.2.2.2.2.2.2.2.2.2.2.2.2.2.2.2.2.2.2.2.2.2.2.2.2.2.2.2.2.2.2.2.2.1
theorem rp_157_2 {ρ : Nat → Nat → Option Nat} (h : rP ρ) : ρ 157 2 = some 162 := h.2.2.2.2.2.2.2.2.2.2.2.2.2.2.2.2.2.2.2.2.2.2.2.2.2.2.2.2.2.2.2.2.2.2.2.2.2.2.2.2.2.2.2.2.2.2.2.2.2.2.2.2.2.2.2.2.2.2.2.2.2.2.2.2.2.2.2.2.2.2.2.2.2.2.2.2.2.2.2.2.2.2.2.2.2.2.2.2.2.2.2.2.2.2.2.2.2.2.2.2.2.2.2.2.2.2.2.2.2.2.2.2.2.2.2.2.2.2.2.2.2.2.2.2.2.2.2.2.2.2.2.2.2.2.2.2.2.2.2.2.2.2.2.2.2.2.2.2.2.2.2.2.2.2.2.2.2.2.2.2.2.1
theorem rp_157_3 {ρ : Nat → Nat → Option Nat} (h : rP ρ) : ρ 157 3 = some 163 := h.2.2.2.2.2.2.2.2.2.2.2.2.2.2.2.2.2.2.2.2.2.2.2.2.2.2.2.2.2.2.2.2.2.2.2.2.2.2.2.2.2.2.2.2.2.2.2.2.2.2.2.2.2.2.2.2.2.2.2.2.2.2.2.2.2.2.2.2.2.2.2.2.2.2.2.2.2.2.2.2.2.2.2.2.2.2.2.2.2.2.2.2.2.2.2.2.2.2.2.2.2.2.2.2.2.2.2.2.2.2.2.2.2.2.2.2.2.2.2.2.2.2.2.2.2.2.2.2.2.2.2.2.2.2.2.2.2.2.2.2.2.2.2.2.2.2.2.2.2.2.2.2.2.2.2.2.2.2.2.2.2.2.1
theorem rp_157_4 {ρ : Nat → Nat → Option Nat} (h : rP ρ) : ρ 157 4 = some 164 := h.2.2.2.2.2.2.2.2.2.2.2.2.2.2.2.2.2.2.2.2.2.2.2.2.2.2.2.2.2.2.2.2.2.2.2.2.2.2.2.2.2.2.2.2.2.2.2.2.2.2.2.2.2.2.2.2.2.2.2.2.2.2.2.2.2.2.2.2.2.2.2.2.2.2.2.2.2.2.2.2.2.2.2.2.2.2.2.2.2.2.2.2.2.2.2.2.2.2.2.2.2.2.2.2.2.2.2.2.2.2.2.2.2.2.2.2.2.2.2.2.2.2.2.2.2.2.2.2.2.2.2.2.2.2.2.2.2.2.2.2.2.2.2.2.2.2.2.2.2.2.2.2.2.2.2.2.2.2.2.2.2.2.2.1
theorem rp_157_5 {ρ : Nat → Nat → Option Nat} (h : rP ρ) : ρ 157 5 = some 165 := h.2.2.2.2.2.2.2.2.2.2.2.2.2.2.2.2.2.2.2.2.2.2.2.2.2.2.2.2.2.2.2.2.2.2.2.2.2.2.2.2.2.2.2.2.2.2.2.2.2.2.2.2.2.2.2.2.2.2.2.2.2.2.2.2.2.2.2.2.2.2.2.2.2.2.2.2.2.2.2.2.2.2.2.2.2.2.2.2.2.2.2.2.2.2.2.2.2.2.2.2.2.2.2.2.2.2.2.2.2.2.2.2.2.2.2.2.2.2.2.2.2.2.2.2.2.2.2.2.2.2.2.2.2.2.2.2.2.2.2.2.2.2.2.2.2.2.2.2.2.2.2.2.2.2.2.2.2.2.2.2.2.2.2.2.1
theorem rp_158_0 {ρ : Nat → Nat → Option Nat} (h : rP ρ) : ρ 158 0 = some 159 := h.2.2.2.2.2.2.2.2.2.2.2.2.2.2.2.2.2.2.2.2.2.2.2.2.2.2.2.2.2.2.2.2.2.2.2.2.2.2.2.2.2.2.2.2.2.2.2.2.2.2.2.2.2.2.2.2.2.2.2.2.2.2.2.2.2.2.2.2.2.2.2.2.2.2.2.2.2.2.2.2.2.2.2.2.2.2.2.2.2.2.2.2.2.2.2.2.2.2.2.2.2.2.2.2.2.2.2.2.2.2.2.2.2.2.2.2.2.2.2.2.2.2.2.2.2.2.2.2.2.2.2.2.2.2.2.2.2.2.2.2.2.2.2.2.2.2.2.2.2.2.2.2.2.2.2.2.2.2.2.2.2.2.2.2.2.1
theorem rp_160_0 {ρ : Nat → Nat → Option Nat} (h : rP ρ) : ρ 160 0 = some 161 := h.2.2.2.2.2.2.2.2.2.2.2.2.2.2.2.2.2.2.2.2.2.2.2.2.2.2.2.2.2.2.2.2.2.2.2.2.2.2.2.2.2.2.2.2.2.2.2.2.2.2.2.2.2.2.2.2.2.2.2.2.2.2.2.2.2.2.2.2.2.2.2.2.2.2.2.2.2.2.2.2.2.2.2.2.2.2.2.2.2.2.2.2.2.2.2.2.2.2.2.2.2.2.2.2.2.2.2.2.2.2.2.2.2.2.2.2.2.2.2.2.2.2.2.2.2.2.2.2.2.2.2.2.2.2.2.2.2.2.2.2.2.2.2.2.2.2.2.2.2.2.2.2.2.2.2.2.2.2.2.2.2.2.2.2.2.2.1
theorem rp_166_0 {ρ : Nat → Nat → Option Nat} (h : rP ρ) : ρ 166 0 = some 177 := h.2.2.2.2.2.2.2.2.2.2.2.2.2.2.2.2.2.2.2.2.2.2.2.2.2.2.2.2.2.2.2.2.2.2.2.2.2.2.2.2.2.2.2.2.2.2.2.2.2.2.2.2.2.2.2.2.2.2.2.2.2.2.2.2.2.2.2.2.2.2.2.2.2.2.2.2.2.2.2.2.2.2.2.2.2.2.2.2.2.2.2.2.2.2.2.2.2.2.2.2.2.2.2.2.2.2.2.2.2.2.2.2.2.2.2.2.2.2.2.2.2.2.2.2.2.2.2.2.2.2.2.2.2.2.2.2.2.2.2.2.2.2.2.2.2.2.2.2.2.2.2.2.2.2.2.2.2.2.2.2.2.2.2.2.2.2.2.1
theorem rp_166_1 {ρ : Nat → Nat → Option Nat} (h : rP ρ) : ρ 166 1 = some 179 := h.2.2.2.2.2.2.2.2.2.2.2.2.2.2.2.2.2.2.2.2.2.2.2.2.2.2.2.2.2.2.2.2.2.2.2.2.2.2.2.2.2.2.2.2.2.2.2.2.2.2.2.2.2.2.2.2.2.2.2.2.2.2.2.2.2.2.2.2.2.2.2.2.2.2.2.2.2.2.2.2.2.2.2.2.2.2.2.2.2.2.2.2.2.2.2.2.2.2.2.2.2.2.2.2.2.2.2.2.2.2.2.2.2.2.2.2.2.2.2.2.2.2.2.2.2.2.2.2.2.2.2.2.2.2.2.2.2.2.2.2.2.2.2.2.2.2.2.2.2.2.2.2.2.2.2.2.2.2.2.2.2.2.2.2.2.2.2.2.1
theorem rp_166_2 {ρ : Nat → Nat → Option Nat} (h : rP ρ) : ρ 166 2 = some 181 := h.2.2.2.2.2.2.2.2.2.2.2.2.2.2.2.2.2.2.2.2.2.2.2.2.2.2.2.2.2.2.2.2.2.2.2.2.2.2.2.2.2.2.2.2.2.2.2.2.2.2.2.2.2.2.2.2.2.2.2.2.2.2.2.2.2.2.2.2.2.2.2.2.2.2.2.2.2.2.2.2.2.2.2.2.2.2.2.2.2.2.2.2.2.2.2.2.2.2.2.2.2.2.2.2.2.2.2.2.2.2.2.2.2.2.2.2.2.2.2.2.2.2.2.2.2.2.2.2.2.2.2.2.2.2.2.2.2.2.2.2.2.2.2.2.2.2.2.2.2.2.2.2.2.2.2.2.2.2.2.2.2.2.2.2.2.2.2.2.2.1
theorem rp_166_3 {ρ : Nat → Nat → Option Nat} (h : rP ρ) : ρ 166 3 = some 183 := h.2.2.2.2.2.2.2.2.2.2.2.2.2.2.2.2.2.2.2.2.2.2.2.2.2.2.2.2.2.2.2.2.2.2.2.2.2.2.2.2.2.2.2.2.2.2.2.2.2.2.2.2.2.2.2.2.2.2.2.2.2.2.2.2.2.2.2.2.2.2.2.2.2.2.2.2.2.2.2.2.2.2.2.2.2.2.2.2.2.2.2.2.2.2.2.2.2.2.2.2.2.2.2.2.2.2.2.2.2.2.2.2.2.2.2.2.2.2.2.2.2.2.2.2.2.2.2.2.2.2.2.2.2.2.2.2.2.2.2.2.2.2.2.2.2.2.2.2.2.2.2.2.2.2.2.2.2.2.2.2.2.2.2.2.2.2.2.2.2.2.1
theorem rp_167_0 {ρ : Nat → Nat → Option Nat} (h : rP ρ) : ρ 167 0 = some 168 := h.2.2.2.2.2.2.2.2.2.2.2.2.2.2.2.2.2.2.2.2.2.2.2.2.2.2.2.2.2.2.2.2.2.2.2.2.2.2.2.2.2.2.2.2.2.2.2.2.2.2.2.2.2.2.2.2.2.2.2.2.2.2.2.2.2.2.2.2.2.2.2.2.2.2.2.2.2.2.2.2.2.2.2.2.2.2.2.2.2.2.2.2.2.2.2.2.2.2.2.2.2.2.2.2.2.2.2.2.2.2.2.2.2.2.2.2.2.2.2.2.2.2.2.2.2.2.2.2.2.2.2.2.2.2.2.2.2.2.2.2.2.2.2.2.2.2.2.2.2.2.2.2.2.2.2.2.2.2.2.2.2.2.2.2.2.2.2.2.2.2.2.1
theorem rp_167_1 {ρ : Nat → Nat → Option Nat} (h : rP ρ) : ρ 167 1 = some 169 := h.2.2.2.2.2.2.2.2.2.2.2.2.2.2.2.2.2.2.2.2.2.2.2.2.2.2.2.2.2.2.2.2.2.2.2.2.2.2.2.2.2.2.2.2.2.2.2.2.2.2.2.2.2.2.2.2.2.2.2.2.2.2.2.2.2.2.2.2.2.2.2.2.2.2.2.2.2.2.2.2.2.2.2.2.2.2.2.2.2.2.2.2.2.2.2.2.2.2.2.2.2.2.2.2.2.2.2.2.2.2.2.2.2.2.2.2.2.2.2.2.2.2.2.2.2.2.2.2.2.2.2.2.2.2.2.2.2.2.2.2.2.2.2.2.2.2.2.2.2.2.2.2.2.2.2.2.2.2.2.2.2.2.2.2.2.2.2.2.2.2.2.2.1
theorem rp_167_2 {ρ : Nat → Nat → Option Nat} (h : rP ρ) : ρ 167 2 = some 170 := h.2.2.2.2.2.2.2.2.2.2.2.2.2.2.2.2.2.2.2.2.2.2.2.2.2.2.2.2.2.2.2.2.2.2.2.2.2.2.2.2.2.2.2.2.2.2.2.2.2.2.2.2.2.2.2.2.2.2.2.2.2.2.2.2.2.2.2.2.2.2.2.2.2.2.2.2.2.2.2.2.2.2.2.2.2.2.2.2.2.2.2.2.2.2.2.2.2.2.2.2.2.2.2.2.2.2.2.2.2.2.2.2.2.2.2.2.2.2.2.2.2.2.2.2.2.2.2.2.2.2.2.2.2.2.2.2.2.2.2.2.2.2.2.2.2.2.2.2.2.2.2.2.2.2.2.2.2.2.2.2.2.2.2.2.2.2.2.2.2.2.2.2.2.1
theorem rp_167_3 {ρ : Nat → Nat → Option Nat} (h : rP ρ) : ρ 167 3 = some 171 := h.2.2.2.2.2.2.2.2.2.2.2.2.2.2.2.2.2.2.2.2.2.2.2.2.2.2.2.2.2.2.2.2.2.2.2.2.2.2.2.2.2.2.2.2.2.2.2.2.2.2.2.2.2.2.2.2.2.2.2.2.2.2.2.2.2.2.2.2.2.2.2.2.2.2.2.2.2.2.2.2.2.2.2.2.2.2.2.2.2.2.2.2.2.2.2.2.2.2.2.2.2.2.2.2.2.2.2.2.2.2.2.2.2.2.2.2.2.2.2.2.2.2.2.2.2.2.2.2.2.2.2.2.2.2.2.2.2.2.2.2.2.2.2.2.2.2.2.2.2.2.2.2.2.2.2.2.2.2.2.2.2.2.2.2.2.2.2.2.2.2.2.2.2.2.1
theorem rp_167_4 {ρ : Nat → Nat → Option Nat} (h : rP ρ) : ρ 167 4 = some 172 := h.2.2.2.2.2.2.2.2.2.2.2.2.2.2.2.2.2.2.2.2.2.2.2.2.2.2.2.2.2.2.2.2.2.2.2.2.2.2.2.2.2.2.2.2.2.2.2.2.2.2.2.2.2.2.2.2.2.2.2.2.2.2.2.2.2.2.2.2.2.2.2.2.2.2.2.2.2.2.2.2.2.2.2.2.2.2.2.2.2.2.2.2.2.2.2.2.2.2.2.2.2.2.2.2.2.2.2.2.2.2.2.2.2.2.2.2.2.2.2.2.2.2.2.2.2.2.2.2.2.2.2.2.2.2.2.2.2.2.2.2.2.2.2.2.2.2.2.2.2.2.2.2.2.2.2.2.2.2.2.2.2.2.2.2.2.2.2.2.2.2.2.2.2.2.2.1
theorem rp_167_5 {ρ : Nat → Nat → Option Nat} (h : rP ρ) : ρ 167 5 = some 173 := h.2.2.2.2.2.2.2.2.2.2.2.2.2.2.2.2.2.2.2.2.2.2.2.2.2.2.2.2.2.2.2.2.2.2.2.2.2.2.2.2.2.2.2.2.2.2.2.2.2.2.2.2.2.2.2.2.2.2.2.2.2.2.2.2.2.2.2.2.2.2.2.2.2.2.2.2.2.2.2.2.2.2.2.2.2.2.2.2.2.2.2.2.2.2.2.2.2.2.2.2.2.2.2.2.2.2.2.2.2.2.2.2.2.2.2.2.2.2.2.2.2.2.2.2.2.2.2.2.2.2.2.2.2.2.2.2.2.2.2.2.2.2.2.2.2.2.2.2.2.2.2.2.2.2.2.2.2.2.2.2.2.2.2.2.2.2.2.2.2.2.2.2.2.2.2.2.1
theorem rp_167_6 {ρ : Nat → Nat → Option Nat} (h : rP ρ) : ρ 167 6 = some 174 := h.2.2.2.2.2.2.2.2.2.2.2.2.2.2.2.2.2.2.2.2.2.2.2.2.2.2.2.2.2.2.2.2.2.2.2.2.2.2.2.2.2.2.2.2.2.2.2.2.2.2.2.2.2.2.2.2.2.2.2.2.2.2.2.2.2.2.2.2.2.2.2.2.2.2.2.2.2.2.2.2.2.2.2.2.2.2.2.2.2.2.2.2.2.2.2.2.2.2.2.2.2.2.2.2.2.2.2.2.2.2.2.2.2.2.2.2.2.2.2.2.2.2.2.2.2.2.2.2.2.2.2.2.2.2.2.2.2.2.2.2.2.2.2.2.2.2.2.2.2.2.2.2.2.2.2.2.2.2.2.2.2.2.2.2.2.2.2.2.2.2.2.2.2.2.2.2.2.1
theorem rp_167_7 {ρ : Nat → Nat → Option Nat} (h : rP ρ) : ρ 167 7 = some 176 := h.2.2.2.2.2.2.2.2.2.2.2.2.2.2.2.2.2.2.2.2.2.2.2.2.2.2.2.2.2.2.2.2.2.2.2.2.2.2.2.2.2.2.2.2.2.2.2.2.2.2.2.2.2.2.2.2.2.2.2.2.2.2.2.2.2.2.2.2.2.2.2.2.2.2.2.2.2.2.2.2.2.2.2.2.2.2.2.2.2.2.2.2.2.2.2.2.2.2.2.2.2.2.2.2.2.2.2.2.2.2.2.2.2.2.2.2.2.2.2.2.2.2.2.2.2.2.2.2.2.2.2.2.2.2.2.2.2.2.2.2.2.2.2.2.2.2.2.2.2.2.2.2.2.2.2.2.2.2.2.2.2.2.2.2.2.2.2.2.2.2.2.2.2.2.2.2.2.2.1
theorem rp_174_0 {ρ : Nat → Nat → Option Nat} (h : rP ρ) : ρ 174 0 = some 175 := h.2.2.2.2.2.2.2.2.2.2.2.2.2.2.2.2.2.2.2.2.2.2.2.2.2.2.2.2.2.2.2.2.2.2.2.2.2.2.2.2.2.2.2.2.2.2.2.2.2.2.2.2.2.2.2.2.2.2.2.2.2.2.2.2.2.2.2.2.2.2.2.2.2.2.2.2.2.2.2.2.2.2.2.2.2.2.2.2.2.2.2.2.2.2.2.2.2.2.2.2.2.2.2.2.2.2.2.2.2.2.2.2.2.2.2.2.2.2.2.2.2.2.2.2.2.2.2.2.2.2.2.2.2.2.2.2.2.2.2.2.2.2.2.2.2.2.2.2.2.2.2.2.2.2.2.2.2.2.2.2.2.2.2.2.2.2.2.2.2.2.2.2.2.2.2.2.2.2.2.1
theorem rp_177_0 {ρ : Nat → Nat → Option Nat} (h : rP ρ) : ρ 177 0 = some 178 := h.2.2.2.2.2.2.2.2.2.2.2.2.2.2.2.2.2.2.2.2.2.2.2.2.2.2.2.2.2.2.2.2.2.2.2.2.2.2.2.2.2.2.2.2.2.2.2.2.2.2.2.2.2.2.2.2.2.2.2.2.2.2.2.2.2.2.2.2.2.2.2.2.2.2.2.2.2.2.2.2.2.2.2.2.2.2.2.2.2.2.2.2.2.2.2.2.2.2.2.2.2.2.2.2.2.2.2.2.2.2.2.2.2.2.2.2.2.2.2.2.2.2.2.2.2.2.2.2.2.2.2.2.2.2.2.2.2.2.2.2.2.2.2.2.2.2.2.2.2.2.2.2.2.2.2.2.2.2.2.2.2.2.2.2.2.2.2.2.2.2.2.2.2.2.2.2.2.2.2.2.1
theorem rp_179_0 {ρ : Nat → Nat → Option Nat} (h : rP ρ) : ρ 179 0 = some 180 := h.2.2.2.2.2.2.2.2.2.2.2.2.2.2.2.2.2.2.2.2.2.2.2.2.2.2.2.2.2.2.2.2.2.2.2.2.2.2.2.2.2.2.2.2.2.2.2.2.2.2.2.2.2.2.2.2.2.2.2.2.2.2.2.2.2.2.2.2.2.2.2.2.2.2.2.2.2.2.2.2.2.2.2.2.2.2.2.2.2.2.2.2.2.2.2.2.2.2.2.2.2.2.2.2.2.2.2.2.2.2.2.2.2.2.2.2.2.2.2.2.2.2.2.2.2.2.2.2.2.2.2.2.2.2.2.2.2.2.2.2.2.2.2.2.2.2.2.2.2.2.2.2.2.2.2.2.2.2.2.2.2.2.2.2.2.2.2.2.2.2.2.2.2.2.2.2.2.2.2.2.2.1
theorem rp_181_0 {ρ : Nat → Nat → Option Nat} (h : rP ρ) : ρ 181 0 = some 182 := h.2.2.2.2.2.2.2.2.2.2.2.2.2.2.2.2.2.2.2.2.2.2.2.2.2.2.2.2.2.2.2.2.2.2.2.2.2.2.2.2.2.2.2.2.2.2.2.2.2.2.2.2.2.2.2.2.2.2.2.2.2.2.2.2.2.2.2.2.2.2.2.2.2.2.2.2.2.2.2.2.2.2.2.2.2.2.2.2.2.2.2.2.2.2.2.2.2.2.2.2.2.2.2.2.2.2.2.2.2.2.2.2.2.2.2.2.2.2.2.2.2.2.2.2.2.2.2.2.2.2.2.2.2.2.2.2.2.2.2.2.2.2.2.2.2.2.2.2.2.2.2.2.2.2.2.2.2.2.2.2.2.2.2.2.2.2.2.2.2.2.2.2.2.2.2.2.2.2.2.2.2.2.1
theorem rp_183_0 {ρ : Nat → Nat → Option Nat} (h : rP ρ) : ρ 183 0 = some 184 := h.2.2.2.2.2.2.2.2.2.2.2.2.2.2.2.2.2.2.2.2.2.2.2.2.2.2.2.2.2.2.2.2.2.2.2.2.2.2.2.2.2.2.2.2.2.2.2.2.2.2.2.2.2.2.2.2.2.2.2.2.2.2.2.2.2.2.2.2.2.2.2.2.2.2.2.2.2.2.2.2.2.2.2.2.2.2.2.2.2.2.2.2.2.2.2.2.2.2.2.2.2.2.2.2.2.2.2.2.2.2.2.2.2.2.2.2.2.2.2.2.2.2.2.2.2.2.2.2.2.2.2.2.2.2.2.2.2.2.2.2.2.2.2.2.2.2.2.2.2.2.2.2.2.2.2.2.2.2.2.2.2.2.2.2.2.2.2.2.2.2.2.2.2.2.2.2.2.2.2.2.2.2.2
