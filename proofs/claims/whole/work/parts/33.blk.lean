def zIsR (t : Int) : Prop := t = 30 ∨ t = 50
def zIsL (t : Int) : Prop := t = 70 ∨ t = 74
def zIsP (t : Int) : Prop := t = 78 ∨ t = 84 ∨ t = 95 ∨ t = 101 ∨ t = 107
def zIsB (t : Int) : Prop := t = 90 ∨ t = 92
theorem zo_1 : (zK 1).1 = 9 ∧ ((zK 1).2 : Int) = 18 := ⟨rfl, rfl⟩
theorem zo_2 : (zK 2).1 = 8 ∧ ((zK 2).2 : Int) = 7 := ⟨rfl, rfl⟩
theorem zo_3 : (zK 3).1 = 51 ∧ ((zK 3).2 : Int) = 600 := ⟨rfl, rfl⟩
theorem zo_4 : (zK 4).1 = 1 ∧ ((zK 4).2 : Int) = 12 := ⟨rfl, rfl⟩
theorem zo_5 : (zK 5).1 = 50 ∧ ((zK 5).2 : Int) = 12 := ⟨rfl, rfl⟩
theorem zo_6 : (zK 6).1 = 50 ∧ ((zK 6).2 : Int) = 4 := ⟨rfl, rfl⟩
theorem zo_7 : (zK 7).1 = 50 ∧ ((zK 7).2 : Int) = 12 := ⟨rfl, rfl⟩
theorem zo_8 : (zK 8).1 = 50 ∧ ((zK 8).2 : Int) = 12 := ⟨rfl, rfl⟩
theorem zo_9 : (zK 9).1 = 50 ∧ ((zK 9).2 : Int) = 4 := ⟨rfl, rfl⟩
theorem zo_10 : (zK 10).1 = 50 ∧ ((zK 10).2 : Int) = 4 := ⟨rfl, rfl⟩
theorem zo_11 : (zK 11).1 = 7 ∧ ((zK 11).2 : Int) = 11 := ⟨rfl, rfl⟩
theorem zo_12 : (zK 12).1 = 50 ∧ ((zK 12).2 : Int) = 5 := ⟨rfl, rfl⟩
theorem zo_13 : (zK 13).1 = 50 ∧ ((zK 13).2 : Int) = 5 := ⟨rfl, rfl⟩
theorem zo_14 : (zK 14).1 = 50 ∧ ((zK 14).2 : Int) = 5 := ⟨rfl, rfl⟩
theorem zo_15 : (zK 15).1 = 50 ∧ ((zK 15).2 : Int) = 12 := ⟨rfl, rfl⟩
theorem zo_16 : (zK 16).1 = 54 ∧ ((zK 16).2 : Int) = 6 := ⟨rfl, rfl⟩
theorem zo_17 : (zK 17).1 = 50 ∧ ((zK 17).2 : Int) = 4 := ⟨rfl, rfl⟩
theorem zo_18 : (zK 18).1 = 50 ∧ ((zK 18).2 : Int) = 4 := ⟨rfl, rfl⟩
theorem zo_19 : (zK 19).1 = 50 ∧ ((zK 19).2 : Int) = 4 := ⟨rfl, rfl⟩
theorem zo_20 : (zK 20).1 = 50 ∧ ((zK 20).2 : Int) = 4 := ⟨rfl, rfl⟩
theorem zo_21 : (zK 21).1 = 50 ∧ ((zK 21).2 : Int) = 4 := ⟨rfl, rfl⟩
theorem zo_22 : (zK 22).1 = 50 ∧ ((zK 22).2 : Int) = 4 := ⟨rfl, rfl⟩
theorem zo_23 : (zK 23).1 = 50 ∧ ((zK 23).2 : Int) = 6 := ⟨rfl, rfl⟩
theorem zo_24 : (zK 24).1 = 50 ∧ ((zK 24).2 : Int) = 6 := ⟨rfl, rfl⟩
theorem zo_25 : (zK 25).1 = 50 ∧ ((zK 25).2 : Int) = 4 := ⟨rfl, rfl⟩
theorem zo_26 : (zK 26).1 = 5 ∧ ((zK 26).2 : Int) = 2 := ⟨rfl, rfl⟩
theorem zo_27 : (zK 27).1 = 50 ∧ ((zK 27).2 : Int) = 100 := ⟨rfl, rfl⟩
theorem zo_28 : (zK 28).1 = 50 ∧ ((zK 28).2 : Int) = 100 := ⟨rfl, rfl⟩
theorem zo_29 : (zK 29).1 = 2 ∧ ((zK 29).2 : Int) = 2 := ⟨rfl, rfl⟩
theorem zo_30 : (zK 30).1 = 6 ∧ ((zK 30).2 : Int) = 13 := ⟨rfl, rfl⟩
theorem zo_31 : (zK 31).1 = 50 ∧ ((zK 31).2 : Int) = 12 := ⟨rfl, rfl⟩
theorem zo_32 : (zK 32).1 = 50 ∧ ((zK 32).2 : Int) = 242 := ⟨rfl, rfl⟩
theorem zo_33 : (zK 33).1 = 50 ∧ ((zK 33).2 : Int) = 6 := ⟨rfl, rfl⟩
theorem zo_34 : (zK 34).1 = 50 ∧ ((zK 34).2 : Int) = 8 := ⟨rfl, rfl⟩
theorem zo_35 : (zK 35).1 = 50 ∧ ((zK 35).2 : Int) = 4 := ⟨rfl, rfl⟩
theorem zo_36 : (zK 36).1 = 50 ∧ ((zK 36).2 : Int) = 60 := ⟨rfl, rfl⟩
theorem zo_37 : (zK 37).1 = 54 ∧ ((zK 37).2 : Int) = 7 := ⟨rfl, rfl⟩
theorem zo_38 : (zK 38).1 = 50 ∧ ((zK 38).2 : Int) = 12 := ⟨rfl, rfl⟩
theorem zo_39 : (zK 39).1 = 50 ∧ ((zK 39).2 : Int) = 12 := ⟨rfl, rfl⟩
theorem zo_40 : (zK 40).1 = 50 ∧ ((zK 40).2 : Int) = 12 := ⟨rfl, rfl⟩
theorem zo_41 : (zK 41).1 = 50 ∧ ((zK 41).2 : Int) = 12 := ⟨rfl, rfl⟩
theorem zo_42 : (zK 42).1 = 50 ∧ ((zK 42).2 : Int) = 12 := ⟨rfl, rfl⟩
theorem zo_43 : (zK 43).1 = 50 ∧ ((zK 43).2 : Int) = 12 := ⟨rfl, rfl⟩
theorem zo_44 : (zK 44).1 = 50 ∧ ((zK 44).2 : Int) = 12 := ⟨rfl, rfl⟩
theorem zo_45 : (zK 45).1 = 54 ∧ ((zK 45).2 : Int) = 4 := ⟨rfl, rfl⟩
theorem zo_46 : (zK 46).1 = 50 ∧ ((zK 46).2 : Int) = 4 := ⟨rfl, rfl⟩
theorem zo_47 : (zK 47).1 = 50 ∧ ((zK 47).2 : Int) = 4 := ⟨rfl, rfl⟩
theorem zo_48 : (zK 48).1 = 50 ∧ ((zK 48).2 : Int) = 4 := ⟨rfl, rfl⟩
theorem zo_49 : (zK 49).1 = 50 ∧ ((zK 49).2 : Int) = 4 := ⟨rfl, rfl⟩
theorem zo_50 : (zK 50).1 = 6 ∧ ((zK 50).2 : Int) = 13 := ⟨rfl, rfl⟩
theorem zo_51 : (zK 51).1 = 50 ∧ ((zK 51).2 : Int) = 12 := ⟨rfl, rfl⟩
theorem zo_52 : (zK 52).1 = 50 ∧ ((zK 52).2 : Int) = 242 := ⟨rfl, rfl⟩
theorem zo_53 : (zK 53).1 = 50 ∧ ((zK 53).2 : Int) = 6 := ⟨rfl, rfl⟩
theorem zo_54 : (zK 54).1 = 50 ∧ ((zK 54).2 : Int) = 8 := ⟨rfl, rfl⟩
theorem zo_55 : (zK 55).1 = 50 ∧ ((zK 55).2 : Int) = 4 := ⟨rfl, rfl⟩
theorem zo_56 : (zK 56).1 = 50 ∧ ((zK 56).2 : Int) = 60 := ⟨rfl, rfl⟩
theorem zo_57 : (zK 57).1 = 54 ∧ ((zK 57).2 : Int) = 7 := ⟨rfl, rfl⟩
theorem zo_58 : (zK 58).1 = 50 ∧ ((zK 58).2 : Int) = 12 := ⟨rfl, rfl⟩
theorem zo_59 : (zK 59).1 = 50 ∧ ((zK 59).2 : Int) = 12 := ⟨rfl, rfl⟩
theorem zo_60 : (zK 60).1 = 50 ∧ ((zK 60).2 : Int) = 12 := ⟨rfl, rfl⟩
theorem zo_61 : (zK 61).1 = 50 ∧ ((zK 61).2 : Int) = 12 := ⟨rfl, rfl⟩
theorem zo_62 : (zK 62).1 = 50 ∧ ((zK 62).2 : Int) = 12 := ⟨rfl, rfl⟩
theorem zo_63 : (zK 63).1 = 50 ∧ ((zK 63).2 : Int) = 12 := ⟨rfl, rfl⟩
theorem zo_64 : (zK 64).1 = 50 ∧ ((zK 64).2 : Int) = 12 := ⟨rfl, rfl⟩
theorem zo_65 : (zK 65).1 = 54 ∧ ((zK 65).2 : Int) = 4 := ⟨rfl, rfl⟩
theorem zo_66 : (zK 66).1 = 50 ∧ ((zK 66).2 : Int) = 4 := ⟨rfl, rfl⟩
theorem zo_67 : (zK 67).1 = 50 ∧ ((zK 67).2 : Int) = 4 := ⟨rfl, rfl⟩
theorem zo_68 : (zK 68).1 = 50 ∧ ((zK 68).2 : Int) = 4 := ⟨rfl, rfl⟩
theorem zo_69 : (zK 69).1 = 50 ∧ ((zK 69).2 : Int) = 4 := ⟨rfl, rfl⟩
theorem zo_70 : (zK 70).1 = 3 ∧ ((zK 70).2 : Int) = 4 := ⟨rfl, rfl⟩
theorem zo_71 : (zK 71).1 = 50 ∧ ((zK 71).2 : Int) = 150 := ⟨rfl, rfl⟩
theorem zo_72 : (zK 72).1 = 50 ∧ ((zK 72).2 : Int) = 150 := ⟨rfl, rfl⟩
theorem zo_73 : (zK 73).1 = 50 ∧ ((zK 73).2 : Int) = 6 := ⟨rfl, rfl⟩
theorem zo_74 : (zK 74).1 = 3 ∧ ((zK 74).2 : Int) = 4 := ⟨rfl, rfl⟩
theorem zo_75 : (zK 75).1 = 50 ∧ ((zK 75).2 : Int) = 150 := ⟨rfl, rfl⟩
theorem zo_76 : (zK 76).1 = 50 ∧ ((zK 76).2 : Int) = 150 := ⟨rfl, rfl⟩
theorem zo_77 : (zK 77).1 = 50 ∧ ((zK 77).2 : Int) = 6 := ⟨rfl, rfl⟩
theorem zo_78 : (zK 78).1 = 4 ∧ ((zK 78).2 : Int) = 7 := ⟨rfl, rfl⟩
theorem zo_79 : (zK 79).1 = 50 ∧ ((zK 79).2 : Int) = 20 := ⟨rfl, rfl⟩
theorem zo_80 : (zK 80).1 = 50 ∧ ((zK 80).2 : Int) = 20 := ⟨rfl, rfl⟩
theorem zo_81 : (zK 81).1 = 50 ∧ ((zK 81).2 : Int) = 20 := ⟨rfl, rfl⟩
theorem zo_82 : (zK 82).1 = 50 ∧ ((zK 82).2 : Int) = 12 := ⟨rfl, rfl⟩
theorem zo_83 : (zK 83).1 = 50 ∧ ((zK 83).2 : Int) = 12 := ⟨rfl, rfl⟩
theorem zo_84 : (zK 84).1 = 4 ∧ ((zK 84).2 : Int) = 7 := ⟨rfl, rfl⟩
theorem zo_85 : (zK 85).1 = 50 ∧ ((zK 85).2 : Int) = 20 := ⟨rfl, rfl⟩
theorem zo_86 : (zK 86).1 = 50 ∧ ((zK 86).2 : Int) = 20 := ⟨rfl, rfl⟩
theorem zo_87 : (zK 87).1 = 50 ∧ ((zK 87).2 : Int) = 20 := ⟨rfl, rfl⟩
theorem zo_88 : (zK 88).1 = 50 ∧ ((zK 88).2 : Int) = 12 := ⟨rfl, rfl⟩
theorem zo_89 : (zK 89).1 = 50 ∧ ((zK 89).2 : Int) = 12 := ⟨rfl, rfl⟩
theorem zo_90 : (zK 90).1 = 0 ∧ ((zK 90).2 : Int) = 2 := ⟨rfl, rfl⟩
theorem zo_91 : (zK 91).1 = 50 ∧ ((zK 91).2 : Int) = 3 := ⟨rfl, rfl⟩
theorem zo_92 : (zK 92).1 = 0 ∧ ((zK 92).2 : Int) = 2 := ⟨rfl, rfl⟩
theorem zo_93 : (zK 93).1 = 50 ∧ ((zK 93).2 : Int) = 3 := ⟨rfl, rfl⟩
theorem zo_94 : (zK 94).1 = 55 ∧ ((zK 94).2 : Int) = 3 := ⟨rfl, rfl⟩
theorem zo_95 : (zK 95).1 = 4 ∧ ((zK 95).2 : Int) = 7 := ⟨rfl, rfl⟩
theorem zo_96 : (zK 96).1 = 50 ∧ ((zK 96).2 : Int) = 20 := ⟨rfl, rfl⟩
theorem zo_97 : (zK 97).1 = 50 ∧ ((zK 97).2 : Int) = 20 := ⟨rfl, rfl⟩
theorem zo_98 : (zK 98).1 = 50 ∧ ((zK 98).2 : Int) = 20 := ⟨rfl, rfl⟩
theorem zo_99 : (zK 99).1 = 50 ∧ ((zK 99).2 : Int) = 12 := ⟨rfl, rfl⟩
theorem zo_100 : (zK 100).1 = 50 ∧ ((zK 100).2 : Int) = 12 := ⟨rfl, rfl⟩
theorem zo_101 : (zK 101).1 = 4 ∧ ((zK 101).2 : Int) = 7 := ⟨rfl, rfl⟩
theorem zo_102 : (zK 102).1 = 50 ∧ ((zK 102).2 : Int) = 20 := ⟨rfl, rfl⟩
theorem zo_103 : (zK 103).1 = 50 ∧ ((zK 103).2 : Int) = 20 := ⟨rfl, rfl⟩
theorem zo_104 : (zK 104).1 = 50 ∧ ((zK 104).2 : Int) = 20 := ⟨rfl, rfl⟩
theorem zo_105 : (zK 105).1 = 50 ∧ ((zK 105).2 : Int) = 12 := ⟨rfl, rfl⟩
theorem zo_106 : (zK 106).1 = 50 ∧ ((zK 106).2 : Int) = 12 := ⟨rfl, rfl⟩
theorem zo_107 : (zK 107).1 = 4 ∧ ((zK 107).2 : Int) = 7 := ⟨rfl, rfl⟩
theorem zo_108 : (zK 108).1 = 50 ∧ ((zK 108).2 : Int) = 20 := ⟨rfl, rfl⟩
theorem zo_109 : (zK 109).1 = 50 ∧ ((zK 109).2 : Int) = 20 := ⟨rfl, rfl⟩
theorem zo_110 : (zK 110).1 = 50 ∧ ((zK 110).2 : Int) = 20 := ⟨rfl, rfl⟩
theorem zo_111 : (zK 111).1 = 50 ∧ ((zK 111).2 : Int) = 12 := ⟨rfl, rfl⟩
theorem zo_112 : (zK 112).1 = 50 ∧ ((zK 112).2 : Int) = 12 := ⟨rfl, rfl⟩
theorem zo_113 : (zK 113).1 = 10 ∧ ((zK 113).2 : Int) = 73 := ⟨rfl, rfl⟩
theorem zo_114 : (zK 114).1 = 50 ∧ ((zK 114).2 : Int) = 3 := ⟨rfl, rfl⟩
theorem zo_115 : (zK 115).1 = 50 ∧ ((zK 115).2 : Int) = 600 := ⟨rfl, rfl⟩
theorem zo_116 : (zK 116).1 = 50 ∧ ((zK 116).2 : Int) = 4 := ⟨rfl, rfl⟩
theorem zo_117 : (zK 117).1 = 50 ∧ ((zK 117).2 : Int) = 60 := ⟨rfl, rfl⟩
theorem zo_118 : (zK 118).1 = 50 ∧ ((zK 118).2 : Int) = 60 := ⟨rfl, rfl⟩
theorem zo_119 : (zK 119).1 = 50 ∧ ((zK 119).2 : Int) = 6 := ⟨rfl, rfl⟩
theorem zo_120 : (zK 120).1 = 50 ∧ ((zK 120).2 : Int) = 8 := ⟨rfl, rfl⟩
theorem zo_121 : (zK 121).1 = 50 ∧ ((zK 121).2 : Int) = 16 := ⟨rfl, rfl⟩
theorem zo_122 : (zK 122).1 = 50 ∧ ((zK 122).2 : Int) = 4 := ⟨rfl, rfl⟩
theorem zo_123 : (zK 123).1 = 50 ∧ ((zK 123).2 : Int) = 60 := ⟨rfl, rfl⟩
theorem zo_124 : (zK 124).1 = 50 ∧ ((zK 124).2 : Int) = 60 := ⟨rfl, rfl⟩
theorem zo_125 : (zK 125).1 = 50 ∧ ((zK 125).2 : Int) = 6 := ⟨rfl, rfl⟩
theorem zo_126 : (zK 126).1 = 50 ∧ ((zK 126).2 : Int) = 8 := ⟨rfl, rfl⟩
theorem zo_127 : (zK 127).1 = 50 ∧ ((zK 127).2 : Int) = 16 := ⟨rfl, rfl⟩
theorem zo_128 : (zK 128).1 = 52 ∧ ((zK 128).2 : Int) = 241 := ⟨rfl, rfl⟩
theorem zo_129 : (zK 129).1 = 52 ∧ ((zK 129).2 : Int) = 241 := ⟨rfl, rfl⟩
theorem zo_130 : (zK 130).1 = 50 ∧ ((zK 130).2 : Int) = 5 := ⟨rfl, rfl⟩
theorem zo_131 : (zK 131).1 = 50 ∧ ((zK 131).2 : Int) = 5 := ⟨rfl, rfl⟩
theorem zo_132 : (zK 132).1 = 50 ∧ ((zK 132).2 : Int) = 150 := ⟨rfl, rfl⟩
theorem zo_133 : (zK 133).1 = 50 ∧ ((zK 133).2 : Int) = 150 := ⟨rfl, rfl⟩
theorem zo_134 : (zK 134).1 = 50 ∧ ((zK 134).2 : Int) = 150 := ⟨rfl, rfl⟩
theorem zo_135 : (zK 135).1 = 50 ∧ ((zK 135).2 : Int) = 150 := ⟨rfl, rfl⟩
theorem zo_136 : (zK 136).1 = 50 ∧ ((zK 136).2 : Int) = 150 := ⟨rfl, rfl⟩
theorem zo_137 : (zK 137).1 = 50 ∧ ((zK 137).2 : Int) = 6 := ⟨rfl, rfl⟩
theorem zo_138 : (zK 138).1 = 50 ∧ ((zK 138).2 : Int) = 24 := ⟨rfl, rfl⟩
theorem zo_139 : (zK 139).1 = 50 ∧ ((zK 139).2 : Int) = 24 := ⟨rfl, rfl⟩
theorem zo_140 : (zK 140).1 = 50 ∧ ((zK 140).2 : Int) = 3 := ⟨rfl, rfl⟩
theorem zo_141 : (zK 141).1 = 50 ∧ ((zK 141).2 : Int) = 3 := ⟨rfl, rfl⟩
theorem zo_142 : (zK 142).1 = 50 ∧ ((zK 142).2 : Int) = 12 := ⟨rfl, rfl⟩
theorem zo_143 : (zK 143).1 = 50 ∧ ((zK 143).2 : Int) = 12 := ⟨rfl, rfl⟩
theorem zo_144 : (zK 144).1 = 50 ∧ ((zK 144).2 : Int) = 4 := ⟨rfl, rfl⟩
theorem zo_145 : (zK 145).1 = 50 ∧ ((zK 145).2 : Int) = 12 := ⟨rfl, rfl⟩
theorem zo_146 : (zK 146).1 = 50 ∧ ((zK 146).2 : Int) = 4 := ⟨rfl, rfl⟩
theorem zo_147 : (zK 147).1 = 50 ∧ ((zK 147).2 : Int) = 4 := ⟨rfl, rfl⟩
theorem zo_148 : (zK 148).1 = 50 ∧ ((zK 148).2 : Int) = 12 := ⟨rfl, rfl⟩
theorem zo_149 : (zK 149).1 = 50 ∧ ((zK 149).2 : Int) = 12 := ⟨rfl, rfl⟩
theorem zo_150 : (zK 150).1 = 50 ∧ ((zK 150).2 : Int) = 24 := ⟨rfl, rfl⟩
theorem zo_151 : (zK 151).1 = 50 ∧ ((zK 151).2 : Int) = 10 := ⟨rfl, rfl⟩
theorem zo_152 : (zK 152).1 = 50 ∧ ((zK 152).2 : Int) = 10 := ⟨rfl, rfl⟩
theorem zo_153 : (zK 153).1 = 50 ∧ ((zK 153).2 : Int) = 3200 := ⟨rfl, rfl⟩
theorem zo_154 : (zK 154).1 = 50 ∧ ((zK 154).2 : Int) = 500 := ⟨rfl, rfl⟩
theorem zo_155 : (zK 155).1 = 50 ∧ ((zK 155).2 : Int) = 1578 := ⟨rfl, rfl⟩
theorem zo_156 : (zK 156).1 = 53 ∧ ((zK 156).2 : Int) = 1 := ⟨rfl, rfl⟩
theorem zoR0 {t : Int} (h : zIsR t) : (zK t).1 = 6 ∧ ((zK t).2 : Int) = 13 := by
  unfold zIsR at h
  rcases h with rfl | rfl <;> exact ⟨rfl, rfl⟩
theorem zoR1 {t : Int} (h : zIsR t) : (zK (t + 1)).1 = 50 ∧ ((zK (t + 1)).2 : Int) = 12 := by
  unfold zIsR at h
  rcases h with rfl | rfl <;> exact ⟨rfl, rfl⟩
theorem zoR2 {t : Int} (h : zIsR t) : (zK (t + 2)).1 = 50 ∧ ((zK (t + 2)).2 : Int) = 242 := by
  unfold zIsR at h
  rcases h with rfl | rfl <;> exact ⟨rfl, rfl⟩
theorem zoR3 {t : Int} (h : zIsR t) : (zK (t + 3)).1 = 50 ∧ ((zK (t + 3)).2 : Int) = 6 := by
  unfold zIsR at h
  rcases h with rfl | rfl <;> exact ⟨rfl, rfl⟩
theorem zoR4 {t : Int} (h : zIsR t) : (zK (t + 4)).1 = 50 ∧ ((zK (t + 4)).2 : Int) = 8 := by
  unfold zIsR at h
  rcases h with rfl | rfl <;> exact ⟨rfl, rfl⟩
theorem zoR5 {t : Int} (h : zIsR t) : (zK (t + 5)).1 = 50 ∧ ((zK (t + 5)).2 : Int) = 4 := by
  unfold zIsR at h
  rcases h with rfl | rfl <;> exact ⟨rfl, rfl⟩
theorem zoR6 {t : Int} (h : zIsR t) : (zK (t + 6)).1 = 50 ∧ ((zK (t + 6)).2 : Int) = 60 := by
  unfold zIsR at h
  rcases h with rfl | rfl <;> exact ⟨rfl, rfl⟩
theorem zoR7 {t : Int} (h : zIsR t) : (zK (t + 7)).1 = 54 ∧ ((zK (t + 7)).2 : Int) = 7 := by
  unfold zIsR at h
  rcases h with rfl | rfl <;> exact ⟨rfl, rfl⟩
theorem zoR8 {t : Int} (h : zIsR t) : (zK (t + 8)).1 = 50 ∧ ((zK (t + 8)).2 : Int) = 12 := by
  unfold zIsR at h
  rcases h with rfl | rfl <;> exact ⟨rfl, rfl⟩
theorem zoR9 {t : Int} (h : zIsR t) : (zK (t + 9)).1 = 50 ∧ ((zK (t + 9)).2 : Int) = 12 := by
  unfold zIsR at h
  rcases h with rfl | rfl <;> exact ⟨rfl, rfl⟩
theorem zoR10 {t : Int} (h : zIsR t) : (zK (t + 10)).1 = 50 ∧ ((zK (t + 10)).2 : Int) = 12 := by
  unfold zIsR at h
  rcases h with rfl | rfl <;> exact ⟨rfl, rfl⟩
theorem zoR11 {t : Int} (h : zIsR t) : (zK (t + 11)).1 = 50 ∧ ((zK (t + 11)).2 : Int) = 12 := by
  unfold zIsR at h
  rcases h with rfl | rfl <;> exact ⟨rfl, rfl⟩
theorem zoR12 {t : Int} (h : zIsR t) : (zK (t + 12)).1 = 50 ∧ ((zK (t + 12)).2 : Int) = 12 := by
  unfold zIsR at h
  rcases h with rfl | rfl <;> exact ⟨rfl, rfl⟩
theorem zoR13 {t : Int} (h : zIsR t) : (zK (t + 13)).1 = 50 ∧ ((zK (t + 13)).2 : Int) = 12 := by
  unfold zIsR at h
  rcases h with rfl | rfl <;> exact ⟨rfl, rfl⟩
theorem zoR14 {t : Int} (h : zIsR t) : (zK (t + 14)).1 = 50 ∧ ((zK (t + 14)).2 : Int) = 12 := by
  unfold zIsR at h
  rcases h with rfl | rfl <;> exact ⟨rfl, rfl⟩
theorem zoR15 {t : Int} (h : zIsR t) : (zK (t + 15)).1 = 54 ∧ ((zK (t + 15)).2 : Int) = 4 := by
  unfold zIsR at h
  rcases h with rfl | rfl <;> exact ⟨rfl, rfl⟩
theorem zoR16 {t : Int} (h : zIsR t) : (zK (t + 16)).1 = 50 ∧ ((zK (t + 16)).2 : Int) = 4 := by
  unfold zIsR at h
  rcases h with rfl | rfl <;> exact ⟨rfl, rfl⟩
theorem zoR17 {t : Int} (h : zIsR t) : (zK (t + 17)).1 = 50 ∧ ((zK (t + 17)).2 : Int) = 4 := by
  unfold zIsR at h
  rcases h with rfl | rfl <;> exact ⟨rfl, rfl⟩
theorem zoR18 {t : Int} (h : zIsR t) : (zK (t + 18)).1 = 50 ∧ ((zK (t + 18)).2 : Int) = 4 := by
  unfold zIsR at h
  rcases h with rfl | rfl <;> exact ⟨rfl, rfl⟩
theorem zoR19 {t : Int} (h : zIsR t) : (zK (t + 19)).1 = 50 ∧ ((zK (t + 19)).2 : Int) = 4 := by
  unfold zIsR at h
  rcases h with rfl | rfl <;> exact ⟨rfl, rfl⟩
theorem zoL0 {t : Int} (h : zIsL t) : (zK t).1 = 3 ∧ ((zK t).2 : Int) = 4 := by
  unfold zIsL at h
  rcases h with rfl | rfl <;> exact ⟨rfl, rfl⟩
theorem zoL1 {t : Int} (h : zIsL t) : (zK (t + 1)).1 = 50 ∧ ((zK (t + 1)).2 : Int) = 150 := by
  unfold zIsL at h
  rcases h with rfl | rfl <;> exact ⟨rfl, rfl⟩
theorem zoL2 {t : Int} (h : zIsL t) : (zK (t + 2)).1 = 50 ∧ ((zK (t + 2)).2 : Int) = 150 := by
  unfold zIsL at h
  rcases h with rfl | rfl <;> exact ⟨rfl, rfl⟩
theorem zoL3 {t : Int} (h : zIsL t) : (zK (t + 3)).1 = 50 ∧ ((zK (t + 3)).2 : Int) = 6 := by
  unfold zIsL at h
  rcases h with rfl | rfl <;> exact ⟨rfl, rfl⟩
theorem zoP0 {t : Int} (h : zIsP t) : (zK t).1 = 4 ∧ ((zK t).2 : Int) = 7 := by
  unfold zIsP at h
  rcases h with rfl | rfl | rfl | rfl | rfl <;> exact ⟨rfl, rfl⟩
theorem zoP1 {t : Int} (h : zIsP t) : (zK (t + 1)).1 = 50 ∧ ((zK (t + 1)).2 : Int) = 20 := by
  unfold zIsP at h
  rcases h with rfl | rfl | rfl | rfl | rfl <;> exact ⟨rfl, rfl⟩
theorem zoP2 {t : Int} (h : zIsP t) : (zK (t + 2)).1 = 50 ∧ ((zK (t + 2)).2 : Int) = 20 := by
  unfold zIsP at h
  rcases h with rfl | rfl | rfl | rfl | rfl <;> exact ⟨rfl, rfl⟩
theorem zoP3 {t : Int} (h : zIsP t) : (zK (t + 3)).1 = 50 ∧ ((zK (t + 3)).2 : Int) = 20 := by
  unfold zIsP at h
  rcases h with rfl | rfl | rfl | rfl | rfl <;> exact ⟨rfl, rfl⟩
theorem zoP4 {t : Int} (h : zIsP t) : (zK (t + 4)).1 = 50 ∧ ((zK (t + 4)).2 : Int) = 12 := by
  unfold zIsP at h
  rcases h with rfl | rfl | rfl | rfl | rfl <;> exact ⟨rfl, rfl⟩
theorem zoP5 {t : Int} (h : zIsP t) : (zK (t + 5)).1 = 50 ∧ ((zK (t + 5)).2 : Int) = 12 := by
  unfold zIsP at h
  rcases h with rfl | rfl | rfl | rfl | rfl <;> exact ⟨rfl, rfl⟩
theorem zoB0 {t : Int} (h : zIsB t) : (zK t).1 = 0 ∧ ((zK t).2 : Int) = 2 := by
  unfold zIsB at h
  rcases h with rfl | rfl <;> exact ⟨rfl, rfl⟩
theorem zoB1 {t : Int} (h : zIsB t) : (zK (t + 1)).1 = 50 ∧ ((zK (t + 1)).2 : Int) = 3 := by
  unfold zIsB at h
  rcases h with rfl | rfl <;> exact ⟨rfl, rfl⟩
theorem zBd {o i : Int} {n : Int} (k : ((zK o).2 : Int) = n) (h : 0 ≤ i ∧ i < n) : 0 ≤ i ∧ i < (zK o).2 := ⟨h.1, by rw [k]; exact h.2⟩
theorem zKle {o : Int} {ci : Nat} (k : (zK o).1 = ci) (h : 50 ≤ ci ∧ ci ≤ 55) : 50 ≤ (zK o).1 ∧ (zK o).1 ≤ 55 := by rw [k]; exact h
theorem zKcp {s t n a b : Int} (k1 : ((zK s).2 : Int) = a) (k2 : ((zK t).2 : Int) = b) (h : 0 ≤ n ∧ n ≤ a ∧ n ≤ b) : 0 ≤ n ∧ 0 ≤ (0 : Int) ∧ 0 ≤ (0 : Int) ∧ 0 + n ≤ ((zK s).2 : Int) ∧ 0 + n ≤ ((zK t).2 : Int) := by rw [k1, k2]; omega
theorem zao54 {o i v : Int} (k : (zK o).1 = 54) (e : v = o + 1 + i) : v = o + 1 + zStr1 (zK o).1 * i := by
  rw [k, e]
  simp [zStr1]
theorem zao55 {o i v : Int} (k : (zK o).1 = 55) (e : v = o + 1 + 6 * i) : v = o + 1 + zStr1 (zK o).1 * i := by
  rw [k, e]
  simp [zStr1]
def zTl (j : Int) : Int := ((zStr.getD j.toNat []).length : Int)
def zTc (j i : Int) : Int := (zStr.getD j.toNat []).getD i.toNat 0
theorem zkrR7 {t i : Int} (h : zIsR t) (hi : 0 ≤ i ∧ i < 7) : (zK (t + 8 + i)).1 = 50 ∧ ((zK (t + 8 + i)).2 : Int) = 12 := by
  have : i = 0 ∨ i = 1 ∨ i = 2 ∨ i = 3 ∨ i = 4 ∨ i = 5 ∨ i = 6 := by omega
  unfold zIsR at h
  rcases h with rfl | rfl <;> rcases this with rfl | rfl | rfl | rfl | rfl | rfl | rfl <;> exact ⟨rfl, rfl⟩
theorem zkrR15 {t i : Int} (h : zIsR t) (hi : 0 ≤ i ∧ i < 4) : (zK (t + 16 + i)).1 = 50 ∧ ((zK (t + 16 + i)).2 : Int) = 4 := by
  have : i = 0 ∨ i = 1 ∨ i = 2 ∨ i = 3 := by omega
  unfold zIsR at h
  rcases h with rfl | rfl <;> rcases this with rfl | rfl | rfl | rfl <;> exact ⟨rfl, rfl⟩
theorem zkr_16 {i : Int} (hi : 0 ≤ i ∧ i < 6) : (zK (17 + i)).1 = 50 ∧ ((zK (17 + i)).2 : Int) = 4 := by
  have : i = 0 ∨ i = 1 ∨ i = 2 ∨ i = 3 ∨ i = 4 ∨ i = 5 := by omega
  rcases this with rfl | rfl | rfl | rfl | rfl | rfl <;> exact ⟨rfl, rfl⟩
theorem zkr_94 {i : Int} (hi : 0 ≤ i ∧ i < 3) : (zK (95 + 6 * i)).1 = 4 ∧ ((zK (95 + 6 * i)).2 : Int) = 7 := by
  have : i = 0 ∨ i = 1 ∨ i = 2 := by omega
  rcases this with rfl | rfl | rfl <;> exact ⟨rfl, rfl⟩
