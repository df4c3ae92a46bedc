theorem zk_all (μ : Nat) (h1 : μ < 335) : (zCL μ).all (zChk μ) = true := by
  have h0 : 0 ≤ μ := Nat.zero_le μ
  rcases Nat.lt_or_ge μ 167 with h1 | h0
  · rcases Nat.lt_or_ge μ 83 with h1 | h0
    · rcases Nat.lt_or_ge μ 41 with h1 | h0
      · rcases Nat.lt_or_ge μ 20 with h1 | h0
        · rcases Nat.lt_or_ge μ 10 with h1 | h0
          · rcases Nat.lt_or_ge μ 5 with h1 | h0
            · rcases Nat.lt_or_ge μ 2 with h1 | h0
              · rcases Nat.lt_or_ge μ 1 with h1 | h0
                · have e : μ = 0 := by omega
                  subst e
                  exact zk_0
                · have e : μ = 1 := by omega
                  subst e
                  exact zk_1
              · rcases Nat.lt_or_ge μ 3 with h1 | h0
                · have e : μ = 2 := by omega
                  subst e
                  exact zk_2
                · rcases Nat.lt_or_ge μ 4 with h1 | h0
                  · have e : μ = 3 := by omega
                    subst e
                    exact zk_3
                  · have e : μ = 4 := by omega
                    subst e
                    exact zk_4
            · rcases Nat.lt_or_ge μ 7 with h1 | h0
              · rcases Nat.lt_or_ge μ 6 with h1 | h0
                · have e : μ = 5 := by omega
                  subst e
                  exact zk_5
                · have e : μ = 6 := by omega
                  subst e
                  exact zk_6
              · rcases Nat.lt_or_ge μ 8 with h1 | h0
                · have e : μ = 7 := by omega
                  subst e
                  exact zk_7
                · rcases Nat.lt_or_ge μ 9 with h1 | h0
                  · have e : μ = 8 := by omega
                    subst e
                    exact zk_8
                  · have e : μ = 9 := by omega
                    subst e
                    exact zk_9
          · rcases Nat.lt_or_ge μ 15 with h1 | h0
            · rcases Nat.lt_or_ge μ 12 with h1 | h0
              · rcases Nat.lt_or_ge μ 11 with h1 | h0
                · have e : μ = 10 := by omega
                  subst e
                  exact zk_10
                · have e : μ = 11 := by omega
                  subst e
                  exact zk_11
              · rcases Nat.lt_or_ge μ 13 with h1 | h0
                · have e : μ = 12 := by omega
                  subst e
                  exact zk_12
                · rcases Nat.lt_or_ge μ 14 with h1 | h0
                  · have e : μ = 13 := by omega
                    subst e
                    exact zk_13
                  · have e : μ = 14 := by omega
                    subst e
                    exact zk_14
            · rcases Nat.lt_or_ge μ 17 with h1 | h0
              · rcases Nat.lt_or_ge μ 16 with h1 | h0
                · have e : μ = 15 := by omega
                  subst e
                  exact zk_15
                · have e : μ = 16 := by omega
                  subst e
                  exact zk_16
              · rcases Nat.lt_or_ge μ 18 with h1 | h0
                · have e : μ = 17 := by omega
                  subst e
                  exact zk_17
                · rcases Nat.lt_or_ge μ 19 with h1 | h0
                  · have e : μ = 18 := by omega
                    subst e
                    exact zk_18
                  · have e : μ = 19 := by omega
                    subst e
                    exact zk_19
        · rcases Nat.lt_or_ge μ 30 with h1 | h0
          · rcases Nat.lt_or_ge μ 25 with h1 | h0
            · rcases Nat.lt_or_ge μ 22 with h1 | h0
              · rcases Nat.lt_or_ge μ 21 with h1 | h0
                · have e : μ = 20 := by omega
                  subst e
                  exact zk_20
                · have e : μ = 21 := by omega
                  subst e
                  exact zk_21
              · rcases Nat.lt_or_ge μ 23 with h1 | h0
                · have e : μ = 22 := by omega
                  subst e
                  exact zk_22
                · rcases Nat.lt_or_ge μ 24 with h1 | h0
                  · have e : μ = 23 := by omega
                    subst e
                    exact zk_23
                  · have e : μ = 24 := by omega
                    subst e
                    exact zk_24
            · rcases Nat.lt_or_ge μ 27 with h1 | h0
              · rcases Nat.lt_or_ge μ 26 with h1 | h0
                · have e : μ = 25 := by omega
                  subst e
                  exact zk_25
                · have e : μ = 26 := by omega
                  subst e
                  exact zk_26
              · rcases Nat.lt_or_ge μ 28 with h1 | h0
                · have e : μ = 27 := by omega
                  subst e
                  exact zk_27
                · rcases Nat.lt_or_ge μ 29 with h1 | h0
                  · have e : μ = 28 := by omega
                    subst e
                    exact zk_28
                  · have e : μ = 29 := by omega
                    subst e
                    exact zk_29
          · rcases Nat.lt_or_ge μ 35 with h1 | h0
            · rcases Nat.lt_or_ge μ 32 with h1 | h0
              · rcases Nat.lt_or_ge μ 31 with h1 | h0
                · have e : μ = 30 := by omega
                  subst e
                  exact zk_30
                · have e : μ = 31 := by omega
                  subst e
                  exact zk_31
              · rcases Nat.lt_or_ge μ 33 with h1 | h0
                · have e : μ = 32 := by omega
                  subst e
                  exact zk_32
                · rcases Nat.lt_or_ge μ 34 with h1 | h0
                  · have e : μ = 33 := by omega
                    subst e
                    exact zk_33
                  · have e : μ = 34 := by omega
                    subst e
                    exact zk_34
            · rcases Nat.lt_or_ge μ 38 with h1 | h0
              · rcases Nat.lt_or_ge μ 36 with h1 | h0
                · have e : μ = 35 := by omega
                  subst e
                  exact zk_35
                · rcases Nat.lt_or_ge μ 37 with h1 | h0
                  · have e : μ = 36 := by omega
                    subst e
                    exact zk_36
                  · have e : μ = 37 := by omega
                    subst e
                    exact zk_37
              · rcases Nat.lt_or_ge μ 39 with h1 | h0
                · have e : μ = 38 := by omega
                  subst e
                  exact zk_38
                · rcases Nat.lt_or_ge μ 40 with h1 | h0
                  · have e : μ = 39 := by omega
                    subst e
                    exact zk_39
                  · have e : μ = 40 := by omega
                    subst e
                    exact zk_40
      · rcases Nat.lt_or_ge μ 62 with h1 | h0
        · rcases Nat.lt_or_ge μ 51 with h1 | h0
          · rcases Nat.lt_or_ge μ 46 with h1 | h0
            · rcases Nat.lt_or_ge μ 43 with h1 | h0
              · rcases Nat.lt_or_ge μ 42 with h1 | h0
                · have e : μ = 41 := by omega
                  subst e
                  exact zk_41
                · have e : μ = 42 := by omega
                  subst e
                  exact zk_42
              · rcases Nat.lt_or_ge μ 44 with h1 | h0
                · have e : μ = 43 := by omega
                  subst e
                  exact zk_43
                · rcases Nat.lt_or_ge μ 45 with h1 | h0
                  · have e : μ = 44 := by omega
                    subst e
                    exact zk_44
                  · have e : μ = 45 := by omega
                    subst e
                    exact zk_45
            · rcases Nat.lt_or_ge μ 48 with h1 | h0
              · rcases Nat.lt_or_ge μ 47 with h1 | h0
                · have e : μ = 46 := by omega
                  subst e
                  exact zk_46
                · have e : μ = 47 := by omega
                  subst e
                  exact zk_47
              · rcases Nat.lt_or_ge μ 49 with h1 | h0
                · have e : μ = 48 := by omega
                  subst e
                  exact zk_48
                · rcases Nat.lt_or_ge μ 50 with h1 | h0
                  · have e : μ = 49 := by omega
                    subst e
                    exact zk_49
                  · have e : μ = 50 := by omega
                    subst e
                    exact zk_50
          · rcases Nat.lt_or_ge μ 56 with h1 | h0
            · rcases Nat.lt_or_ge μ 53 with h1 | h0
              · rcases Nat.lt_or_ge μ 52 with h1 | h0
                · have e : μ = 51 := by omega
                  subst e
                  exact zk_51
                · have e : μ = 52 := by omega
                  subst e
                  exact zk_52
              · rcases Nat.lt_or_ge μ 54 with h1 | h0
                · have e : μ = 53 := by omega
                  subst e
                  exact zk_53
                · rcases Nat.lt_or_ge μ 55 with h1 | h0
                  · have e : μ = 54 := by omega
                    subst e
                    exact zk_54
                  · have e : μ = 55 := by omega
                    subst e
                    exact zk_55
            · rcases Nat.lt_or_ge μ 59 with h1 | h0
              · rcases Nat.lt_or_ge μ 57 with h1 | h0
                · have e : μ = 56 := by omega
                  subst e
                  exact zk_56
                · rcases Nat.lt_or_ge μ 58 with h1 | h0
                  · have e : μ = 57 := by omega
                    subst e
                    exact zk_57
                  · have e : μ = 58 := by omega
                    subst e
                    exact zk_58
              · rcases Nat.lt_or_ge μ 60 with h1 | h0
                · have e : μ = 59 := by omega
                  subst e
                  exact zk_59
                · rcases Nat.lt_or_ge μ 61 with h1 | h0
                  · have e : μ = 60 := by omega
                    subst e
                    exact zk_60
                  · have e : μ = 61 := by omega
                    subst e
                    exact zk_61
        · rcases Nat.lt_or_ge μ 72 with h1 | h0
          · rcases Nat.lt_or_ge μ 67 with h1 | h0
            · rcases Nat.lt_or_ge μ 64 with h1 | h0
              · rcases Nat.lt_or_ge μ 63 with h1 | h0
                · have e : μ = 62 := by omega
                  subst e
                  exact zk_62
                · have e : μ = 63 := by omega
                  subst e
                  exact zk_63
              · rcases Nat.lt_or_ge μ 65 with h1 | h0
                · have e : μ = 64 := by omega
                  subst e
                  exact zk_64
                · rcases Nat.lt_or_ge μ 66 with h1 | h0
                  · have e : μ = 65 := by omega
                    subst e
                    exact zk_65
                  · have e : μ = 66 := by omega
                    subst e
                    exact zk_66
            · rcases Nat.lt_or_ge μ 69 with h1 | h0
              · rcases Nat.lt_or_ge μ 68 with h1 | h0
                · have e : μ = 67 := by omega
                  subst e
                  exact zk_67
                · have e : μ = 68 := by omega
                  subst e
                  exact zk_68
              · rcases Nat.lt_or_ge μ 70 with h1 | h0
                · have e : μ = 69 := by omega
                  subst e
                  exact zk_69
                · rcases Nat.lt_or_ge μ 71 with h1 | h0
                  · have e : μ = 70 := by omega
                    subst e
                    exact zk_70
                  · have e : μ = 71 := by omega
                    subst e
                    exact zk_71
          · rcases Nat.lt_or_ge μ 77 with h1 | h0
            · rcases Nat.lt_or_ge μ 74 with h1 | h0
              · rcases Nat.lt_or_ge μ 73 with h1 | h0
                · have e : μ = 72 := by omega
                  subst e
                  exact zk_72
                · have e : μ = 73 := by omega
                  subst e
                  exact zk_73
              · rcases Nat.lt_or_ge μ 75 with h1 | h0
                · have e : μ = 74 := by omega
                  subst e
                  exact zk_74
                · rcases Nat.lt_or_ge μ 76 with h1 | h0
                  · have e : μ = 75 := by omega
                    subst e
                    exact zk_75
                  · have e : μ = 76 := by omega
                    subst e
                    exact zk_76
            · rcases Nat.lt_or_ge μ 80 with h1 | h0
              · rcases Nat.lt_or_ge μ 78 with h1 | h0
                · have e : μ = 77 := by omega
                  subst e
                  exact zk_77
                · rcases Nat.lt_or_ge μ 79 with h1 | h0
                  · have e : μ = 78 := by omega
                    subst e
                    exact zk_78
                  · have e : μ = 79 := by omega
                    subst e
                    exact zk_79
              · rcases Nat.lt_or_ge μ 81 with h1 | h0
                · have e : μ = 80 := by omega
                  subst e
                  exact zk_80
                · rcases Nat.lt_or_ge μ 82 with h1 | h0
                  · have e : μ = 81 := by omega
                    subst e
                    exact zk_81
                  · have e : μ = 82 := by omega
                    subst e
                    exact zk_82
    · rcases Nat.lt_or_ge μ 125 with h1 | h0
      · rcases Nat.lt_or_ge μ 104 with h1 | h0
        · rcases Nat.lt_or_ge μ 93 with h1 | h0
          · rcases Nat.lt_or_ge μ 88 with h1 | h0
            · rcases Nat.lt_or_ge μ 85 with h1 | h0
              · rcases Nat.lt_or_ge μ 84 with h1 | h0
                · have e : μ = 83 := by omega
                  subst e
                  exact zk_83
                · have e : μ = 84 := by omega
                  subst e
                  exact zk_84
              · rcases Nat.lt_or_ge μ 86 with h1 | h0
                · have e : μ = 85 := by omega
                  subst e
                  exact zk_85
                · rcases Nat.lt_or_ge μ 87 with h1 | h0
                  · have e : μ = 86 := by omega
                    subst e
                    exact zk_86
                  · have e : μ = 87 := by omega
                    subst e
                    exact zk_87
            · rcases Nat.lt_or_ge μ 90 with h1 | h0
              · rcases Nat.lt_or_ge μ 89 with h1 | h0
                · have e : μ = 88 := by omega
                  subst e
                  exact zk_88
                · have e : μ = 89 := by omega
                  subst e
                  exact zk_89
              · rcases Nat.lt_or_ge μ 91 with h1 | h0
                · have e : μ = 90 := by omega
                  subst e
                  exact zk_90
                · rcases Nat.lt_or_ge μ 92 with h1 | h0
                  · have e : μ = 91 := by omega
                    subst e
                    exact zk_91
                  · have e : μ = 92 := by omega
                    subst e
                    exact zk_92
          · rcases Nat.lt_or_ge μ 98 with h1 | h0
            · rcases Nat.lt_or_ge μ 95 with h1 | h0
              · rcases Nat.lt_or_ge μ 94 with h1 | h0
                · have e : μ = 93 := by omega
                  subst e
                  exact zk_93
                · have e : μ = 94 := by omega
                  subst e
                  exact zk_94
              · rcases Nat.lt_or_ge μ 96 with h1 | h0
                · have e : μ = 95 := by omega
                  subst e
                  exact zk_95
                · rcases Nat.lt_or_ge μ 97 with h1 | h0
                  · have e : μ = 96 := by omega
                    subst e
                    exact zk_96
                  · have e : μ = 97 := by omega
                    subst e
                    exact zk_97
            · rcases Nat.lt_or_ge μ 101 with h1 | h0
              · rcases Nat.lt_or_ge μ 99 with h1 | h0
                · have e : μ = 98 := by omega
                  subst e
                  exact zk_98
                · rcases Nat.lt_or_ge μ 100 with h1 | h0
                  · have e : μ = 99 := by omega
                    subst e
                    exact zk_99
                  · have e : μ = 100 := by omega
                    subst e
                    exact zk_100
              · rcases Nat.lt_or_ge μ 102 with h1 | h0
                · have e : μ = 101 := by omega
                  subst e
                  exact zk_101
                · rcases Nat.lt_or_ge μ 103 with h1 | h0
                  · have e : μ = 102 := by omega
                    subst e
                    exact zk_102
                  · have e : μ = 103 := by omega
                    subst e
                    exact zk_103
        · rcases Nat.lt_or_ge μ 114 with h1 | h0
          · rcases Nat.lt_or_ge μ 109 with h1 | h0
            · rcases Nat.lt_or_ge μ 106 with h1 | h0
              · rcases Nat.lt_or_ge μ 105 with h1 | h0
                · have e : μ = 104 := by omega
                  subst e
                  exact zk_104
                · have e : μ = 105 := by omega
                  subst e
                  exact zk_105
              · rcases Nat.lt_or_ge μ 107 with h1 | h0
                · have e : μ = 106 := by omega
                  subst e
                  exact zk_106
                · rcases Nat.lt_or_ge μ 108 with h1 | h0
                  · have e : μ = 107 := by omega
                    subst e
                    exact zk_107
                  · have e : μ = 108 := by omega
                    subst e
                    exact zk_108
            · rcases Nat.lt_or_ge μ 111 with h1 | h0
              · rcases Nat.lt_or_ge μ 110 with h1 | h0
                · have e : μ = 109 := by omega
                  subst e
                  exact zk_109
                · have e : μ = 110 := by omega
                  subst e
                  exact zk_110
              · rcases Nat.lt_or_ge μ 112 with h1 | h0
                · have e : μ = 111 := by omega
                  subst e
                  exact zk_111
                · rcases Nat.lt_or_ge μ 113 with h1 | h0
                  · have e : μ = 112 := by omega
                    subst e
                    exact zk_112
                  · have e : μ = 113 := by omega
                    subst e
                    exact zk_113
          · rcases Nat.lt_or_ge μ 119 with h1 | h0
            · rcases Nat.lt_or_ge μ 116 with h1 | h0
              · rcases Nat.lt_or_ge μ 115 with h1 | h0
                · have e : μ = 114 := by omega
                  subst e
                  exact zk_114
                · have e : μ = 115 := by omega
                  subst e
                  exact zk_115
              · rcases Nat.lt_or_ge μ 117 with h1 | h0
                · have e : μ = 116 := by omega
                  subst e
                  exact zk_116
                · rcases Nat.lt_or_ge μ 118 with h1 | h0
                  · have e : μ = 117 := by omega
                    subst e
                    exact zk_117
                  · have e : μ = 118 := by omega
                    subst e
                    exact zk_118
            · rcases Nat.lt_or_ge μ 122 with h1 | h0
              · rcases Nat.lt_or_ge μ 120 with h1 | h0
                · have e : μ = 119 := by omega
                  subst e
                  exact zk_119
                · rcases Nat.lt_or_ge μ 121 with h1 | h0
                  · have e : μ = 120 := by omega
                    subst e
                    exact zk_120
                  · have e : μ = 121 := by omega
                    subst e
                    exact zk_121
              · rcases Nat.lt_or_ge μ 123 with h1 | h0
                · have e : μ = 122 := by omega
                  subst e
                  exact zk_122
                · rcases Nat.lt_or_ge μ 124 with h1 | h0
                  · have e : μ = 123 := by omega
                    subst e
                    exact zk_123
                  · have e : μ = 124 := by omega
                    subst e
                    exact zk_124
      · rcases Nat.lt_or_ge μ 146 with h1 | h0
        · rcases Nat.lt_or_ge μ 135 with h1 | h0
          · rcases Nat.lt_or_ge μ 130 with h1 | h0
            · rcases Nat.lt_or_ge μ 127 with h1 | h0
              · rcases Nat.lt_or_ge μ 126 with h1 | h0
                · have e : μ = 125 := by omega
                  subst e
                  exact zk_125
                · have e : μ = 126 := by omega
                  subst e
                  exact zk_126
              · rcases Nat.lt_or_ge μ 128 with h1 | h0
                · have e : μ = 127 := by omega
                  subst e
                  exact zk_127
                · rcases Nat.lt_or_ge μ 129 with h1 | h0
                  · have e : μ = 128 := by omega
                    subst e
                    exact zk_128
                  · have e : μ = 129 := by omega
                    subst e
                    exact zk_129
            · rcases Nat.lt_or_ge μ 132 with h1 | h0
              · rcases Nat.lt_or_ge μ 131 with h1 | h0
                · have e : μ = 130 := by omega
                  subst e
                  exact zk_130
                · have e : μ = 131 := by omega
                  subst e
                  exact zk_131
              · rcases Nat.lt_or_ge μ 133 with h1 | h0
                · have e : μ = 132 := by omega
                  subst e
                  exact zk_132
                · rcases Nat.lt_or_ge μ 134 with h1 | h0
                  · have e : μ = 133 := by omega
                    subst e
                    exact zk_133
                  · have e : μ = 134 := by omega
                    subst e
                    exact zk_134
          · rcases Nat.lt_or_ge μ 140 with h1 | h0
            · rcases Nat.lt_or_ge μ 137 with h1 | h0
              · rcases Nat.lt_or_ge μ 136 with h1 | h0
                · have e : μ = 135 := by omega
                  subst e
                  exact zk_135
                · have e : μ = 136 := by omega
                  subst e
                  exact zk_136
              · rcases Nat.lt_or_ge μ 138 with h1 | h0
                · have e : μ = 137 := by omega
                  subst e
                  exact zk_137
                · rcases Nat.lt_or_ge μ 139 with h1 | h0
                  · have e : μ = 138 := by omega
                    subst e
                    exact zk_138
                  · have e : μ = 139 := by omega
                    subst e
                    exact zk_139
            · rcases Nat.lt_or_ge μ 143 with h1 | h0
              · rcases Nat.lt_or_ge μ 141 with h1 | h0
                · have e : μ = 140 := by omega
                  subst e
                  exact zk_140
                · rcases Nat.lt_or_ge μ 142 with h1 | h0
                  · have e : μ = 141 := by omega
                    subst e
                    exact zk_141
                  · have e : μ = 142 := by omega
                    subst e
                    exact zk_142
              · rcases Nat.lt_or_ge μ 144 with h1 | h0
                · have e : μ = 143 := by omega
                  subst e
                  exact zk_143
                · rcases Nat.lt_or_ge μ 145 with h1 | h0
                  · have e : μ = 144 := by omega
                    subst e
                    exact zk_144
                  · have e : μ = 145 := by omega
                    subst e
                    exact zk_145
        · rcases Nat.lt_or_ge μ 156 with h1 | h0
          · rcases Nat.lt_or_ge μ 151 with h1 | h0
            · rcases Nat.lt_or_ge μ 148 with h1 | h0
              · rcases Nat.lt_or_ge μ 147 with h1 | h0
                · have e : μ = 146 := by omega
                  subst e
                  exact zk_146
                · have e : μ = 147 := by omega
                  subst e
                  exact zk_147
              · rcases Nat.lt_or_ge μ 149 with h1 | h0
                · have e : μ = 148 := by omega
                  subst e
                  exact zk_148
                · rcases Nat.lt_or_ge μ 150 with h1 | h0
                  · have e : μ = 149 := by omega
                    subst e
                    exact zk_149
                  · have e : μ = 150 := by omega
                    subst e
                    exact zk_150
            · rcases Nat.lt_or_ge μ 153 with h1 | h0
              · rcases Nat.lt_or_ge μ 152 with h1 | h0
                · have e : μ = 151 := by omega
                  subst e
                  exact zk_151
                · have e : μ = 152 := by omega
                  subst e
                  exact zk_152
              · rcases Nat.lt_or_ge μ 154 with h1 | h0
                · have e : μ = 153 := by omega
                  subst e
                  exact zk_153
                · rcases Nat.lt_or_ge μ 155 with h1 | h0
                  · have e : μ = 154 := by omega
                    subst e
                    exact zk_154
                  · have e : μ = 155 := by omega
                    subst e
                    exact zk_155
          · rcases Nat.lt_or_ge μ 161 with h1 | h0
            · rcases Nat.lt_or_ge μ 158 with h1 | h0
              · rcases Nat.lt_or_ge μ 157 with h1 | h0
                · have e : μ = 156 := by omega
                  subst e
                  exact zk_156
                · have e : μ = 157 := by omega
                  subst e
                  exact zk_157
              · rcases Nat.lt_or_ge μ 159 with h1 | h0
                · have e : μ = 158 := by omega
                  subst e
                  exact zk_158
                · rcases Nat.lt_or_ge μ 160 with h1 | h0
                  · have e : μ = 159 := by omega
                    subst e
                    exact zk_159
                  · have e : μ = 160 := by omega
                    subst e
                    exact zk_160
            · rcases Nat.lt_or_ge μ 164 with h1 | h0
              · rcases Nat.lt_or_ge μ 162 with h1 | h0
                · have e : μ = 161 := by omega
                  subst e
                  exact zk_161
                · rcases Nat.lt_or_ge μ 163 with h1 | h0
                  · have e : μ = 162 := by omega
                    subst e
                    exact zk_162
                  · have e : μ = 163 := by omega
                    subst e
                    exact zk_163
              · rcases Nat.lt_or_ge μ 165 with h1 | h0
                · have e : μ = 164 := by omega
                  subst e
                  exact zk_164
                · rcases Nat.lt_or_ge μ 166 with h1 | h0
                  · have e : μ = 165 := by omega
                    subst e
                    exact zk_165
                  · have e : μ = 166 := by omega
                    subst e
                    exact zk_166
  · rcases Nat.lt_or_ge μ 251 with h1 | h0
    · rcases Nat.lt_or_ge μ 209 with h1 | h0
      · rcases Nat.lt_or_ge μ 188 with h1 | h0
        · rcases Nat.lt_or_ge μ 177 with h1 | h0
          · rcases Nat.lt_or_ge μ 172 with h1 | h0
            · rcases Nat.lt_or_ge μ 169 with h1 | h0
              · rcases Nat.lt_or_ge μ 168 with h1 | h0
                · have e : μ = 167 := by omega
                  subst e
                  exact zk_167
                · have e : μ = 168 := by omega
                  subst e
                  exact zk_168
              · rcases Nat.lt_or_ge μ 170 with h1 | h0
                · have e : μ = 169 := by omega
                  subst e
                  exact zk_169
                · rcases Nat.lt_or_ge μ 171 with h1 | h0
                  · have e : μ = 170 := by omega
                    subst e
                    exact zk_170
                  · have e : μ = 171 := by omega
                    subst e
                    exact zk_171
            · rcases Nat.lt_or_ge μ 174 with h1 | h0
              · rcases Nat.lt_or_ge μ 173 with h1 | h0
                · have e : μ = 172 := by omega
                  subst e
                  exact zk_172
                · have e : μ = 173 := by omega
                  subst e
                  exact zk_173
              · rcases Nat.lt_or_ge μ 175 with h1 | h0
                · have e : μ = 174 := by omega
                  subst e
                  exact zk_174
                · rcases Nat.lt_or_ge μ 176 with h1 | h0
                  · have e : μ = 175 := by omega
                    subst e
                    exact zk_175
                  · have e : μ = 176 := by omega
                    subst e
                    exact zk_176
          · rcases Nat.lt_or_ge μ 182 with h1 | h0
            · rcases Nat.lt_or_ge μ 179 with h1 | h0
              · rcases Nat.lt_or_ge μ 178 with h1 | h0
                · have e : μ = 177 := by omega
                  subst e
                  exact zk_177
                · have e : μ = 178 := by omega
                  subst e
                  exact zk_178
              · rcases Nat.lt_or_ge μ 180 with h1 | h0
                · have e : μ = 179 := by omega
                  subst e
                  exact zk_179
                · rcases Nat.lt_or_ge μ 181 with h1 | h0
                  · have e : μ = 180 := by omega
                    subst e
                    exact zk_180
                  · have e : μ = 181 := by omega
                    subst e
                    exact zk_181
            · rcases Nat.lt_or_ge μ 185 with h1 | h0
              · rcases Nat.lt_or_ge μ 183 with h1 | h0
                · have e : μ = 182 := by omega
                  subst e
                  exact zk_182
                · rcases Nat.lt_or_ge μ 184 with h1 | h0
                  · have e : μ = 183 := by omega
                    subst e
                    exact zk_183
                  · have e : μ = 184 := by omega
                    subst e
                    exact zk_184
              · rcases Nat.lt_or_ge μ 186 with h1 | h0
                · have e : μ = 185 := by omega
                  subst e
                  exact zk_185
                · rcases Nat.lt_or_ge μ 187 with h1 | h0
                  · have e : μ = 186 := by omega
                    subst e
                    exact zk_186
                  · have e : μ = 187 := by omega
                    subst e
                    exact zk_187
        · rcases Nat.lt_or_ge μ 198 with h1 | h0
          · rcases Nat.lt_or_ge μ 193 with h1 | h0
            · rcases Nat.lt_or_ge μ 190 with h1 | h0
              · rcases Nat.lt_or_ge μ 189 with h1 | h0
                · have e : μ = 188 := by omega
                  subst e
                  exact zk_188
                · have e : μ = 189 := by omega
                  subst e
                  exact zk_189
              · rcases Nat.lt_or_ge μ 191 with h1 | h0
                · have e : μ = 190 := by omega
                  subst e
                  exact zk_190
                · rcases Nat.lt_or_ge μ 192 with h1 | h0
                  · have e : μ = 191 := by omega
                    subst e
                    exact zk_191
                  · have e : μ = 192 := by omega
                    subst e
                    exact zk_192
            · rcases Nat.lt_or_ge μ 195 with h1 | h0
              · rcases Nat.lt_or_ge μ 194 with h1 | h0
                · have e : μ = 193 := by omega
                  subst e
                  exact zk_193
                · have e : μ = 194 := by omega
                  subst e
                  exact zk_194
              · rcases Nat.lt_or_ge μ 196 with h1 | h0
                · have e : μ = 195 := by omega
                  subst e
                  exact zk_195
                · rcases Nat.lt_or_ge μ 197 with h1 | h0
                  · have e : μ = 196 := by omega
                    subst e
                    exact zk_196
                  · have e : μ = 197 := by omega
                    subst e
                    exact zk_197
          · rcases Nat.lt_or_ge μ 203 with h1 | h0
            · rcases Nat.lt_or_ge μ 200 with h1 | h0
              · rcases Nat.lt_or_ge μ 199 with h1 | h0
                · have e : μ = 198 := by omega
                  subst e
                  exact zk_198
                · have e : μ = 199 := by omega
                  subst e
                  exact zk_199
              · rcases Nat.lt_or_ge μ 201 with h1 | h0
                · have e : μ = 200 := by omega
                  subst e
                  exact zk_200
                · rcases Nat.lt_or_ge μ 202 with h1 | h0
                  · have e : μ = 201 := by omega
                    subst e
                    exact zk_201
                  · have e : μ = 202 := by omega
                    subst e
                    exact zk_202
            · rcases Nat.lt_or_ge μ 206 with h1 | h0
              · rcases Nat.lt_or_ge μ 204 with h1 | h0
                · have e : μ = 203 := by omega
                  subst e
                  exact zk_203
                · rcases Nat.lt_or_ge μ 205 with h1 | h0
                  · have e : μ = 204 := by omega
                    subst e
                    exact zk_204
                  · have e : μ = 205 := by omega
                    subst e
                    exact zk_205
              · rcases Nat.lt_or_ge μ 207 with h1 | h0
                · have e : μ = 206 := by omega
                  subst e
                  exact zk_206
                · rcases Nat.lt_or_ge μ 208 with h1 | h0
                  · have e : μ = 207 := by omega
                    subst e
                    exact zk_207
                  · have e : μ = 208 := by omega
                    subst e
                    exact zk_208
      · rcases Nat.lt_or_ge μ 230 with h1 | h0
        · rcases Nat.lt_or_ge μ 219 with h1 | h0
          · rcases Nat.lt_or_ge μ 214 with h1 | h0
            · rcases Nat.lt_or_ge μ 211 with h1 | h0
              · rcases Nat.lt_or_ge μ 210 with h1 | h0
                · have e : μ = 209 := by omega
                  subst e
                  exact zk_209
                · have e : μ = 210 := by omega
                  subst e
                  exact zk_210
              · rcases Nat.lt_or_ge μ 212 with h1 | h0
                · have e : μ = 211 := by omega
                  subst e
                  exact zk_211
                · rcases Nat.lt_or_ge μ 213 with h1 | h0
                  · have e : μ = 212 := by omega
                    subst e
                    exact zk_212
                  · have e : μ = 213 := by omega
                    subst e
                    exact zk_213
            · rcases Nat.lt_or_ge μ 216 with h1 | h0
              · rcases Nat.lt_or_ge μ 215 with h1 | h0
                · have e : μ = 214 := by omega
                  subst e
                  exact zk_214
                · have e : μ = 215 := by omega
                  subst e
                  exact zk_215
              · rcases Nat.lt_or_ge μ 217 with h1 | h0
                · have e : μ = 216 := by omega
                  subst e
                  exact zk_216
                · rcases Nat.lt_or_ge μ 218 with h1 | h0
                  · have e : μ = 217 := by omega
                    subst e
                    exact zk_217
                  · have e : μ = 218 := by omega
                    subst e
                    exact zk_218
          · rcases Nat.lt_or_ge μ 224 with h1 | h0
            · rcases Nat.lt_or_ge μ 221 with h1 | h0
              · rcases Nat.lt_or_ge μ 220 with h1 | h0
                · have e : μ = 219 := by omega
                  subst e
                  exact zk_219
                · have e : μ = 220 := by omega
                  subst e
                  exact zk_220
              · rcases Nat.lt_or_ge μ 222 with h1 | h0
                · have e : μ = 221 := by omega
                  subst e
                  exact zk_221
                · rcases Nat.lt_or_ge μ 223 with h1 | h0
                  · have e : μ = 222 := by omega
                    subst e
                    exact zk_222
                  · have e : μ = 223 := by omega
                    subst e
                    exact zk_223
            · rcases Nat.lt_or_ge μ 227 with h1 | h0
              · rcases Nat.lt_or_ge μ 225 with h1 | h0
                · have e : μ = 224 := by omega
                  subst e
                  exact zk_224
                · rcases Nat.lt_or_ge μ 226 with h1 | h0
                  · have e : μ = 225 := by omega
                    subst e
                    exact zk_225
                  · have e : μ = 226 := by omega
                    subst e
                    exact zk_226
              · rcases Nat.lt_or_ge μ 228 with h1 | h0
                · have e : μ = 227 := by omega
                  subst e
                  exact zk_227
                · rcases Nat.lt_or_ge μ 229 with h1 | h0
                  · have e : μ = 228 := by omega
                    subst e
                    exact zk_228
                  · have e : μ = 229 := by omega
                    subst e
                    exact zk_229
        · rcases Nat.lt_or_ge μ 240 with h1 | h0
          · rcases Nat.lt_or_ge μ 235 with h1 | h0
            · rcases Nat.lt_or_ge μ 232 with h1 | h0
              · rcases Nat.lt_or_ge μ 231 with h1 | h0
                · have e : μ = 230 := by omega
                  subst e
                  exact zk_230
                · have e : μ = 231 := by omega
                  subst e
                  exact zk_231
              · rcases Nat.lt_or_ge μ 233 with h1 | h0
                · have e : μ = 232 := by omega
                  subst e
                  exact zk_232
                · rcases Nat.lt_or_ge μ 234 with h1 | h0
                  · have e : μ = 233 := by omega
                    subst e
                    exact zk_233
                  · have e : μ = 234 := by omega
                    subst e
                    exact zk_234
            · rcases Nat.lt_or_ge μ 237 with h1 | h0
              · rcases Nat.lt_or_ge μ 236 with h1 | h0
                · have e : μ = 235 := by omega
                  subst e
                  exact zk_235
                · have e : μ = 236 := by omega
                  subst e
                  exact zk_236
              · rcases Nat.lt_or_ge μ 238 with h1 | h0
                · have e : μ = 237 := by omega
                  subst e
                  exact zk_237
                · rcases Nat.lt_or_ge μ 239 with h1 | h0
                  · have e : μ = 238 := by omega
                    subst e
                    exact zk_238
                  · have e : μ = 239 := by omega
                    subst e
                    exact zk_239
          · rcases Nat.lt_or_ge μ 245 with h1 | h0
            · rcases Nat.lt_or_ge μ 242 with h1 | h0
              · rcases Nat.lt_or_ge μ 241 with h1 | h0
                · have e : μ = 240 := by omega
                  subst e
                  exact zk_240
                · have e : μ = 241 := by omega
                  subst e
                  exact zk_241
              · rcases Nat.lt_or_ge μ 243 with h1 | h0
                · have e : μ = 242 := by omega
                  subst e
                  exact zk_242
                · rcases Nat.lt_or_ge μ 244 with h1 | h0
                  · have e : μ = 243 := by omega
                    subst e
                    exact zk_243
                  · have e : μ = 244 := by omega
                    subst e
                    exact zk_244
            · rcases Nat.lt_or_ge μ 248 with h1 | h0
              · rcases Nat.lt_or_ge μ 246 with h1 | h0
                · have e : μ = 245 := by omega
                  subst e
                  exact zk_245
                · rcases Nat.lt_or_ge μ 247 with h1 | h0
                  · have e : μ = 246 := by omega
                    subst e
                    exact zk_246
                  · have e : μ = 247 := by omega
                    subst e
                    exact zk_247
              · rcases Nat.lt_or_ge μ 249 with h1 | h0
                · have e : μ = 248 := by omega
                  subst e
                  exact zk_248
                · rcases Nat.lt_or_ge μ 250 with h1 | h0
                  · have e : μ = 249 := by omega
                    subst e
                    exact zk_249
                  · have e : μ = 250 := by omega
                    subst e
                    exact zk_250
    · rcases Nat.lt_or_ge μ 293 with h1 | h0
      · rcases Nat.lt_or_ge μ 272 with h1 | h0
        · rcases Nat.lt_or_ge μ 261 with h1 | h0
          · rcases Nat.lt_or_ge μ 256 with h1 | h0
            · rcases Nat.lt_or_ge μ 253 with h1 | h0
              · rcases Nat.lt_or_ge μ 252 with h1 | h0
                · have e : μ = 251 := by omega
                  subst e
                  exact zk_251
                · have e : μ = 252 := by omega
                  subst e
                  exact zk_252
              · rcases Nat.lt_or_ge μ 254 with h1 | h0
                · have e : μ = 253 := by omega
                  subst e
                  exact zk_253
                · rcases Nat.lt_or_ge μ 255 with h1 | h0
                  · have e : μ = 254 := by omega
                    subst e
                    exact zk_254
                  · have e : μ = 255 := by omega
                    subst e
                    exact zk_255
            · rcases Nat.lt_or_ge μ 258 with h1 | h0
              · rcases Nat.lt_or_ge μ 257 with h1 | h0
                · have e : μ = 256 := by omega
                  subst e
                  exact zk_256
                · have e : μ = 257 := by omega
                  subst e
                  exact zk_257
              · rcases Nat.lt_or_ge μ 259 with h1 | h0
                · have e : μ = 258 := by omega
                  subst e
                  exact zk_258
                · rcases Nat.lt_or_ge μ 260 with h1 | h0
                  · have e : μ = 259 := by omega
                    subst e
                    exact zk_259
                  · have e : μ = 260 := by omega
                    subst e
                    exact zk_260
          · rcases Nat.lt_or_ge μ 266 with h1 | h0
            · rcases Nat.lt_or_ge μ 263 with h1 | h0
              · rcases Nat.lt_or_ge μ 262 with h1 | h0
                · have e : μ = 261 := by omega
                  subst e
                  exact zk_261
                · have e : μ = 262 := by omega
                  subst e
                  exact zk_262
              · rcases Nat.lt_or_ge μ 264 with h1 | h0
                · have e : μ = 263 := by omega
                  subst e
                  exact zk_263
                · rcases Nat.lt_or_ge μ 265 with h1 | h0
                  · have e : μ = 264 := by omega
                    subst e
                    exact zk_264
                  · have e : μ = 265 := by omega
                    subst e
                    exact zk_265
            · rcases Nat.lt_or_ge μ 269 with h1 | h0
              · rcases Nat.lt_or_ge μ 267 with h1 | h0
                · have e : μ = 266 := by omega
                  subst e
                  exact zk_266
                · rcases Nat.lt_or_ge μ 268 with h1 | h0
                  · have e : μ = 267 := by omega
                    subst e
                    exact zk_267
                  · have e : μ = 268 := by omega
                    subst e
                    exact zk_268
              · rcases Nat.lt_or_ge μ 270 with h1 | h0
                · have e : μ = 269 := by omega
                  subst e
                  exact zk_269
                · rcases Nat.lt_or_ge μ 271 with h1 | h0
                  · have e : μ = 270 := by omega
                    subst e
                    exact zk_270
                  · have e : μ = 271 := by omega
                    subst e
                    exact zk_271
        · rcases Nat.lt_or_ge μ 282 with h1 | h0
          · rcases Nat.lt_or_ge μ 277 with h1 | h0
            · rcases Nat.lt_or_ge μ 274 with h1 | h0
              · rcases Nat.lt_or_ge μ 273 with h1 | h0
                · have e : μ = 272 := by omega
                  subst e
                  exact zk_272
                · have e : μ = 273 := by omega
                  subst e
                  exact zk_273
              · rcases Nat.lt_or_ge μ 275 with h1 | h0
                · have e : μ = 274 := by omega
                  subst e
                  exact zk_274
                · rcases Nat.lt_or_ge μ 276 with h1 | h0
                  · have e : μ = 275 := by omega
                    subst e
                    exact zk_275
                  · have e : μ = 276 := by omega
                    subst e
                    exact zk_276
            · rcases Nat.lt_or_ge μ 279 with h1 | h0
              · rcases Nat.lt_or_ge μ 278 with h1 | h0
                · have e : μ = 277 := by omega
                  subst e
                  exact zk_277
                · have e : μ = 278 := by omega
                  subst e
                  exact zk_278
              · rcases Nat.lt_or_ge μ 280 with h1 | h0
                · have e : μ = 279 := by omega
                  subst e
                  exact zk_279
                · rcases Nat.lt_or_ge μ 281 with h1 | h0
                  · have e : μ = 280 := by omega
                    subst e
                    exact zk_280
                  · have e : μ = 281 := by omega
                    subst e
                    exact zk_281
          · rcases Nat.lt_or_ge μ 287 with h1 | h0
            · rcases Nat.lt_or_ge μ 284 with h1 | h0
              · rcases Nat.lt_or_ge μ 283 with h1 | h0
                · have e : μ = 282 := by omega
                  subst e
                  exact zk_282
                · have e : μ = 283 := by omega
                  subst e
                  exact zk_283
              · rcases Nat.lt_or_ge μ 285 with h1 | h0
                · have e : μ = 284 := by omega
                  subst e
                  exact zk_284
                · rcases Nat.lt_or_ge μ 286 with h1 | h0
                  · have e : μ = 285 := by omega
                    subst e
                    exact zk_285
                  · have e : μ = 286 := by omega
                    subst e
                    exact zk_286
            · rcases Nat.lt_or_ge μ 290 with h1 | h0
              · rcases Nat.lt_or_ge μ 288 with h1 | h0
                · have e : μ = 287 := by omega
                  subst e
                  exact zk_287
                · rcases Nat.lt_or_ge μ 289 with h1 | h0
                  · have e : μ = 288 := by omega
                    subst e
                    exact zk_288
                  · have e : μ = 289 := by omega
                    subst e
                    exact zk_289
              · rcases Nat.lt_or_ge μ 291 with h1 | h0
                · have e : μ = 290 := by omega
                  subst e
                  exact zk_290
                · rcases Nat.lt_or_ge μ 292 with h1 | h0
                  · have e : μ = 291 := by omega
                    subst e
                    exact zk_291
                  · have e : μ = 292 := by omega
                    subst e
                    exact zk_292
      · rcases Nat.lt_or_ge μ 314 with h1 | h0
        · rcases Nat.lt_or_ge μ 303 with h1 | h0
          · rcases Nat.lt_or_ge μ 298 with h1 | h0
            · rcases Nat.lt_or_ge μ 295 with h1 | h0
              · rcases Nat.lt_or_ge μ 294 with h1 | h0
                · have e : μ = 293 := by omega
                  subst e
                  exact zk_293
                · have e : μ = 294 := by omega
                  subst e
                  exact zk_294
              · rcases Nat.lt_or_ge μ 296 with h1 | h0
                · have e : μ = 295 := by omega
                  subst e
                  exact zk_295
                · rcases Nat.lt_or_ge μ 297 with h1 | h0
                  · have e : μ = 296 := by omega
                    subst e
                    exact zk_296
                  · have e : μ = 297 := by omega
                    subst e
                    exact zk_297
            · rcases Nat.lt_or_ge μ 300 with h1 | h0
              · rcases Nat.lt_or_ge μ 299 with h1 | h0
                · have e : μ = 298 := by omega
                  subst e
                  exact zk_298
                · have e : μ = 299 := by omega
                  subst e
                  exact zk_299
              · rcases Nat.lt_or_ge μ 301 with h1 | h0
                · have e : μ = 300 := by omega
                  subst e
                  exact zk_300
                · rcases Nat.lt_or_ge μ 302 with h1 | h0
                  · have e : μ = 301 := by omega
                    subst e
                    exact zk_301
                  · have e : μ = 302 := by omega
                    subst e
                    exact zk_302
          · rcases Nat.lt_or_ge μ 308 with h1 | h0
            · rcases Nat.lt_or_ge μ 305 with h1 | h0
              · rcases Nat.lt_or_ge μ 304 with h1 | h0
                · have e : μ = 303 := by omega
                  subst e
                  exact zk_303
                · have e : μ = 304 := by omega
                  subst e
                  exact zk_304
              · rcases Nat.lt_or_ge μ 306 with h1 | h0
                · have e : μ = 305 := by omega
                  subst e
                  exact zk_305
                · rcases Nat.lt_or_ge μ 307 with h1 | h0
                  · have e : μ = 306 := by omega
                    subst e
                    exact zk_306
                  · have e : μ = 307 := by omega
                    subst e
                    exact zk_307
            · rcases Nat.lt_or_ge μ 311 with h1 | h0
              · rcases Nat.lt_or_ge μ 309 with h1 | h0
                · have e : μ = 308 := by omega
                  subst e
                  exact zk_308
                · rcases Nat.lt_or_ge μ 310 with h1 | h0
                  · have e : μ = 309 := by omega
                    subst e
                    exact zk_309
                  · have e : μ = 310 := by omega
                    subst e
                    exact zk_310
              · rcases Nat.lt_or_ge μ 312 with h1 | h0
                · have e : μ = 311 := by omega
                  subst e
                  exact zk_311
                · rcases Nat.lt_or_ge μ 313 with h1 | h0
                  · have e : μ = 312 := by omega
                    subst e
                    exact zk_312
                  · have e : μ = 313 := by omega
                    subst e
                    exact zk_313
        · rcases Nat.lt_or_ge μ 324 with h1 | h0
          · rcases Nat.lt_or_ge μ 319 with h1 | h0
            · rcases Nat.lt_or_ge μ 316 with h1 | h0
              · rcases Nat.lt_or_ge μ 315 with h1 | h0
                · have e : μ = 314 := by omega
                  subst e
                  exact zk_314
                · have e : μ = 315 := by omega
                  subst e
                  exact zk_315
              · rcases Nat.lt_or_ge μ 317 with h1 | h0
                · have e : μ = 316 := by omega
                  subst e
                  exact zk_316
                · rcases Nat.lt_or_ge μ 318 with h1 | h0
                  · have e : μ = 317 := by omega
                    subst e
                    exact zk_317
                  · have e : μ = 318 := by omega
                    subst e
                    exact zk_318
            · rcases Nat.lt_or_ge μ 321 with h1 | h0
              · rcases Nat.lt_or_ge μ 320 with h1 | h0
                · have e : μ = 319 := by omega
                  subst e
                  exact zk_319
                · have e : μ = 320 := by omega
                  subst e
                  exact zk_320
              · rcases Nat.lt_or_ge μ 322 with h1 | h0
                · have e : μ = 321 := by omega
                  subst e
                  exact zk_321
                · rcases Nat.lt_or_ge μ 323 with h1 | h0
                  · have e : μ = 322 := by omega
                    subst e
                    exact zk_322
                  · have e : μ = 323 := by omega
                    subst e
                    exact zk_323
          · rcases Nat.lt_or_ge μ 329 with h1 | h0
            · rcases Nat.lt_or_ge μ 326 with h1 | h0
              · rcases Nat.lt_or_ge μ 325 with h1 | h0
                · have e : μ = 324 := by omega
                  subst e
                  exact zk_324
                · have e : μ = 325 := by omega
                  subst e
                  exact zk_325
              · rcases Nat.lt_or_ge μ 327 with h1 | h0
                · have e : μ = 326 := by omega
                  subst e
                  exact zk_326
                · rcases Nat.lt_or_ge μ 328 with h1 | h0
                  · have e : μ = 327 := by omega
                    subst e
                    exact zk_327
                  · have e : μ = 328 := by omega
                    subst e
                    exact zk_328
            · rcases Nat.lt_or_ge μ 332 with h1 | h0
              · rcases Nat.lt_or_ge μ 330 with h1 | h0
                · have e : μ = 329 := by omega
                  subst e
                  exact zk_329
                · rcases Nat.lt_or_ge μ 331 with h1 | h0
                  · have e : μ = 330 := by omega
                    subst e
                    exact zk_330
                  · have e : μ = 331 := by omega
                    subst e
                    exact zk_331
              · rcases Nat.lt_or_ge μ 333 with h1 | h0
                · have e : μ = 332 := by omega
                  subst e
                  exact zk_332
                · rcases Nat.lt_or_ge μ 334 with h1 | h0
                  · have e : μ = 333 := by omega
                    subst e
                    exact zk_333
                  · have e : μ = 334 := by omega
                    subst e
                    exact zk_334
theorem z_lookup {α : Type} {l : List (Nat × α)} {k : Nat} {v : α} (h : l.lookup k = some v) : (k, v) ∈ l := by
  induction l with
  | nil => cases h
  | cons x r ih =>
    obtain ⟨a, b⟩ := x
    rw [List.lookup_cons] at h
    split at h
    · rename_i e
      cases h
      have e2 : k = a := by simpa using e
      rw [e2]
      exact List.mem_cons_self
    · exact List.mem_cons_of_mem _ (ih h)
theorem zDec {μ pc op len : Nat} {a b : Int} (hμ : μ < 335) (h : zC μ pc = some (op, a, b, len)) : ∃ i, decode (zB μ) pc = .ok (i, len) ∧ zFo (zMof μ).1 μ pc len op a b i = true := by
  have hm := z_lookup (show (zCL μ).lookup pc = some (op, a, b, len) from h)
  have hk := List.all_eq_true.mp (zk_all μ hμ) _ hm
  unfold zChk at hk
  dsimp only at hk
  split at hk
  · rename_i i l e
    simp only [Bool.and_eq_true, beq_iff_eq] at hk
    obtain ⟨h1, h2⟩ := hk
    subst h1
    exact ⟨i, e, h2⟩
  · cases hk
