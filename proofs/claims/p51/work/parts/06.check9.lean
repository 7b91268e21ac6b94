set_option maxRecDepth 1000000 in
theorem c_m302 : n_meth 302 = true := by decide +kernel
theorem n_all (k : Nat) (hk : k < 303) : n_meth k = true := by
  rcases Nat.lt_or_ge k 151 with h | h
  · rcases Nat.lt_or_ge k 75 with h | h
    · rcases Nat.lt_or_ge k 37 with h | h
      · rcases Nat.lt_or_ge k 18 with h | h
        · rcases Nat.lt_or_ge k 9 with h | h
          · rcases Nat.lt_or_ge k 4 with h | h
            · rcases Nat.lt_or_ge k 2 with h | h
              · rcases Nat.lt_or_ge k 1 with h | h
                · have e : k = 0 := by omega
                  subst e
                  exact c_m0
                · have e : k = 1 := by omega
                  subst e
                  exact c_m1
              · rcases Nat.lt_or_ge k 3 with h | h
                · have e : k = 2 := by omega
                  subst e
                  exact c_m2
                · have e : k = 3 := by omega
                  subst e
                  exact c_m3
            · rcases Nat.lt_or_ge k 6 with h | h
              · rcases Nat.lt_or_ge k 5 with h | h
                · have e : k = 4 := by omega
                  subst e
                  exact c_m4
                · have e : k = 5 := by omega
                  subst e
                  exact c_m5
              · rcases Nat.lt_or_ge k 7 with h | h
                · have e : k = 6 := by omega
                  subst e
                  exact c_m6
                · rcases Nat.lt_or_ge k 8 with h | h
                  · have e : k = 7 := by omega
                    subst e
                    exact c_m7
                  · have e : k = 8 := by omega
                    subst e
                    exact c_m8
          · rcases Nat.lt_or_ge k 13 with h | h
            · rcases Nat.lt_or_ge k 11 with h | h
              · rcases Nat.lt_or_ge k 10 with h | h
                · have e : k = 9 := by omega
                  subst e
                  exact c_m9
                · have e : k = 10 := by omega
                  subst e
                  exact c_m10
              · rcases Nat.lt_or_ge k 12 with h | h
                · have e : k = 11 := by omega
                  subst e
                  exact c_m11
                · have e : k = 12 := by omega
                  subst e
                  exact c_m12
            · rcases Nat.lt_or_ge k 15 with h | h
              · rcases Nat.lt_or_ge k 14 with h | h
                · have e : k = 13 := by omega
                  subst e
                  exact c_m13
                · have e : k = 14 := by omega
                  subst e
                  exact c_m14
              · rcases Nat.lt_or_ge k 16 with h | h
                · have e : k = 15 := by omega
                  subst e
                  exact c_m15
                · rcases Nat.lt_or_ge k 17 with h | h
                  · have e : k = 16 := by omega
                    subst e
                    exact c_m16
                  · have e : k = 17 := by omega
                    subst e
                    exact c_m17
        · rcases Nat.lt_or_ge k 27 with h | h
          · rcases Nat.lt_or_ge k 22 with h | h
            · rcases Nat.lt_or_ge k 20 with h | h
              · rcases Nat.lt_or_ge k 19 with h | h
                · have e : k = 18 := by omega
                  subst e
                  exact c_m18
                · have e : k = 19 := by omega
                  subst e
                  exact c_m19
              · rcases Nat.lt_or_ge k 21 with h | h
                · have e : k = 20 := by omega
                  subst e
                  exact c_m20
                · have e : k = 21 := by omega
                  subst e
                  exact c_m21
            · rcases Nat.lt_or_ge k 24 with h | h
              · rcases Nat.lt_or_ge k 23 with h | h
                · have e : k = 22 := by omega
                  subst e
                  exact c_m22
                · have e : k = 23 := by omega
                  subst e
                  exact c_m23
              · rcases Nat.lt_or_ge k 25 with h | h
                · have e : k = 24 := by omega
                  subst e
                  exact c_m24
                · rcases Nat.lt_or_ge k 26 with h | h
                  · have e : k = 25 := by omega
                    subst e
                    exact c_m25
                  · have e : k = 26 := by omega
                    subst e
                    exact c_m26
          · rcases Nat.lt_or_ge k 32 with h | h
            · rcases Nat.lt_or_ge k 29 with h | h
              · rcases Nat.lt_or_ge k 28 with h | h
                · have e : k = 27 := by omega
                  subst e
                  exact c_m27
                · have e : k = 28 := by omega
                  subst e
                  exact c_m28
              · rcases Nat.lt_or_ge k 30 with h | h
                · have e : k = 29 := by omega
                  subst e
                  exact c_m29
                · rcases Nat.lt_or_ge k 31 with h | h
                  · have e : k = 30 := by omega
                    subst e
                    exact c_m30
                  · have e : k = 31 := by omega
                    subst e
                    exact c_m31
            · rcases Nat.lt_or_ge k 34 with h | h
              · rcases Nat.lt_or_ge k 33 with h | h
                · have e : k = 32 := by omega
                  subst e
                  exact c_m32
                · have e : k = 33 := by omega
                  subst e
                  exact c_m33
              · rcases Nat.lt_or_ge k 35 with h | h
                · have e : k = 34 := by omega
                  subst e
                  exact c_m34
                · rcases Nat.lt_or_ge k 36 with h | h
                  · have e : k = 35 := by omega
                    subst e
                    exact c_m35
                  · have e : k = 36 := by omega
                    subst e
                    exact c_m36
      · rcases Nat.lt_or_ge k 56 with h | h
        · rcases Nat.lt_or_ge k 46 with h | h
          · rcases Nat.lt_or_ge k 41 with h | h
            · rcases Nat.lt_or_ge k 39 with h | h
              · rcases Nat.lt_or_ge k 38 with h | h
                · have e : k = 37 := by omega
                  subst e
                  exact c_m37
                · have e : k = 38 := by omega
                  subst e
                  exact c_m38
              · rcases Nat.lt_or_ge k 40 with h | h
                · have e : k = 39 := by omega
                  subst e
                  exact c_m39
                · have e : k = 40 := by omega
                  subst e
                  exact c_m40
            · rcases Nat.lt_or_ge k 43 with h | h
              · rcases Nat.lt_or_ge k 42 with h | h
                · have e : k = 41 := by omega
                  subst e
                  exact c_m41
                · have e : k = 42 := by omega
                  subst e
                  exact c_m42
              · rcases Nat.lt_or_ge k 44 with h | h
                · have e : k = 43 := by omega
                  subst e
                  exact c_m43
                · rcases Nat.lt_or_ge k 45 with h | h
                  · have e : k = 44 := by omega
                    subst e
                    exact c_m44
                  · have e : k = 45 := by omega
                    subst e
                    exact c_m45
          · rcases Nat.lt_or_ge k 51 with h | h
            · rcases Nat.lt_or_ge k 48 with h | h
              · rcases Nat.lt_or_ge k 47 with h | h
                · have e : k = 46 := by omega
                  subst e
                  exact c_m46
                · have e : k = 47 := by omega
                  subst e
                  exact c_m47
              · rcases Nat.lt_or_ge k 49 with h | h
                · have e : k = 48 := by omega
                  subst e
                  exact c_m48
                · rcases Nat.lt_or_ge k 50 with h | h
                  · have e : k = 49 := by omega
                    subst e
                    exact c_m49
                  · have e : k = 50 := by omega
                    subst e
                    exact c_m50
            · rcases Nat.lt_or_ge k 53 with h | h
              · rcases Nat.lt_or_ge k 52 with h | h
                · have e : k = 51 := by omega
                  subst e
                  exact c_m51
                · have e : k = 52 := by omega
                  subst e
                  exact c_m52
              · rcases Nat.lt_or_ge k 54 with h | h
                · have e : k = 53 := by omega
                  subst e
                  exact c_m53
                · rcases Nat.lt_or_ge k 55 with h | h
                  · have e : k = 54 := by omega
                    subst e
                    exact c_m54
                  · have e : k = 55 := by omega
                    subst e
                    exact c_m55
        · rcases Nat.lt_or_ge k 65 with h | h
          · rcases Nat.lt_or_ge k 60 with h | h
            · rcases Nat.lt_or_ge k 58 with h | h
              · rcases Nat.lt_or_ge k 57 with h | h
                · have e : k = 56 := by omega
                  subst e
                  exact c_m56
                · have e : k = 57 := by omega
                  subst e
                  exact c_m57
              · rcases Nat.lt_or_ge k 59 with h | h
                · have e : k = 58 := by omega
                  subst e
                  exact c_m58
                · have e : k = 59 := by omega
                  subst e
                  exact c_m59
            · rcases Nat.lt_or_ge k 62 with h | h
              · rcases Nat.lt_or_ge k 61 with h | h
                · have e : k = 60 := by omega
                  subst e
                  exact c_m60
                · have e : k = 61 := by omega
                  subst e
                  exact c_m61
              · rcases Nat.lt_or_ge k 63 with h | h
                · have e : k = 62 := by omega
                  subst e
                  exact c_m62
                · rcases Nat.lt_or_ge k 64 with h | h
                  · have e : k = 63 := by omega
                    subst e
                    exact c_m63
                  · have e : k = 64 := by omega
                    subst e
                    exact c_m64
          · rcases Nat.lt_or_ge k 70 with h | h
            · rcases Nat.lt_or_ge k 67 with h | h
              · rcases Nat.lt_or_ge k 66 with h | h
                · have e : k = 65 := by omega
                  subst e
                  exact c_m65
                · have e : k = 66 := by omega
                  subst e
                  exact c_m66
              · rcases Nat.lt_or_ge k 68 with h | h
                · have e : k = 67 := by omega
                  subst e
                  exact c_m67
                · rcases Nat.lt_or_ge k 69 with h | h
                  · have e : k = 68 := by omega
                    subst e
                    exact c_m68
                  · have e : k = 69 := by omega
                    subst e
                    exact c_m69
            · rcases Nat.lt_or_ge k 72 with h | h
              · rcases Nat.lt_or_ge k 71 with h | h
                · have e : k = 70 := by omega
                  subst e
                  exact c_m70
                · have e : k = 71 := by omega
                  subst e
                  exact c_m71
              · rcases Nat.lt_or_ge k 73 with h | h
                · have e : k = 72 := by omega
                  subst e
                  exact c_m72
                · rcases Nat.lt_or_ge k 74 with h | h
                  · have e : k = 73 := by omega
                    subst e
                    exact c_m73
                  · have e : k = 74 := by omega
                    subst e
                    exact c_m74
    · rcases Nat.lt_or_ge k 113 with h | h
      · rcases Nat.lt_or_ge k 94 with h | h
        · rcases Nat.lt_or_ge k 84 with h | h
          · rcases Nat.lt_or_ge k 79 with h | h
            · rcases Nat.lt_or_ge k 77 with h | h
              · rcases Nat.lt_or_ge k 76 with h | h
                · have e : k = 75 := by omega
                  subst e
                  exact c_m75
                · have e : k = 76 := by omega
                  subst e
                  exact c_m76
              · rcases Nat.lt_or_ge k 78 with h | h
                · have e : k = 77 := by omega
                  subst e
                  exact c_m77
                · have e : k = 78 := by omega
                  subst e
                  exact c_m78
            · rcases Nat.lt_or_ge k 81 with h | h
              · rcases Nat.lt_or_ge k 80 with h | h
                · have e : k = 79 := by omega
                  subst e
                  exact c_m79
                · have e : k = 80 := by omega
                  subst e
                  exact c_m80
              · rcases Nat.lt_or_ge k 82 with h | h
                · have e : k = 81 := by omega
                  subst e
                  exact c_m81
                · rcases Nat.lt_or_ge k 83 with h | h
                  · have e : k = 82 := by omega
                    subst e
                    exact c_m82
                  · have e : k = 83 := by omega
                    subst e
                    exact c_m83
          · rcases Nat.lt_or_ge k 89 with h | h
            · rcases Nat.lt_or_ge k 86 with h | h
              · rcases Nat.lt_or_ge k 85 with h | h
                · have e : k = 84 := by omega
                  subst e
                  exact c_m84
                · have e : k = 85 := by omega
                  subst e
                  exact c_m85
              · rcases Nat.lt_or_ge k 87 with h | h
                · have e : k = 86 := by omega
                  subst e
                  exact c_m86
                · rcases Nat.lt_or_ge k 88 with h | h
                  · have e : k = 87 := by omega
                    subst e
                    exact c_m87
                  · have e : k = 88 := by omega
                    subst e
                    exact c_m88
            · rcases Nat.lt_or_ge k 91 with h | h
              · rcases Nat.lt_or_ge k 90 with h | h
                · have e : k = 89 := by omega
                  subst e
                  exact c_m89
                · have e : k = 90 := by omega
                  subst e
                  exact c_m90
              · rcases Nat.lt_or_ge k 92 with h | h
                · have e : k = 91 := by omega
                  subst e
                  exact c_m91
                · rcases Nat.lt_or_ge k 93 with h | h
                  · have e : k = 92 := by omega
                    subst e
                    exact c_m92
                  · have e : k = 93 := by omega
                    subst e
                    exact c_m93
        · rcases Nat.lt_or_ge k 103 with h | h
          · rcases Nat.lt_or_ge k 98 with h | h
            · rcases Nat.lt_or_ge k 96 with h | h
              · rcases Nat.lt_or_ge k 95 with h | h
                · have e : k = 94 := by omega
                  subst e
                  exact c_m94
                · have e : k = 95 := by omega
                  subst e
                  exact c_m95
              · rcases Nat.lt_or_ge k 97 with h | h
                · have e : k = 96 := by omega
                  subst e
                  exact c_m96
                · have e : k = 97 := by omega
                  subst e
                  exact c_m97
            · rcases Nat.lt_or_ge k 100 with h | h
              · rcases Nat.lt_or_ge k 99 with h | h
                · have e : k = 98 := by omega
                  subst e
                  exact c_m98
                · have e : k = 99 := by omega
                  subst e
                  exact c_m99
              · rcases Nat.lt_or_ge k 101 with h | h
                · have e : k = 100 := by omega
                  subst e
                  exact c_m100
                · rcases Nat.lt_or_ge k 102 with h | h
                  · have e : k = 101 := by omega
                    subst e
                    exact c_m101
                  · have e : k = 102 := by omega
                    subst e
                    exact c_m102
          · rcases Nat.lt_or_ge k 108 with h | h
            · rcases Nat.lt_or_ge k 105 with h | h
              · rcases Nat.lt_or_ge k 104 with h | h
                · have e : k = 103 := by omega
                  subst e
                  exact c_m103
                · have e : k = 104 := by omega
                  subst e
                  exact c_m104
              · rcases Nat.lt_or_ge k 106 with h | h
                · have e : k = 105 := by omega
                  subst e
                  exact c_m105
                · rcases Nat.lt_or_ge k 107 with h | h
                  · have e : k = 106 := by omega
                    subst e
                    exact c_m106
                  · have e : k = 107 := by omega
                    subst e
                    exact c_m107
            · rcases Nat.lt_or_ge k 110 with h | h
              · rcases Nat.lt_or_ge k 109 with h | h
                · have e : k = 108 := by omega
                  subst e
                  exact c_m108
                · have e : k = 109 := by omega
                  subst e
                  exact c_m109
              · rcases Nat.lt_or_ge k 111 with h | h
                · have e : k = 110 := by omega
                  subst e
                  exact c_m110
                · rcases Nat.lt_or_ge k 112 with h | h
                  · have e : k = 111 := by omega
                    subst e
                    exact c_m111
                  · have e : k = 112 := by omega
                    subst e
                    exact c_m112
      · rcases Nat.lt_or_ge k 132 with h | h
        · rcases Nat.lt_or_ge k 122 with h | h
          · rcases Nat.lt_or_ge k 117 with h | h
            · rcases Nat.lt_or_ge k 115 with h | h
              · rcases Nat.lt_or_ge k 114 with h | h
                · have e : k = 113 := by omega
                  subst e
                  exact c_m113
                · have e : k = 114 := by omega
                  subst e
                  exact c_m114
              · rcases Nat.lt_or_ge k 116 with h | h
                · have e : k = 115 := by omega
                  subst e
                  exact c_m115
                · have e : k = 116 := by omega
                  subst e
                  exact c_m116
            · rcases Nat.lt_or_ge k 119 with h | h
              · rcases Nat.lt_or_ge k 118 with h | h
                · have e : k = 117 := by omega
                  subst e
                  exact c_m117
                · have e : k = 118 := by omega
                  subst e
                  exact c_m118
              · rcases Nat.lt_or_ge k 120 with h | h
                · have e : k = 119 := by omega
                  subst e
                  exact c_m119
                · rcases Nat.lt_or_ge k 121 with h | h
                  · have e : k = 120 := by omega
                    subst e
                    exact c_m120
                  · have e : k = 121 := by omega
                    subst e
                    exact c_m121
          · rcases Nat.lt_or_ge k 127 with h | h
            · rcases Nat.lt_or_ge k 124 with h | h
              · rcases Nat.lt_or_ge k 123 with h | h
                · have e : k = 122 := by omega
                  subst e
                  exact c_m122
                · have e : k = 123 := by omega
                  subst e
                  exact c_m123
              · rcases Nat.lt_or_ge k 125 with h | h
                · have e : k = 124 := by omega
                  subst e
                  exact c_m124
                · rcases Nat.lt_or_ge k 126 with h | h
                  · have e : k = 125 := by omega
                    subst e
                    exact c_m125
                  · have e : k = 126 := by omega
                    subst e
                    exact c_m126
            · rcases Nat.lt_or_ge k 129 with h | h
              · rcases Nat.lt_or_ge k 128 with h | h
                · have e : k = 127 := by omega
                  subst e
                  exact c_m127
                · have e : k = 128 := by omega
                  subst e
                  exact c_m128
              · rcases Nat.lt_or_ge k 130 with h | h
                · have e : k = 129 := by omega
                  subst e
                  exact c_m129
                · rcases Nat.lt_or_ge k 131 with h | h
                  · have e : k = 130 := by omega
                    subst e
                    exact c_m130
                  · have e : k = 131 := by omega
                    subst e
                    exact c_m131
        · rcases Nat.lt_or_ge k 141 with h | h
          · rcases Nat.lt_or_ge k 136 with h | h
            · rcases Nat.lt_or_ge k 134 with h | h
              · rcases Nat.lt_or_ge k 133 with h | h
                · have e : k = 132 := by omega
                  subst e
                  exact c_m132
                · have e : k = 133 := by omega
                  subst e
                  exact c_m133
              · rcases Nat.lt_or_ge k 135 with h | h
                · have e : k = 134 := by omega
                  subst e
                  exact c_m134
                · have e : k = 135 := by omega
                  subst e
                  exact c_m135
            · rcases Nat.lt_or_ge k 138 with h | h
              · rcases Nat.lt_or_ge k 137 with h | h
                · have e : k = 136 := by omega
                  subst e
                  exact c_m136
                · have e : k = 137 := by omega
                  subst e
                  exact c_m137
              · rcases Nat.lt_or_ge k 139 with h | h
                · have e : k = 138 := by omega
                  subst e
                  exact c_m138
                · rcases Nat.lt_or_ge k 140 with h | h
                  · have e : k = 139 := by omega
                    subst e
                    exact c_m139
                  · have e : k = 140 := by omega
                    subst e
                    exact c_m140
          · rcases Nat.lt_or_ge k 146 with h | h
            · rcases Nat.lt_or_ge k 143 with h | h
              · rcases Nat.lt_or_ge k 142 with h | h
                · have e : k = 141 := by omega
                  subst e
                  exact c_m141
                · have e : k = 142 := by omega
                  subst e
                  exact c_m142
              · rcases Nat.lt_or_ge k 144 with h | h
                · have e : k = 143 := by omega
                  subst e
                  exact c_m143
                · rcases Nat.lt_or_ge k 145 with h | h
                  · have e : k = 144 := by omega
                    subst e
                    exact c_m144
                  · have e : k = 145 := by omega
                    subst e
                    exact c_m145
            · rcases Nat.lt_or_ge k 148 with h | h
              · rcases Nat.lt_or_ge k 147 with h | h
                · have e : k = 146 := by omega
                  subst e
                  exact c_m146
                · have e : k = 147 := by omega
                  subst e
                  exact c_m147
              · rcases Nat.lt_or_ge k 149 with h | h
                · have e : k = 148 := by omega
                  subst e
                  exact c_m148
                · rcases Nat.lt_or_ge k 150 with h | h
                  · have e : k = 149 := by omega
                    subst e
                    exact c_m149
                  · have e : k = 150 := by omega
                    subst e
                    exact c_m150
  · rcases Nat.lt_or_ge k 227 with h | h
    · rcases Nat.lt_or_ge k 189 with h | h
      · rcases Nat.lt_or_ge k 170 with h | h
        · rcases Nat.lt_or_ge k 160 with h | h
          · rcases Nat.lt_or_ge k 155 with h | h
            · rcases Nat.lt_or_ge k 153 with h | h
              · rcases Nat.lt_or_ge k 152 with h | h
                · have e : k = 151 := by omega
                  subst e
                  exact c_m151
                · have e : k = 152 := by omega
                  subst e
                  exact c_m152
              · rcases Nat.lt_or_ge k 154 with h | h
                · have e : k = 153 := by omega
                  subst e
                  exact c_m153
                · have e : k = 154 := by omega
                  subst e
                  exact c_m154
            · rcases Nat.lt_or_ge k 157 with h | h
              · rcases Nat.lt_or_ge k 156 with h | h
                · have e : k = 155 := by omega
                  subst e
                  exact c_m155
                · have e : k = 156 := by omega
                  subst e
                  exact c_m156
              · rcases Nat.lt_or_ge k 158 with h | h
                · have e : k = 157 := by omega
                  subst e
                  exact c_m157
                · rcases Nat.lt_or_ge k 159 with h | h
                  · have e : k = 158 := by omega
                    subst e
                    exact c_m158
                  · have e : k = 159 := by omega
                    subst e
                    exact c_m159
          · rcases Nat.lt_or_ge k 165 with h | h
            · rcases Nat.lt_or_ge k 162 with h | h
              · rcases Nat.lt_or_ge k 161 with h | h
                · have e : k = 160 := by omega
                  subst e
                  exact c_m160
                · have e : k = 161 := by omega
                  subst e
                  exact c_m161
              · rcases Nat.lt_or_ge k 163 with h | h
                · have e : k = 162 := by omega
                  subst e
                  exact c_m162
                · rcases Nat.lt_or_ge k 164 with h | h
                  · have e : k = 163 := by omega
                    subst e
                    exact c_m163
                  · have e : k = 164 := by omega
                    subst e
                    exact c_m164
            · rcases Nat.lt_or_ge k 167 with h | h
              · rcases Nat.lt_or_ge k 166 with h | h
                · have e : k = 165 := by omega
                  subst e
                  exact c_m165
                · have e : k = 166 := by omega
                  subst e
                  exact c_m166
              · rcases Nat.lt_or_ge k 168 with h | h
                · have e : k = 167 := by omega
                  subst e
                  exact c_m167
                · rcases Nat.lt_or_ge k 169 with h | h
                  · have e : k = 168 := by omega
                    subst e
                    exact c_m168
                  · have e : k = 169 := by omega
                    subst e
                    exact c_m169
        · rcases Nat.lt_or_ge k 179 with h | h
          · rcases Nat.lt_or_ge k 174 with h | h
            · rcases Nat.lt_or_ge k 172 with h | h
              · rcases Nat.lt_or_ge k 171 with h | h
                · have e : k = 170 := by omega
                  subst e
                  exact c_m170
                · have e : k = 171 := by omega
                  subst e
                  exact c_m171
              · rcases Nat.lt_or_ge k 173 with h | h
                · have e : k = 172 := by omega
                  subst e
                  exact c_m172
                · have e : k = 173 := by omega
                  subst e
                  exact c_m173
            · rcases Nat.lt_or_ge k 176 with h | h
              · rcases Nat.lt_or_ge k 175 with h | h
                · have e : k = 174 := by omega
                  subst e
                  exact c_m174
                · have e : k = 175 := by omega
                  subst e
                  exact c_m175
              · rcases Nat.lt_or_ge k 177 with h | h
                · have e : k = 176 := by omega
                  subst e
                  exact c_m176
                · rcases Nat.lt_or_ge k 178 with h | h
                  · have e : k = 177 := by omega
                    subst e
                    exact c_m177
                  · have e : k = 178 := by omega
                    subst e
                    exact c_m178
          · rcases Nat.lt_or_ge k 184 with h | h
            · rcases Nat.lt_or_ge k 181 with h | h
              · rcases Nat.lt_or_ge k 180 with h | h
                · have e : k = 179 := by omega
                  subst e
                  exact c_m179
                · have e : k = 180 := by omega
                  subst e
                  exact c_m180
              · rcases Nat.lt_or_ge k 182 with h | h
                · have e : k = 181 := by omega
                  subst e
                  exact c_m181
                · rcases Nat.lt_or_ge k 183 with h | h
                  · have e : k = 182 := by omega
                    subst e
                    exact c_m182
                  · have e : k = 183 := by omega
                    subst e
                    exact c_m183
            · rcases Nat.lt_or_ge k 186 with h | h
              · rcases Nat.lt_or_ge k 185 with h | h
                · have e : k = 184 := by omega
                  subst e
                  exact c_m184
                · have e : k = 185 := by omega
                  subst e
                  exact c_m185
              · rcases Nat.lt_or_ge k 187 with h | h
                · have e : k = 186 := by omega
                  subst e
                  exact c_m186
                · rcases Nat.lt_or_ge k 188 with h | h
                  · have e : k = 187 := by omega
                    subst e
                    exact c_m187
                  · have e : k = 188 := by omega
                    subst e
                    exact c_m188
      · rcases Nat.lt_or_ge k 208 with h | h
        · rcases Nat.lt_or_ge k 198 with h | h
          · rcases Nat.lt_or_ge k 193 with h | h
            · rcases Nat.lt_or_ge k 191 with h | h
              · rcases Nat.lt_or_ge k 190 with h | h
                · have e : k = 189 := by omega
                  subst e
                  exact c_m189
                · have e : k = 190 := by omega
                  subst e
                  exact c_m190
              · rcases Nat.lt_or_ge k 192 with h | h
                · have e : k = 191 := by omega
                  subst e
                  exact c_m191
                · have e : k = 192 := by omega
                  subst e
                  exact c_m192
            · rcases Nat.lt_or_ge k 195 with h | h
              · rcases Nat.lt_or_ge k 194 with h | h
                · have e : k = 193 := by omega
                  subst e
                  exact c_m193
                · have e : k = 194 := by omega
                  subst e
                  exact c_m194
              · rcases Nat.lt_or_ge k 196 with h | h
                · have e : k = 195 := by omega
                  subst e
                  exact c_m195
                · rcases Nat.lt_or_ge k 197 with h | h
                  · have e : k = 196 := by omega
                    subst e
                    exact c_m196
                  · have e : k = 197 := by omega
                    subst e
                    exact c_m197
          · rcases Nat.lt_or_ge k 203 with h | h
            · rcases Nat.lt_or_ge k 200 with h | h
              · rcases Nat.lt_or_ge k 199 with h | h
                · have e : k = 198 := by omega
                  subst e
                  exact c_m198
                · have e : k = 199 := by omega
                  subst e
                  exact c_m199
              · rcases Nat.lt_or_ge k 201 with h | h
                · have e : k = 200 := by omega
                  subst e
                  exact c_m200
                · rcases Nat.lt_or_ge k 202 with h | h
                  · have e : k = 201 := by omega
                    subst e
                    exact c_m201
                  · have e : k = 202 := by omega
                    subst e
                    exact c_m202
            · rcases Nat.lt_or_ge k 205 with h | h
              · rcases Nat.lt_or_ge k 204 with h | h
                · have e : k = 203 := by omega
                  subst e
                  exact c_m203
                · have e : k = 204 := by omega
                  subst e
                  exact c_m204
              · rcases Nat.lt_or_ge k 206 with h | h
                · have e : k = 205 := by omega
                  subst e
                  exact c_m205
                · rcases Nat.lt_or_ge k 207 with h | h
                  · have e : k = 206 := by omega
                    subst e
                    exact c_m206
                  · have e : k = 207 := by omega
                    subst e
                    exact c_m207
        · rcases Nat.lt_or_ge k 217 with h | h
          · rcases Nat.lt_or_ge k 212 with h | h
            · rcases Nat.lt_or_ge k 210 with h | h
              · rcases Nat.lt_or_ge k 209 with h | h
                · have e : k = 208 := by omega
                  subst e
                  exact c_m208
                · have e : k = 209 := by omega
                  subst e
                  exact c_m209
              · rcases Nat.lt_or_ge k 211 with h | h
                · have e : k = 210 := by omega
                  subst e
                  exact c_m210
                · have e : k = 211 := by omega
                  subst e
                  exact c_m211
            · rcases Nat.lt_or_ge k 214 with h | h
              · rcases Nat.lt_or_ge k 213 with h | h
                · have e : k = 212 := by omega
                  subst e
                  exact c_m212
                · have e : k = 213 := by omega
                  subst e
                  exact c_m213
              · rcases Nat.lt_or_ge k 215 with h | h
                · have e : k = 214 := by omega
                  subst e
                  exact c_m214
                · rcases Nat.lt_or_ge k 216 with h | h
                  · have e : k = 215 := by omega
                    subst e
                    exact c_m215
                  · have e : k = 216 := by omega
                    subst e
                    exact c_m216
          · rcases Nat.lt_or_ge k 222 with h | h
            · rcases Nat.lt_or_ge k 219 with h | h
              · rcases Nat.lt_or_ge k 218 with h | h
                · have e : k = 217 := by omega
                  subst e
                  exact c_m217
                · have e : k = 218 := by omega
                  subst e
                  exact c_m218
              · rcases Nat.lt_or_ge k 220 with h | h
                · have e : k = 219 := by omega
                  subst e
                  exact c_m219
                · rcases Nat.lt_or_ge k 221 with h | h
                  · have e : k = 220 := by omega
                    subst e
                    exact c_m220
                  · have e : k = 221 := by omega
                    subst e
                    exact c_m221
            · rcases Nat.lt_or_ge k 224 with h | h
              · rcases Nat.lt_or_ge k 223 with h | h
                · have e : k = 222 := by omega
                  subst e
                  exact c_m222
                · have e : k = 223 := by omega
                  subst e
                  exact c_m223
              · rcases Nat.lt_or_ge k 225 with h | h
                · have e : k = 224 := by omega
                  subst e
                  exact c_m224
                · rcases Nat.lt_or_ge k 226 with h | h
                  · have e : k = 225 := by omega
                    subst e
                    exact c_m225
                  · have e : k = 226 := by omega
                    subst e
                    exact c_m226
    · rcases Nat.lt_or_ge k 265 with h | h
      · rcases Nat.lt_or_ge k 246 with h | h
        · rcases Nat.lt_or_ge k 236 with h | h
          · rcases Nat.lt_or_ge k 231 with h | h
            · rcases Nat.lt_or_ge k 229 with h | h
              · rcases Nat.lt_or_ge k 228 with h | h
                · have e : k = 227 := by omega
                  subst e
                  exact c_m227
                · have e : k = 228 := by omega
                  subst e
                  exact c_m228
              · rcases Nat.lt_or_ge k 230 with h | h
                · have e : k = 229 := by omega
                  subst e
                  exact c_m229
                · have e : k = 230 := by omega
                  subst e
                  exact c_m230
            · rcases Nat.lt_or_ge k 233 with h | h
              · rcases Nat.lt_or_ge k 232 with h | h
                · have e : k = 231 := by omega
                  subst e
                  exact c_m231
                · have e : k = 232 := by omega
                  subst e
                  exact c_m232
              · rcases Nat.lt_or_ge k 234 with h | h
                · have e : k = 233 := by omega
                  subst e
                  exact c_m233
                · rcases Nat.lt_or_ge k 235 with h | h
                  · have e : k = 234 := by omega
                    subst e
                    exact c_m234
                  · have e : k = 235 := by omega
                    subst e
                    exact c_m235
          · rcases Nat.lt_or_ge k 241 with h | h
            · rcases Nat.lt_or_ge k 238 with h | h
              · rcases Nat.lt_or_ge k 237 with h | h
                · have e : k = 236 := by omega
                  subst e
                  exact c_m236
                · have e : k = 237 := by omega
                  subst e
                  exact c_m237
              · rcases Nat.lt_or_ge k 239 with h | h
                · have e : k = 238 := by omega
                  subst e
                  exact c_m238
                · rcases Nat.lt_or_ge k 240 with h | h
                  · have e : k = 239 := by omega
                    subst e
                    exact c_m239
                  · have e : k = 240 := by omega
                    subst e
                    exact c_m240
            · rcases Nat.lt_or_ge k 243 with h | h
              · rcases Nat.lt_or_ge k 242 with h | h
                · have e : k = 241 := by omega
                  subst e
                  exact c_m241
                · have e : k = 242 := by omega
                  subst e
                  exact c_m242
              · rcases Nat.lt_or_ge k 244 with h | h
                · have e : k = 243 := by omega
                  subst e
                  exact c_m243
                · rcases Nat.lt_or_ge k 245 with h | h
                  · have e : k = 244 := by omega
                    subst e
                    exact c_m244
                  · have e : k = 245 := by omega
                    subst e
                    exact c_m245
        · rcases Nat.lt_or_ge k 255 with h | h
          · rcases Nat.lt_or_ge k 250 with h | h
            · rcases Nat.lt_or_ge k 248 with h | h
              · rcases Nat.lt_or_ge k 247 with h | h
                · have e : k = 246 := by omega
                  subst e
                  exact c_m246
                · have e : k = 247 := by omega
                  subst e
                  exact c_m247
              · rcases Nat.lt_or_ge k 249 with h | h
                · have e : k = 248 := by omega
                  subst e
                  exact c_m248
                · have e : k = 249 := by omega
                  subst e
                  exact c_m249
            · rcases Nat.lt_or_ge k 252 with h | h
              · rcases Nat.lt_or_ge k 251 with h | h
                · have e : k = 250 := by omega
                  subst e
                  exact c_m250
                · have e : k = 251 := by omega
                  subst e
                  exact c_m251
              · rcases Nat.lt_or_ge k 253 with h | h
                · have e : k = 252 := by omega
                  subst e
                  exact c_m252
                · rcases Nat.lt_or_ge k 254 with h | h
                  · have e : k = 253 := by omega
                    subst e
                    exact c_m253
                  · have e : k = 254 := by omega
                    subst e
                    exact c_m254
          · rcases Nat.lt_or_ge k 260 with h | h
            · rcases Nat.lt_or_ge k 257 with h | h
              · rcases Nat.lt_or_ge k 256 with h | h
                · have e : k = 255 := by omega
                  subst e
                  exact c_m255
                · have e : k = 256 := by omega
                  subst e
                  exact c_m256
              · rcases Nat.lt_or_ge k 258 with h | h
                · have e : k = 257 := by omega
                  subst e
                  exact c_m257
                · rcases Nat.lt_or_ge k 259 with h | h
                  · have e : k = 258 := by omega
                    subst e
                    exact c_m258
                  · have e : k = 259 := by omega
                    subst e
                    exact c_m259
            · rcases Nat.lt_or_ge k 262 with h | h
              · rcases Nat.lt_or_ge k 261 with h | h
                · have e : k = 260 := by omega
                  subst e
                  exact c_m260
                · have e : k = 261 := by omega
                  subst e
                  exact c_m261
              · rcases Nat.lt_or_ge k 263 with h | h
                · have e : k = 262 := by omega
                  subst e
                  exact c_m262
                · rcases Nat.lt_or_ge k 264 with h | h
                  · have e : k = 263 := by omega
                    subst e
                    exact c_m263
                  · have e : k = 264 := by omega
                    subst e
                    exact c_m264
      · rcases Nat.lt_or_ge k 284 with h | h
        · rcases Nat.lt_or_ge k 274 with h | h
          · rcases Nat.lt_or_ge k 269 with h | h
            · rcases Nat.lt_or_ge k 267 with h | h
              · rcases Nat.lt_or_ge k 266 with h | h
                · have e : k = 265 := by omega
                  subst e
                  exact c_m265
                · have e : k = 266 := by omega
                  subst e
                  exact c_m266
              · rcases Nat.lt_or_ge k 268 with h | h
                · have e : k = 267 := by omega
                  subst e
                  exact c_m267
                · have e : k = 268 := by omega
                  subst e
                  exact c_m268
            · rcases Nat.lt_or_ge k 271 with h | h
              · rcases Nat.lt_or_ge k 270 with h | h
                · have e : k = 269 := by omega
                  subst e
                  exact c_m269
                · have e : k = 270 := by omega
                  subst e
                  exact c_m270
              · rcases Nat.lt_or_ge k 272 with h | h
                · have e : k = 271 := by omega
                  subst e
                  exact c_m271
                · rcases Nat.lt_or_ge k 273 with h | h
                  · have e : k = 272 := by omega
                    subst e
                    exact c_m272
                  · have e : k = 273 := by omega
                    subst e
                    exact c_m273
          · rcases Nat.lt_or_ge k 279 with h | h
            · rcases Nat.lt_or_ge k 276 with h | h
              · rcases Nat.lt_or_ge k 275 with h | h
                · have e : k = 274 := by omega
                  subst e
                  exact c_m274
                · have e : k = 275 := by omega
                  subst e
                  exact c_m275
              · rcases Nat.lt_or_ge k 277 with h | h
                · have e : k = 276 := by omega
                  subst e
                  exact c_m276
                · rcases Nat.lt_or_ge k 278 with h | h
                  · have e : k = 277 := by omega
                    subst e
                    exact c_m277
                  · have e : k = 278 := by omega
                    subst e
                    exact c_m278
            · rcases Nat.lt_or_ge k 281 with h | h
              · rcases Nat.lt_or_ge k 280 with h | h
                · have e : k = 279 := by omega
                  subst e
                  exact c_m279
                · have e : k = 280 := by omega
                  subst e
                  exact c_m280
              · rcases Nat.lt_or_ge k 282 with h | h
                · have e : k = 281 := by omega
                  subst e
                  exact c_m281
                · rcases Nat.lt_or_ge k 283 with h | h
                  · have e : k = 282 := by omega
                    subst e
                    exact c_m282
                  · have e : k = 283 := by omega
                    subst e
                    exact c_m283
        · rcases Nat.lt_or_ge k 293 with h | h
          · rcases Nat.lt_or_ge k 288 with h | h
            · rcases Nat.lt_or_ge k 286 with h | h
              · rcases Nat.lt_or_ge k 285 with h | h
                · have e : k = 284 := by omega
                  subst e
                  exact c_m284
                · have e : k = 285 := by omega
                  subst e
                  exact c_m285
              · rcases Nat.lt_or_ge k 287 with h | h
                · have e : k = 286 := by omega
                  subst e
                  exact c_m286
                · have e : k = 287 := by omega
                  subst e
                  exact c_m287
            · rcases Nat.lt_or_ge k 290 with h | h
              · rcases Nat.lt_or_ge k 289 with h | h
                · have e : k = 288 := by omega
                  subst e
                  exact c_m288
                · have e : k = 289 := by omega
                  subst e
                  exact c_m289
              · rcases Nat.lt_or_ge k 291 with h | h
                · have e : k = 290 := by omega
                  subst e
                  exact c_m290
                · rcases Nat.lt_or_ge k 292 with h | h
                  · have e : k = 291 := by omega
                    subst e
                    exact c_m291
                  · have e : k = 292 := by omega
                    subst e
                    exact c_m292
          · rcases Nat.lt_or_ge k 298 with h | h
            · rcases Nat.lt_or_ge k 295 with h | h
              · rcases Nat.lt_or_ge k 294 with h | h
                · have e : k = 293 := by omega
                  subst e
                  exact c_m293
                · have e : k = 294 := by omega
                  subst e
                  exact c_m294
              · rcases Nat.lt_or_ge k 296 with h | h
                · have e : k = 295 := by omega
                  subst e
                  exact c_m295
                · rcases Nat.lt_or_ge k 297 with h | h
                  · have e : k = 296 := by omega
                    subst e
                    exact c_m296
                  · have e : k = 297 := by omega
                    subst e
                    exact c_m297
            · rcases Nat.lt_or_ge k 300 with h | h
              · rcases Nat.lt_or_ge k 299 with h | h
                · have e : k = 298 := by omega
                  subst e
                  exact c_m298
                · have e : k = 299 := by omega
                  subst e
                  exact c_m299
              · rcases Nat.lt_or_ge k 301 with h | h
                · have e : k = 300 := by omega
                  subst e
                  exact c_m300
                · rcases Nat.lt_or_ge k 302 with h | h
                  · have e : k = 301 := by omega
                    subst e
                    exact c_m301
                  · have e : k = 302 := by omega
                    subst e
                    exact c_m302
theorem n_pl (k : Nat) (hk : k < 302) : (!(c_plain k) || n_M k) = true := by
  by_cases h2 : k < 51
  · exact List.all_eq_true.mp c_p2 k (List.mem_range'.mpr ⟨k - 0, by omega, by omega⟩)
  by_cases h3 : k < 102
  · exact List.all_eq_true.mp c_p3 k (List.mem_range'.mpr ⟨k - 51, by omega, by omega⟩)
  by_cases h4 : k < 153
  · exact List.all_eq_true.mp c_p4 k (List.mem_range'.mpr ⟨k - 102, by omega, by omega⟩)
  by_cases h5 : k < 204
  · exact List.all_eq_true.mp c_p5 k (List.mem_range'.mpr ⟨k - 153, by omega, by omega⟩)
  by_cases h6 : k < 255
  · exact List.all_eq_true.mp c_p6 k (List.mem_range'.mpr ⟨k - 204, by omega, by omega⟩)
  by_cases h7 : k < 302
  · exact List.all_eq_true.mp c_p7 k (List.mem_range'.mpr ⟨k - 255, by omega, by omega⟩)
  omega
theorem c_rows (k : Nat) (hk : k < 303) (pc : Nat) (hp : pc < mN k) : c_row k pc = true := n_methS hk (n_all k hk) pc hp
theorem c_all (k : Nat) (hk : k < 302) : c_meth k = true := by
  unfold c_meth
  rw [Bool.and_eq_true, Bool.or_eq_true]
  refine ⟨?_, List.all_eq_true.mpr (fun pc hp => c_rows k (by omega) pc (List.mem_range.mp hp))⟩
  have h := n_pl k hk
  rw [Bool.or_eq_true] at h
  exact h.imp id (n_MS (by omega))
